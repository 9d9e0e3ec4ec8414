section
-- ===== PART A: goes FIRST, ahead of the names: the tables' words, and 'selects' of the private methods out of them =====
/-- a private method of a class that the tables say can be made, by its rows of tables_1 -/
def lw_okq (q : MethodName × Nat) : Prop := (q.1.cls ≠ "java/lang/invoke/MethodHandle" ∧ q.1.cls ≠ "java/lang/invoke/VarHandle") ∧ Cond.instantiable q.1.cls q.2 ∈ tables_1 ∧ Cond.privateMethod q.1 ∈ tables_1 ∧ Cond.instanceMethod q.1 ∈ tables_1
theorem lw_p0 : lw_okq (⟨"BerthPlan", "isShip", "(I)Z"⟩, 5) := ⟨⟨by decide +kernel, by decide +kernel⟩, List.mem_of_getElem? (i := 16) (by decide +kernel), List.mem_of_getElem? (i := 190) (by decide +kernel), List.mem_of_getElem? (i := 191) (by decide +kernel)⟩
theorem lw_p1 : lw_okq (⟨"BerthPlan", "meetsFixed", "(III)Z"⟩, 5) := ⟨⟨by decide +kernel, by decide +kernel⟩, List.mem_of_getElem? (i := 16) (by decide +kernel), List.mem_of_getElem? (i := 209) (by decide +kernel), List.mem_of_getElem? (i := 210) (by decide +kernel)⟩
theorem lw_p2 : lw_okq (⟨"BerthPlan$Search", "openAll", "(LBerthPlan$Quay;[LBerthPlan$Ship;I)V"⟩, 9) := ⟨⟨by decide +kernel, by decide +kernel⟩, List.mem_of_getElem? (i := 112) (by decide +kernel), List.mem_of_getElem? (i := 228) (by decide +kernel), List.mem_of_getElem? (i := 229) (by decide +kernel)⟩
theorem lw_p3 : lw_okq (⟨"BerthPlan$Search", "everyShip", "()I"⟩, 9) := ⟨⟨by decide +kernel, by decide +kernel⟩, List.mem_of_getElem? (i := 112) (by decide +kernel), List.mem_of_getElem? (i := 251) (by decide +kernel), List.mem_of_getElem? (i := 252) (by decide +kernel)⟩
theorem lw_p4 : lw_okq (⟨"BerthPlan$Search", "leastOf", "(I)I"⟩, 9) := ⟨⟨by decide +kernel, by decide +kernel⟩, List.mem_of_getElem? (i := 112) (by decide +kernel), List.mem_of_getElem? (i := 255) (by decide +kernel), List.mem_of_getElem? (i := 256) (by decide +kernel)⟩
theorem lw_p5 : lw_okq (⟨"BerthPlan$Search", "levelOf", "(I)I"⟩, 9) := ⟨⟨by decide +kernel, by decide +kernel⟩, List.mem_of_getElem? (i := 112) (by decide +kernel), List.mem_of_getElem? (i := 259) (by decide +kernel), List.mem_of_getElem? (i := 260) (by decide +kernel)⟩
theorem lw_p6 : lw_okq (⟨"BerthPlan$Search", "berthRest", "(III)V"⟩, 9) := ⟨⟨by decide +kernel, by decide +kernel⟩, List.mem_of_getElem? (i := 112) (by decide +kernel), List.mem_of_getElem? (i := 278) (by decide +kernel), List.mem_of_getElem? (i := 279) (by decide +kernel)⟩
theorem lw_p7 : lw_okq (⟨"BerthPlan$Search", "keepIfAhead", "(I)V"⟩, 9) := ⟨⟨by decide +kernel, by decide +kernel⟩, List.mem_of_getElem? (i := 112) (by decide +kernel), List.mem_of_getElem? (i := 282) (by decide +kernel), List.mem_of_getElem? (i := 283) (by decide +kernel)⟩
theorem lw_p8 : lw_okq (⟨"BerthPlan$Search", "isTriedAhead", "()Z"⟩, 9) := ⟨⟨by decide +kernel, by decide +kernel⟩, List.mem_of_getElem? (i := 112) (by decide +kernel), List.mem_of_getElem? (i := 286) (by decide +kernel), List.mem_of_getElem? (i := 287) (by decide +kernel)⟩
theorem lw_p9 : lw_okq (⟨"BerthPlan$Search", "tryBerth", "(IIIII)V"⟩, 9) := ⟨⟨by decide +kernel, by decide +kernel⟩, List.mem_of_getElem? (i := 112) (by decide +kernel), List.mem_of_getElem? (i := 290) (by decide +kernel), List.mem_of_getElem? (i := 291) (by decide +kernel)⟩
theorem lw_p10 : lw_okq (⟨"BerthPlan$Search", "lay", "(IIII)V"⟩, 9) := ⟨⟨by decide +kernel, by decide +kernel⟩, List.mem_of_getElem? (i := 112) (by decide +kernel), List.mem_of_getElem? (i := 294) (by decide +kernel), List.mem_of_getElem? (i := 295) (by decide +kernel)⟩
theorem lw_p11 : lw_okq (⟨"BerthPlan$Search", "narrow", "(III)V"⟩, 9) := ⟨⟨by decide +kernel, by decide +kernel⟩, List.mem_of_getElem? (i := 112) (by decide +kernel), List.mem_of_getElem? (i := 298) (by decide +kernel), List.mem_of_getElem? (i := 299) (by decide +kernel)⟩
theorem lw_p12 : lw_okq (⟨"BerthPlan", "moveShips", "()I"⟩, 5) := ⟨⟨by decide +kernel, by decide +kernel⟩, List.mem_of_getElem? (i := 16) (by decide +kernel), List.mem_of_getElem? (i := 304) (by decide +kernel), List.mem_of_getElem? (i := 305) (by decide +kernel)⟩
theorem lw_p13 : lw_okq (⟨"BerthPlan", "fixedShips", "()I"⟩, 5) := ⟨⟨by decide +kernel, by decide +kernel⟩, List.mem_of_getElem? (i := 16) (by decide +kernel), List.mem_of_getElem? (i := 325) (by decide +kernel), List.mem_of_getElem? (i := 326) (by decide +kernel)⟩
theorem lw_p14 : lw_okq (⟨"BerthPlan", "countOfPlace", "(I)I"⟩, 5) := ⟨⟨by decide +kernel, by decide +kernel⟩, List.mem_of_getElem? (i := 16) (by decide +kernel), List.mem_of_getElem? (i := 329) (by decide +kernel), List.mem_of_getElem? (i := 330) (by decide +kernel)⟩
theorem lw_p15 : lw_okq (⟨"java/lang/Throwable", "fillInStackTrace", "(I)Ljava/lang/Throwable;"⟩, 6) := ⟨⟨by decide +kernel, by decide +kernel⟩, List.mem_of_getElem? (i := 384) (by decide +kernel), List.mem_of_getElem? (i := 382) (by decide +kernel), List.mem_of_getElem? (i := 383) (by decide +kernel)⟩
def lw_privs_1 : List (MethodName × Nat) := [(⟨"BerthPlan", "isShip", "(I)Z"⟩, 5), (⟨"BerthPlan", "meetsFixed", "(III)Z"⟩, 5), (⟨"BerthPlan$Search", "openAll", "(LBerthPlan$Quay;[LBerthPlan$Ship;I)V"⟩, 9), (⟨"BerthPlan$Search", "everyShip", "()I"⟩, 9), (⟨"BerthPlan$Search", "leastOf", "(I)I"⟩, 9), (⟨"BerthPlan$Search", "levelOf", "(I)I"⟩, 9), (⟨"BerthPlan$Search", "berthRest", "(III)V"⟩, 9), (⟨"BerthPlan$Search", "keepIfAhead", "(I)V"⟩, 9), (⟨"BerthPlan$Search", "isTriedAhead", "()Z"⟩, 9), (⟨"BerthPlan$Search", "tryBerth", "(IIIII)V"⟩, 9), (⟨"BerthPlan$Search", "lay", "(IIII)V"⟩, 9), (⟨"BerthPlan$Search", "narrow", "(III)V"⟩, 9), (⟨"BerthPlan", "moveShips", "()I"⟩, 5), (⟨"BerthPlan", "fixedShips", "()I"⟩, 5), (⟨"BerthPlan", "countOfPlace", "(I)I"⟩, 5), (⟨"java/lang/Throwable", "fillInStackTrace", "(I)Ljava/lang/Throwable;"⟩, 6)]
theorem lw_r1 : ∀ q ∈ lw_privs_1, lw_okq q := List.forall_mem_cons.mpr ⟨lw_p0, List.forall_mem_cons.mpr ⟨lw_p1, List.forall_mem_cons.mpr ⟨lw_p2, List.forall_mem_cons.mpr ⟨lw_p3, List.forall_mem_cons.mpr ⟨lw_p4, List.forall_mem_cons.mpr ⟨lw_p5, List.forall_mem_cons.mpr ⟨lw_p6, List.forall_mem_cons.mpr ⟨lw_p7, List.forall_mem_cons.mpr ⟨lw_p8, List.forall_mem_cons.mpr ⟨lw_p9, List.forall_mem_cons.mpr ⟨lw_p10, List.forall_mem_cons.mpr ⟨lw_p11, List.forall_mem_cons.mpr ⟨lw_p12, List.forall_mem_cons.mpr ⟨lw_p13, List.forall_mem_cons.mpr ⟨lw_p14, List.forall_mem_cons.mpr ⟨lw_p15, fun _ h => absurd h List.not_mem_nil⟩⟩⟩⟩⟩⟩⟩⟩⟩⟩⟩⟩⟩⟩⟩⟩
theorem lw_p16 : lw_okq (⟨"BerthPlanModel", "isPlace", "(I)Z"⟩, 19) := ⟨⟨by decide +kernel, by decide +kernel⟩, List.mem_of_getElem? (i := 524) (by decide +kernel), List.mem_of_getElem? (i := 603) (by decide +kernel), List.mem_of_getElem? (i := 604) (by decide +kernel)⟩
theorem lw_p17 : lw_okq (⟨"BerthPlanModel", "isShip", "(I)Z"⟩, 19) := ⟨⟨by decide +kernel, by decide +kernel⟩, List.mem_of_getElem? (i := 524) (by decide +kernel), List.mem_of_getElem? (i := 618) (by decide +kernel), List.mem_of_getElem? (i := 619) (by decide +kernel)⟩
theorem lw_p18 : lw_okq (⟨"BerthPlanModel", "meet", "(IIII)Z"⟩, 19) := ⟨⟨by decide +kernel, by decide +kernel⟩, List.mem_of_getElem? (i := 524) (by decide +kernel), List.mem_of_getElem? (i := 630) (by decide +kernel), List.mem_of_getElem? (i := 631) (by decide +kernel)⟩
theorem lw_p19 : lw_okq (⟨"BerthPlanModel", "search", "()Z"⟩, 19) := ⟨⟨by decide +kernel, by decide +kernel⟩, List.mem_of_getElem? (i := 524) (by decide +kernel), List.mem_of_getElem? (i := 642) (by decide +kernel), List.mem_of_getElem? (i := 643) (by decide +kernel)⟩
theorem lw_p20 : lw_okq (⟨"BerthPlanModel", "leastOf", "(I)I"⟩, 19) := ⟨⟨by decide +kernel, by decide +kernel⟩, List.mem_of_getElem? (i := 524) (by decide +kernel), List.mem_of_getElem? (i := 646) (by decide +kernel), List.mem_of_getElem? (i := 647) (by decide +kernel)⟩
theorem lw_p21 : lw_okq (⟨"BerthPlanModel", "mayBe", "(II)Z"⟩, 19) := ⟨⟨by decide +kernel, by decide +kernel⟩, List.mem_of_getElem? (i := 524) (by decide +kernel), List.mem_of_getElem? (i := 651) (by decide +kernel), List.mem_of_getElem? (i := 652) (by decide +kernel)⟩
theorem lw_p22 : lw_okq (⟨"BerthPlanModel", "isTide", "(I)Z"⟩, 19) := ⟨⟨by decide +kernel, by decide +kernel⟩, List.mem_of_getElem? (i := 524) (by decide +kernel), List.mem_of_getElem? (i := 655) (by decide +kernel), List.mem_of_getElem? (i := 656) (by decide +kernel)⟩
theorem lw_p23 : lw_okq (⟨"BerthPlanModel", "isDeep", "(II)Z"⟩, 19) := ⟨⟨by decide +kernel, by decide +kernel⟩, List.mem_of_getElem? (i := 524) (by decide +kernel), List.mem_of_getElem? (i := 659) (by decide +kernel), List.mem_of_getElem? (i := 660) (by decide +kernel)⟩
theorem lw_p24 : lw_okq (⟨"BerthPlanModel", "hasGear", "(II)Z"⟩, 19) := ⟨⟨by decide +kernel, by decide +kernel⟩, List.mem_of_getElem? (i := 524) (by decide +kernel), List.mem_of_getElem? (i := 663) (by decide +kernel), List.mem_of_getElem? (i := 664) (by decide +kernel)⟩
theorem lw_p25 : lw_okq (⟨"BerthPlanModel", "cost", "(II)I"⟩, 19) := ⟨⟨by decide +kernel, by decide +kernel⟩, List.mem_of_getElem? (i := 524) (by decide +kernel), List.mem_of_getElem? (i := 667) (by decide +kernel), List.mem_of_getElem? (i := 668) (by decide +kernel)⟩
theorem lw_p26 : lw_okq (⟨"BerthPlanModel", "costUpTo", "(I)I"⟩, 19) := ⟨⟨by decide +kernel, by decide +kernel⟩, List.mem_of_getElem? (i := 524) (by decide +kernel), List.mem_of_getElem? (i := 671) (by decide +kernel), List.mem_of_getElem? (i := 672) (by decide +kernel)⟩
theorem lw_p27 : lw_okq (⟨"BerthPlanModel", "isClear", "(II)Z"⟩, 19) := ⟨⟨by decide +kernel, by decide +kernel⟩, List.mem_of_getElem? (i := 524) (by decide +kernel), List.mem_of_getElem? (i := 675) (by decide +kernel), List.mem_of_getElem? (i := 676) (by decide +kernel)⟩
def lw_privs_2 : List (MethodName × Nat) := [(⟨"BerthPlanModel", "isPlace", "(I)Z"⟩, 19), (⟨"BerthPlanModel", "isShip", "(I)Z"⟩, 19), (⟨"BerthPlanModel", "meet", "(IIII)Z"⟩, 19), (⟨"BerthPlanModel", "search", "()Z"⟩, 19), (⟨"BerthPlanModel", "leastOf", "(I)I"⟩, 19), (⟨"BerthPlanModel", "mayBe", "(II)Z"⟩, 19), (⟨"BerthPlanModel", "isTide", "(I)Z"⟩, 19), (⟨"BerthPlanModel", "isDeep", "(II)Z"⟩, 19), (⟨"BerthPlanModel", "hasGear", "(II)Z"⟩, 19), (⟨"BerthPlanModel", "cost", "(II)I"⟩, 19), (⟨"BerthPlanModel", "costUpTo", "(I)I"⟩, 19), (⟨"BerthPlanModel", "isClear", "(II)Z"⟩, 19)]
theorem lw_r2 : ∀ q ∈ lw_privs_2, lw_okq q := List.forall_mem_cons.mpr ⟨lw_p16, List.forall_mem_cons.mpr ⟨lw_p17, List.forall_mem_cons.mpr ⟨lw_p18, List.forall_mem_cons.mpr ⟨lw_p19, List.forall_mem_cons.mpr ⟨lw_p20, List.forall_mem_cons.mpr ⟨lw_p21, List.forall_mem_cons.mpr ⟨lw_p22, List.forall_mem_cons.mpr ⟨lw_p23, List.forall_mem_cons.mpr ⟨lw_p24, List.forall_mem_cons.mpr ⟨lw_p25, List.forall_mem_cons.mpr ⟨lw_p26, List.forall_mem_cons.mpr ⟨lw_p27, fun _ h => absurd h List.not_mem_nil⟩⟩⟩⟩⟩⟩⟩⟩⟩⟩⟩⟩
def lw_privs : List (MethodName × Nat) := lw_privs_1 ++ (lw_privs_2)
def lw_tbl : List Cond := k2_sels lw_privs ++ tables_1
theorem lw_privs_ok : ∀ q ∈ lw_privs, lw_okq q := by
  show ∀ q ∈ lw_privs_1 ++ (lw_privs_2), lw_okq q
  exact List.forall_mem_append.mpr ⟨lw_r1, lw_r2⟩
end
section
/-! ===== BEGIN words of one list among another's, by their places ===== -/
theorem goodIn_r {big : List Cond} (ws : List Cond) (ps : List Nat) (hp : ws = ps.filterMap (fun i => big[i]?)) (h : ws.all goodWord = true) : GoodIn big ws := by
  intro w hw
  have h1 := List.all_eq_true.mp h w hw
  rw [hp] at hw
  obtain ⟨i, -, hi⟩ := List.mem_filterMap.mp hw
  have hm : w ∈ big := by first | exact List.mem_of_getElem? hi | exact List.getElem?_mem hi
  exact ⟨hm, good_of_word h1⟩
theorem goodIn_app {big a b : List Cond} (ha : GoodIn big a) (hb : GoodIn big b) : GoodIn big (a ++ b) := fun w h => (List.mem_append.mp h).elim (ha w) (hb w)
theorem goodIn_ca {big a b : List Cond} {c : Cond} (ha : GoodIn big (c :: a)) (hb : GoodIn big b) : GoodIn big (c :: (a ++ b)) := fun w h => (List.mem_cons.mp h).elim (fun e => ha w (List.mem_cons.mpr (Or.inl e))) (fun h => (List.mem_append.mp h).elim (fun h => ha w (List.mem_cons.mpr (Or.inr h))) (hb w))
theorem goodIn_sub {big ws : List Cond} (hm : ∀ w ∈ ws, w ∈ big) (h : ws.all goodWord = true) : GoodIn big ws := fun w hw => ⟨hm w hw, good_of_word (List.all_eq_true.mp h w hw)⟩
/-! ===== END ===== -/

/-! ===== BEGIN exceptions that leave a method, and their catching by the caller (launches without stack traces) ===== -/
section VXA
/-! The laws vx_back, vx_callV, vx_callS, vx_callSW, vx_throw0, vx_throwS follow proofs of the library, with one case more: JvmDerived/Free/Laws.lean (Back.of_free), Shelf42/LK1.lean (callV, callS), Shelf/KitTraced.lean (throwNew0V, throwNewS). -/
/-- where a method has thrown q: the class by its name, the cell, what was written, the world -/
def vx_T (XC : String → State → State → Prop) (st : State) (q : Addr) (t : State) (mc ms : Nat) (free : Addr → Prop) : Prop :=
  ∃ (E : String) (ce : Cell) (L : List Loc), XC E st t ∧ t.heap[q]? = some ce ∧ ce.vm = .none ∧ st.vm.findClass E = some ce.cls ∧ st.WarmedH t.vm ∧ st.sameButNew ({ t with vm := st.vm } : State) L mc ms ∧ ∀ z ∈ L, free z.base
def vx_Q (Qc : Array Value → State → Outcome → State → Prop) (XC : String → State → State → Prop) (mc ms : Nat) (free : Addr → Prop) : Array Value → State → Outcome → State → Prop := fun a st o t =>
  (Qc a st o t ∧ ∃ L, FrameEnd st o t L mc ms ∧ ∀ q ∈ L, free q.base) ∨ ∃ q, o = .threw q ∧ vx_T XC st q t mc ms free
/-- a callee that returns or throws -/
def vx_Met (l : Launch) (y : MethodName) (ws : List Cond) (rm : Room) (Pc : Array Value → State → Prop) (Qc : Array Value → State → Outcome → State → Prop) (XC : String → State → State → Prop) (mc ms : Nat) (free : Addr → Prop) : Prop :=
  MetFree l y (headSpec ws rm) Pc (fun _ _ _ _ _ => True) (vx_Q Qc XC mc ms free)
def vx_Post (XC : String → State → State → Prop) (mc ms : Nat) (free : Addr → Prop) : Pt → Array Value → Addr → Pt → Prop := fun A a q B =>
  ∃ (g : JFrame) (mk : MethodId) (t : State) (L : List Loc) (E : String) (ce : Cell), B.U.heap = t.heap ∧ B.U.vm = t.vm ∧ XC E (A.U.calling g mk a) t ∧ t.heap[q]? = some ce ∧ ce.vm = .none ∧ A.U.vm.findClass E = some ce.cls ∧ B.locs = A.locs ++ L ∧ (∀ z ∈ L, free z.base) ∧ B.cells = A.cells + mc ∧ B.slots = A.slots + ms
def vx_Back (l : Launch) (R : Room) (p : Program) (e : Env) (below : List Frame) (s : State) (sargs : Array Value) (y : MethodName) (len W9 : Nat)
    (Pre : Pt → Array Value → Prop) (Post : Pt → Array Value → Option Value → Pt → Prop) (PostX : Pt → Array Value → Addr → Pt → Prop) : Prop :=
  ∀ (m : MethodId) (meth : Method) (c : Code) (A : Pt) (g : JFrame) (ig : Instr) (mk : MethodId) (a : Array Value),
    Stand p l e R s m sargs below meth c A.U A.locs A.cells A.slots → g.method = m → g.locals.size = c.maxLocals → decode c.code g.pc = .ok (ig, len) →
    2 * g.monitorRoom + (g.stack.map fun v => v.category).sum ≤ W9 → A.U.methodNamed? y = some mk → Pre A a →
    (∃ (v : Option Value) (B : Pt), Stand p l e R s m sargs below meth c B.U B.locs B.cells B.slots ∧ Post A a v B ∧
      Steps p.tables e below (doInvoke e (A.U.setTop g) [] mk a).1 (B.U.setTop { g with pc := g.pc + len, stack := v.toList ++ g.stack })) ∨
    (∃ (q : Addr) (B : Pt), Stand p l e R s m sargs below meth c B.U B.locs B.cells B.slots ∧ PostX A a q B ∧
      Steps p.tables e below (doInvoke e (A.U.setTop g) [] mk a).1 ((B.U.setTop g).pushFrame (.throwing q)))
section Payer
variable {l : Launch} {R : Room} {p : Program} {e : Env} {below : List Frame} {s : State} {sargs : Array Value} {y : MethodName} {len W9 : Nat}
theorem vx_back {ws : List Cond} {rm : Room} {Pc : Array Value → State → Prop} {Qc : Array Value → State → Outcome → State → Prop} {XC : String → State → State → Prop} {mc ms : Nat} {free : Addr → Prop} {bytes : ByteArray} {maxL : Nat} {ret : Option FieldType}
    (hM : vx_Met l y ws rm Pc Qc XC mc ms free) (hblind : FrameBlind Pc) (hrc : rm.cells = mc) (hrs : rm.slots = ms)
    (hframes : rm.frames + 1 ≤ R.frames) (hlocals : W9 + (maxL + 11) + rm.locals ≤ R.locals)
    (hws : ∀ w ∈ ws, ∀ a' U, s.WarmedH U.vm → w.before a' U = true) (hcode : Cond.code y bytes maxL ret ∈ ws) (hinit : ∀ a' U, s.WarmedH U.vm → (Cond.initialized y.cls).before a' U = true) :
    vx_Back l R p e below s sargs y len W9 (PreOf R mc ms Pc) (PostOf Qc mc ms free) (vx_Post XC mc ms free) := by
  intro m meth c A g ig mk a X hg hsize hdg hW hn hp
  have h1 : (headSpec ws rm).pre.before a A.U = true := atoms_intro fun w hw => hws w hw _ _ X.warmed
  have h2 : (Cond.code y bytes maxL ret).before a A.U = true := hws _ hcode _ _ X.warmed
  have h3 : (Cond.initialized y.cls).before a A.U = true := hinit _ _ X.warmed
  have h4 : A.cells + (headSpec ws rm).room.cells ≤ R.cells := by rw [show (headSpec ws rm).room.cells = mc from hrc]; exact hp.1
  have h5 : A.slots + (headSpec ws rm).room.slots ≤ R.slots := by rw [show (headSpec ws rm).room.slots = ms from hrs]; exact hp.2.1
  have hPc : Pc a (A.U.calling g mk a) := hblind _ _ _ _ hp.2.2
  obtain ⟨U, Ls, c0, s0⟩ := A
  dsimp only [Pt.U, Pt.locs, Pt.cells, Pt.slots] at h1 h2 h3 h4 h5 X hn hPc ⊢
  obtain ⟨methY, cY, hmY, hcY, -, hlY, -, -, -, -⟩ := Cond.code_spec hn h2
  obtain ⟨kY, hkY, -⟩ := className_of_methodNamed hn
  have hinitY : kY.init = .initialized := Cond.initialized_spec (findClass_of_methodNamed hn) hkY h3
  have h : At U g.method c below := by rw [hg]; exact X.here
  have hlocals9 : W9 + (maxL + 11) + (headSpec ws rm).room.locals ≤ R.locals := hlocals
  have happ : (headSpec ws rm).appliesLoose y e.platform (U.calling g mk a) = true :=
    Spec.appliesLoose_calling (g := g) h hdg hn hkY hinitY
      (X.room_calling (g := g) (R' := (headSpec ws rm).room) hsize hmY hcY hframes (by rw [hlY]; omega) h4 h5) h1
  obtain ⟨mid, hmid⟩ := h.above
  have hfr : (U.setTop g).frames = (.java g :: mid) ++ below := by rw [State.frames_setTop' g h.top, hmid]; rfl
  obtain ⟨o, s₂, hsteps, -, hend, hq⟩ := Steps.callFree hM p X.admits X.cas X.clock (acts := []) hfr happ hPc trivial
  have hq' : vx_Q Qc XC mc ms free a (U.calling g mk a) o s₂ := hq
  rw [State.frames_setTop' g h.top] at hend
  obtain ⟨g₀, hg0⟩ := Option.isSome_iff_exists.mp h.top
  obtain ⟨r, hr⟩ := State.topJava?_eq_some.mp hg0
  have hr' : (({ U with heap := s₂.heap, slotsUsed := s₂.slotsUsed } : State).setVm s₂.vm).frames = .java g₀ :: r := hr
  rcases hq' with ⟨hqc, L, hfe, hL⟩ | ⟨q, rfl, E, ce, L, hx, hce, hcv, hcl, hW₂, hsm, hL⟩
  · obtain ⟨⟨v, rfl⟩, hW₂, e2, q2, q3, q4, q5, q6⟩ := id hfe
    have e3 : s₂ = ({ (U.calling g mk a).setFrames s₂.frames with heap := s₂.heap, slotsUsed := s₂.slotsUsed } : State).setVm s₂.vm := by
      have : s₂ = ({ s₂ with vm := (U.calling g mk a).vm } : State).setVm s₂.vm := rfl
      rw [e2] at this
      exact this
    obtain ⟨c₂, i₂, len₂, hc₂, hd₂, hf₂⟩ := hend
    have hW' : U.WarmedH s₂.vm := hW₂
    have hcc : c₂ = c := by
      have h1 : s₂.code? g.method = U.code? g.method := by
        rw [State.code?_eq, State.code?_eq, hW'.alike.method?]
      exact Option.some.inj (hc₂.symm.trans (h1.trans h.code))
    subst hcc
    have hlen : len₂ = len := by rw [hdg] at hd₂; cases hd₂; rfl
    subst hlen
    have hs₂ : s₂ = (({ U with heap := s₂.heap, slotsUsed := s₂.slotsUsed } : State).setVm s₂.vm).setTop { g with pc := g.pc + len₂, stack := v.toList ++ g.stack } := by
      refine e3.trans ?_
      rw [hf₂, State.calling_eq h.top, State.setFrames_setFrames, State.setTop_of_frames _ hr', hr]
      rfl
    have hsame : U.sameButNew ({ U with heap := s₂.heap, slotsUsed := s₂.slotsUsed } : State) L mc ms := by
      refine ⟨?_, q2, q3, q4, q5, q6⟩
      obtain ⟨t, ht, -⟩ := State.frames_cons hr
      show ({ U with heap := s₂.heap, slotsUsed := s₂.slotsUsed } : State) = { U.setFrames U.frames with heap := s₂.heap, slotsUsed := s₂.slotsUsed }
      rw [State.setFrames_self ht]
    subst hg
    refine Or.inl ⟨v, ⟨(({ U with heap := s₂.heap, slotsUsed := s₂.slotsUsed } : State).setVm s₂.vm), Ls ++ L, c0 + mc, s0 + ms⟩,
      ⟨X.admits, X.cas, X.clock, X.frames, X.room, X.hears, X.method, X.code, (X.here.setHeapUsed s₂.heap s₂.slotsUsed).setVm hW'.alike, X.tail, State.WarmedH.trans X.warmed hW', X.limits, X.bytes, X.same.trans (hsame.setVm s.vm)⟩,
      ⟨g, mk, s₂, L, rfl, rfl, hqc, rfl, hL, rfl, rfl⟩, ?_⟩
    show Steps p.tables e below _ ((({ U with heap := s₂.heap, slotsUsed := s₂.slotsUsed } : State).setVm s₂.vm).setTop { g with pc := g.pc + len₂, stack := v.toList ++ g.stack })
    rw [← hs₂]
    exact hsteps
  · obtain ⟨e2, q2, q3, q4, q5, q6⟩ := id hsm
    have e3 : s₂ = ({ (U.calling g mk a).setFrames s₂.frames with heap := s₂.heap, slotsUsed := s₂.slotsUsed } : State).setVm s₂.vm := by
      have : s₂ = ({ s₂ with vm := (U.calling g mk a).vm } : State).setVm s₂.vm := rfl
      rw [e2] at this
      exact this
    have hf₂ : s₂.frames = .throwing q :: .java g :: U.frames.tail := hend
    have hW' : U.WarmedH s₂.vm := hW₂
    have hs₂ : s₂ = ((({ U with heap := s₂.heap, slotsUsed := s₂.slotsUsed } : State).setVm s₂.vm).setTop g).pushFrame (.throwing q) := by
      refine e3.trans ?_
      rw [hf₂, State.calling_eq h.top, State.setFrames_setFrames, State.pushFrame, State.frames_setTop _ hr', State.setTop_of_frames _ hr', State.setFrames_setFrames, hr]
      rfl
    have hsame : U.sameButNew ({ U with heap := s₂.heap, slotsUsed := s₂.slotsUsed } : State) L mc ms := by
      refine ⟨?_, q2, q3, q4, q5, q6⟩
      obtain ⟨t, ht, -⟩ := State.frames_cons hr
      show ({ U with heap := s₂.heap, slotsUsed := s₂.slotsUsed } : State) = { U.setFrames U.frames with heap := s₂.heap, slotsUsed := s₂.slotsUsed }
      rw [State.setFrames_self ht]
    subst hg
    refine Or.inr ⟨q, ⟨(({ U with heap := s₂.heap, slotsUsed := s₂.slotsUsed } : State).setVm s₂.vm), Ls ++ L, c0 + mc, s0 + ms⟩,
      ⟨X.admits, X.cas, X.clock, X.frames, X.room, X.hears, X.method, X.code, (X.here.setHeapUsed s₂.heap s₂.slotsUsed).setVm hW'.alike, X.tail, State.WarmedH.trans X.warmed hW', X.limits, X.bytes, X.same.trans (hsame.setVm s.vm)⟩,
      ⟨g, mk, s₂, L, E, ce, rfl, rfl, hx, hce, hcv, hcl, rfl, hL, rfl, rfl⟩, ?_⟩
    show Steps p.tables e below _ (((({ U with heap := s₂.heap, slotsUsed := s₂.slotsUsed } : State).setVm s₂.vm).setTop g).pushFrame (.throwing q))
    rw [← hs₂]
    exact hsteps
end Payer
section Calls
variable {p : Program} {l : Launch} {e : Env} {R : Room} {s : State} {m : MethodId} {args : Array Value} {below : List Frame} {meth : Method} {c : Code} {T : State} {locs : List Loc} {cells slots : Nat}
theorem vx_callV (X : Stand p l e R s m args below meth c T locs cells slots) (hexec : p.tables.exec = Jvm.exec) {own C : String} {index : Nat} {y : MethodName} {bytes : ByteArray} {maxL : Nat} {ret : Option FieldType}
    (hown : s.vm.findClass own = some m.cls) (hlink : (Cond.methodLink own index y).before args s = true) (hinst : (Cond.instanceMethod y).before args s = true) (hsel : (Cond.selects C y y).before args s = true)
    (hcode : (Cond.code y bytes maxL ret).before args s = true) (hy : y.cls ≠ "java/lang/invoke/MethodHandle" ∧ y.cls ≠ "java/lang/invoke/VarHandle")
    {W9 : Nat} {Pre : Pt → Array Value → Prop} {Post : Pt → Array Value → Option Value → Pt → Prop} {PostX : Pt → Array Value → Addr → Pt → Prop} (hK : vx_Back l R p e below s args y 3 W9 Pre Post PostX)
    {b : Addr} {cellB : Cell} (hcell : T.heap[b]? = some cellB) (hobj : cellB.vm.isStatics = false) (hcls : s.vm.findClass C = some cellB.cls)
    {g : JFrame} (hg : g.method = m) (hsize : g.locals.size = c.maxLocals) {argsL rest : List Value} (hlen : ∀ sig, parseMethodDescriptor y.desc = some sig → argsL.length = sig.parameters.length)
    (hstack : g.stack = argsL.reverse ++ .ref b :: rest) (hW : 2 * g.monitorRoom + (rest.map fun v => v.category).sum ≤ W9) (hdg : decode c.code g.pc = .ok (.invokevirtual index, 3))
    (hpre : ∀ vm₁, s.WarmedH vm₁ → Pre ⟨T.setVm vm₁, locs, cells, slots⟩ (Value.ref b :: argsL).toArray) :
    (∃ (v : Option Value) (vm₁ : Vm) (B : Pt), s.WarmedH vm₁ ∧ Stand p l e R s m args below meth c B.U B.locs B.cells B.slots ∧ Post ⟨T.setVm vm₁, locs, cells, slots⟩ (Value.ref b :: argsL).toArray v B ∧
      ∀ target, Steps p.tables e below (B.U.setTop { g with pc := g.pc + 3, stack := v.toList ++ rest }) target → Steps p.tables e below (T.setTop g) target) ∨
    (∃ (q : Addr) (vm₁ : Vm) (B : Pt), s.WarmedH vm₁ ∧ Stand p l e R s m args below meth c B.U B.locs B.cells B.slots ∧ PostX ⟨T.setVm vm₁, locs, cells, slots⟩ (Value.ref b :: argsL).toArray q B ∧
      Steps p.tables e below (T.setTop g) ((B.U.setTop { g with stack := rest }).pushFrame (.throwing q))) := by
  obtain ⟨mk, methM, hnamed, hmethM, hstM, habM⟩ := Cond.instanceMethod_spec hinst
  obtain ⟨methM', cM, hmethM', -, -, -, -, -, -, hsigM⟩ := Cond.code_spec hnamed hcode
  cases hmethM.symm.trans hmethM'
  obtain ⟨c2, r2, m2, q1, q2, q3, q4, kP, hkP, hkPi⟩ := Cond.selects_spec hsel
  cases hcls.symm.trans q1
  cases (State.methodFound?_of_named hnamed hy).symm.trans q2
  cases hnamed.symm.trans q3
  have hselP : selectMethod e.platform s.vm cellB.cls mk = .method mk := by rw [Launch.admits_selectMethod X.admits]; exact q4
  obtain ⟨vm₁, X₁, hstep₁⟩ := X.invokevirtual hexec hown hlink hnamed hmethM hstM hkP hkPi hy (a := b) (cell := cellB) hcell
    (fun z h => by rw [h] at hobj; cases hobj) hselP hmethM habM hkP hkPi (g := g) hg (argsL := argsL) (rest := rest) (hlen _ hsigM) hstack hdg
  rcases hK m meth c ⟨T.setVm vm₁, locs, cells, slots⟩ { g with stack := rest } (.invokevirtual index) mk (Value.ref b :: argsL).toArray X₁ hg hsize hdg hW (X₁.named hnamed) (hpre vm₁ X₁.warmed) with ⟨v, B, X', hpost, hsteps⟩ | ⟨q, B, X', hpost, hsteps⟩
  · exact Or.inl ⟨v, vm₁, B, X₁.warmed, X', hpost, fun target h => hstep₁ _ fun acts => by rw [doInvoke_state]; exact hsteps.trans h⟩
  · exact Or.inr ⟨q, vm₁, B, X₁.warmed, X', hpost, hstep₁ _ fun acts => by rw [doInvoke_state]; exact hsteps⟩
theorem vx_callS (X : Stand p l e R s m args below meth c T locs cells slots) (hexec : p.tables.exec = Jvm.exec) {own : String} {index : Nat} {y : MethodName} {bytes : ByteArray} {maxL : Nat} {ret : Option FieldType}
    (hown : s.vm.findClass own = some m.cls) (hlink : (Cond.methodLink own index y).before args s = true) (hstat : (Cond.static y).before args s = true) (hinit : (Cond.initialized y.cls).before args s = true)
    (hcode : (Cond.code y bytes maxL ret).before args s = true) (hy : y.cls ≠ "java/lang/invoke/MethodHandle" ∧ y.cls ≠ "java/lang/invoke/VarHandle")
    {W9 : Nat} {Pre : Pt → Array Value → Prop} {Post : Pt → Array Value → Option Value → Pt → Prop} {PostX : Pt → Array Value → Addr → Pt → Prop} (hK : vx_Back l R p e below s args y 3 W9 Pre Post PostX)
    {g : JFrame} (hg : g.method = m) (hsize : g.locals.size = c.maxLocals) {argsL rest : List Value} (hlen : ∀ sig, parseMethodDescriptor y.desc = some sig → argsL.length = sig.parameters.length)
    (hstack : g.stack = argsL.reverse ++ rest) (hW : 2 * g.monitorRoom + (rest.map fun v => v.category).sum ≤ W9) (hdg : decode c.code g.pc = .ok (.invokestatic index, 3))
    (hpre : ∀ vm₁, s.WarmedH vm₁ → Pre ⟨T.setVm vm₁, locs, cells, slots⟩ argsL.toArray) :
    (∃ (v : Option Value) (vm₁ : Vm) (B : Pt), s.WarmedH vm₁ ∧ Stand p l e R s m args below meth c B.U B.locs B.cells B.slots ∧ Post ⟨T.setVm vm₁, locs, cells, slots⟩ argsL.toArray v B ∧
      ∀ target, Steps p.tables e below (B.U.setTop { g with pc := g.pc + 3, stack := v.toList ++ rest }) target → Steps p.tables e below (T.setTop g) target) ∨
    (∃ (q : Addr) (vm₁ : Vm) (B : Pt), s.WarmedH vm₁ ∧ Stand p l e R s m args below meth c B.U B.locs B.cells B.slots ∧ PostX ⟨T.setVm vm₁, locs, cells, slots⟩ argsL.toArray q B ∧
      Steps p.tables e below (T.setTop g) ((B.U.setTop { g with stack := rest }).pushFrame (.throwing q))) := by
  obtain ⟨mk, hnamed⟩ := Cond.code_named hcode
  obtain ⟨methM, cM, hmethM, -, -, -, -, -, -, hsigM⟩ := Cond.code_spec hnamed hcode
  have hstatic : methM.isStatic = true := Cond.static_spec hnamed hmethM hstat
  obtain ⟨kP, hkP, -⟩ := className_of_methodNamed hnamed
  have hinitP : kP.init = .initialized := Cond.initialized_spec (findClass_of_methodNamed hnamed) hkP hinit
  obtain ⟨vm₁, X₁, hstep₁⟩ := X.invokestatic hexec hown hlink hnamed hmethM hstatic hkP hinitP hy (g := g) hg (argsL := argsL) (rest := rest) (hlen _ hsigM) hstack hdg
  rcases hK m meth c ⟨T.setVm vm₁, locs, cells, slots⟩ { g with stack := rest } (.invokestatic index) mk argsL.toArray X₁ hg hsize hdg hW (X₁.named hnamed) (hpre vm₁ X₁.warmed) with ⟨v, B, X', hpost, hsteps⟩ | ⟨q, B, X', hpost, hsteps⟩
  · exact Or.inl ⟨v, vm₁, B, X₁.warmed, X', hpost, fun target h => hstep₁ _ fun acts => by rw [doInvoke_state]; exact hsteps.trans h⟩
  · exact Or.inr ⟨q, vm₁, B, X₁.warmed, X', hpost, hstep₁ _ fun acts => by rw [doInvoke_state]; exact hsteps⟩
end Calls
theorem vx_cls {s : State} {T : State} {vm₁ : Vm} {E : String} {k : ClassId} (hW : s.WarmedH vm₁) (h : (T.setVm vm₁).vm.findClass E = some k) : s.vm.findClass E = some k := by
  have h1 : vm₁.findClass E = some k := h
  rw [hW.alike.findClass] at h1
  exact h1
/-- the method's frame g, with q thrown over it -/
def vx_W (p : Program) (l : Launch) (e : Env) (R : Room) (s : State) (m : MethodId) (args : Array Value) (below : List Frame) (meth : Method) (c : Code) (H : Heap) (locs : List Loc) (cells slots : Nat) (Q : State → Prop) (g : JFrame) (q : Addr) : Prop :=
  ∀ T : State, T.heap = H → Stand p l e R s m args below meth c T locs cells slots → ∃ t, Steps p.tables e below ((T.setTop g).pushFrame (.throwing q)) t ∧ Q t
def vx_Run (p : Program) (l : Launch) (e : Env) (R : Room) (s : State) (m : MethodId) (args : Array Value) (below : List Frame) (meth : Method) (c : Code) (H : Heap) (locs : List Loc) (cells slots mc ms : Nat) (g : JFrame) (rest : List Value) (Qa : State → Outcome → State → Prop) (XC : String → State → State → Prop) (free : Addr → Prop) : Prop :=
  ∀ T : State, T.heap = H → Stand p l e R s m args below meth c T locs cells slots →
    (∃ (v : Option Value) (st₀ t T' : State) (L : List Loc), st₀.heap = H ∧ Stand p l e R s m args below meth c T' (locs ++ L) (cells + mc) (slots + ms) ∧ (∀ q ∈ L, free q.base) ∧ T'.heap = t.heap ∧ T'.vm = t.vm ∧ Qa st₀ (.returned v) t ∧
      Goes p e below T g T' { g with pc := g.pc + 3, stack := v.toList ++ rest }) ∨
    (∃ (q : Addr) (st₀ t T' : State) (L : List Loc) (E : String) (ce : Cell), st₀.heap = H ∧ Stand p l e R s m args below meth c T' (locs ++ L) (cells + mc) (slots + ms) ∧ (∀ z ∈ L, free z.base) ∧ T'.heap = t.heap ∧ T'.vm = t.vm ∧ XC E st₀ t ∧ t.heap[q]? = some ce ∧ ce.vm = .none ∧ s.vm.findClass E = some ce.cls ∧
      Steps p.tables e below (T.setTop g) ((T'.setTop { g with stack := rest }).pushFrame (.throwing q)))
def vx_X {S : Type} (px : S → Prop) (B : String → S → State → Prop) (A : Nat → Prop) : String → State → State → Prop := fun E st t => ∃ u : S, px u ∧ B E u t ∧ va_F A st t
section Runs
variable {p : Program} {l : Launch} {e : Env} {R : Room} {s : State} {m : MethodId} {args : Array Value} {below : List Frame} {meth : Method} {c : Code} {H : Heap} {locs : List Loc} {cells slots : Nat}
variable {y : MethodName} {bytes cc : ByteArray} {maxL nL mc ms n index : Nat} {ret : Option FieldType} {ws : List Cond} {rm : Room} {Pc : Array Value → State → Prop} {Qc : Array Value → State → Outcome → State → Prop} {XC : String → State → State → Prop} {free : Addr → Prop} {Ts : List Cond} {own C : String} {b : Addr} {As rest : List Value} {g : JFrame}
theorem vx_callBack (cb : CallB R s args own index y bytes maxL ret ws rm mc ms n) (hM : vx_Met l y ws rm Pc Qc XC mc ms free) (hbl : FrameBlind Pc) : vx_Back l R p e below s args y 3 8 (PreOf R mc ms Pc) (PostOf Qc mc ms free) (vx_Post XC mc ms free) := by
  obtain ⟨hrc, hrs, hfr, hlo, hws, hcw, -, hini, -⟩ := cb
  exact vx_back (bytes := bytes) (maxL := maxL) (ret := ret) hM hbl hrc hrs hfr hlo hws hcw (fun a' U hW => word_at hW (Or.inl (by first | rfl | simp [Cond.onTables, Cond.keeps, Cond.steady])) hini)
theorem vx_runV (S : CallFix p m c cc nL s args Ts own) (hM : vx_Met l y ws rm Pc Qc XC mc ms free) (cw : CallW R s args own C index y bytes maxL ret ws rm mc ms n) (hp : PreV s H C b Pc As)
    (hg : g.method = m) (hn : As.length = n) (hsize : g.locals.size = nL) (hstack : g.stack = As.reverse ++ .ref b :: rest) (hW : 2 * g.monitorRoom + (rest.map fun v => v.category).sum ≤ 8) (hdg : decode cc g.pc = .ok (.invokevirtual index, 3)) (hf : cells + mc ≤ R.cells ∧ slots + ms ≤ R.slots) :
    vx_Run p l e R s m args below meth c H locs cells slots mc ms g rest (Qc (Value.ref b :: As).toArray) XC free := by
  have hK : vx_Back l R p e below s args y 3 8 (PreOf R mc ms Pc) (PostOf Qc mc ms free) (vx_Post XC mc ms free) := vx_callBack cw.1 hM hp.1
  obtain ⟨⟨-, -, -, -, -, -, hcode, -, hy, hlen, hl⟩, hin, hse⟩ := cw
  obtain ⟨hx, hb, hml, ho, -⟩ := S
  obtain ⟨-, ⟨cellB, hcB, hoB, hclB⟩, hPc⟩ := hp
  intro T hT X
  rcases vx_callV X hx (C := C) (bytes := bytes) (maxL := maxL) (ret := ret) ho hl hin hse hcode hy hK (by rw [hT]; exact hcB) hoB hclB hg (hsize.trans hml.symm) (argsL := As) (rest := rest) (fun sig h => hn.trans (hlen sig h)) hstack hW (by rw [hb]; exact hdg)
    (fun vm₁ hW₁ => ⟨hf.1, hf.2, hPc (T.setVm vm₁) hT hW₁⟩) with ⟨v, vm₁, ⟨U', l2, c2, s2⟩, hW₁, X', ⟨g', mk, t, L, e1, e2, hq, h1, hL, h2, h3⟩, st⟩ | ⟨q, vm₁, ⟨U', l2, c2, s2⟩, hW₁, X', ⟨g', mk, t, L, E, ce, e1, e2, hq, hce, hcv, hcl, h1, hL, h2, h3⟩, st⟩
  · dsimp only [Pt.U, Pt.locs, Pt.cells, Pt.slots] at X' e1 e2 h1 h2 h3 st
    subst h1; subst h2; subst h3
    exact Or.inl ⟨v, (T.setVm vm₁).calling g' mk (Value.ref b :: As).toArray, t, U', L, hT, X', hL, e1, e2, hq, st⟩
  · dsimp only [Pt.U, Pt.locs, Pt.cells, Pt.slots] at X' e1 e2 h1 h2 h3 st hcl
    subst h1; subst h2; subst h3
    exact Or.inr ⟨q, (T.setVm vm₁).calling g' mk (Value.ref b :: As).toArray, t, U', L, E, ce, hT, X', hL, e1, e2, hq, hce, hcv, vx_cls hW₁ hcl, st⟩
theorem vx_runS (S : CallFix p m c cc nL s args Ts own) (hM : vx_Met l y ws rm Pc Qc XC mc ms free) (cw : CallB R s args own index y bytes maxL ret ws rm mc ms n ∧ (Cond.static y).before args s = true) (hp : PreS s H Pc As)
    (hg : g.method = m) (hn : As.length = n) (hsize : g.locals.size = nL) (hstack : g.stack = As.reverse ++ rest) (hW : 2 * g.monitorRoom + (rest.map fun v => v.category).sum ≤ 8) (hdg : decode cc g.pc = .ok (.invokestatic index, 3)) (hf : cells + mc ≤ R.cells ∧ slots + ms ≤ R.slots) :
    vx_Run p l e R s m args below meth c H locs cells slots mc ms g rest (Qc As.toArray) XC free := by
  have hK : vx_Back l R p e below s args y 3 8 (PreOf R mc ms Pc) (PostOf Qc mc ms free) (vx_Post XC mc ms free) := vx_callBack cw.1 hM hp.1
  obtain ⟨⟨-, -, -, -, -, -, hcode, hini, hy, hlen, hl⟩, hstt⟩ := cw
  obtain ⟨hx, hb, hml, ho, -⟩ := S
  intro T hT X
  rcases vx_callS X hx (bytes := bytes) (maxL := maxL) (ret := ret) ho hl hstt hini hcode hy hK hg (hsize.trans hml.symm) (argsL := As) (rest := rest) (fun sig h => hn.trans (hlen sig h)) hstack hW (by rw [hb]; exact hdg)
    (fun vm₁ hW₁ => ⟨hf.1, hf.2, hp.2 (T.setVm vm₁) hT hW₁⟩) with ⟨v, vm₁, ⟨U', l2, c2, s2⟩, hW₁, X', ⟨g', mk, t, L, e1, e2, hq, h1, hL, h2, h3⟩, st⟩ | ⟨q, vm₁, ⟨U', l2, c2, s2⟩, hW₁, X', ⟨g', mk, t, L, E, ce, e1, e2, hq, hce, hcv, hcl, h1, hL, h2, h3⟩, st⟩
  · dsimp only [Pt.U, Pt.locs, Pt.cells, Pt.slots] at X' e1 e2 h1 h2 h3 st
    subst h1; subst h2; subst h3
    exact Or.inl ⟨v, (T.setVm vm₁).calling g' mk As.toArray, t, U', L, hT, X', hL, e1, e2, hq, st⟩
  · dsimp only [Pt.U, Pt.locs, Pt.cells, Pt.slots] at X' e1 e2 h1 h2 h3 st hcl
    subst h1; subst h2; subst h3
    exact Or.inr ⟨q, (T.setVm vm₁).calling g' mk As.toArray, t, U', L, E, ce, hT, X', hL, e1, e2, hq, hce, hcv, vx_cls hW₁ hcl, st⟩
end Runs
section Rows
variable {p : Program} {l : Launch} {e : Env} {R : Room} {s : State} {m : MethodId} {args : Array Value} {below : List Frame} {meth : Method} {c : Code} {H : Heap} {locs : List Loc} {cells slots : Nat} {Q : State → Prop}
variable {mc ms : Nat} {free : Addr → Prop} {A0 A1 : Nat → Prop} {H0 : Heap} {a : Array Value} {pc : Nat} {ls : Array Slot} {st0 rest : List Value}
theorem vx_keep {st₀ t T' : State} {L : List Loc} (h0 : st₀.heap = H) (e1 : T'.heap = t.heap) (hS : va_S A0 H0 H locs) (hA : ∀ q, q < H.size → A1 q → A0 q) (hf : ∀ q, free q → A0 q) (hL : ∀ q ∈ L, free q.base) (hF : va_F A1 st₀ t) :
    H.size ≤ T'.heap.size ∧ (∀ q : Nat, q < H.size → ¬ A1 q → T'.heap[q]? = H[q]?) ∧ va_S A0 H0 T'.heap (locs ++ L) := by
  obtain ⟨hz, hk⟩ := hF
  rw [h0] at hz hk
  exact ⟨by rw [e1]; exact hz, fun q h1 h2 => by rw [e1]; exact hk q h1 h2,
    ⟨Nat.le_trans hS.1 (by rw [e1]; exact hz), fun q h1 h2 => by rw [e1, hk q (Nat.lt_of_lt_of_le h1 hS.1) (fun z => h2 (hA q (Nat.lt_of_lt_of_le h1 hS.1) z))]; exact hS.2.1 q h1 h2, fun q hq => by
      rcases List.mem_append.mp hq with h | h
      · exact hS.2.2 q h
      · exact hf _ (hL q h)⟩⟩
theorem vx_calli {S SX : Type} {post : Int32 → S → Prop} {px : SX → Prop} {B : S → State → Prop} {BX : String → SX → State → Prop} {AX : Nat → Prop} (hr : vx_Run p l e R s m args below meth c H locs cells slots mc ms (F0 m pc ls st0) rest (va_Qi post B A1 a) (vx_X px BX AX) free) (hS : va_S A0 H0 H locs) (hA : ∀ q, q < H.size → A1 q → A0 q) (hf : ∀ q, free q → A0 q) (hAX : ∀ q, q < H.size → AX q → A0 q)
    (kx : ∀ (E : String) (ce : Cell) (q9 : Addr) (u : SX) (t : State) (H1 : Heap) (locs1 : List Loc), t.heap = H1 → s.vm.Alike t.vm → px u → BX E u t → H.size ≤ H1.size → (∀ q : Nat, q < H.size → ¬ AX q → H1[q]? = H[q]?) → va_S A0 H0 H1 locs1 → H1[q9]? = some ce → ce.vm = .none → s.vm.findClass E = some ce.cls → vx_W p l e R s m args below meth c H1 locs1 (cells + mc) (slots + ms) Q (F0 m pc ls rest) q9)
    (kk : ∀ (r : Int32) (u : S) (t : State) (H1 : Heap) (locs1 : List Loc), t.heap = H1 → s.vm.Alike t.vm → post r u → B u t → H.size ≤ H1.size → (∀ q : Nat, q < H.size → ¬ A1 q → H1[q]? = H[q]?) → va_S A0 H0 H1 locs1 → W p l e R s m args below meth c H1 locs1 (cells + mc) (slots + ms) Q (F0 m (pc + 3) ls (.int r :: rest))) : W p l e R s m args below meth c H locs cells slots Q (F0 m pc ls st0) := by
  intro T hT X
  rcases hr T hT X with ⟨v, st₀, t, T', L, h0, X', hL, e1, e2, ⟨⟨r, u, hv, hp, hb⟩, hF⟩, st⟩ | ⟨q, st₀, t, T', L, E, ce, h0, X', hL, e1, e2, ⟨u, hp, hb, hF⟩, hce, hcv, hcl, st⟩
  · cases hv
    obtain ⟨k1, k2, k3⟩ := vx_keep h0 e1 hS hA hf hL hF
    obtain ⟨t2, a1, b1⟩ := kk r u t T'.heap (locs ++ L) e1.symm (by rw [← e2]; exact X'.warmed.alike) hp hb k1 k2 k3 T' rfl X'
    exact ⟨t2, st t2 a1, b1⟩
  · obtain ⟨k1, k2, k3⟩ := vx_keep h0 e1 hS hAX hf hL hF
    obtain ⟨t2, a1, b1⟩ := kx E ce q u t T'.heap (locs ++ L) e1.symm (by rw [← e2]; exact X'.warmed.alike) hp hb k1 k2 k3 (by rw [e1]; exact hce) hcv hcl T' rfl X'
    exact ⟨t2, st.trans a1, b1⟩
theorem vx_calll {S SX : Type} {post : Int64 → S → Prop} {px : SX → Prop} {B : S → State → Prop} {BX : String → SX → State → Prop} {AX : Nat → Prop} (hr : vx_Run p l e R s m args below meth c H locs cells slots mc ms (F0 m pc ls st0) rest (va_Ql post B A1 a) (vx_X px BX AX) free) (hS : va_S A0 H0 H locs) (hA : ∀ q, q < H.size → A1 q → A0 q) (hf : ∀ q, free q → A0 q) (hAX : ∀ q, q < H.size → AX q → A0 q)
    (kx : ∀ (E : String) (ce : Cell) (q9 : Addr) (u : SX) (t : State) (H1 : Heap) (locs1 : List Loc), t.heap = H1 → s.vm.Alike t.vm → px u → BX E u t → H.size ≤ H1.size → (∀ q : Nat, q < H.size → ¬ AX q → H1[q]? = H[q]?) → va_S A0 H0 H1 locs1 → H1[q9]? = some ce → ce.vm = .none → s.vm.findClass E = some ce.cls → vx_W p l e R s m args below meth c H1 locs1 (cells + mc) (slots + ms) Q (F0 m pc ls rest) q9)
    (kk : ∀ (r : Int64) (u : S) (t : State) (H1 : Heap) (locs1 : List Loc), t.heap = H1 → s.vm.Alike t.vm → post r u → B u t → H.size ≤ H1.size → (∀ q : Nat, q < H.size → ¬ A1 q → H1[q]? = H[q]?) → va_S A0 H0 H1 locs1 → W p l e R s m args below meth c H1 locs1 (cells + mc) (slots + ms) Q (F0 m (pc + 3) ls (.long r :: rest))) : W p l e R s m args below meth c H locs cells slots Q (F0 m pc ls st0) := by
  intro T hT X
  rcases hr T hT X with ⟨v, st₀, t, T', L, h0, X', hL, e1, e2, ⟨⟨r, u, hv, hp, hb⟩, hF⟩, st⟩ | ⟨q, st₀, t, T', L, E, ce, h0, X', hL, e1, e2, ⟨u, hp, hb, hF⟩, hce, hcv, hcl, st⟩
  · cases hv
    obtain ⟨k1, k2, k3⟩ := vx_keep h0 e1 hS hA hf hL hF
    obtain ⟨t2, a1, b1⟩ := kk r u t T'.heap (locs ++ L) e1.symm (by rw [← e2]; exact X'.warmed.alike) hp hb k1 k2 k3 T' rfl X'
    exact ⟨t2, st t2 a1, b1⟩
  · obtain ⟨k1, k2, k3⟩ := vx_keep h0 e1 hS hAX hf hL hF
    obtain ⟨t2, a1, b1⟩ := kx E ce q u t T'.heap (locs ++ L) e1.symm (by rw [← e2]; exact X'.warmed.alike) hp hb k1 k2 k3 (by rw [e1]; exact hce) hcv hcl T' rfl X'
    exact ⟨t2, st.trans a1, b1⟩
theorem vx_callf {S SX : Type} {post : UInt32 → S → Prop} {px : SX → Prop} {B : S → State → Prop} {BX : String → SX → State → Prop} {AX : Nat → Prop} (hr : vx_Run p l e R s m args below meth c H locs cells slots mc ms (F0 m pc ls st0) rest (va_Qf post B A1 a) (vx_X px BX AX) free) (hS : va_S A0 H0 H locs) (hA : ∀ q, q < H.size → A1 q → A0 q) (hf : ∀ q, free q → A0 q) (hAX : ∀ q, q < H.size → AX q → A0 q)
    (kx : ∀ (E : String) (ce : Cell) (q9 : Addr) (u : SX) (t : State) (H1 : Heap) (locs1 : List Loc), t.heap = H1 → s.vm.Alike t.vm → px u → BX E u t → H.size ≤ H1.size → (∀ q : Nat, q < H.size → ¬ AX q → H1[q]? = H[q]?) → va_S A0 H0 H1 locs1 → H1[q9]? = some ce → ce.vm = .none → s.vm.findClass E = some ce.cls → vx_W p l e R s m args below meth c H1 locs1 (cells + mc) (slots + ms) Q (F0 m pc ls rest) q9)
    (kk : ∀ (r : UInt32) (u : S) (t : State) (H1 : Heap) (locs1 : List Loc), t.heap = H1 → s.vm.Alike t.vm → post r u → B u t → H.size ≤ H1.size → (∀ q : Nat, q < H.size → ¬ A1 q → H1[q]? = H[q]?) → va_S A0 H0 H1 locs1 → W p l e R s m args below meth c H1 locs1 (cells + mc) (slots + ms) Q (F0 m (pc + 3) ls (.float r :: rest))) : W p l e R s m args below meth c H locs cells slots Q (F0 m pc ls st0) := by
  intro T hT X
  rcases hr T hT X with ⟨v, st₀, t, T', L, h0, X', hL, e1, e2, ⟨⟨r, u, hv, hp, hb⟩, hF⟩, st⟩ | ⟨q, st₀, t, T', L, E, ce, h0, X', hL, e1, e2, ⟨u, hp, hb, hF⟩, hce, hcv, hcl, st⟩
  · cases hv
    obtain ⟨k1, k2, k3⟩ := vx_keep h0 e1 hS hA hf hL hF
    obtain ⟨t2, a1, b1⟩ := kk r u t T'.heap (locs ++ L) e1.symm (by rw [← e2]; exact X'.warmed.alike) hp hb k1 k2 k3 T' rfl X'
    exact ⟨t2, st t2 a1, b1⟩
  · obtain ⟨k1, k2, k3⟩ := vx_keep h0 e1 hS hAX hf hL hF
    obtain ⟨t2, a1, b1⟩ := kx E ce q u t T'.heap (locs ++ L) e1.symm (by rw [← e2]; exact X'.warmed.alike) hp hb k1 k2 k3 (by rw [e1]; exact hce) hcv hcl T' rfl X'
    exact ⟨t2, st.trans a1, b1⟩
theorem vx_calld {S SX : Type} {post : UInt64 → S → Prop} {px : SX → Prop} {B : S → State → Prop} {BX : String → SX → State → Prop} {AX : Nat → Prop} (hr : vx_Run p l e R s m args below meth c H locs cells slots mc ms (F0 m pc ls st0) rest (va_Qd post B A1 a) (vx_X px BX AX) free) (hS : va_S A0 H0 H locs) (hA : ∀ q, q < H.size → A1 q → A0 q) (hf : ∀ q, free q → A0 q) (hAX : ∀ q, q < H.size → AX q → A0 q)
    (kx : ∀ (E : String) (ce : Cell) (q9 : Addr) (u : SX) (t : State) (H1 : Heap) (locs1 : List Loc), t.heap = H1 → s.vm.Alike t.vm → px u → BX E u t → H.size ≤ H1.size → (∀ q : Nat, q < H.size → ¬ AX q → H1[q]? = H[q]?) → va_S A0 H0 H1 locs1 → H1[q9]? = some ce → ce.vm = .none → s.vm.findClass E = some ce.cls → vx_W p l e R s m args below meth c H1 locs1 (cells + mc) (slots + ms) Q (F0 m pc ls rest) q9)
    (kk : ∀ (r : UInt64) (u : S) (t : State) (H1 : Heap) (locs1 : List Loc), t.heap = H1 → s.vm.Alike t.vm → post r u → B u t → H.size ≤ H1.size → (∀ q : Nat, q < H.size → ¬ A1 q → H1[q]? = H[q]?) → va_S A0 H0 H1 locs1 → W p l e R s m args below meth c H1 locs1 (cells + mc) (slots + ms) Q (F0 m (pc + 3) ls (.double r :: rest))) : W p l e R s m args below meth c H locs cells slots Q (F0 m pc ls st0) := by
  intro T hT X
  rcases hr T hT X with ⟨v, st₀, t, T', L, h0, X', hL, e1, e2, ⟨⟨r, u, hv, hp, hb⟩, hF⟩, st⟩ | ⟨q, st₀, t, T', L, E, ce, h0, X', hL, e1, e2, ⟨u, hp, hb, hF⟩, hce, hcv, hcl, st⟩
  · cases hv
    obtain ⟨k1, k2, k3⟩ := vx_keep h0 e1 hS hA hf hL hF
    obtain ⟨t2, a1, b1⟩ := kk r u t T'.heap (locs ++ L) e1.symm (by rw [← e2]; exact X'.warmed.alike) hp hb k1 k2 k3 T' rfl X'
    exact ⟨t2, st t2 a1, b1⟩
  · obtain ⟨k1, k2, k3⟩ := vx_keep h0 e1 hS hAX hf hL hF
    obtain ⟨t2, a1, b1⟩ := kx E ce q u t T'.heap (locs ++ L) e1.symm (by rw [← e2]; exact X'.warmed.alike) hp hb k1 k2 k3 (by rw [e1]; exact hce) hcv hcl T' rfl X'
    exact ⟨t2, st.trans a1, b1⟩
theorem vx_callv {S SX : Type} {post : S → Prop} {px : SX → Prop} {B : S → State → Prop} {BX : String → SX → State → Prop} {AX : Nat → Prop} (hr : vx_Run p l e R s m args below meth c H locs cells slots mc ms (F0 m pc ls st0) rest (va_Qv post B A1 a) (vx_X px BX AX) free) (hS : va_S A0 H0 H locs) (hA : ∀ q, q < H.size → A1 q → A0 q) (hf : ∀ q, free q → A0 q) (hAX : ∀ q, q < H.size → AX q → A0 q)
    (kx : ∀ (E : String) (ce : Cell) (q9 : Addr) (u : SX) (t : State) (H1 : Heap) (locs1 : List Loc), t.heap = H1 → s.vm.Alike t.vm → px u → BX E u t → H.size ≤ H1.size → (∀ q : Nat, q < H.size → ¬ AX q → H1[q]? = H[q]?) → va_S A0 H0 H1 locs1 → H1[q9]? = some ce → ce.vm = .none → s.vm.findClass E = some ce.cls → vx_W p l e R s m args below meth c H1 locs1 (cells + mc) (slots + ms) Q (F0 m pc ls rest) q9)
    (kk : ∀ (u : S) (t : State) (H1 : Heap) (locs1 : List Loc), t.heap = H1 → s.vm.Alike t.vm → post u → B u t → H.size ≤ H1.size → (∀ q : Nat, q < H.size → ¬ A1 q → H1[q]? = H[q]?) → va_S A0 H0 H1 locs1 → W p l e R s m args below meth c H1 locs1 (cells + mc) (slots + ms) Q (F0 m (pc + 3) ls (rest))) : W p l e R s m args below meth c H locs cells slots Q (F0 m pc ls st0) := by
  intro T hT X
  rcases hr T hT X with ⟨v, st₀, t, T', L, h0, X', hL, e1, e2, ⟨⟨u, hv, hp, hb⟩, hF⟩, st⟩ | ⟨q, st₀, t, T', L, E, ce, h0, X', hL, e1, e2, ⟨u, hp, hb, hF⟩, hce, hcv, hcl, st⟩
  · cases hv
    obtain ⟨k1, k2, k3⟩ := vx_keep h0 e1 hS hA hf hL hF
    obtain ⟨t2, a1, b1⟩ := kk u t T'.heap (locs ++ L) e1.symm (by rw [← e2]; exact X'.warmed.alike) hp hb k1 k2 k3 T' rfl X'
    exact ⟨t2, st t2 a1, b1⟩
  · obtain ⟨k1, k2, k3⟩ := vx_keep h0 e1 hS hAX hf hL hF
    obtain ⟨t2, a1, b1⟩ := kx E ce q u t T'.heap (locs ++ L) e1.symm (by rw [← e2]; exact X'.warmed.alike) hp hb k1 k2 k3 (by rw [e1]; exact hce) hcv hcl T' rfl X'
    exact ⟨t2, st.trans a1, b1⟩
end Rows
section Ends
variable {p : Program} {l : Launch} {e : Env} {R : Room} {s : State} {m : MethodId} {args : Array Value} {below : List Frame} {meth : Method} {c : Code} {H : Heap} {locs : List Loc} {cells slots : Nat} {Q : State → Prop}
variable {mc ms : Nat} {free : Addr → Prop} {A0 A1 : Nat → Prop} {H0 : Heap} {a : Array Value} {ls : Array Slot} {st0 rest : List Value}
variable {Qc : Array Value → State → Outcome → State → Prop} {XC : String → State → State → Prop}
/-- what a body that may throw owes at its end -/
def vx_MQ (below : List Frame) (Qc : Array Value → State → Outcome → State → Prop) (XC : String → State → State → Prop) (a : Array Value) (s : State) (mc ms : Nat) (free : Addr → Prop) : State → Prop := fun t =>
  ∃ o, t.status = .running ∧ Ended t below o ∧ vx_Q Qc XC mc ms free a s o t
theorem vx_ret {g : JFrame} {mc ms : Nat} (k : W p l e R s m args below meth c H locs cells slots (MQ below Qc args s mc ms free) g) : W p l e R s m args below meth c H locs cells slots (vx_MQ below Qc XC args s mc ms free) g := by
  intro T hT X
  obtain ⟨t, a1, o, b1, b2, b3, b4⟩ := k T hT X
  exact ⟨t, a1, o, b1, b2, Or.inl ⟨b3, b4⟩⟩
/-- not caught here: it goes on to the caller -/
theorem vx_widen {g : JFrame} {q : Addr} {k n : Nat} (h1 : cells ≤ k) (h2 : slots ≤ n) (kk : vx_W p l e R s m args below meth c H locs k n Q g q) : vx_W p l e R s m args below meth c H locs cells slots Q g q := fun T hT X => kk T hT (stand_widen X h1 h2)
theorem vx_out {pc : Nat} {E : String} {ce : Cell} {q : Addr} {mc ms : Nat} (hout : ∀ x ∈ c.exceptionTable.toList, covers x pc = false) (hlocks : meth.locks = false) (hcell : H[q]? = some ce) (hv : ce.vm = .none) (hcl : s.vm.findClass E = some ce.cls)
    (hx : ∀ t : State, t.heap = H → s.vm.Alike t.vm → XC E s t) (hf : ∀ z ∈ locs, free z.base) (hc : cells ≤ mc) (hs : slots ≤ ms) :
    vx_W p l e R s m args below meth c H locs cells slots (vx_MQ below Qc XC args s mc ms free) (F0 m pc ls rest) q := by
  intro T hT X
  obtain ⟨st1, hrun, hend, hW, hsm⟩ := X.leaveThrown q (g := F0 m pc ls rest) rfl rfl rfl hout hlocks
  have hcell9 : (T.setFrames (.throwing q :: below)).heap[q]? = some ce := by
    show T.heap[q]? = some ce
    rw [hT]; exact hcell
  exact ⟨_, st1, .threw q, hrun, hend, Or.inr ⟨q, rfl, E, ce, locs, hx _ hT hW.alike, hcell9, hv, hcl, hW, hsm.mono hc hs, hf⟩⟩
theorem vx_frame {U : State} {k n : Nat} (h : s.sameButNew ({ U with vm := s.vm } : State) locs k n) : s.heap.size ≤ U.heap.size ∧ ∀ q : Nat, q < s.heap.size → (∀ z ∈ locs, z.base ≠ q) → U.heap[q]? = s.heap[q]? := by
  obtain ⟨-, h2, -, -, -, h6⟩ := h
  refine ⟨h2, fun q hq hz => ?_⟩
  obtain ⟨c9, e1, e2, e3, e4⟩ := h6 q _ (Array.getElem?_eq_getElem hq)
  have hs : c9.slots = (s.heap[q]).slots := Array.ext_getElem? fun i => e4 i fun hm => hz _ hm rfl
  have h9 : c9 = s.heap[q] := by
    rw [hs] at e2
    exact e2
  have e5 : U.heap[q]? = some c9 := e1
  rw [e5, h9, Array.getElem?_eq_getElem hq]
/-- the words of a throw but the four that speak of the heap -/
def vx_no (w : Cond) : Bool := decide (w ≠ .isRef (.static Bundle.tN "UNASSIGNED_STACK" Bundle.steD)) && decide (w ≠ .isRef (.static Bundle.tN "SUPPRESSED_SENTINEL" Bundle.listD)) && decide (w ≠ .laysStatic Bundle.tN "UNASSIGNED_STACK" Bundle.steD) && decide (w ≠ .laysStatic Bundle.tN "SUPPRESSED_SENTINEL" Bundle.listD)
def vx_at0 (own : String) (ic : Nat) (X : String) (names : List String) : List Cond := (Bundle.ownAtoms0 own ic X names).filter vx_no
def vx_atS (own : String) (ic : Nat) (X : String) (names : List String) : List Cond := (Bundle.ownAtoms own ic X names).filter vx_no
/-- a word that the tables alone decide, or a good one -/
def vx_ot (w : Cond) : Bool := w.onTables || goodWord w
theorem vx_ot_at {args a' : Array Value} {s U : State} {w : Cond} (hW : s.WarmedH U.vm) (hvm : s.vm = U.vm) (hg : vx_ot w = true) (h : w.before args s = true) : w.before a' U = true := by
  simp only [vx_ot, Bool.or_eq_true] at hg
  rcases hg with hg | hg
  · exact va_tabs hg hvm h
  · exact word_at hW (good_of_word hg) h
/-- a list's words: the good ones out of the method's own list, the others by premises of their own -/
theorem vx_hat {args : Array Value} {s : State} {L B : List Cond} (h1 : ∀ w ∈ L.filter goodWord, w.before args s = true) (h2 : ∀ w ∈ L.filter (fun w => !goodWord w), w ∈ B) (h3 : ∀ w ∈ B, w.before args s = true) : ∀ w ∈ L, w.before args s = true := by
  intro w hw
  by_cases g : goodWord w = true
  · exact h1 w (List.mem_filter.mpr ⟨hw, g⟩)
  · refine h3 w (h2 w (List.mem_filter.mpr ⟨hw, ?_⟩))
    show (!goodWord w) = true
    cases hgw : goodWord w
    · rfl
    · exact absurd hgw g
theorem vx_c {args : Array Value} {s : State} {w : Cond} {B : List Cond} (h : w.before args s = true) (t : ∀ w ∈ B, w.before args s = true) : ∀ w' ∈ w :: B, w'.before args s = true := fun w' h' => (List.mem_cons.mp h').elim (fun e => by rw [e]; exact h) (t w')
theorem vx_n {args : Array Value} {s : State} : ∀ w ∈ ([] : List Cond), w.before args s = true := fun _ h => nomatch h
theorem vx_own {args : Array Value} {s : State} {L : List Cond} (h1 : ∀ w ∈ L.filter vx_no, w.before args s = true)
    (hU : (Cond.isRef (.static Bundle.tN "UNASSIGNED_STACK" Bundle.steD)).before args s = true) (hN : (Cond.isRef (.static Bundle.tN "SUPPRESSED_SENTINEL" Bundle.listD)).before args s = true)
    (lU : (Cond.laysStatic Bundle.tN "UNASSIGNED_STACK" Bundle.steD).before args s = true) (lN : (Cond.laysStatic Bundle.tN "SUPPRESSED_SENTINEL" Bundle.listD).before args s = true) : ∀ w ∈ L, w.before args s = true := by
  intro w hw
  by_cases e1 : w = .isRef (.static Bundle.tN "UNASSIGNED_STACK" Bundle.steD)
  · rw [e1]; exact hU
  · by_cases e2 : w = .isRef (.static Bundle.tN "SUPPRESSED_SENTINEL" Bundle.listD)
    · rw [e2]; exact hN
    · by_cases e3 : w = .laysStatic Bundle.tN "UNASSIGNED_STACK" Bundle.steD
      · rw [e3]; exact lU
      · by_cases e4 : w = .laysStatic Bundle.tN "SUPPRESSED_SENTINEL" Bundle.listD
        · rw [e4]; exact lN
        · exact h1 w (List.mem_filter.mpr ⟨hw, by unfold vx_no; rw [decide_eq_true e1, decide_eq_true e2, decide_eq_true e3, decide_eq_true e4]; rfl⟩)
/-- where a static field lies, its class's statics cell in H -/
def vx_L (C n d : String) (A : Nat → Prop) (U : State) (H : Heap) : Prop := ∃ (c : ClassId) (k : Class) (i : Nat) (f : Field) (a : Nat) (cell : Cell), U.vm.findClass C = some c ∧ U.fieldFound? C n d = some (c, k, i, f) ∧ f.isStatic = true ∧ k.statics = some a ∧ H[a]? = some cell ∧ cell.vm.isStatics = true ∧ cell.cls = c ∧ f.slot < cell.slots.size ∧ k.staticTypes[f.slot]? = some f.type ∧ ¬ A a
theorem vx_L.moved {C n d : String} {A : Nat → Prop} {u U : State} {H : Heap} (hvm : u.vm.Alike U.vm) (h : vx_L C n d A u H) : vx_L C n d A U H := by
  obtain ⟨c, k, i, f, a, cell, h1, h2, h3, h4, h5, h6, h7, h8, h9, h10⟩ := h
  obtain ⟨k', hi', he⟩ := State.fieldFound?_setVm hvm h2
  exact ⟨c, k', i, f, a, cell, by rw [hvm.findClass]; exact h1, hi', h3, by rw [he]; exact h4, h5, h6, h7, h8, by rw [he]; exact h9, h10⟩
theorem vx_L.kept {C n d : String} {A : Nat → Prop} {U : State} {H H1 : Heap} (h : vx_L C n d A U H) (hq : ∀ a : Nat, a < H.size → ¬ A a → H1[a]? = H[a]?) : vx_L C n d A U H1 := by
  obtain ⟨c, k, i, f, a, cell, h1, h2, h3, h4, h5, h6, h7, h8, h9, h10⟩ := h
  exact ⟨c, k, i, f, a, cell, h1, h2, h3, h4, by rw [hq a (Array.getElem?_eq_some_iff.mp h5).1 h10]; exact h5, h6, h7, h8, h9, h10⟩
theorem vx_L.narrow {C n d : String} {A B : Nat → Prop} {U : State} {H : Heap} (h : vx_L C n d A U H) (hAB : ∀ q, B q → A q) : vx_L C n d B U H := by
  obtain ⟨c, k, i, f, a, cell, h1, h2, h3, h4, h5, h6, h7, h8, h9, h10⟩ := h
  exact ⟨c, k, i, f, a, cell, h1, h2, h3, h4, h5, h6, h7, h8, h9, fun z => h10 (hAB _ z)⟩
theorem vx_L.word {C n d : String} {A : Nat → Prop} {s : State} {args : Array Value} (h : vx_L C n d A s s.heap) : (Cond.laysStatic C n d).before args s = true := by
  obtain ⟨c, k, i, f, a, cell, h1, h2, h3, h4, h5, h6, h7, h8, h9, -⟩ := h
  show (Cond.laysStatic C n d).holds args s none s [] = true
  exact Cond.laysStatic_of h1 h2 h3 h4 h5 h6 h7 h8 h9
/-- .. and what it holds: null or some reference -/
def vx_Zq (C n d : String) (A : Nat → Prop) (U : State) (H : Heap) : Prop := va_Zq C n d A U H ∧ vx_L C n d A U H
theorem vx_Zq.moved {C n d : String} {A : Nat → Prop} {u U : State} {H : Heap} (hvm : u.vm.Alike U.vm) (h : vx_Zq C n d A u H) : vx_Zq C n d A U H := ⟨va_Zq.moved hvm h.1, vx_L.moved hvm h.2⟩
theorem vx_Zq.kept {C n d : String} {A : Nat → Prop} {U : State} {H H1 : Heap} (h : vx_Zq C n d A U H) (hq : ∀ a : Nat, a < H.size → ¬ A a → H1[a]? = H[a]?) : vx_Zq C n d A U H1 := ⟨va_Zq.kept h.1 hq, vx_L.kept h.2 hq⟩
theorem vx_Zq.narrow {C n d : String} {A B : Nat → Prop} {U : State} {H : Heap} (h : vx_Zq C n d A U H) (hAB : ∀ q, B q → A q) : vx_Zq C n d B U H := ⟨va_Zq.narrow h.1 hAB, vx_L.narrow h.2 hAB⟩
theorem vx_Zqof {args : Array Value} {s : State} {C n d : String} {A : Nat → Prop} (hl : (Cond.laysStatic C n d).before args s = true) (hini : (Cond.initialized C).before args s = true) (h : (Cond.isRef (.static C n d)).before args s = true) (hA : ∀ a : Nat, a < s.heap.size → ¬ A a) : vx_Zq C n d A s s.heap := by
  refine ⟨va_Zqof hl hini h hA, ?_⟩
  obtain ⟨c, k, i, f, a, cell, h1, h2, h3, h4, h5, h6, h7, h8, h9⟩ := Cond.laysStatic_spec hl
  exact ⟨c, k, i, f, a, cell, h1, h2, h3, h4, h5, h6, h7, h8, h9, hA a (Array.getElem?_eq_some_iff.mp h5).1⟩
theorem vx_isRef {C n d : String} {v : Value} {A : Nat → Prop} {s : State} {args : Array Value} (h : va_Z C n d v A s s.heap) (hv : v.isRef = true) : (Cond.isRef (.static C n d)).before args s = true := by
  obtain ⟨cf, kf, fi, f, a, cell, h1, h2, h3, h4, h5, h6, h7, -⟩ := h
  have he : (Term.static C n d).eval args s none [] s = some v := by
    simp [Term.eval, State.fieldNamed?, h1, h2, h4, h5, h6, h7]
  simp only [Cond.before, Cond.holds, Cond.value, he]
  cases v <;> simp_all [Value.isRef]
theorem vx_isRefq {C n d : String} {A : Nat → Prop} {s : State} {args : Array Value} (h : va_Zq C n d A s s.heap) : (Cond.isRef (.static C n d)).before args s = true := by
  rcases h with h | ⟨t, h⟩
  · exact vx_isRef h rfl
  · exact vx_isRef h rfl
/-- the same frame, seen from here: as if the method were called anew in this heap -/
theorem vx_rebase {T : State} (X : Stand p l e R s m args below meth c T locs cells slots) {R' : Room} (hf : R'.frames ≤ R.frames) (hl : R'.locals ≤ R.locals) (hc : cells + R'.cells ≤ R.cells) (hs : slots + R'.slots ≤ R.slots) :
    Stand p l e R' ((T.setVm s.vm).setFrames (.invoking m args :: below)) m args below meth c T [] 0 0 := by
  have htop : (T.setVm s.vm).topJava?.isSome := X.here.top
  have hF : ((T.setVm s.vm).setFrames (.invoking m args :: below)).frames = .invoking m args :: below := State.frames_setFrames _ (State.cur_lt_of_top htop)
  obtain ⟨g₀, hg0⟩ := Option.isSome_iff_exists.mp htop
  obtain ⟨r, hr⟩ := State.topJava?_eq_some.mp hg0
  have hl9 : e.platform.stackLimits (T.setVm s.vm).me = e.platform.stackLimits s.me := X.limits
  have hb9 : (T.setVm s.vm).me.stackBytes = s.me.stackBytes := X.bytes
  refine ⟨X.admits, X.cas, X.clock, hF, ?_, X.hears, X.method, X.code, X.here, X.tail, X.warmed, ?_, ?_, ?_⟩
  · have h := X.room
    have hU : ((T.setVm s.vm).setFrames (.invoking m args :: below)).localsInUse = s.localsInUse := by
      rw [State.localsInUse_invoking hF (meth := meth) (c := c) X.method X.code, State.localsInUse_invoking X.frames X.method X.code]
    simp only [State.hasRoom, Bool.and_eq_true, decide_eq_true_eq] at h ⊢
    obtain ⟨⟨⟨⟨h1, h2, h3, h4, h5, h6⟩, h7⟩, h8⟩, h9⟩ := h
    rw [X.frames, List.length_cons] at h2 h3
    have q1 := X.heapSize
    have q2 := X.used
    simp only [hF, hU, List.length_cons, State.stackLimits_setFrames, State.stackBytes_setFrames, hl9, hb9]
    refine ⟨⟨⟨⟨by omega, by omega, by omega, by omega, by omega, h6⟩, ?_⟩, ?_⟩, X.book⟩
    · show T.heap.size + R'.cells ≤ e.platform.maxCells
      omega
    · show T.slotsUsed + R'.slots ≤ e.platform.maxSlots
      omega
  · rw [State.stackLimits_setFrames]; rfl
  · rw [State.stackBytes_setFrames]; rfl
  · refine ⟨?_, Nat.le_refl _, Nat.le_refl _, ?_, ?_, fun a c9 h9 => ⟨c9, h9, rfl, rfl, fun _ _ => rfl⟩⟩
    · obtain ⟨t, ht, -⟩ := State.frames_cons hr
      show T.setVm s.vm = { ((T.setVm s.vm).setFrames (.invoking m args :: below)).setFrames (T.setVm s.vm).frames with heap := T.heap, slotsUsed := T.slotsUsed }
      rw [State.setFrames_setFrames, State.setFrames_self ht]
      rfl
    · show T.slotsUsed = T.slotsUsed + ((T.heap.toList.drop T.heap.size).map (·.slots.size)).sum
      rw [List.drop_eq_nil_of_le (Nat.le_of_eq Array.length_toList)]
      rfl
    · show ((T.heap.toList.drop T.heap.size).map (·.slots.size)).sum ≤ 0
      rw [List.drop_eq_nil_of_le (Nat.le_of_eq Array.length_toList)]
      exact Nat.le_refl _
/-- 'throw new E()': new; dup; invokespecial; athrow -/
theorem vx_throw0 {cc : ByteArray} {pc : Nat} (hexec : p.tables.exec = Jvm.exec) (hb : c.code = cc) (hl : l.stackTraces = false) {own cls : String} {names : List String} {ik ic mc ms : Nat} {A : Nat → Prop}
    (hown : s.vm.findClass own = some m.cls) (hcls : Bundle.fit cls = true) (hnames : ∀ n ∈ names, Bundle.fit n = true)
    (hk : (Cond.classLink own ik cls).before args s = true) (hini : (Cond.initialized cls).before args s = true) (hat : ∀ w ∈ vx_at0 own ic cls names, w.before args s = true)
    (hgood : ∀ w ∈ Cond.classLink own ik cls :: Cond.initialized cls :: vx_at0 own ic cls names, vx_ot w = true)
    (hU : vx_Zq Bundle.tN "UNASSIGNED_STACK" Bundle.steD A s s.heap) (hN : vx_Zq Bundle.tN "SUPPRESSED_SENTINEL" Bundle.listD A s s.heap) (hS : va_S A s.heap H locs) (hsize : ls.size = c.maxLocals)
    (d0 : decode cc pc = .ok (.new ik, 3)) (d3 : decode cc (pc + 3) = .ok (.dup, 1)) (d4 : decode cc (pc + 4) = .ok (.invokespecial ic, 3)) (d7 : decode cc (pc + 7) = .ok (.athrow, 1))
    (hout : ∀ x ∈ c.exceptionTable.toList, covers x (pc + 7) = false)
    (hRframes : names.length + 3 < R.frames) (hRlocals : (rest.map fun v => v.category).sum + (13 * (names.length + 1) + 42) ≤ R.locals) (hRcells : cells + 1 ≤ R.cells) (hRslots : slots + 6 ≤ R.slots) (hlocks : meth.locks = false)
    (hx : ∀ t : State, s.vm.Alike t.vm → H.size ≤ t.heap.size → (∀ q : Nat, q < H.size → t.heap[q]? = H[q]?) → XC cls s t)
    (hf : ∀ z ∈ locs, free z.base) (hc : cells + 1 ≤ mc) (hs : slots + 6 ≤ ms) :
    W p l e R s m args below meth c H locs cells slots (vx_MQ below Qc XC args s mc ms free) (F0 m pc ls rest) := by
  intro T hT X
  have htr : e.platform.stackTraces = false := (show e.platform.stackTraces = l.stackTraces by rw [X.admits.platform]).trans hl
  have Y := vx_rebase X (R' := { frames := R.frames, locals := R.locals, cells := 1, slots := 6 }) (Nat.le_refl _) (Nat.le_refl _) hRcells hRslots
  obtain ⟨s', hA⟩ : ∃ z, z = (T.setVm s.vm).setFrames (.invoking m args :: below) := ⟨_, rfl⟩
  rw [← hA] at Y
  have hvm : s'.vm = s.vm := by rw [hA]; rfl
  have hhp : s'.heap = H := by rw [hA]; exact hT
  have hW0 : s.WarmedH s'.vm := by rw [hvm]; exact State.WarmedH.refl s
  have hat' : ∀ w ∈ vx_at0 own ic cls names, w.before args s' = true := fun w hw => vx_ot_at hW0 hvm.symm (hgood w (List.mem_cons_of_mem _ (List.mem_cons_of_mem _ hw))) (hat w hw)
  have hk' : (Cond.classLink own ik cls).before args s' = true := vx_ot_at hW0 hvm.symm (hgood _ List.mem_cons_self) hk
  have hini' : (Cond.initialized cls).before args s' = true := vx_ot_at hW0 hvm.symm (hgood _ (List.mem_cons_of_mem _ List.mem_cons_self)) hini
  have hU' : vx_Zq Bundle.tN "UNASSIGNED_STACK" Bundle.steD A s' s'.heap := by rw [hhp]; exact vx_Zq.moved hW0.alike (hU.kept hS.2.1)
  have hN' : vx_Zq Bundle.tN "SUPPRESSED_SENTINEL" Bundle.listD A s' s'.heap := by rw [hhp]; exact vx_Zq.moved hW0.alike (hN.kept hS.2.1)
  have h : ∀ w ∈ Bundle.ownAtoms0 own ic cls names, w.before args s' = true := vx_own hat' (vx_isRefq hU'.1) (vx_isRefq hN'.1) hU'.2.word hN'.2.word
  have hown' : s'.vm.findClass own = some m.cls := by rw [hvm]; exact hown
  have hins : (Cond.instantiable cls 6).before args s' = true := h _ (by simp [Bundle.ownAtoms0])
  obtain ⟨vm₁, cX, kX, hfX, hkX, -, -, X₁, st1⟩ := Y.newCold hexec (own := own) (C := cls) (index := ik) (n := 6) hown' hk' hins hini'
    (g := F0 m pc ls rest) rfl (by rw [hb]; exact d0) (Nat.le_refl _) (Nat.le_refl _)
  generalize hT1 : (T.setVm vm₁).pushCell { cls := cX, slots := kX.instanceTypes.map defaultValue, vm := .none } = T1 at X₁ st1
  have hcat : (Value.ref T.heap.size).category = 1 := rfl
  have hcellA : T1.heap[T.heap.size]? = some (freshCell cX kX) := by rw [← hT1]; exact State.heap_pushCell_size _ _
  have d3' : decode c.code (pc + 3) = .ok (.dup, 1) := by rw [hb]; exact d3
  obtain ⟨U, hsteps, hrun, hend, hW, hsame, ce, hce, hO⟩ := X₁.ctorThrow0 hexec htr (own := own) (cls := cls) (names := names) (ic := ic) hown' hcls hnames h (fun x hx => nomatch hx) hfX hkX hcellA (by rw [hhp, hT]; exact Nat.le_refl _)
    (g := { method := m, pc := pc + 4, locals := ls, stack := .ref T.heap.size :: .ref T.heap.size :: rest, locked := none }) rfl hsize rfl rfl (rest := rest) rfl
    (by rw [hb]; exact d4) (by rw [hb]; exact d7) hout hRframes (by simp only [List.map_cons, List.sum_cons, hcat]; omega) hlocks
  obtain ⟨f1, f2⟩ := vx_frame hsame
  rw [hhp] at f1 f2
  have hWs : s.WarmedH U.vm := State.WarmedH.trans hW0 hW
  have hcl : s.vm.findClass cls = some ce.cls := by
    have h9 := hO.cls
    rw [hvm] at h9
    exact h9
  have hall : s.sameButNew ({ U with vm := s.vm } : State) locs mc ms := by
    subst hA
    obtain ⟨e1, e2⟩ := hsame
    rw [State.setFrames_setFrames] at e1
    have h2 : (T.setVm s.vm).sameButNew ({ U with vm := s.vm } : State) [] (0 + 1) (0 + 6) := ⟨e1, e2⟩
    have h3 := X.same.trans h2
    rw [List.append_nil] at h3
    exact h3.mono hc hs
  refine ⟨U, ?_, .threw T.heap.size, hrun, hend, Or.inr ⟨T.heap.size, rfl, cls, ce, locs, hx U hWs.alike f1 (fun q hq => f2 q hq (fun z hz => nomatch hz)), hce, hO.vm, hcl, hWs, hall, hf⟩⟩
  refine st1 _ ?_
  show Steps p.tables e below (T1.setTop { method := m, pc := pc + 3, locals := ls, stack := .ref T.heap.size :: rest, locked := none }) _
  jvm_step X₁.here [X₁.here.top, hexec, d3', Value.category]
  exact hsteps
/-- 'throw new E("text")': new; dup; ldc; invokespecial; athrow -/
theorem vx_throwS {cc : ByteArray} {pc : Nat} (hexec : p.tables.exec = Jvm.exec) (hb : c.code = cc) (hl : l.stackTraces = false) {own cls text : String} {names : List String} {ik is ic mc ms sa : Nat} {A : Nat → Prop}
    (hown : s.vm.findClass own = some m.cls) (hcls : Bundle.fit cls = true) (hnames : ∀ n ∈ names, Bundle.fit n = true)
    (hk : (Cond.classLink own ik cls).before args s = true) (hini : (Cond.initialized cls).before args s = true) (hstr : vk_R own is text sa s) (hat : ∀ w ∈ vx_atS own ic cls names, w.before args s = true)
    (hgood : ∀ w ∈ Cond.classLink own ik cls :: Cond.initialized cls :: vx_atS own ic cls names, vx_ot w = true)
    (hU : vx_Zq Bundle.tN "UNASSIGNED_STACK" Bundle.steD A s s.heap) (hN : vx_Zq Bundle.tN "SUPPRESSED_SENTINEL" Bundle.listD A s s.heap) (hS : va_S A s.heap H locs) (hsize : ls.size = c.maxLocals)
    (d0 : decode cc pc = .ok (.new ik, 3)) (d3 : decode cc (pc + 3) = .ok (.dup, 1)) (d4 : decode cc (pc + 4) = .ok (.ldc is, 2)) (d6 : decode cc (pc + 6) = .ok (.invokespecial ic, 3)) (d9 : decode cc (pc + 9) = .ok (.athrow, 1))
    (hout : ∀ x ∈ c.exceptionTable.toList, covers x (pc + 9) = false)
    (hRframes : names.length + 3 < R.frames) (hRlocals : (rest.map fun v => v.category).sum + (13 * (names.length + 1) + 43) ≤ R.locals) (hRcells : cells + 1 ≤ R.cells) (hRslots : slots + 6 ≤ R.slots) (hlocks : meth.locks = false)
    (hx : ∀ t : State, s.vm.Alike t.vm → H.size ≤ t.heap.size → (∀ q : Nat, q < H.size → t.heap[q]? = H[q]?) → XC cls s t)
    (hf : ∀ z ∈ locs, free z.base) (hc : cells + 1 ≤ mc) (hs : slots + 6 ≤ ms) :
    W p l e R s m args below meth c H locs cells slots (vx_MQ below Qc XC args s mc ms free) (F0 m pc ls rest) := by
  intro T hT X
  have htr : e.platform.stackTraces = false := (show e.platform.stackTraces = l.stackTraces by rw [X.admits.platform]).trans hl
  have Y := vx_rebase X (R' := { frames := R.frames, locals := R.locals, cells := 1, slots := 6 }) (Nat.le_refl _) (Nat.le_refl _) hRcells hRslots
  obtain ⟨s', hA⟩ : ∃ z, z = (T.setVm s.vm).setFrames (.invoking m args :: below) := ⟨_, rfl⟩
  rw [← hA] at Y
  have hvm : s'.vm = s.vm := by rw [hA]; rfl
  have hhp : s'.heap = H := by rw [hA]; exact hT
  have hW0 : s.WarmedH s'.vm := by rw [hvm]; exact State.WarmedH.refl s
  have hat' : ∀ w ∈ vx_atS own ic cls names, w.before args s' = true := fun w hw => vx_ot_at hW0 hvm.symm (hgood w (List.mem_cons_of_mem _ (List.mem_cons_of_mem _ hw))) (hat w hw)
  have hk' : (Cond.classLink own ik cls).before args s' = true := vx_ot_at hW0 hvm.symm (hgood _ List.mem_cons_self) hk
  have hini' : (Cond.initialized cls).before args s' = true := vx_ot_at hW0 hvm.symm (hgood _ (List.mem_cons_of_mem _ List.mem_cons_self)) hini
  have hU' : vx_Zq Bundle.tN "UNASSIGNED_STACK" Bundle.steD A s' s'.heap := by rw [hhp]; exact vx_Zq.moved hW0.alike (hU.kept hS.2.1)
  have hN' : vx_Zq Bundle.tN "SUPPRESSED_SENTINEL" Bundle.listD A s' s'.heap := by rw [hhp]; exact vx_Zq.moved hW0.alike (hN.kept hS.2.1)
  have h : ∀ w ∈ Bundle.ownAtoms own ic cls names, w.before args s' = true := vx_own hat' (vx_isRefq hU'.1) (vx_isRefq hN'.1) hU'.2.word hN'.2.word
  have hown' : s'.vm.findClass own = some m.cls := by rw [hvm]; exact hown
  have hins : (Cond.instantiable cls 6).before args s' = true := h _ (by simp [Bundle.ownAtoms])
  obtain ⟨vm₁, cX, kX, hfX, hkX, -, -, X₁, st1⟩ := Y.newCold hexec (own := own) (C := cls) (index := ik) (n := 6) hown' hk' hins hini'
    (g := F0 m pc ls rest) rfl (by rw [hb]; exact d0) (Nat.le_refl _) (Nat.le_refl _)
  generalize hT1 : (T.setVm vm₁).pushCell { cls := cX, slots := kX.instanceTypes.map defaultValue, vm := .none } = T1 at X₁ st1
  have hcat : (Value.ref T.heap.size).category = 1 := rfl
  have hcellA : T1.heap[T.heap.size]? = some (freshCell cX kX) := by rw [← hT1]; exact State.heap_pushCell_size _ _
  have d3' : decode c.code (pc + 3) = .ok (.dup, 1) := by rw [hb]; exact d3
  have d4' : decode c.code (pc + 4) = .ok (.ldc is, 2) := by rw [hb]; exact d4
  have hstr' : vk_R own is text sa s' := vk_R.warm hW0 hstr
  obtain ⟨U, hsteps, hrun, hend, hW, hsame, ce, hce, hO⟩ := X₁.ctorThrowS hexec htr (own := own) (cls := cls) (names := names) (ic := ic) hown' hcls hnames h (fun x hx => nomatch hx) hfX hkX hcellA (by rw [hhp, hT]; exact Nat.le_refl _) (msg := .ref sa) rfl
    (g := { method := m, pc := pc + 6, locals := ls, stack := .ref sa :: .ref T.heap.size :: .ref T.heap.size :: rest, locked := none }) rfl hsize rfl rfl (rest := rest) rfl
    (by rw [hb]; exact d6) (by rw [hb]; exact d9) hout hRframes (by simp only [List.map_cons, List.sum_cons, hcat]; omega) hlocks
  obtain ⟨f1, f2⟩ := vx_frame hsame
  rw [hhp] at f1 f2
  have hWs : s.WarmedH U.vm := State.WarmedH.trans hW0 hW
  have hcl : s.vm.findClass cls = some ce.cls := by
    have h9 := hO.cls
    rw [hvm] at h9
    exact h9
  have hall : s.sameButNew ({ U with vm := s.vm } : State) locs mc ms := by
    subst hA
    obtain ⟨e1, e2⟩ := hsame
    rw [State.setFrames_setFrames] at e1
    have h2 : (T.setVm s.vm).sameButNew ({ U with vm := s.vm } : State) [] (0 + 1) (0 + 6) := ⟨e1, e2⟩
    have h3 := X.same.trans h2
    rw [List.append_nil] at h3
    exact h3.mono hc hs
  refine ⟨U, ?_, .threw T.heap.size, hrun, hend, Or.inr ⟨T.heap.size, rfl, cls, ce, locs, hx U hWs.alike f1 (fun q hq => f2 q hq (fun z hz => nomatch hz)), hce, hO.vm, hcl, hWs, hall, hf⟩⟩
  refine st1 _ ?_
  show Steps p.tables e below (T1.setTop { method := m, pc := pc + 3, locals := ls, stack := .ref T.heap.size :: rest, locked := none }) _
  jvm_step X₁.here [X₁.here.top, hexec, d3', Value.category]
  exact X₁.ldcString hexec (own := own) (text := text) (index := is) (a := sa) hown' hstr'.1 hstr'.2
    (g := { method := m, pc := pc + 4, locals := ls, stack := .ref T.heap.size :: .ref T.heap.size :: rest, locked := none }) rfl d4' _ hsteps
/-- 'throw new E("text")', the text by a wide index -/
theorem vx_throwSW {cc : ByteArray} {pc : Nat} (hexec : p.tables.exec = Jvm.exec) (hb : c.code = cc) (hl : l.stackTraces = false) {own cls text : String} {names : List String} {ik is ic mc ms sa : Nat} {A : Nat → Prop}
    (hown : s.vm.findClass own = some m.cls) (hcls : Bundle.fit cls = true) (hnames : ∀ n ∈ names, Bundle.fit n = true)
    (hk : (Cond.classLink own ik cls).before args s = true) (hini : (Cond.initialized cls).before args s = true) (hstr : vk_R own is text sa s) (hat : ∀ w ∈ vx_atS own ic cls names, w.before args s = true)
    (hgood : ∀ w ∈ Cond.classLink own ik cls :: Cond.initialized cls :: vx_atS own ic cls names, vx_ot w = true)
    (hU : vx_Zq Bundle.tN "UNASSIGNED_STACK" Bundle.steD A s s.heap) (hN : vx_Zq Bundle.tN "SUPPRESSED_SENTINEL" Bundle.listD A s s.heap) (hS : va_S A s.heap H locs) (hsize : ls.size = c.maxLocals)
    (d0 : decode cc pc = .ok (.new ik, 3)) (d3 : decode cc (pc + 3) = .ok (.dup, 1)) (d4 : decode cc (pc + 4) = .ok (.ldc_w is, 3)) (d7 : decode cc (pc + 7) = .ok (.invokespecial ic, 3)) (d10 : decode cc (pc + 10) = .ok (.athrow, 1))
    (hout : ∀ x ∈ c.exceptionTable.toList, covers x (pc + 10) = false)
    (hRframes : names.length + 3 < R.frames) (hRlocals : (rest.map fun v => v.category).sum + (13 * (names.length + 1) + 43) ≤ R.locals) (hRcells : cells + 1 ≤ R.cells) (hRslots : slots + 6 ≤ R.slots) (hlocks : meth.locks = false)
    (hx : ∀ t : State, s.vm.Alike t.vm → H.size ≤ t.heap.size → (∀ q : Nat, q < H.size → t.heap[q]? = H[q]?) → XC cls s t)
    (hf : ∀ z ∈ locs, free z.base) (hc : cells + 1 ≤ mc) (hs : slots + 6 ≤ ms) :
    W p l e R s m args below meth c H locs cells slots (vx_MQ below Qc XC args s mc ms free) (F0 m pc ls rest) := by
  intro T hT X
  have htr : e.platform.stackTraces = false := (show e.platform.stackTraces = l.stackTraces by rw [X.admits.platform]).trans hl
  have Y := vx_rebase X (R' := { frames := R.frames, locals := R.locals, cells := 1, slots := 6 }) (Nat.le_refl _) (Nat.le_refl _) hRcells hRslots
  obtain ⟨s', hA⟩ : ∃ z, z = (T.setVm s.vm).setFrames (.invoking m args :: below) := ⟨_, rfl⟩
  rw [← hA] at Y
  have hvm : s'.vm = s.vm := by rw [hA]; rfl
  have hhp : s'.heap = H := by rw [hA]; exact hT
  have hW0 : s.WarmedH s'.vm := by rw [hvm]; exact State.WarmedH.refl s
  have hat' : ∀ w ∈ vx_atS own ic cls names, w.before args s' = true := fun w hw => vx_ot_at hW0 hvm.symm (hgood w (List.mem_cons_of_mem _ (List.mem_cons_of_mem _ hw))) (hat w hw)
  have hk' : (Cond.classLink own ik cls).before args s' = true := vx_ot_at hW0 hvm.symm (hgood _ List.mem_cons_self) hk
  have hini' : (Cond.initialized cls).before args s' = true := vx_ot_at hW0 hvm.symm (hgood _ (List.mem_cons_of_mem _ List.mem_cons_self)) hini
  have hU' : vx_Zq Bundle.tN "UNASSIGNED_STACK" Bundle.steD A s' s'.heap := by rw [hhp]; exact vx_Zq.moved hW0.alike (hU.kept hS.2.1)
  have hN' : vx_Zq Bundle.tN "SUPPRESSED_SENTINEL" Bundle.listD A s' s'.heap := by rw [hhp]; exact vx_Zq.moved hW0.alike (hN.kept hS.2.1)
  have h : ∀ w ∈ Bundle.ownAtoms own ic cls names, w.before args s' = true := vx_own hat' (vx_isRefq hU'.1) (vx_isRefq hN'.1) hU'.2.word hN'.2.word
  have hown' : s'.vm.findClass own = some m.cls := by rw [hvm]; exact hown
  have hins : (Cond.instantiable cls 6).before args s' = true := h _ (by simp [Bundle.ownAtoms])
  obtain ⟨vm₁, cX, kX, hfX, hkX, -, -, X₁, st1⟩ := Y.newCold hexec (own := own) (C := cls) (index := ik) (n := 6) hown' hk' hins hini'
    (g := F0 m pc ls rest) rfl (by rw [hb]; exact d0) (Nat.le_refl _) (Nat.le_refl _)
  generalize hT1 : (T.setVm vm₁).pushCell { cls := cX, slots := kX.instanceTypes.map defaultValue, vm := .none } = T1 at X₁ st1
  have hcat : (Value.ref T.heap.size).category = 1 := rfl
  have hcellA : T1.heap[T.heap.size]? = some (freshCell cX kX) := by rw [← hT1]; exact State.heap_pushCell_size _ _
  have d3' : decode c.code (pc + 3) = .ok (.dup, 1) := by rw [hb]; exact d3
  have d4' : decode c.code (pc + 4) = .ok (.ldc_w is, 3) := by rw [hb]; exact d4
  have hstr' : vk_R own is text sa s' := vk_R.warm hW0 hstr
  obtain ⟨U, hsteps, hrun, hend, hW, hsame, ce, hce, hO⟩ := X₁.ctorThrowS hexec htr (own := own) (cls := cls) (names := names) (ic := ic) hown' hcls hnames h (fun x hx => nomatch hx) hfX hkX hcellA (by rw [hhp, hT]; exact Nat.le_refl _) (msg := .ref sa) rfl
    (g := { method := m, pc := pc + 7, locals := ls, stack := .ref sa :: .ref T.heap.size :: .ref T.heap.size :: rest, locked := none }) rfl hsize rfl rfl (rest := rest) rfl
    (by rw [hb]; exact d7) (by rw [hb]; exact d10) hout hRframes (by simp only [List.map_cons, List.sum_cons, hcat]; omega) hlocks
  obtain ⟨f1, f2⟩ := vx_frame hsame
  rw [hhp] at f1 f2
  have hWs : s.WarmedH U.vm := State.WarmedH.trans hW0 hW
  have hcl : s.vm.findClass cls = some ce.cls := by
    have h9 := hO.cls
    rw [hvm] at h9
    exact h9
  have hall : s.sameButNew ({ U with vm := s.vm } : State) locs mc ms := by
    subst hA
    obtain ⟨e1, e2⟩ := hsame
    rw [State.setFrames_setFrames] at e1
    have h2 : (T.setVm s.vm).sameButNew ({ U with vm := s.vm } : State) [] (0 + 1) (0 + 6) := ⟨e1, e2⟩
    have h3 := X.same.trans h2
    rw [List.append_nil] at h3
    exact h3.mono hc hs
  refine ⟨U, ?_, .threw T.heap.size, hrun, hend, Or.inr ⟨T.heap.size, rfl, cls, ce, locs, hx U hWs.alike f1 (fun q hq => f2 q hq (fun z hz => nomatch hz)), hce, hO.vm, hcl, hWs, hall, hf⟩⟩
  refine st1 _ ?_
  show Steps p.tables e below (T1.setTop { method := m, pc := pc + 3, locals := ls, stack := .ref T.heap.size :: rest, locked := none }) _
  jvm_step X₁.here [X₁.here.top, hexec, d3', Value.category]
  exact X₁.ldcStringW hexec (own := own) (text := text) (index := is) (a := sa) hown' hstr'.1 hstr'.2
    (g := { method := m, pc := pc + 4, locals := ls, stack := .ref T.heap.size :: .ref T.heap.size :: rest, locked := none }) rfl d4' _ hsteps
end Ends
section Bodies
variable {l : Launch}
theorem vx_ofW {y : MethodName} {ws ws' : List Cond} {rm : Room} {Pc : Array Value → State → Prop} {Qc : Array Value → State → Outcome → State → Prop} {XC : String → State → State → Prop} {mc ms : Nat} {free : Addr → Prop} {cc : ByteArray} {maxL : Nat} {ret : Option FieldType}
    (hy : plainName y.cls = true) (hw : ws = Cond.code y cc maxL ret :: ws')
    (body : ∀ p e s m args below meth c s₁, BodyLoose p l y (headSpec ws rm) cc maxL ret e s m args below meth c s₁ → c.maxLocals = maxL → (∀ x ∈ c.exceptionTable.toList, False) → Pc args s →
      W p l e (headSpec ws rm).room s m args below meth c s.heap [] 0 0 (vx_MQ below Qc XC args s mc ms free) (entryFrame m args maxL)) : vx_Met l y ws rm Pc Qc XC mc ms free := by
  refine MetFree.of_bodyS (code := cc) (maxLocals := maxL) (ret := ret) hy ?_ ?_
  · intro args s m h hn
    obtain ⟨meth, c, h1, h2, h3, h4, h5, h6, -, -⟩ := Cond.code_spec hn (atoms_spec (ws := ws) h _ (by rw [hw]; exact List.mem_cons_self))
    exact ⟨meth, c, h1, h2, h3, h4, h5, h6⟩
  · intro p e s m args below meth c s₁ B hml hP _
    have hh0 : s₁.heap = s.heap := by rw [B.state]; rfl
    have ht : ∀ x ∈ c.exceptionTable.toList, False := by
      obtain ⟨meth9, c9, h1, h2, -, -, -, -, h7, -⟩ := Cond.code_spec B.named (atoms_spec (ws := ws) B.pre _ (by rw [hw]; exact List.mem_cons_self))
      cases Option.some.inj (h1.symm.trans B.method)
      cases Option.some.inj (h2.symm.trans (Stand.of_body B).code)
      intro x hx
      rw [Array.isEmpty_iff.mp h7] at hx
      cases hx
    obtain ⟨t, a1, o, b1, b2, b3⟩ := body p e s m args below meth c s₁ B hml ht hP s₁ hh0 (Stand.of_body B)
    exact ⟨t, o, a1, b1, b2, b3⟩
/-- the table of a body with handlers -/
theorem vx_table {p : Program} {x y : MethodName} {S : Spec} {cc bytes : ByteArray} {maxL maxL' : Nat} {ret ret' : Option FieldType} {e : Env} {s s₁ : State} {m : MethodId} {args : Array Value} {below : List Frame} {meth : Method} {c : Code} {hh : List (Nat × Nat × Nat × Nat)}
    (B : BodyLoose p l y S cc maxL ret e s m args below meth c s₁) (h : (Cond.codeWith y bytes maxL' ret' hh).before args s = true) : c.exceptionTable.toList = tableOf hh := by
  obtain ⟨m9, meth9, c9, hn9, h1, h2, -, -, h6, -⟩ := Cond.codeWith_spec h
  cases Option.some.inj (hn9.symm.trans B.named)
  cases Option.some.inj (h1.symm.trans B.method)
  cases Option.some.inj (h2.symm.trans (Stand.of_body B).code)
  rw [← h6, table_eq]
end Bodies
end VXA
/-! ===== END ===== -/
/-! ===== BEGIN a static call of a method with an exception table ===== -/
section VXS
variable {p : Program} {l : Launch} {e : Env} {R : Room} {s : State} {m : MethodId} {args : Array Value} {below : List Frame} {meth : Method} {c : Code} {T : State} {H : Heap} {locs : List Loc} {cells slots : Nat}
abbrev vx_CSW (R : Room) (s : State) (args : Array Value) (own : String) (index : Nat) (y : MethodName) (bytes : ByteArray) (maxL : Nat) (ret : Option FieldType) (hh : List (Nat × Nat × Nat × Nat)) (ws : List Cond) (rm : Room) (mc ms n : Nat) : Prop :=
  (rm.cells = mc ∧ rm.slots = ms ∧ rm.frames + 1 ≤ R.frames ∧ 8 + (maxL + 11) + rm.locals ≤ R.locals ∧ (∀ w ∈ ws, ∀ (a' : Array Value) (U : State), s.WarmedH U.vm → w.before a' U = true) ∧ Cond.codeWith y bytes maxL ret hh ∈ ws) ∧
  (Cond.codeWith y bytes maxL ret hh).before args s = true ∧ (Cond.initialized y.cls).before args s = true ∧ (y.cls ≠ "java/lang/invoke/MethodHandle" ∧ y.cls ≠ "java/lang/invoke/VarHandle") ∧
  (∀ sig, parseMethodDescriptor y.desc = some sig → n = sig.parameters.length) ∧ (Cond.methodLink own index y).before args s = true ∧ (Cond.static y).before args s = true
theorem vx_cwSW {own : String} {index maxL mc ms : Nat} {y : MethodName} {bytes : ByteArray} {ret : Option FieldType} {hh : List (Nat × Nat × Nat × Nat)} {Ts ws ws' : List Cond} {rm : Room} (n : Nat) (ht : ∀ w ∈ Ts, w.before args s = true) (hT : GoodIn Ts (va_wsS own index y ws)) (hw : ws = Cond.codeWith y bytes maxL ret hh :: ws') (hrc : rm.cells = mc) (hrs : rm.slots = ms)
    (hd : y.cls ≠ "java/lang/invoke/MethodHandle" ∧ y.cls ≠ "java/lang/invoke/VarHandle" ∧ (parseMethodDescriptor y.desc).map (fun d => d.parameters.length) = some n) (hR : rm.frames + 1 ≤ R.frames ∧ 8 + (maxL + 11) + rm.locals ≤ R.locals) :
    vx_CSW R s args own index y bytes maxL ret hh ws rm mc ms n := by
  have ok : ∀ w ∈ va_wsS own index y ws, w.before args s = true := fun w h => ht w (hT w h).1
  have hG : GoodIn Ts ws := fun w h => hT w (by unfold va_wsS; exact List.mem_append_right _ h)
  have hc : Cond.codeWith y bytes maxL ret hh ∈ ws := by rw [hw]; exact List.mem_cons_self
  refine ⟨⟨hrc, hrs, hR.1, hR.2, pay_in ht hG, hc⟩, ht _ (hG _ hc).1, ok _ (by simp [va_wsS]), ⟨hd.1, hd.2.1⟩, fun sig h => ?_, ok _ (by simp [va_wsS]), ok _ (by simp [va_wsS])⟩
  have h2 := hd.2.2
  rw [h] at h2
  exact (Option.some.inj h2).symm
theorem vx_callSW (X : Stand p l e R s m args below meth c T locs cells slots) (hexec : p.tables.exec = Jvm.exec) {own : String} {index : Nat} {y : MethodName} {bytes : ByteArray} {maxL : Nat} {ret : Option FieldType} {hh : List (Nat × Nat × Nat × Nat)}
    (hown : s.vm.findClass own = some m.cls) (hlink : (Cond.methodLink own index y).before args s = true) (hstat : (Cond.static y).before args s = true) (hinit : (Cond.initialized y.cls).before args s = true)
    (hcode : (Cond.codeWith y bytes maxL ret hh).before args s = true) (hy : y.cls ≠ "java/lang/invoke/MethodHandle" ∧ y.cls ≠ "java/lang/invoke/VarHandle")
    {W9 : Nat} {Pre : Pt → Array Value → Prop} {Post : Pt → Array Value → Option Value → Pt → Prop} (hK : Back l R p e below s args y 3 W9 Pre Post)
    {g : JFrame} (hg : g.method = m) (hsize : g.locals.size = c.maxLocals) {argsL rest : List Value} (hlen : ∀ sig, parseMethodDescriptor y.desc = some sig → argsL.length = sig.parameters.length)
    (hstack : g.stack = argsL.reverse ++ rest) (hW : 2 * g.monitorRoom + (rest.map fun v => v.category).sum ≤ W9) (hdg : decode c.code g.pc = .ok (.invokestatic index, 3))
    (hpre : ∀ vm₁, s.WarmedH vm₁ → Pre ⟨T.setVm vm₁, locs, cells, slots⟩ argsL.toArray) :
    ∃ (v : Option Value) (vm₁ : Vm) (B : Pt), s.WarmedH vm₁ ∧ Stand p l e R s m args below meth c B.U B.locs B.cells B.slots ∧ Post ⟨T.setVm vm₁, locs, cells, slots⟩ argsL.toArray v B ∧
      ∀ target, Steps p.tables e below (B.U.setTop { g with pc := g.pc + 3, stack := v.toList ++ rest }) target → Steps p.tables e below (T.setTop g) target := by
  obtain ⟨mk, methM, cM, hnamed, hmethM, -, -, -, -, -, -, hsigM⟩ := Cond.codeWith_spec hcode
  have hstatic : methM.isStatic = true := Cond.static_spec hnamed hmethM hstat
  obtain ⟨kP, hkP, -⟩ := className_of_methodNamed hnamed
  have hinitP : kP.init = .initialized := Cond.initialized_spec (findClass_of_methodNamed hnamed) hkP hinit
  obtain ⟨vm₁, X₁, hstep₁⟩ := X.invokestatic hexec hown hlink hnamed hmethM hstatic hkP hinitP hy (g := g) hg (argsL := argsL) (rest := rest) (hlen _ hsigM) hstack hdg
  obtain ⟨v, B, X', hpost, hsteps⟩ := hK m meth c ⟨T.setVm vm₁, locs, cells, slots⟩ { g with stack := rest } (.invokestatic index) mk argsL.toArray X₁ hg hsize hdg hW (X₁.named hnamed) (hpre vm₁ X₁.warmed)
  exact ⟨v, vm₁, B, X₁.warmed, X', hpost, fun target h => hstep₁ _ fun acts => by rw [doInvoke_state]; exact hsteps.trans h⟩
theorem vx_runSW {y : MethodName} {bytes cc : ByteArray} {maxL nL mc ms n index : Nat} {ret : Option FieldType} {hh : List (Nat × Nat × Nat × Nat)} {ws : List Cond} {rm : Room} {Pc : Array Value → State → Prop} {Qc : Array Value → State → Outcome → State → Prop} {free : Addr → Prop} {Ts : List Cond} {own : String} {As rest : List Value} {g : JFrame}
    (S : CallFix p m c cc nL s args Ts own) (hM : Met l y ws rm Pc Qc mc ms free) (cw : vx_CSW R s args own index y bytes maxL ret hh ws rm mc ms n) (hp : PreS s H Pc As)
    (hg : g.method = m) (hn : As.length = n) (hsize : g.locals.size = nL) (hstack : g.stack = As.reverse ++ rest) (hW : 2 * g.monitorRoom + (rest.map fun v => v.category).sum ≤ 8) (hdg : decode cc g.pc = .ok (.invokestatic index, 3)) (hf : cells + mc ≤ R.cells ∧ slots + ms ≤ R.slots) :
    va_Run p l e R s m args below meth c H locs cells slots mc ms g rest (Qc As.toArray) (free) := by
  obtain ⟨⟨hrc, hrs, hfr, hlo, hws, hcw⟩, hcode, hini, hy, hlen, hl, hstt⟩ := cw
  have hK : Back l R p e below s args y 3 8 (PreOf R mc ms Pc) (PostOf Qc mc ms free) := va_backW (hh := hh) (bytes := bytes) (maxL := maxL) (ret := ret) hM hp.1 hrc hrs hfr hlo hws hcw (fun a' U hW => word_at hW (Or.inl (by first | rfl | simp [Cond.onTables, Cond.keeps, Cond.steady])) hini)
  obtain ⟨hx, hb, hml, ho, -⟩ := S
  intro T hT X
  obtain ⟨v, vm₁, ⟨U', l2, c2, s2⟩, hW₁, X', ⟨g', mk, t, L, e1, e2, hq, h1, hL, h2, h3⟩, st⟩ := vx_callSW X hx (hh := hh) (bytes := bytes) (maxL := maxL) (ret := ret) ho hl hstt hini hcode hy hK hg (hsize.trans hml.symm) (argsL := As) (rest := rest) (fun sig h => hn.trans (hlen sig h)) hstack hW (by rw [hb]; exact hdg)
    (fun vm₁ hW₁ => ⟨hf.1, hf.2, hp.2 (T.setVm vm₁) hT hW₁⟩)
  dsimp only [Pt.U, Pt.locs, Pt.cells, Pt.slots] at X' e1 e2 h1 h2 h3 st
  subst h1; subst h2; subst h3
  exact ⟨v, (T.setVm vm₁).calling g' mk As.toArray, t, U', L, hT, X', hL, e1, e2, hq, st⟩
/-- a thing of a world lies in the heap -/
theorem vx_lt {D : va_G} {cl : List vw_C} {ws : va_W} {H1 : Heap} (h : va_P D cl ws H1) {k : Nat} {q : Nat × va_E} (hk : ws[k]? = some q) : q.1 < H1.size := (h k q hk).lt
end VXS
/-! ===== END ===== -/
/-! ===== BEGIN methods with a table of their own: called by a name, returning or throwing ===== -/
section VXH
/-! vx_backW, vx_callVX, vx_callSX, vx_callVW, vx_runVW, vx_runVX, vx_runSX, vx_ofWH follow the same proofs as their sisters above (Free/Laws.lean, Shelf42/LK1.lean); vx_outP calls Shelf42/NT130.lean (outThrough). -/
section
variable {l : Launch} {R : Room} {p : Program} {e : Env} {below : List Frame} {s : State} {sargs : Array Value} {y : MethodName} {len W9 : Nat}
theorem vx_backW {ws : List Cond} {rm : Room} {Pc : Array Value → State → Prop} {Qc : Array Value → State → Outcome → State → Prop} {XC : String → State → State → Prop} {mc ms : Nat} {free : Addr → Prop} {bytes : ByteArray} {maxL : Nat} {ret : Option FieldType} {hh : List (Nat × Nat × Nat × Nat)}
    (hM : vx_Met l y ws rm Pc Qc XC mc ms free) (hblind : FrameBlind Pc) (hrc : rm.cells = mc) (hrs : rm.slots = ms)
    (hframes : rm.frames + 1 ≤ R.frames) (hlocals : W9 + (maxL + 11) + rm.locals ≤ R.locals)
    (hws : ∀ w ∈ ws, ∀ a' U, s.WarmedH U.vm → w.before a' U = true) (hcode : Cond.codeWith y bytes maxL ret hh ∈ ws) (hinit : ∀ a' U, s.WarmedH U.vm → (Cond.initialized y.cls).before a' U = true) :
    vx_Back l R p e below s sargs y len W9 (PreOf R mc ms Pc) (PostOf Qc mc ms free) (vx_Post XC mc ms free) := by
  intro m meth c A g ig mk a X hg hsize hdg hW hn hp
  have h1 : (headSpec ws rm).pre.before a A.U = true := atoms_intro fun w hw => hws w hw _ _ X.warmed
  have h2 : (Cond.codeWith y bytes maxL ret hh).before a A.U = true := hws _ hcode _ _ X.warmed
  have h3 : (Cond.initialized y.cls).before a A.U = true := hinit _ _ X.warmed
  have h4 : A.cells + (headSpec ws rm).room.cells ≤ R.cells := by rw [show (headSpec ws rm).room.cells = mc from hrc]; exact hp.1
  have h5 : A.slots + (headSpec ws rm).room.slots ≤ R.slots := by rw [show (headSpec ws rm).room.slots = ms from hrs]; exact hp.2.1
  have hPc : Pc a (A.U.calling g mk a) := hblind _ _ _ _ hp.2.2
  obtain ⟨U, Ls, c0, s0⟩ := A
  dsimp only [Pt.U, Pt.locs, Pt.cells, Pt.slots] at h1 h2 h3 h4 h5 X hn hPc ⊢
  obtain ⟨m9, methY, cY, hn9, hmY, hcY, -, hlY, -⟩ := Cond.codeWith_spec h2
  cases Option.some.inj (hn9.symm.trans hn)
  obtain ⟨kY, hkY, -⟩ := className_of_methodNamed hn
  have hinitY : kY.init = .initialized := Cond.initialized_spec (findClass_of_methodNamed hn) hkY h3
  have h : At U g.method c below := by rw [hg]; exact X.here
  have hlocals9 : W9 + (maxL + 11) + (headSpec ws rm).room.locals ≤ R.locals := hlocals
  have happ : (headSpec ws rm).appliesLoose y e.platform (U.calling g mk a) = true :=
    Spec.appliesLoose_calling (g := g) h hdg hn hkY hinitY
      (X.room_calling (g := g) (R' := (headSpec ws rm).room) hsize hmY hcY hframes (by rw [hlY]; omega) h4 h5) h1
  obtain ⟨mid, hmid⟩ := h.above
  have hfr : (U.setTop g).frames = (.java g :: mid) ++ below := by rw [State.frames_setTop' g h.top, hmid]; rfl
  obtain ⟨o, s₂, hsteps, -, hend, hq⟩ := Steps.callFree hM p X.admits X.cas X.clock (acts := []) hfr happ hPc trivial
  have hq' : vx_Q Qc XC mc ms free a (U.calling g mk a) o s₂ := hq
  rw [State.frames_setTop' g h.top] at hend
  obtain ⟨g₀, hg0⟩ := Option.isSome_iff_exists.mp h.top
  obtain ⟨r, hr⟩ := State.topJava?_eq_some.mp hg0
  have hr' : (({ U with heap := s₂.heap, slotsUsed := s₂.slotsUsed } : State).setVm s₂.vm).frames = .java g₀ :: r := hr
  rcases hq' with ⟨hqc, L, hfe, hL⟩ | ⟨q, rfl, E, ce, L, hx, hce, hcv, hcl, hW₂, hsm, hL⟩
  · obtain ⟨⟨v, rfl⟩, hW₂, e2, q2, q3, q4, q5, q6⟩ := id hfe
    have e3 : s₂ = ({ (U.calling g mk a).setFrames s₂.frames with heap := s₂.heap, slotsUsed := s₂.slotsUsed } : State).setVm s₂.vm := by
      have : s₂ = ({ s₂ with vm := (U.calling g mk a).vm } : State).setVm s₂.vm := rfl
      rw [e2] at this
      exact this
    obtain ⟨c₂, i₂, len₂, hc₂, hd₂, hf₂⟩ := hend
    have hW' : U.WarmedH s₂.vm := hW₂
    have hcc : c₂ = c := by
      have h1 : s₂.code? g.method = U.code? g.method := by
        rw [State.code?_eq, State.code?_eq, hW'.alike.method?]
      exact Option.some.inj (hc₂.symm.trans (h1.trans h.code))
    subst hcc
    have hlen : len₂ = len := by rw [hdg] at hd₂; cases hd₂; rfl
    subst hlen
    have hs₂ : s₂ = (({ U with heap := s₂.heap, slotsUsed := s₂.slotsUsed } : State).setVm s₂.vm).setTop { g with pc := g.pc + len₂, stack := v.toList ++ g.stack } := by
      refine e3.trans ?_
      rw [hf₂, State.calling_eq h.top, State.setFrames_setFrames, State.setTop_of_frames _ hr', hr]
      rfl
    have hsame : U.sameButNew ({ U with heap := s₂.heap, slotsUsed := s₂.slotsUsed } : State) L mc ms := by
      refine ⟨?_, q2, q3, q4, q5, q6⟩
      obtain ⟨t, ht, -⟩ := State.frames_cons hr
      show ({ U with heap := s₂.heap, slotsUsed := s₂.slotsUsed } : State) = { U.setFrames U.frames with heap := s₂.heap, slotsUsed := s₂.slotsUsed }
      rw [State.setFrames_self ht]
    subst hg
    refine Or.inl ⟨v, ⟨(({ U with heap := s₂.heap, slotsUsed := s₂.slotsUsed } : State).setVm s₂.vm), Ls ++ L, c0 + mc, s0 + ms⟩,
      ⟨X.admits, X.cas, X.clock, X.frames, X.room, X.hears, X.method, X.code, (X.here.setHeapUsed s₂.heap s₂.slotsUsed).setVm hW'.alike, X.tail, State.WarmedH.trans X.warmed hW', X.limits, X.bytes, X.same.trans (hsame.setVm s.vm)⟩,
      ⟨g, mk, s₂, L, rfl, rfl, hqc, rfl, hL, rfl, rfl⟩, ?_⟩
    show Steps p.tables e below _ ((({ U with heap := s₂.heap, slotsUsed := s₂.slotsUsed } : State).setVm s₂.vm).setTop { g with pc := g.pc + len₂, stack := v.toList ++ g.stack })
    rw [← hs₂]
    exact hsteps
  · obtain ⟨e2, q2, q3, q4, q5, q6⟩ := id hsm
    have e3 : s₂ = ({ (U.calling g mk a).setFrames s₂.frames with heap := s₂.heap, slotsUsed := s₂.slotsUsed } : State).setVm s₂.vm := by
      have : s₂ = ({ s₂ with vm := (U.calling g mk a).vm } : State).setVm s₂.vm := rfl
      rw [e2] at this
      exact this
    have hf₂ : s₂.frames = .throwing q :: .java g :: U.frames.tail := hend
    have hW' : U.WarmedH s₂.vm := hW₂
    have hs₂ : s₂ = ((({ U with heap := s₂.heap, slotsUsed := s₂.slotsUsed } : State).setVm s₂.vm).setTop g).pushFrame (.throwing q) := by
      refine e3.trans ?_
      rw [hf₂, State.calling_eq h.top, State.setFrames_setFrames, State.pushFrame, State.frames_setTop _ hr', State.setTop_of_frames _ hr', State.setFrames_setFrames, hr]
      rfl
    have hsame : U.sameButNew ({ U with heap := s₂.heap, slotsUsed := s₂.slotsUsed } : State) L mc ms := by
      refine ⟨?_, q2, q3, q4, q5, q6⟩
      obtain ⟨t, ht, -⟩ := State.frames_cons hr
      show ({ U with heap := s₂.heap, slotsUsed := s₂.slotsUsed } : State) = { U.setFrames U.frames with heap := s₂.heap, slotsUsed := s₂.slotsUsed }
      rw [State.setFrames_self ht]
    subst hg
    refine Or.inr ⟨q, ⟨(({ U with heap := s₂.heap, slotsUsed := s₂.slotsUsed } : State).setVm s₂.vm), Ls ++ L, c0 + mc, s0 + ms⟩,
      ⟨X.admits, X.cas, X.clock, X.frames, X.room, X.hears, X.method, X.code, (X.here.setHeapUsed s₂.heap s₂.slotsUsed).setVm hW'.alike, X.tail, State.WarmedH.trans X.warmed hW', X.limits, X.bytes, X.same.trans (hsame.setVm s.vm)⟩,
      ⟨g, mk, s₂, L, E, ce, rfl, rfl, hx, hce, hcv, hcl, rfl, hL, rfl, rfl⟩, ?_⟩
    show Steps p.tables e below _ (((({ U with heap := s₂.heap, slotsUsed := s₂.slotsUsed } : State).setVm s₂.vm).setTop g).pushFrame (.throwing q))
    rw [← hs₂]
    exact hsteps
end
variable {p : Program} {l : Launch} {e : Env} {R : Room} {s : State} {m : MethodId} {args : Array Value} {below : List Frame} {meth : Method} {c : Code} {T : State} {H : Heap} {locs : List Loc} {cells slots : Nat}
theorem vx_callVX (X : Stand p l e R s m args below meth c T locs cells slots) (hexec : p.tables.exec = Jvm.exec) {own C : String} {index : Nat} {y : MethodName} {bytes : ByteArray} {maxL : Nat} {ret : Option FieldType} {hh : List (Nat × Nat × Nat × Nat)}
    (hown : s.vm.findClass own = some m.cls) (hlink : (Cond.methodLink own index y).before args s = true) (hinst : (Cond.instanceMethod y).before args s = true) (hsel : (Cond.selects C y y).before args s = true)
    (hcode : (Cond.codeWith y bytes maxL ret hh).before args s = true) (hy : y.cls ≠ "java/lang/invoke/MethodHandle" ∧ y.cls ≠ "java/lang/invoke/VarHandle")
    {W9 : Nat} {Pre : Pt → Array Value → Prop} {Post : Pt → Array Value → Option Value → Pt → Prop} {PostX : Pt → Array Value → Addr → Pt → Prop} (hK : vx_Back l R p e below s args y 3 W9 Pre Post PostX)
    {b : Addr} {cellB : Cell} (hcell : T.heap[b]? = some cellB) (hobj : cellB.vm.isStatics = false) (hcls : s.vm.findClass C = some cellB.cls)
    {g : JFrame} (hg : g.method = m) (hsize : g.locals.size = c.maxLocals) {argsL rest : List Value} (hlen : ∀ sig, parseMethodDescriptor y.desc = some sig → argsL.length = sig.parameters.length)
    (hstack : g.stack = argsL.reverse ++ .ref b :: rest) (hW : 2 * g.monitorRoom + (rest.map fun v => v.category).sum ≤ W9) (hdg : decode c.code g.pc = .ok (.invokevirtual index, 3))
    (hpre : ∀ vm₁, s.WarmedH vm₁ → Pre ⟨T.setVm vm₁, locs, cells, slots⟩ (Value.ref b :: argsL).toArray) :
    (∃ (v : Option Value) (vm₁ : Vm) (B : Pt), s.WarmedH vm₁ ∧ Stand p l e R s m args below meth c B.U B.locs B.cells B.slots ∧ Post ⟨T.setVm vm₁, locs, cells, slots⟩ (Value.ref b :: argsL).toArray v B ∧
      ∀ target, Steps p.tables e below (B.U.setTop { g with pc := g.pc + 3, stack := v.toList ++ rest }) target → Steps p.tables e below (T.setTop g) target) ∨
    (∃ (q : Addr) (vm₁ : Vm) (B : Pt), s.WarmedH vm₁ ∧ Stand p l e R s m args below meth c B.U B.locs B.cells B.slots ∧ PostX ⟨T.setVm vm₁, locs, cells, slots⟩ (Value.ref b :: argsL).toArray q B ∧
      Steps p.tables e below (T.setTop g) ((B.U.setTop { g with stack := rest }).pushFrame (.throwing q))) := by
  obtain ⟨mk, methM, hnamed, hmethM, hstM, habM⟩ := Cond.instanceMethod_spec hinst
  obtain ⟨m8, methM', cM, hn8, hmethM', -, -, -, -, -, -, hsigM⟩ := Cond.codeWith_spec hcode
  cases Option.some.inj (hn8.symm.trans hnamed)
  cases hmethM.symm.trans hmethM'
  obtain ⟨c2, r2, m2, q1, q2, q3, q4, kP, hkP, hkPi⟩ := Cond.selects_spec hsel
  cases hcls.symm.trans q1
  cases (State.methodFound?_of_named hnamed hy).symm.trans q2
  cases hnamed.symm.trans q3
  have hselP : selectMethod e.platform s.vm cellB.cls mk = .method mk := by rw [Launch.admits_selectMethod X.admits]; exact q4
  obtain ⟨vm₁, X₁, hstep₁⟩ := X.invokevirtual hexec hown hlink hnamed hmethM hstM hkP hkPi hy (a := b) (cell := cellB) hcell
    (fun z h => by rw [h] at hobj; cases hobj) hselP hmethM habM hkP hkPi (g := g) hg (argsL := argsL) (rest := rest) (hlen _ hsigM) hstack hdg
  rcases hK m meth c ⟨T.setVm vm₁, locs, cells, slots⟩ { g with stack := rest } (.invokevirtual index) mk (Value.ref b :: argsL).toArray X₁ hg hsize hdg hW (X₁.named hnamed) (hpre vm₁ X₁.warmed) with ⟨v, B, X', hpost, hsteps⟩ | ⟨q, B, X', hpost, hsteps⟩
  · exact Or.inl ⟨v, vm₁, B, X₁.warmed, X', hpost, fun target h => hstep₁ _ fun acts => by rw [doInvoke_state]; exact hsteps.trans h⟩
  · exact Or.inr ⟨q, vm₁, B, X₁.warmed, X', hpost, hstep₁ _ fun acts => by rw [doInvoke_state]; exact hsteps⟩
theorem vx_callSX (X : Stand p l e R s m args below meth c T locs cells slots) (hexec : p.tables.exec = Jvm.exec) {own : String} {index : Nat} {y : MethodName} {bytes : ByteArray} {maxL : Nat} {ret : Option FieldType} {hh : List (Nat × Nat × Nat × Nat)}
    (hown : s.vm.findClass own = some m.cls) (hlink : (Cond.methodLink own index y).before args s = true) (hstat : (Cond.static y).before args s = true) (hinit : (Cond.initialized y.cls).before args s = true)
    (hcode : (Cond.codeWith y bytes maxL ret hh).before args s = true) (hy : y.cls ≠ "java/lang/invoke/MethodHandle" ∧ y.cls ≠ "java/lang/invoke/VarHandle")
    {W9 : Nat} {Pre : Pt → Array Value → Prop} {Post : Pt → Array Value → Option Value → Pt → Prop} {PostX : Pt → Array Value → Addr → Pt → Prop} (hK : vx_Back l R p e below s args y 3 W9 Pre Post PostX)
    {g : JFrame} (hg : g.method = m) (hsize : g.locals.size = c.maxLocals) {argsL rest : List Value} (hlen : ∀ sig, parseMethodDescriptor y.desc = some sig → argsL.length = sig.parameters.length)
    (hstack : g.stack = argsL.reverse ++ rest) (hW : 2 * g.monitorRoom + (rest.map fun v => v.category).sum ≤ W9) (hdg : decode c.code g.pc = .ok (.invokestatic index, 3))
    (hpre : ∀ vm₁, s.WarmedH vm₁ → Pre ⟨T.setVm vm₁, locs, cells, slots⟩ argsL.toArray) :
    (∃ (v : Option Value) (vm₁ : Vm) (B : Pt), s.WarmedH vm₁ ∧ Stand p l e R s m args below meth c B.U B.locs B.cells B.slots ∧ Post ⟨T.setVm vm₁, locs, cells, slots⟩ argsL.toArray v B ∧
      ∀ target, Steps p.tables e below (B.U.setTop { g with pc := g.pc + 3, stack := v.toList ++ rest }) target → Steps p.tables e below (T.setTop g) target) ∨
    (∃ (q : Addr) (vm₁ : Vm) (B : Pt), s.WarmedH vm₁ ∧ Stand p l e R s m args below meth c B.U B.locs B.cells B.slots ∧ PostX ⟨T.setVm vm₁, locs, cells, slots⟩ argsL.toArray q B ∧
      Steps p.tables e below (T.setTop g) ((B.U.setTop { g with stack := rest }).pushFrame (.throwing q))) := by
  obtain ⟨mk, methM, cM, hnamed, hmethM, -, -, -, -, -, -, hsigM⟩ := Cond.codeWith_spec hcode
  have hstatic : methM.isStatic = true := Cond.static_spec hnamed hmethM hstat
  obtain ⟨kP, hkP, -⟩ := className_of_methodNamed hnamed
  have hinitP : kP.init = .initialized := Cond.initialized_spec (findClass_of_methodNamed hnamed) hkP hinit
  obtain ⟨vm₁, X₁, hstep₁⟩ := X.invokestatic hexec hown hlink hnamed hmethM hstatic hkP hinitP hy (g := g) hg (argsL := argsL) (rest := rest) (hlen _ hsigM) hstack hdg
  rcases hK m meth c ⟨T.setVm vm₁, locs, cells, slots⟩ { g with stack := rest } (.invokestatic index) mk argsL.toArray X₁ hg hsize hdg hW (X₁.named hnamed) (hpre vm₁ X₁.warmed) with ⟨v, B, X', hpost, hsteps⟩ | ⟨q, B, X', hpost, hsteps⟩
  · exact Or.inl ⟨v, vm₁, B, X₁.warmed, X', hpost, fun target h => hstep₁ _ fun acts => by rw [doInvoke_state]; exact hsteps.trans h⟩
  · exact Or.inr ⟨q, vm₁, B, X₁.warmed, X', hpost, hstep₁ _ fun acts => by rw [doInvoke_state]; exact hsteps⟩
theorem vx_callVW (X : Stand p l e R s m args below meth c T locs cells slots) (hexec : p.tables.exec = Jvm.exec) {own C : String} {index : Nat} {y : MethodName} {bytes : ByteArray} {maxL : Nat} {ret : Option FieldType} {hh : List (Nat × Nat × Nat × Nat)}
    (hown : s.vm.findClass own = some m.cls) (hlink : (Cond.methodLink own index y).before args s = true) (hinst : (Cond.instanceMethod y).before args s = true) (hsel : (Cond.selects C y y).before args s = true)
    (hcode : (Cond.codeWith y bytes maxL ret hh).before args s = true) (hy : y.cls ≠ "java/lang/invoke/MethodHandle" ∧ y.cls ≠ "java/lang/invoke/VarHandle")
    {W9 : Nat} {Pre : Pt → Array Value → Prop} {Post : Pt → Array Value → Option Value → Pt → Prop} (hK : Back l R p e below s args y 3 W9 Pre Post)
    {b : Addr} {cellB : Cell} (hcell : T.heap[b]? = some cellB) (hobj : cellB.vm.isStatics = false) (hcls : s.vm.findClass C = some cellB.cls)
    {g : JFrame} (hg : g.method = m) (hsize : g.locals.size = c.maxLocals) {argsL rest : List Value} (hlen : ∀ sig, parseMethodDescriptor y.desc = some sig → argsL.length = sig.parameters.length)
    (hstack : g.stack = argsL.reverse ++ .ref b :: rest) (hW : 2 * g.monitorRoom + (rest.map fun v => v.category).sum ≤ W9) (hdg : decode c.code g.pc = .ok (.invokevirtual index, 3))
    (hpre : ∀ vm₁, s.WarmedH vm₁ → Pre ⟨T.setVm vm₁, locs, cells, slots⟩ (Value.ref b :: argsL).toArray) :
    ∃ (v : Option Value) (vm₁ : Vm) (B : Pt), s.WarmedH vm₁ ∧ Stand p l e R s m args below meth c B.U B.locs B.cells B.slots ∧ Post ⟨T.setVm vm₁, locs, cells, slots⟩ (Value.ref b :: argsL).toArray v B ∧
      ∀ target, Steps p.tables e below (B.U.setTop { g with pc := g.pc + 3, stack := v.toList ++ rest }) target → Steps p.tables e below (T.setTop g) target := by
  obtain ⟨mk, methM, hnamed, hmethM, hstM, habM⟩ := Cond.instanceMethod_spec hinst
  obtain ⟨m8, methM', cM, hn8, hmethM', -, -, -, -, -, -, hsigM⟩ := Cond.codeWith_spec hcode
  cases Option.some.inj (hn8.symm.trans hnamed)
  cases hmethM.symm.trans hmethM'
  obtain ⟨c2, r2, m2, q1, q2, q3, q4, kP, hkP, hkPi⟩ := Cond.selects_spec hsel
  cases hcls.symm.trans q1
  cases (State.methodFound?_of_named hnamed hy).symm.trans q2
  cases hnamed.symm.trans q3
  have hselP : selectMethod e.platform s.vm cellB.cls mk = .method mk := by rw [Launch.admits_selectMethod X.admits]; exact q4
  obtain ⟨vm₁, X₁, hstep₁⟩ := X.invokevirtual hexec hown hlink hnamed hmethM hstM hkP hkPi hy (a := b) (cell := cellB) hcell
    (fun z h => by rw [h] at hobj; cases hobj) hselP hmethM habM hkP hkPi (g := g) hg (argsL := argsL) (rest := rest) (hlen _ hsigM) hstack hdg
  obtain ⟨v, B, X', hpost, hsteps⟩ := hK m meth c ⟨T.setVm vm₁, locs, cells, slots⟩ { g with stack := rest } (.invokevirtual index) mk (Value.ref b :: argsL).toArray X₁ hg hsize hdg hW (X₁.named hnamed) (hpre vm₁ X₁.warmed)
  exact ⟨v, vm₁, B, X₁.warmed, X', hpost, fun target h => hstep₁ _ fun acts => by rw [doInvoke_state]; exact hsteps.trans h⟩
abbrev vx_CVW (R : Room) (s : State) (args : Array Value) (own C : String) (index : Nat) (y : MethodName) (bytes : ByteArray) (maxL : Nat) (ret : Option FieldType) (hh : List (Nat × Nat × Nat × Nat)) (ws : List Cond) (rm : Room) (mc ms n : Nat) : Prop :=
  (rm.cells = mc ∧ rm.slots = ms ∧ rm.frames + 1 ≤ R.frames ∧ 8 + (maxL + 11) + rm.locals ≤ R.locals ∧ (∀ w ∈ ws, ∀ (a' : Array Value) (U : State), s.WarmedH U.vm → w.before a' U = true) ∧ Cond.codeWith y bytes maxL ret hh ∈ ws) ∧
  (Cond.codeWith y bytes maxL ret hh).before args s = true ∧ (Cond.initialized y.cls).before args s = true ∧ (y.cls ≠ "java/lang/invoke/MethodHandle" ∧ y.cls ≠ "java/lang/invoke/VarHandle") ∧
  (∀ sig, parseMethodDescriptor y.desc = some sig → n = sig.parameters.length) ∧ (Cond.methodLink own index y).before args s = true ∧ (Cond.instanceMethod y).before args s = true ∧ (Cond.selects C y y).before args s = true
theorem vx_cwVW {own C : String} {index maxL mc ms : Nat} {y : MethodName} {bytes : ByteArray} {ret : Option FieldType} {hh : List (Nat × Nat × Nat × Nat)} {Ts ws ws' : List Cond} {rm : Room} (n : Nat) (ht : ∀ w ∈ Ts, w.before args s = true) (hT : GoodIn Ts (wsV own index C y ws)) (hw : ws = Cond.codeWith y bytes maxL ret hh :: ws') (hrc : rm.cells = mc) (hrs : rm.slots = ms)
    (hd : y.cls = C ∧ y.cls ≠ "java/lang/invoke/MethodHandle" ∧ y.cls ≠ "java/lang/invoke/VarHandle" ∧ (parseMethodDescriptor y.desc).map (fun d => d.parameters.length) = some n) (hR : rm.frames + 1 ≤ R.frames ∧ 8 + (maxL + 11) + rm.locals ≤ R.locals) :
    vx_CVW R s args own C index y bytes maxL ret hh ws rm mc ms n := by
  obtain ⟨hC, hd⟩ := hd
  subst hC
  have ok : ∀ w ∈ wsV own index y.cls y ws, w.before args s = true := fun w h => ht w (hT w h).1
  have hG : GoodIn Ts ws := fun w h => hT w (by unfold wsV; exact List.mem_append_right _ h)
  have hc : Cond.codeWith y bytes maxL ret hh ∈ ws := by rw [hw]; exact List.mem_cons_self
  refine ⟨⟨hrc, hrs, hR.1, hR.2, pay_in ht hG, hc⟩, ht _ (hG _ hc).1, ok _ (by simp [wsV]), ⟨hd.1, hd.2.1⟩, fun sig h => ?_, ok _ (by simp [wsV]), ok _ (by simp [wsV]), ok _ (by simp [wsV])⟩
  have h2 := hd.2.2
  rw [h] at h2
  exact (Option.some.inj h2).symm
theorem vx_runVW {y : MethodName} {bytes cc : ByteArray} {maxL nL mc ms n index : Nat} {ret : Option FieldType} {hh : List (Nat × Nat × Nat × Nat)} {ws : List Cond} {rm : Room} {Pc : Array Value → State → Prop} {Qc : Array Value → State → Outcome → State → Prop} {free : Addr → Prop} {Ts : List Cond} {own C : String} {b : Addr} {As rest : List Value} {g : JFrame}
    (S : CallFix p m c cc nL s args Ts own) (hM : Met l y ws rm Pc Qc mc ms free) (cw : vx_CVW R s args own C index y bytes maxL ret hh ws rm mc ms n) (hp : PreV s H C b Pc As)
    (hg : g.method = m) (hn : As.length = n) (hsize : g.locals.size = nL) (hstack : g.stack = As.reverse ++ .ref b :: rest) (hW : 2 * g.monitorRoom + (rest.map fun v => v.category).sum ≤ 8) (hdg : decode cc g.pc = .ok (.invokevirtual index, 3)) (hf : cells + mc ≤ R.cells ∧ slots + ms ≤ R.slots) :
    va_Run p l e R s m args below meth c H locs cells slots mc ms g rest (Qc (Value.ref b :: As).toArray) free := by
  obtain ⟨⟨hrc, hrs, hfr, hlo, hws, hcw⟩, hcode, hini, hy, hlen, hl, hin, hse⟩ := cw
  have hK : Back l R p e below s args y 3 8 (PreOf R mc ms Pc) (PostOf Qc mc ms free) := va_backW (hh := hh) (bytes := bytes) (maxL := maxL) (ret := ret) hM hp.1 hrc hrs hfr hlo hws hcw (fun a' U hW => word_at hW (Or.inl (by first | rfl | simp [Cond.onTables, Cond.keeps, Cond.steady])) hini)
  obtain ⟨hx, hb, hml, ho, -⟩ := S
  obtain ⟨-, ⟨cellB, hcB, hoB, hclB⟩, hPc⟩ := hp
  intro T hT X
  obtain ⟨v, vm₁, ⟨U', l2, c2, s2⟩, hW₁, X', ⟨g', mk, t, L, e1, e2, hq, h1, hL, h2, h3⟩, st⟩ := vx_callVW X hx (C := C) (hh := hh) (bytes := bytes) (maxL := maxL) (ret := ret) ho hl hin hse hcode hy hK (by rw [hT]; exact hcB) hoB hclB hg (hsize.trans hml.symm) (argsL := As) (rest := rest) (fun sig h => hn.trans (hlen sig h)) hstack hW (by rw [hb]; exact hdg)
    (fun vm₁ hW₁ => ⟨hf.1, hf.2, hPc (T.setVm vm₁) hT hW₁⟩)
  dsimp only [Pt.U, Pt.locs, Pt.cells, Pt.slots] at X' e1 e2 h1 h2 h3 st
  subst h1; subst h2; subst h3
  exact ⟨v, (T.setVm vm₁).calling g' mk (Value.ref b :: As).toArray, t, U', L, hT, X', hL, e1, e2, hq, st⟩
section
variable {y : MethodName} {bytes cc : ByteArray} {maxL nL mc ms n index : Nat} {ret : Option FieldType} {ws : List Cond} {rm : Room} {Pc : Array Value → State → Prop} {Qc : Array Value → State → Outcome → State → Prop} {XC : String → State → State → Prop} {free : Addr → Prop} {Ts : List Cond} {own C : String} {b : Addr} {As rest : List Value} {g : JFrame}
theorem vx_runVX {hh : List (Nat × Nat × Nat × Nat)} (S : CallFix p m c cc nL s args Ts own) (hM : vx_Met l y ws rm Pc Qc XC mc ms free) (cw : vx_CVW R s args own C index y bytes maxL ret hh ws rm mc ms n) (hp : PreV s H C b Pc As)
    (hg : g.method = m) (hn : As.length = n) (hsize : g.locals.size = nL) (hstack : g.stack = As.reverse ++ .ref b :: rest) (hW : 2 * g.monitorRoom + (rest.map fun v => v.category).sum ≤ 8) (hdg : decode cc g.pc = .ok (.invokevirtual index, 3)) (hf : cells + mc ≤ R.cells ∧ slots + ms ≤ R.slots) :
    vx_Run p l e R s m args below meth c H locs cells slots mc ms g rest (Qc (Value.ref b :: As).toArray) XC free := by
  obtain ⟨⟨hrc, hrs, hfr, hlo, hws, hcw⟩, hcode, hini, hy, hlen, hl, hin, hse⟩ := cw
  have hK : vx_Back l R p e below s args y 3 8 (PreOf R mc ms Pc) (PostOf Qc mc ms free) (vx_Post XC mc ms free) := vx_backW (hh := hh) (bytes := bytes) (maxL := maxL) (ret := ret) hM hp.1 hrc hrs hfr hlo hws hcw (fun a' U hW => word_at hW (Or.inl (by first | rfl | simp [Cond.onTables, Cond.keeps, Cond.steady])) hini)
  obtain ⟨hx, hb, hml, ho, -⟩ := S
  obtain ⟨-, ⟨cellB, hcB, hoB, hclB⟩, hPc⟩ := hp
  intro T hT X
  rcases vx_callVX X hx (C := C) (hh := hh) (bytes := bytes) (maxL := maxL) (ret := ret) ho hl hin hse hcode hy hK (by rw [hT]; exact hcB) hoB hclB hg (hsize.trans hml.symm) (argsL := As) (rest := rest) (fun sig h => hn.trans (hlen sig h)) hstack hW (by rw [hb]; exact hdg)
    (fun vm₁ hW₁ => ⟨hf.1, hf.2, hPc (T.setVm vm₁) hT hW₁⟩) with ⟨v, vm₁, ⟨U', l2, c2, s2⟩, hW₁, X', ⟨g', mk, t, L, e1, e2, hq, h1, hL, h2, h3⟩, st⟩ | ⟨q, vm₁, ⟨U', l2, c2, s2⟩, hW₁, X', ⟨g', mk, t, L, E, ce, e1, e2, hq, hce, hcv, hcl, h1, hL, h2, h3⟩, st⟩
  · dsimp only [Pt.U, Pt.locs, Pt.cells, Pt.slots] at X' e1 e2 h1 h2 h3 st
    subst h1; subst h2; subst h3
    exact Or.inl ⟨v, (T.setVm vm₁).calling g' mk (Value.ref b :: As).toArray, t, U', L, hT, X', hL, e1, e2, hq, st⟩
  · dsimp only [Pt.U, Pt.locs, Pt.cells, Pt.slots] at X' e1 e2 h1 h2 h3 st hcl
    subst h1; subst h2; subst h3
    exact Or.inr ⟨q, (T.setVm vm₁).calling g' mk (Value.ref b :: As).toArray, t, U', L, E, ce, hT, X', hL, e1, e2, hq, hce, hcv, vx_cls hW₁ hcl, st⟩
theorem vx_runSX {hh : List (Nat × Nat × Nat × Nat)} (S : CallFix p m c cc nL s args Ts own) (hM : vx_Met l y ws rm Pc Qc XC mc ms free) (cw : vx_CSW R s args own index y bytes maxL ret hh ws rm mc ms n) (hp : PreS s H Pc As)
    (hg : g.method = m) (hn : As.length = n) (hsize : g.locals.size = nL) (hstack : g.stack = As.reverse ++ rest) (hW : 2 * g.monitorRoom + (rest.map fun v => v.category).sum ≤ 8) (hdg : decode cc g.pc = .ok (.invokestatic index, 3)) (hf : cells + mc ≤ R.cells ∧ slots + ms ≤ R.slots) :
    vx_Run p l e R s m args below meth c H locs cells slots mc ms g rest (Qc As.toArray) XC free := by
  obtain ⟨⟨hrc, hrs, hfr, hlo, hws, hcw⟩, hcode, hini, hy, hlen, hl, hstt⟩ := cw
  have hK : vx_Back l R p e below s args y 3 8 (PreOf R mc ms Pc) (PostOf Qc mc ms free) (vx_Post XC mc ms free) := vx_backW (hh := hh) (bytes := bytes) (maxL := maxL) (ret := ret) hM hp.1 hrc hrs hfr hlo hws hcw (fun a' U hW => word_at hW (Or.inl (by first | rfl | simp [Cond.onTables, Cond.keeps, Cond.steady])) hini)
  obtain ⟨hx, hb, hml, ho, -⟩ := S
  intro T hT X
  rcases vx_callSX X hx (hh := hh) (bytes := bytes) (maxL := maxL) (ret := ret) ho hl hstt hini hcode hy hK hg (hsize.trans hml.symm) (argsL := As) (rest := rest) (fun sig h => hn.trans (hlen sig h)) hstack hW (by rw [hb]; exact hdg)
    (fun vm₁ hW₁ => ⟨hf.1, hf.2, hp.2 (T.setVm vm₁) hT hW₁⟩) with ⟨v, vm₁, ⟨U', l2, c2, s2⟩, hW₁, X', ⟨g', mk, t, L, e1, e2, hq, h1, hL, h2, h3⟩, st⟩ | ⟨q, vm₁, ⟨U', l2, c2, s2⟩, hW₁, X', ⟨g', mk, t, L, E, ce, e1, e2, hq, hce, hcv, hcl, h1, hL, h2, h3⟩, st⟩
  · dsimp only [Pt.U, Pt.locs, Pt.cells, Pt.slots] at X' e1 e2 h1 h2 h3 st
    subst h1; subst h2; subst h3
    exact Or.inl ⟨v, (T.setVm vm₁).calling g' mk As.toArray, t, U', L, hT, X', hL, e1, e2, hq, st⟩
  · dsimp only [Pt.U, Pt.locs, Pt.cells, Pt.slots] at X' e1 e2 h1 h2 h3 st hcl
    subst h1; subst h2; subst h3
    exact Or.inr ⟨q, (T.setVm vm₁).calling g' mk As.toArray, t, U', L, E, ce, hT, X', hL, e1, e2, hq, hce, hcv, vx_cls hW₁ hcl, st⟩
end
end VXH
theorem vx_ofWH {l : Launch} {y : MethodName} {ws ws' : List Cond} {rm : Room} {Pc : Array Value → State → Prop} {Qc : Array Value → State → Outcome → State → Prop} {XC : String → State → State → Prop} {mc ms : Nat} {free : Addr → Prop} {cc : ByteArray} {maxL : Nat} {ret : Option FieldType} {hh : List (Nat × Nat × Nat × Nat)}
    (hy : plainName y.cls = true) (hw : ws = Cond.codeWith y cc maxL ret hh :: ws')
    (body : ∀ p e s m args below meth c s₁, BodyLoose p l y (headSpec ws rm) cc maxL ret e s m args below meth c s₁ → c.maxLocals = maxL → Pc args s →
      W p l e (headSpec ws rm).room s m args below meth c s.heap [] 0 0 (vx_MQ below Qc XC args s mc ms free) (entryFrame m args maxL)) : vx_Met l y ws rm Pc Qc XC mc ms free := by
  refine MetFree.of_bodyS (code := cc) (maxLocals := maxL) (ret := ret) hy ?_ ?_
  · intro args s m h hn
    obtain ⟨m9, meth, c, hn9, h1, h2, h3, h4, -, h5, h6, -⟩ := Cond.codeWith_spec (atoms_spec (ws := ws) h _ (by rw [hw]; exact List.mem_cons_self))
    cases hn.symm.trans hn9
    exact ⟨meth, c, h1, h2, h3, h4, h5, h6⟩
  · intro p e s m args below meth c s₁ B hml hP _
    have hh0 : s₁.heap = s.heap := by rw [B.state]; rfl
    obtain ⟨t, a1, o, b1, b2, b3⟩ := body p e s m args below meth c s₁ B hml hP s₁ hh0 (Stand.of_body B)
    exact ⟨t, o, a1, b1, b2, b3⟩
/-! ===== END ===== -/

/-! ===== BEGIN printed: names, fields, word lists, decode rows ===== -/
end
section
def RX0 : String := "BerthPlan$Quay"
def TX0 : u_T := fun k => match k with
  | 0 => ("BerthPlan$Quay", "places", "I", true)
  | 1 => ("BerthPlan$Quay", "depths", "[I", true)
  | 2 => ("BerthPlan$Quay", "gears", "[I", true)
  | 3 => ("BerthPlan$Quay", "tideHours", "I", false)
  | _ => ("BerthPlan$Quay", "tideSpans", "I", false)
def tyX0 : Nat → FieldType := fun k => match k with
  | 0 => .int
  | 1 => .array .int
  | 2 => .array .int
  | 3 => .int
  | _ => .int
abbrev wsX00 : List Cond := u_ws RX0 TX0 5
theorem nmX0 : ∀ a, a < 5 → ∀ b, b < 5 → a ≠ b → (TX0 a).2.1 ≠ (TX0 b).2.1 := by decide +kernel
theorem tyX0_ok : ∀ k, k < 5 → parseFieldDescriptor (TX0 k).2.2.1 = some (tyX0 k) := by decide +kernel
abbrev cX0_init : ByteArray := prog_2_method_1_code
def yX0_init : MethodName := ⟨RX0, "<init>", "(I)V"⟩
abbrev cX0_isPlace : ByteArray := prog_2_method_2_code
def yX0_isPlace : MethodName := ⟨RX0, "isPlace", "(I)Z"⟩
abbrev cX0_isRow : ByteArray := prog_2_method_3_code
def yX0_isRow : MethodName := ⟨RX0, "isRow", "(II)Z"⟩
abbrev cX0_placesOf : ByteArray := prog_2_method_4_code
def yX0_placesOf : MethodName := ⟨RX0, "placesOf", "(I)I"⟩
abbrev cX0_suits : ByteArray := prog_2_method_5_code
def yX0_suits : MethodName := ⟨RX0, "suits", "(IIII)Z"⟩
abbrev cX0_hasRow : ByteArray := prog_2_method_6_code
def yX0_hasRow : MethodName := ⟨RX0, "hasRow", "(III)Z"⟩
abbrev cX0_beginsFrom : ByteArray := prog_2_method_7_code
def yX0_beginsFrom : MethodName := ⟨RX0, "beginsFrom", "(I)I"⟩
def RX1 : String := "BerthPlan$Search"
def TX1 : u_T := fun k => match k with
  | 0 => ("BerthPlan$Search", "begins", "[I", true)
  | 1 => ("BerthPlan$Search", "triedPlaces", "[I", true)
  | 2 => ("BerthPlan$Search", "triedHours", "[I", true)
  | 3 => ("BerthPlan$Search", "bestPlaces", "[I", true)
  | 4 => ("BerthPlan$Search", "bestHours", "[I", true)
  | 5 => ("BerthPlan$Search", "ships", "[LBerthPlan$Ship;", false)
  | 6 => ("BerthPlan$Search", "shipCount", "I", false)
  | 7 => ("BerthPlan$Search", "places", "I", false)
  | _ => ("BerthPlan$Search", "best", "I", false)
def tyX1 : Nat → FieldType := fun k => match k with
  | 0 => .array .int
  | 1 => .array .int
  | 2 => .array .int
  | 3 => .array .int
  | 4 => .array .int
  | 5 => .array (.object "BerthPlan$Ship")
  | 6 => .int
  | 7 => .int
  | _ => .int
abbrev wsX10 : List Cond := u_ws RX1 TX1 9
theorem nmX1 : ∀ a, a < 9 → ∀ b, b < 9 → a ≠ b → (TX1 a).2.1 ≠ (TX1 b).2.1 := by decide +kernel
theorem tyX1_ok : ∀ k, k < 9 → parseFieldDescriptor (TX1 k).2.2.1 = some (tyX1 k) := by decide +kernel
abbrev cX1_init : ByteArray := prog_3_method_1_code
def yX1_init : MethodName := ⟨RX1, "<init>", "()V"⟩
abbrev cX1_finds : ByteArray := prog_3_method_2_code
def yX1_finds : MethodName := ⟨RX1, "finds", "(LBerthPlan$Quay;[LBerthPlan$Ship;I)Z"⟩
abbrev cX1_leastAlone : ByteArray := prog_3_method_3_code
def yX1_leastAlone : MethodName := ⟨RX1, "leastAlone", "(LBerthPlan$Quay;[LBerthPlan$Ship;I)I"⟩
abbrev cX1_openAll : ByteArray := prog_3_method_4_code
def yX1_openAll : MethodName := ⟨RX1, "openAll", "(LBerthPlan$Quay;[LBerthPlan$Ship;I)V"⟩
abbrev cX1_everyShip : ByteArray := prog_3_method_5_code
def yX1_everyShip : MethodName := ⟨RX1, "everyShip", "()I"⟩
abbrev cX1_levelOf : ByteArray := prog_3_method_6_code
def yX1_levelOf : MethodName := ⟨RX1, "levelOf", "(I)I"⟩
abbrev cX1_leastOf : ByteArray := prog_3_method_7_code
def yX1_leastOf : MethodName := ⟨RX1, "leastOf", "(I)I"⟩
abbrev cX1_berthRest : ByteArray := prog_3_method_8_code
def yX1_berthRest : MethodName := ⟨RX1, "berthRest", "(III)V"⟩
abbrev cX1_tryBerth : ByteArray := prog_3_method_9_code
def yX1_tryBerth : MethodName := ⟨RX1, "tryBerth", "(IIIII)V"⟩
abbrev cX1_lay : ByteArray := prog_3_method_10_code
def yX1_lay : MethodName := ⟨RX1, "lay", "(IIII)V"⟩
abbrev cX1_narrow : ByteArray := prog_3_method_11_code
def yX1_narrow : MethodName := ⟨RX1, "narrow", "(III)V"⟩
abbrev cX1_keepIfAhead : ByteArray := prog_3_method_12_code
def yX1_keepIfAhead : MethodName := ⟨RX1, "keepIfAhead", "(I)V"⟩
abbrev cX1_isTriedAhead : ByteArray := prog_3_method_13_code
def yX1_isTriedAhead : MethodName := ⟨RX1, "isTriedAhead", "()Z"⟩
abbrev cX1_index : ByteArray := prog_3_method_14_code
def yX1_index : MethodName := ⟨RX1, "index", "(III)I"⟩
abbrev cX1_firstOf : ByteArray := prog_3_method_15_code
def yX1_firstOf : MethodName := ⟨RX1, "firstOf", "(I)I"⟩
def RX2 : String := "BerthPlan$Ship"
def TX2 : u_T := fun k => match k with
  | 0 => ("BerthPlan$Ship", "length", "I", false)
  | 1 => ("BerthPlan$Ship", "need", "I", false)
  | 2 => ("BerthPlan$Ship", "time", "I", false)
  | 3 => ("BerthPlan$Ship", "arrives", "I", false)
  | 4 => ("BerthPlan$Ship", "weight", "I", false)
  | 5 => ("BerthPlan$Ship", "wanted", "I", false)
  | 6 => ("BerthPlan$Ship", "isFixed", "Z", false)
  | 7 => ("BerthPlan$Ship", "fixedPlace", "I", false)
  | 8 => ("BerthPlan$Ship", "fixedHour", "I", false)
  | 9 => ("BerthPlan$Ship", "place", "I", false)
  | _ => ("BerthPlan$Ship", "hour", "I", false)
def tyX2 : Nat → FieldType := fun k => match k with
  | 0 => .int
  | 1 => .int
  | 2 => .int
  | 3 => .int
  | 4 => .int
  | 5 => .int
  | 6 => .boolean
  | 7 => .int
  | 8 => .int
  | 9 => .int
  | _ => .int
abbrev wsX20 : List Cond := u_ws RX2 TX2 11
theorem nmX2 : ∀ a, a < 11 → ∀ b, b < 11 → a ≠ b → (TX2 a).2.1 ≠ (TX2 b).2.1 := by decide +kernel
theorem tyX2_ok : ∀ k, k < 11 → parseFieldDescriptor (TX2 k).2.2.1 = some (tyX2 k) := by decide +kernel
abbrev cX2_init : ByteArray := prog_4_method_1_code
def yX2_init : MethodName := ⟨RX2, "<init>", "()V"⟩
abbrev cX2_latenessIf : ByteArray := prog_4_method_2_code
def yX2_latenessIf : MethodName := ⟨RX2, "latenessIf", "(I)I"⟩
abbrev cX2_beginsAt : ByteArray := prog_4_method_3_code
def yX2_beginsAt : MethodName := ⟨RX2, "beginsAt", "(ILBerthPlan$Quay;)I"⟩
abbrev cX2_moveTo : ByteArray := prog_4_method_4_code
def yX2_moveTo : MethodName := ⟨RX2, "moveTo", "(II)Z"⟩
def RX3 : String := "BerthPlan"
def TX3 : u_T := fun k => match k with
  | 0 => ("BerthPlan", "quay", "LBerthPlan$Quay;", true)
  | 1 => ("BerthPlan", "ships", "[LBerthPlan$Ship;", true)
  | 2 => ("BerthPlan", "search", "LBerthPlan$Search;", true)
  | 3 => ("BerthPlan", "shipCount", "I", false)
  | _ => ("BerthPlan", "planned", "Z", false)
def tyX3 : Nat → FieldType := fun k => match k with
  | 0 => .object "BerthPlan$Quay"
  | 1 => .array (.object "BerthPlan$Ship")
  | 2 => .object "BerthPlan$Search"
  | 3 => .int
  | _ => .boolean
abbrev wsX30 : List Cond := u_ws RX3 TX3 5
theorem nmX3 : ∀ a, a < 5 → ∀ b, b < 5 → a ≠ b → (TX3 a).2.1 ≠ (TX3 b).2.1 := by decide +kernel
theorem tyX3_ok : ∀ k, k < 5 → parseFieldDescriptor (TX3 k).2.2.1 = some (tyX3 k) := by decide +kernel
abbrev cX3_init : ByteArray := prog_1_method_1_code
def yX3_init : MethodName := ⟨RX3, "<init>", "(I)V"⟩
abbrev cX3_ship : ByteArray := prog_1_method_2_code
def yX3_ship : MethodName := ⟨RX3, "ship", "(IIIII)I"⟩
abbrev cX3_depth : ByteArray := prog_1_method_3_code
def yX3_depth : MethodName := ⟨RX3, "depth", "(III)Z"⟩
abbrev cX3_gear : ByteArray := prog_1_method_4_code
def yX3_gear : MethodName := ⟨RX3, "gear", "(IIZ)Z"⟩
abbrev cX3_wants : ByteArray := prog_1_method_5_code
def yX3_wants : MethodName := ⟨RX3, "wants", "(IIZ)Z"⟩
abbrev cX3_tide : ByteArray := prog_1_method_6_code
def yX3_tide : MethodName := ⟨RX3, "tide", "(II)Z"⟩
abbrev cX3_fix : ByteArray := prog_1_method_7_code
def yX3_fix : MethodName := ⟨RX3, "fix", "(III)Z"⟩
abbrev cX3_free : ByteArray := prog_1_method_8_code
def yX3_free : MethodName := ⟨RX3, "free", "(I)Z"⟩
abbrev cX3_solve : ByteArray := prog_1_method_9_code
def yX3_solve : MethodName := ⟨RX3, "solve", "()I"⟩
abbrev cX3_at : ByteArray := prog_1_method_10_code
def yX3_at : MethodName := ⟨RX3, "at", "(II)I"⟩
abbrev cX3_lateness : ByteArray := prog_1_method_11_code
def yX3_lateness : MethodName := ⟨RX3, "lateness", "()I"⟩
abbrev cX3_bound : ByteArray := prog_1_method_12_code
def yX3_bound : MethodName := ⟨RX3, "bound", "()I"⟩
abbrev cX3_why : ByteArray := prog_1_method_13_code
def yX3_why : MethodName := ⟨RX3, "why", "(I)I"⟩
abbrev cX3_change : ByteArray := prog_1_method_14_code
def yX3_change : MethodName := ⟨RX3, "change", "(II)I"⟩
abbrev cX3_lies : ByteArray := prog_1_method_15_code
def yX3_lies : MethodName := ⟨RX3, "lies", "(II)I"⟩
abbrev cX3_share : ByteArray := prog_1_method_16_code
def yX3_share : MethodName := ⟨RX3, "share", "(III)J"⟩
abbrev cX3_count : ByteArray := prog_1_method_17_code
def yX3_count : MethodName := ⟨RX3, "count", "(I)I"⟩
abbrev cX3_countOfPlace : ByteArray := prog_1_method_18_code
def yX3_countOfPlace : MethodName := ⟨RX3, "countOfPlace", "(I)I"⟩
abbrev cX3_fixedShips : ByteArray := prog_1_method_19_code
def yX3_fixedShips : MethodName := ⟨RX3, "fixedShips", "()I"⟩
abbrev cX3_isShip : ByteArray := prog_1_method_20_code
def yX3_isShip : MethodName := ⟨RX3, "isShip", "(I)Z"⟩
abbrev cX3_meetsFixed : ByteArray := prog_1_method_21_code
def yX3_meetsFixed : MethodName := ⟨RX3, "meetsFixed", "(III)Z"⟩
abbrev cX3_moveShips : ByteArray := prog_1_method_22_code
def yX3_moveShips : MethodName := ⟨RX3, "moveShips", "()I"⟩
abbrev cX3_isWithin : ByteArray := prog_1_method_23_code
def yX3_isWithin : MethodName := ⟨RX3, "isWithin", "(III)Z"⟩
abbrev cX3_isKind : ByteArray := prog_1_method_24_code
def yX3_isKind : MethodName := ⟨RX3, "isKind", "(I)Z"⟩
abbrev cX3_hasBit : ByteArray := prog_1_method_25_code
def yX3_hasBit : MethodName := ⟨RX3, "hasBit", "(II)Z"⟩
abbrev cX3_isSpanAt : ByteArray := prog_1_method_26_code
def yX3_isSpanAt : MethodName := ⟨RX3, "isSpanAt", "(III)Z"⟩
abbrev cX3_spansMeet : ByteArray := prog_1_method_27_code
def yX3_spansMeet : MethodName := ⟨RX3, "spansMeet", "(IIII)Z"⟩
abbrev cX3_beginsBetween : ByteArray := prog_1_method_28_code
def yX3_beginsBetween : MethodName := ⟨RX3, "beginsBetween", "(II)I"⟩
def RX4 : String := "BerthPlanModel"
def TX4 : u_T := fun k => match k with
  | 0 => ("BerthPlanModel", "thrown", "I", false)
  | 1 => ("BerthPlanModel", "places", "I", true)
  | 2 => ("BerthPlanModel", "ships", "I", false)
  | 3 => ("BerthPlanModel", "spans", "I", false)
  | 4 => ("BerthPlanModel", "isPlan", "Z", false)
  | 5 => ("BerthPlanModel", "depthOf", "[I", true)
  | 6 => ("BerthPlanModel", "gearOf", "[I", true)
  | 7 => ("BerthPlanModel", "spanFrom", "[I", true)
  | 8 => ("BerthPlanModel", "spanTo", "[I", true)
  | 9 => ("BerthPlanModel", "length", "[I", true)
  | 10 => ("BerthPlanModel", "need", "[I", true)
  | 11 => ("BerthPlanModel", "time", "[I", true)
  | 12 => ("BerthPlanModel", "arrives", "[I", true)
  | 13 => ("BerthPlanModel", "weight", "[I", true)
  | 14 => ("BerthPlanModel", "kinds", "[I", true)
  | 15 => ("BerthPlanModel", "fixed", "[I", true)
  | 16 => ("BerthPlanModel", "berth", "[I", true)
  | 17 => ("BerthPlanModel", "tried", "[I", true)
  | _ => ("BerthPlanModel", "least", "[I", true)
def tyX4 : Nat → FieldType := fun k => match k with
  | 0 => .int
  | 1 => .int
  | 2 => .int
  | 3 => .int
  | 4 => .boolean
  | 5 => .array .int
  | 6 => .array .int
  | 7 => .array .int
  | 8 => .array .int
  | 9 => .array .int
  | 10 => .array .int
  | 11 => .array .int
  | 12 => .array .int
  | 13 => .array .int
  | 14 => .array .int
  | 15 => .array .int
  | 16 => .array .int
  | 17 => .array .int
  | _ => .array .int
abbrev wsX40 : List Cond := u_ws RX4 TX4 19
theorem nmX4 : ∀ a, a < 19 → ∀ b, b < 19 → a ≠ b → (TX4 a).2.1 ≠ (TX4 b).2.1 := by decide +kernel
theorem tyX4_ok : ∀ k, k < 19 → parseFieldDescriptor (TX4 k).2.2.1 = some (tyX4 k) := by decide +kernel
abbrev cX4_init : ByteArray := prog_6_method_1_code
def yX4_init : MethodName := ⟨RX4, "<init>", "(I)V"⟩
abbrev cX4_thrown : ByteArray := prog_6_method_2_code
def yX4_thrown : MethodName := ⟨RX4, "thrown", "()I"⟩
abbrev cX4_in : ByteArray := prog_6_method_3_code
def yX4_in : MethodName := ⟨RX4, "in", "(III)Z"⟩
abbrev cX4_isPlace : ByteArray := prog_6_method_4_code
def yX4_isPlace : MethodName := ⟨RX4, "isPlace", "(I)Z"⟩
abbrev cX4_isShip : ByteArray := prog_6_method_5_code
def yX4_isShip : MethodName := ⟨RX4, "isShip", "(I)Z"⟩
abbrev cX4_ship : ByteArray := prog_6_method_6_code
def yX4_ship : MethodName := ⟨RX4, "ship", "(IIIII)I"⟩
abbrev cX4_depth : ByteArray := prog_6_method_7_code
def yX4_depth : MethodName := ⟨RX4, "depth", "(III)Z"⟩
abbrev cX4_bit : ByteArray := prog_6_method_8_code
def yX4_bit : MethodName := ⟨RX4, "bit", "(II)Z"⟩
abbrev cX4_gear : ByteArray := prog_6_method_9_code
def yX4_gear : MethodName := ⟨RX4, "gear", "(IIZ)Z"⟩
abbrev cX4_wants : ByteArray := prog_6_method_10_code
def yX4_wants : MethodName := ⟨RX4, "wants", "(IIZ)Z"⟩
abbrev cX4_tide : ByteArray := prog_6_method_11_code
def yX4_tide : MethodName := ⟨RX4, "tide", "(II)Z"⟩
abbrev cX4_meet : ByteArray := prog_6_method_12_code
def yX4_meet : MethodName := ⟨RX4, "meet", "(IIII)Z"⟩
abbrev cX4_fix : ByteArray := prog_6_method_13_code
def yX4_fix : MethodName := ⟨RX4, "fix", "(III)Z"⟩
abbrev cX4_free : ByteArray := prog_6_method_14_code
def yX4_free : MethodName := ⟨RX4, "free", "(I)Z"⟩
abbrev cX4_isDeep : ByteArray := prog_6_method_15_code
def yX4_isDeep : MethodName := ⟨RX4, "isDeep", "(II)Z"⟩
abbrev cX4_hasGear : ByteArray := prog_6_method_16_code
def yX4_hasGear : MethodName := ⟨RX4, "hasGear", "(II)Z"⟩
abbrev cX4_isTide : ByteArray := prog_6_method_17_code
def yX4_isTide : MethodName := ⟨RX4, "isTide", "(I)Z"⟩
abbrev cX4_mayBe : ByteArray := prog_6_method_18_code
def yX4_mayBe : MethodName := ⟨RX4, "mayBe", "(II)Z"⟩
abbrev cX4_cost : ByteArray := prog_6_method_19_code
def yX4_cost : MethodName := ⟨RX4, "cost", "(II)I"⟩
abbrev cX4_leastOf : ByteArray := prog_6_method_20_code
def yX4_leastOf : MethodName := ⟨RX4, "leastOf", "(I)I"⟩
abbrev cX4_isClear : ByteArray := prog_6_method_21_code
def yX4_isClear : MethodName := ⟨RX4, "isClear", "(II)Z"⟩
abbrev cX4_costUpTo : ByteArray := prog_6_method_22_code
def yX4_costUpTo : MethodName := ⟨RX4, "costUpTo", "(I)I"⟩
abbrev cX4_search : ByteArray := prog_6_method_23_code
def yX4_search : MethodName := ⟨RX4, "search", "()Z"⟩
abbrev cX4_solve : ByteArray := prog_6_method_24_code
def yX4_solve : MethodName := ⟨RX4, "solve", "()I"⟩
abbrev cX4_at : ByteArray := prog_6_method_25_code
def yX4_at : MethodName := ⟨RX4, "at", "(II)I"⟩
abbrev cX4_lateness : ByteArray := prog_6_method_26_code
def yX4_lateness : MethodName := ⟨RX4, "lateness", "()I"⟩
abbrev cX4_bound : ByteArray := prog_6_method_27_code
def yX4_bound : MethodName := ⟨RX4, "bound", "()I"⟩
abbrev cX4_why : ByteArray := prog_6_method_28_code
def yX4_why : MethodName := ⟨RX4, "why", "(I)I"⟩
abbrev cX4_change : ByteArray := prog_6_method_29_code
def yX4_change : MethodName := ⟨RX4, "change", "(II)I"⟩
abbrev cX4_lies : ByteArray := prog_6_method_30_code
def yX4_lies : MethodName := ⟨RX4, "lies", "(II)I"⟩
abbrev cX4_share : ByteArray := prog_6_method_31_code
def yX4_share : MethodName := ⟨RX4, "share", "(III)J"⟩
abbrev cX4_count : ByteArray := prog_6_method_32_code
def yX4_count : MethodName := ⟨RX4, "count", "(I)I"⟩
def RJ6 : String := "java/lang/Integer"
def TJ6 : u_T := fun k => match k with
  | _ => ("", "", "", false)
def tyJ6 : Nat → FieldType := fun k => match k with
  | _ => .int
abbrev wsJ60 : List Cond := u_ws RJ6 TJ6 0
theorem nmJ6 : ∀ a, a < 0 → ∀ b, b < 0 → a ≠ b → (TJ6 a).2.1 ≠ (TJ6 b).2.1 := by decide +kernel
theorem tyJ6_ok : ∀ k, k < 0 → parseFieldDescriptor (TJ6 k).2.2.1 = some (tyJ6 k) := by decide +kernel
abbrev cJ6_bitCount_0f7a4 : ByteArray := prog_12_method_49_code
def yJ6_bitCount_0f7a4 : MethodName := ⟨RJ6, "bitCount", "(I)I"⟩
def RJ9 : String := "java/lang/Math"
def TJ9 : u_T := fun k => match k with
  | _ => ("", "", "", false)
def tyJ9 : Nat → FieldType := fun k => match k with
  | _ => .int
abbrev wsJ90 : List Cond := u_ws RJ9 TJ9 0
theorem nmJ9 : ∀ a, a < 0 → ∀ b, b < 0 → a ≠ b → (TJ9 a).2.1 ≠ (TJ9 b).2.1 := by decide +kernel
theorem tyJ9_ok : ∀ k, k < 0 → parseFieldDescriptor (TJ9 k).2.2.1 = some (tyJ9 k) := by decide +kernel
abbrev cJ9_max_7cf53 : ByteArray := prog_13_method_65_code
def yJ9_max_7cf53 : MethodName := ⟨RJ9, "max", "(II)I"⟩
abbrev cJ9_min_7cf53 : ByteArray := prog_13_method_69_code
def yJ9_min_7cf53 : MethodName := ⟨RJ9, "min", "(II)I"⟩
def RJ0 : String := "java/lang/String"
def TJ0 : u_T := fun k => match k with
  | _ => ("", "", "", false)
def tyJ0 : Nat → FieldType := fun k => match k with
  | _ => .int
abbrev wsJ00 : List Cond := u_ws RJ0 TJ0 0
theorem nmJ0 : ∀ a, a < 0 → ∀ b, b < 0 → a ≠ b → (TJ0 a).2.1 ≠ (TJ0 b).2.1 := by decide +kernel
theorem tyJ0_ok : ∀ k, k < 0 → parseFieldDescriptor (TJ0 k).2.2.1 = some (tyJ0 k) := by decide +kernel
def RL : String := "BerthPlanLaw"
abbrev cL_cell : ByteArray := method_2_code
def yL_cell : MethodName := ⟨RL, "cell", "([II)I"⟩
abbrev cL_ship : ByteArray := method_3_code
def yL_ship : MethodName := ⟨RL, "ship", "(LBerthPlan;IIIII[J)I"⟩
abbrev cL_at : ByteArray := method_4_code
def yL_at : MethodName := ⟨RL, "at", "(LBerthPlan;II[J)I"⟩
abbrev cL_lateness : ByteArray := method_5_code
def yL_lateness : MethodName := ⟨RL, "lateness", "(LBerthPlan;[J)I"⟩
abbrev cL_why : ByteArray := method_6_code
def yL_why : MethodName := ⟨RL, "why", "(LBerthPlan;I[J)I"⟩
abbrev cL_change : ByteArray := method_7_code
def yL_change : MethodName := ⟨RL, "change", "(LBerthPlan;II[J)I"⟩
abbrev cL_lies : ByteArray := method_8_code
def yL_lies : MethodName := ⟨RL, "lies", "(LBerthPlan;II[J)I"⟩
abbrev cL_share : ByteArray := method_9_code
def yL_share : MethodName := ⟨RL, "share", "(LBerthPlan;III[J)I"⟩
abbrev cL_law : ByteArray := code
def yL_law : MethodName := ⟨RL, "law", "([I)Z"⟩
def wsX0_init : List Cond := .code yX0_init cX0_init 3 none :: ([.methodLink RX0 3 objectInit, .instanceMethod objectInit, .code objectInit ⟨#[0xb1]⟩ 1 none, .fieldLink RX0 9 "BerthPlan$Quay" "places" "I", .arrayClass .int, .fieldLink RX0 15 "BerthPlan$Quay" "depths" "[I", .fieldLink RX0 19 "BerthPlan$Quay" "gears" "[I"] ++ wsX00)
def wsX0_isPlace : List Cond := .code yX0_isPlace cX0_isPlace 2 (some .boolean) :: ([.fieldLink RX0 9 "BerthPlan$Quay" "places" "I"] ++ wsX00)
def wsX0_isRow : List Cond := .code yX0_isRow cX0_isRow 3 (some .boolean) :: ([.fieldLink RX0 9 "BerthPlan$Quay" "places" "I"] ++ wsX00)
def wsX0_placesOf : List Cond := .code yX0_placesOf cX0_placesOf 4 (some .int) :: ([.fieldLink RX0 9 "BerthPlan$Quay" "places" "I", .fieldLink RX0 15 "BerthPlan$Quay" "depths" "[I"] ++ wsX00)
def wsX0_suits : List Cond := .code yX0_suits cX0_suits 7 (some .boolean) :: ([.fieldLink RX0 15 "BerthPlan$Quay" "depths" "[I", .fieldLink RX0 19 "BerthPlan$Quay" "gears" "[I", .methodLink RX0 22 yX0_isRow, .instanceMethod yX0_isRow, .selects RX0 yX0_isRow yX0_isRow, .initialized RX0, .code yX0_isRow cX0_isRow 3 (some .boolean), .fieldLink RX0 9 "BerthPlan$Quay" "places" "I"] ++ wsX00)
def wsX0_hasRow : List Cond := .code yX0_hasRow cX0_hasRow 5 (some .boolean) :: ([.fieldLink RX0 9 "BerthPlan$Quay" "places" "I", .methodLink RX0 26 yX0_suits, .instanceMethod yX0_suits, .selects RX0 yX0_suits yX0_suits, .initialized RX0, .code yX0_suits cX0_suits 7 (some .boolean), .fieldLink RX0 15 "BerthPlan$Quay" "depths" "[I", .fieldLink RX0 19 "BerthPlan$Quay" "gears" "[I", .methodLink RX0 22 yX0_isRow, .instanceMethod yX0_isRow, .selects RX0 yX0_isRow yX0_isRow, .code yX0_isRow cX0_isRow 3 (some .boolean)] ++ wsX00)
def wsX3_beginsBetween : List Cond := .code yX3_beginsBetween cX3_beginsBetween 4 (some .int) :: ([])
def wsX0_beginsFrom : List Cond := .code yX0_beginsFrom cX0_beginsFrom 3 (some .int) :: ([.fieldLink RX0 34 "BerthPlan$Quay" "tideSpans" "I", .fieldLink RX0 37 "BerthPlan$Quay" "tideHours" "I", .static yX3_beginsBetween, .initialized RX3, .code yX3_beginsBetween cX3_beginsBetween 4 (some .int)] ++ wsX00)
def wsX1_init : List Cond := .code yX1_init cX1_init 1 none :: ([.methodLink RX1 3 objectInit, .instanceMethod objectInit, .code objectInit ⟨#[0xb1]⟩ 1 none, .arrayClass .int, .fieldLink RX1 9 "BerthPlan$Search" "begins" "[I", .fieldLink RX1 15 "BerthPlan$Search" "triedPlaces" "[I", .fieldLink RX1 18 "BerthPlan$Search" "triedHours" "[I", .fieldLink RX1 21 "BerthPlan$Search" "bestPlaces" "[I", .fieldLink RX1 24 "BerthPlan$Search" "bestHours" "[I", .classLink RX1 27 RX2, .fieldLink RX1 29 "BerthPlan$Search" "ships" "[LBerthPlan$Ship;"] ++ wsX10)
def wsX1_index : List Cond := .code yX1_index cX1_index 3 (some .int) :: ([])
def wsX2_beginsAt_r1 : List Cond := [Cond.fieldLink RX2 16 "BerthPlan$Ship" "isFixed" "Z", Cond.fieldLink RX2 20 "BerthPlan$Ship" "fixedPlace" "I", Cond.fieldLink RX2 23 "BerthPlan$Ship" "fixedHour" "I", Cond.fieldLink RX2 26 "BerthPlan$Ship" "length" "I", Cond.fieldLink RX2 29 "BerthPlan$Ship" "need" "I", Cond.fieldLink RX2 32 "BerthPlan$Ship" "wanted" "I", Cond.fieldLink RX2 13 "BerthPlan$Ship" "arrives" "I", Cond.methodLink RX2 35 yX0_suits, Cond.instanceMethod yX0_suits, Cond.selects RX0 yX0_suits yX0_suits, Cond.initialized RX0, Cond.code yX0_suits cX0_suits 7 (some .boolean), Cond.fieldLink RX0 15 "BerthPlan$Quay" "depths" "[I", Cond.fieldLink RX0 19 "BerthPlan$Quay" "gears" "[I", Cond.methodLink RX0 22 yX0_isRow, Cond.instanceMethod yX0_isRow, Cond.selects RX0 yX0_isRow yX0_isRow, Cond.code yX0_isRow cX0_isRow 3 (some .boolean), Cond.fieldLink RX0 9 "BerthPlan$Quay" "places" "I", Cond.methodLink RX2 41 yX0_beginsFrom, Cond.instanceMethod yX0_beginsFrom, Cond.selects RX0 yX0_beginsFrom yX0_beginsFrom, Cond.code yX0_beginsFrom cX0_beginsFrom 3 (some .int), Cond.fieldLink RX0 34 "BerthPlan$Quay" "tideSpans" "I"]
def wsX2_beginsAt_r2 : List Cond := [Cond.fieldLink RX0 37 "BerthPlan$Quay" "tideHours" "I", Cond.static yX3_beginsBetween, Cond.initialized RX3, Cond.code yX3_beginsBetween cX3_beginsBetween 4 (some .int)]
def wsX2_beginsAt : List Cond := .code yX2_beginsAt cX2_beginsAt 3 (some .int) :: ((wsX2_beginsAt_r1 ++ wsX2_beginsAt_r2) ++ wsX20 ++ wsX00)
def wsX1_openAll_r1 : List Cond := [Cond.fieldLink RX1 29 "BerthPlan$Search" "ships" "[LBerthPlan$Ship;", Cond.methodLink RX1 55 Lib.Math.min.name, Cond.static Lib.Math.min.name, Cond.initialized "java/lang/Math", Cond.code Lib.Math.min.name Lib.Math.min.code 2 (some .int), Cond.fieldLink RX1 61 "BerthPlan$Search" "shipCount" "I", Cond.fieldLink RX1 64 "BerthPlan$Quay" "places" "I", Cond.fieldLink RX1 69 "BerthPlan$Search" "places" "I", Cond.fieldLink RX1 9 "BerthPlan$Search" "begins" "[I", Cond.methodLink RX1 70 yX1_index, Cond.static yX1_index, Cond.initialized RX1, Cond.code yX1_index cX1_index 3 (some .int), Cond.methodLink RX1 74 yX2_beginsAt, Cond.instanceMethod yX2_beginsAt, Cond.selects RX2 yX2_beginsAt yX2_beginsAt, Cond.initialized RX2, Cond.code yX2_beginsAt cX2_beginsAt 3 (some .int), Cond.fieldLink RX2 16 "BerthPlan$Ship" "isFixed" "Z", Cond.fieldLink RX2 20 "BerthPlan$Ship" "fixedPlace" "I", Cond.fieldLink RX2 23 "BerthPlan$Ship" "fixedHour" "I", Cond.fieldLink RX2 26 "BerthPlan$Ship" "length" "I", Cond.fieldLink RX2 29 "BerthPlan$Ship" "need" "I", Cond.fieldLink RX2 32 "BerthPlan$Ship" "wanted" "I"]
def wsX1_openAll_r2 : List Cond := [Cond.fieldLink RX2 13 "BerthPlan$Ship" "arrives" "I", Cond.methodLink RX2 35 yX0_suits, Cond.instanceMethod yX0_suits, Cond.selects RX0 yX0_suits yX0_suits, Cond.initialized RX0, Cond.code yX0_suits cX0_suits 7 (some .boolean), Cond.fieldLink RX0 15 "BerthPlan$Quay" "depths" "[I", Cond.fieldLink RX0 19 "BerthPlan$Quay" "gears" "[I", Cond.methodLink RX0 22 yX0_isRow, Cond.instanceMethod yX0_isRow, Cond.selects RX0 yX0_isRow yX0_isRow, Cond.code yX0_isRow cX0_isRow 3 (some .boolean), Cond.fieldLink RX0 9 "BerthPlan$Quay" "places" "I", Cond.methodLink RX2 41 yX0_beginsFrom, Cond.instanceMethod yX0_beginsFrom, Cond.selects RX0 yX0_beginsFrom yX0_beginsFrom, Cond.code yX0_beginsFrom cX0_beginsFrom 3 (some .int), Cond.fieldLink RX0 34 "BerthPlan$Quay" "tideSpans" "I", Cond.fieldLink RX0 37 "BerthPlan$Quay" "tideHours" "I", Cond.static yX3_beginsBetween, Cond.initialized RX3, Cond.code yX3_beginsBetween cX3_beginsBetween 4 (some .int)]
def wsX1_openAll : List Cond := .code yX1_openAll cX1_openAll 6 none :: ((wsX1_openAll_r1 ++ wsX1_openAll_r2) ++ wsX10 ++ wsX00 ++ wsX20)
def wsX1_everyShip : List Cond := .code yX1_everyShip cX1_everyShip 1 (some .int) :: ([.fieldLink RX1 61 "BerthPlan$Search" "shipCount" "I"] ++ wsX10)
def wsJ6_bitCount_0f7a4 : List Cond := .code yJ6_bitCount_0f7a4 cJ6_bitCount_0f7a4 1 (some .int) :: ([.constant RJ6 265 (1431655765), .constant RJ6 266 (858993459), .constant RJ6 267 (252645135)])
def wsX1_levelOf : List Cond := .code yX1_levelOf cX1_levelOf 2 (some .int) :: ([.fieldLink RX1 61 "BerthPlan$Search" "shipCount" "I", .methodLink RX1 78 yJ6_bitCount_0f7a4, .static yJ6_bitCount_0f7a4, .initialized RJ6, .code yJ6_bitCount_0f7a4 cJ6_bitCount_0f7a4 1 (some .int), .constant RJ6 265 (1431655765), .constant RJ6 266 (858993459), .constant RJ6 267 (252645135)] ++ wsX10)
def wsX3_hasBit : List Cond := .code yX3_hasBit cX3_hasBit 2 (some .boolean) :: ([])
def wsX1_firstOf : List Cond := .code yX1_firstOf cX1_firstOf 1 (some .int) :: ([.methodLink RX1 78 yJ6_bitCount_0f7a4, .static yJ6_bitCount_0f7a4, .initialized RJ6, .code yJ6_bitCount_0f7a4 cJ6_bitCount_0f7a4 1 (some .int), .constant RJ6 265 (1431655765), .constant RJ6 266 (858993459), .constant RJ6 267 (252645135)])
def wsX2_latenessIf : List Cond := .code yX2_latenessIf cX2_latenessIf 2 (some .int) :: ([.fieldLink RX2 7 "BerthPlan$Ship" "weight" "I", .fieldLink RX2 13 "BerthPlan$Ship" "arrives" "I"] ++ wsX20)
def wsX1_leastOf_r1 : List Cond := [Cond.fieldLink RX1 61 "BerthPlan$Search" "shipCount" "I", Cond.fieldLink RX1 69 "BerthPlan$Search" "places" "I", Cond.fieldLink RX1 9 "BerthPlan$Search" "begins" "[I", Cond.constant RX1 50 (1000000), Cond.fieldLink RX1 29 "BerthPlan$Search" "ships" "[LBerthPlan$Ship;", Cond.methodLink RX1 83 yX1_levelOf, Cond.instanceMethod yX1_levelOf, Cond.selects RX1 yX1_levelOf yX1_levelOf, Cond.initialized RX1, Cond.code yX1_levelOf cX1_levelOf 2 (some .int), Cond.methodLink RX1 78 yJ6_bitCount_0f7a4, Cond.static yJ6_bitCount_0f7a4, Cond.initialized RJ6, Cond.code yJ6_bitCount_0f7a4 cJ6_bitCount_0f7a4 1 (some .int), Cond.constant RJ6 265 (1431655765), Cond.constant RJ6 266 (858993459), Cond.constant RJ6 267 (252645135), Cond.static yX3_hasBit, Cond.initialized RX3, Cond.code yX3_hasBit cX3_hasBit 2 (some .boolean), Cond.methodLink RX1 70 yX1_index, Cond.static yX1_index, Cond.code yX1_index cX1_index 3 (some .int), Cond.methodLink RX1 90 yX1_firstOf]
def wsX1_leastOf_r2 : List Cond := [Cond.static yX1_firstOf, Cond.code yX1_firstOf cX1_firstOf 1 (some .int), Cond.methodLink RX1 93 yX2_latenessIf, Cond.instanceMethod yX2_latenessIf, Cond.selects RX2 yX2_latenessIf yX2_latenessIf, Cond.initialized RX2, Cond.code yX2_latenessIf cX2_latenessIf 2 (some .int), Cond.fieldLink RX2 7 "BerthPlan$Ship" "weight" "I", Cond.fieldLink RX2 13 "BerthPlan$Ship" "arrives" "I"]
def wsX1_leastOf : List Cond := .code yX1_leastOf cX1_leastOf 7 (some .int) :: ((wsX1_leastOf_r1 ++ wsX1_leastOf_r2) ++ wsX10 ++ wsX20)
def wsX1_isTriedAhead : List Cond := .code yX1_isTriedAhead cX1_isTriedAhead 2 (some .boolean) :: ([.fieldLink RX1 61 "BerthPlan$Search" "shipCount" "I", .fieldLink RX1 18 "BerthPlan$Search" "triedHours" "[I", .fieldLink RX1 24 "BerthPlan$Search" "bestHours" "[I", .fieldLink RX1 15 "BerthPlan$Search" "triedPlaces" "[I", .fieldLink RX1 21 "BerthPlan$Search" "bestPlaces" "[I"] ++ wsX10)
def wsX1_keepIfAhead : List Cond := .code yX1_keepIfAhead cX1_keepIfAhead 3 none :: ([.fieldLink RX1 38 "BerthPlan$Search" "best" "I", .fieldLink RX1 61 "BerthPlan$Search" "shipCount" "I", .fieldLink RX1 21 "BerthPlan$Search" "bestPlaces" "[I", .fieldLink RX1 15 "BerthPlan$Search" "triedPlaces" "[I", .fieldLink RX1 24 "BerthPlan$Search" "bestHours" "[I", .fieldLink RX1 18 "BerthPlan$Search" "triedHours" "[I", .methodLink RX1 124 yX1_isTriedAhead, .instanceMethod yX1_isTriedAhead, .selects RX1 yX1_isTriedAhead yX1_isTriedAhead, .initialized RX1, .code yX1_isTriedAhead cX1_isTriedAhead 2 (some .boolean)] ++ wsX10)
def wsX3_spansMeet : List Cond := .code yX3_spansMeet cX3_spansMeet 4 (some .boolean) :: ([])
def wsX1_narrow : List Cond := .code yX1_narrow cX1_narrow 11 none :: ([.fieldLink RX1 29 "BerthPlan$Search" "ships" "[LBerthPlan$Ship;", .fieldLink RX1 111 "BerthPlan$Ship" "time" "I", .fieldLink RX1 18 "BerthPlan$Search" "triedHours" "[I", .fieldLink RX1 69 "BerthPlan$Search" "places" "I", .fieldLink RX1 15 "BerthPlan$Search" "triedPlaces" "[I", .fieldLink RX1 117 "BerthPlan$Ship" "length" "I", .fieldLink RX1 9 "BerthPlan$Search" "begins" "[I", .static yX3_beginsBetween, .initialized RX3, .code yX3_beginsBetween cX3_beginsBetween 4 (some .int), .static yX3_spansMeet, .code yX3_spansMeet cX3_spansMeet 4 (some .boolean), .methodLink RX1 70 yX1_index, .static yX1_index, .initialized RX1, .code yX1_index cX1_index 3 (some .int)] ++ wsX10 ++ wsX20)
def wsX1_lay_r1 : List Cond := [Cond.fieldLink RX1 15 "BerthPlan$Search" "triedPlaces" "[I", Cond.fieldLink RX1 18 "BerthPlan$Search" "triedHours" "[I", Cond.fieldLink RX1 61 "BerthPlan$Search" "shipCount" "I", Cond.methodLink RX1 83 yX1_levelOf, Cond.instanceMethod yX1_levelOf, Cond.selects RX1 yX1_levelOf yX1_levelOf, Cond.initialized RX1, Cond.code yX1_levelOf cX1_levelOf 2 (some .int), Cond.methodLink RX1 78 yJ6_bitCount_0f7a4, Cond.static yJ6_bitCount_0f7a4, Cond.initialized RJ6, Cond.code yJ6_bitCount_0f7a4 cJ6_bitCount_0f7a4 1 (some .int), Cond.constant RJ6 265 (1431655765), Cond.constant RJ6 266 (858993459), Cond.constant RJ6 267 (252645135), Cond.static yX3_hasBit, Cond.initialized RX3, Cond.code yX3_hasBit cX3_hasBit 2 (some .boolean), Cond.methodLink RX1 108 yX1_narrow, Cond.instanceMethod yX1_narrow, Cond.selects RX1 yX1_narrow yX1_narrow, Cond.code yX1_narrow cX1_narrow 11 none, Cond.fieldLink RX1 29 "BerthPlan$Search" "ships" "[LBerthPlan$Ship;", Cond.fieldLink RX1 111 "BerthPlan$Ship" "time" "I"]
def wsX1_lay_r2 : List Cond := [Cond.fieldLink RX1 69 "BerthPlan$Search" "places" "I", Cond.fieldLink RX1 117 "BerthPlan$Ship" "length" "I", Cond.fieldLink RX1 9 "BerthPlan$Search" "begins" "[I", Cond.static yX3_beginsBetween, Cond.code yX3_beginsBetween cX3_beginsBetween 4 (some .int), Cond.static yX3_spansMeet, Cond.code yX3_spansMeet cX3_spansMeet 4 (some .boolean), Cond.methodLink RX1 70 yX1_index, Cond.static yX1_index, Cond.code yX1_index cX1_index 3 (some .int)]
def wsX1_lay : List Cond := .code yX1_lay cX1_lay 7 none :: ((wsX1_lay_r1 ++ wsX1_lay_r2) ++ wsX10 ++ wsX20)
def wsX1_berthRest_r1 : List Cond := [Cond.fieldLink RX1 61 "BerthPlan$Search" "shipCount" "I", Cond.fieldLink RX1 69 "BerthPlan$Search" "places" "I", Cond.methodLink RX1 96 yX1_keepIfAhead, Cond.instanceMethod yX1_keepIfAhead, Cond.selects RX1 yX1_keepIfAhead yX1_keepIfAhead, Cond.initialized RX1, Cond.code yX1_keepIfAhead cX1_keepIfAhead 3 none, Cond.fieldLink RX1 38 "BerthPlan$Search" "best" "I", Cond.fieldLink RX1 21 "BerthPlan$Search" "bestPlaces" "[I", Cond.fieldLink RX1 15 "BerthPlan$Search" "triedPlaces" "[I", Cond.fieldLink RX1 24 "BerthPlan$Search" "bestHours" "[I", Cond.fieldLink RX1 18 "BerthPlan$Search" "triedHours" "[I", Cond.methodLink RX1 124 yX1_isTriedAhead, Cond.instanceMethod yX1_isTriedAhead, Cond.selects RX1 yX1_isTriedAhead yX1_isTriedAhead, Cond.code yX1_isTriedAhead cX1_isTriedAhead 2 (some .boolean), Cond.static yX3_hasBit, Cond.initialized RX3, Cond.code yX3_hasBit cX3_hasBit 2 (some .boolean), Cond.methodLink RX1 100 yX1_tryBerth, Cond.instanceMethod yX1_tryBerth, Cond.selects RX1 yX1_tryBerth yX1_tryBerth, Cond.code yX1_tryBerth cX1_tryBerth 11 none, Cond.fieldLink RX1 9 "BerthPlan$Search" "begins" "[I"]
def wsX1_berthRest_r2 : List Cond := [Cond.fieldLink RX1 29 "BerthPlan$Search" "ships" "[LBerthPlan$Ship;", Cond.methodLink RX1 83 yX1_levelOf, Cond.instanceMethod yX1_levelOf, Cond.selects RX1 yX1_levelOf yX1_levelOf, Cond.code yX1_levelOf cX1_levelOf 2 (some .int), Cond.methodLink RX1 78 yJ6_bitCount_0f7a4, Cond.static yJ6_bitCount_0f7a4, Cond.initialized RJ6, Cond.code yJ6_bitCount_0f7a4 cJ6_bitCount_0f7a4 1 (some .int), Cond.constant RJ6 265 (1431655765), Cond.constant RJ6 266 (858993459), Cond.constant RJ6 267 (252645135), Cond.methodLink RX1 70 yX1_index, Cond.static yX1_index, Cond.code yX1_index cX1_index 3 (some .int), Cond.methodLink RX1 90 yX1_firstOf, Cond.static yX1_firstOf, Cond.code yX1_firstOf cX1_firstOf 1 (some .int), Cond.methodLink RX1 104 yX1_lay, Cond.instanceMethod yX1_lay, Cond.selects RX1 yX1_lay yX1_lay, Cond.code yX1_lay cX1_lay 7 none, Cond.methodLink RX1 108 yX1_narrow, Cond.instanceMethod yX1_narrow]
def wsX1_berthRest_r3 : List Cond := [Cond.selects RX1 yX1_narrow yX1_narrow, Cond.code yX1_narrow cX1_narrow 11 none, Cond.fieldLink RX1 111 "BerthPlan$Ship" "time" "I", Cond.fieldLink RX1 117 "BerthPlan$Ship" "length" "I", Cond.static yX3_beginsBetween, Cond.code yX3_beginsBetween cX3_beginsBetween 4 (some .int), Cond.static yX3_spansMeet, Cond.code yX3_spansMeet cX3_spansMeet 4 (some .boolean), Cond.methodLink RX1 93 yX2_latenessIf, Cond.instanceMethod yX2_latenessIf, Cond.selects RX2 yX2_latenessIf yX2_latenessIf, Cond.initialized RX2, Cond.code yX2_latenessIf cX2_latenessIf 2 (some .int), Cond.fieldLink RX2 7 "BerthPlan$Ship" "weight" "I", Cond.fieldLink RX2 13 "BerthPlan$Ship" "arrives" "I", Cond.methodLink RX1 46 yX1_leastOf, Cond.instanceMethod yX1_leastOf, Cond.selects RX1 yX1_leastOf yX1_leastOf, Cond.code yX1_leastOf cX1_leastOf 7 (some .int), Cond.constant RX1 50 (1000000), Cond.methodLink RX1 51 yX1_berthRest, Cond.instanceMethod yX1_berthRest, Cond.selects RX1 yX1_berthRest yX1_berthRest]
def wsX1_berthRest : List Cond := .code yX1_berthRest cX1_berthRest 6 none :: ((wsX1_berthRest_r1 ++ (wsX1_berthRest_r2 ++ wsX1_berthRest_r3)) ++ wsX10 ++ wsX20)
def wsX1_tryBerth_r1 : List Cond := [Cond.fieldLink RX1 9 "BerthPlan$Search" "begins" "[I", Cond.fieldLink RX1 29 "BerthPlan$Search" "ships" "[LBerthPlan$Ship;", Cond.fieldLink RX1 38 "BerthPlan$Search" "best" "I", Cond.methodLink RX1 83 yX1_levelOf, Cond.instanceMethod yX1_levelOf, Cond.selects RX1 yX1_levelOf yX1_levelOf, Cond.initialized RX1, Cond.code yX1_levelOf cX1_levelOf 2 (some .int), Cond.fieldLink RX1 61 "BerthPlan$Search" "shipCount" "I", Cond.methodLink RX1 78 yJ6_bitCount_0f7a4, Cond.static yJ6_bitCount_0f7a4, Cond.initialized RJ6, Cond.code yJ6_bitCount_0f7a4 cJ6_bitCount_0f7a4 1 (some .int), Cond.constant RJ6 265 (1431655765), Cond.constant RJ6 266 (858993459), Cond.constant RJ6 267 (252645135), Cond.methodLink RX1 70 yX1_index, Cond.static yX1_index, Cond.code yX1_index cX1_index 3 (some .int), Cond.methodLink RX1 90 yX1_firstOf, Cond.static yX1_firstOf, Cond.code yX1_firstOf cX1_firstOf 1 (some .int), Cond.methodLink RX1 104 yX1_lay, Cond.instanceMethod yX1_lay]
def wsX1_tryBerth_r2 : List Cond := [Cond.selects RX1 yX1_lay yX1_lay, Cond.code yX1_lay cX1_lay 7 none, Cond.fieldLink RX1 15 "BerthPlan$Search" "triedPlaces" "[I", Cond.fieldLink RX1 18 "BerthPlan$Search" "triedHours" "[I", Cond.static yX3_hasBit, Cond.initialized RX3, Cond.code yX3_hasBit cX3_hasBit 2 (some .boolean), Cond.methodLink RX1 108 yX1_narrow, Cond.instanceMethod yX1_narrow, Cond.selects RX1 yX1_narrow yX1_narrow, Cond.code yX1_narrow cX1_narrow 11 none, Cond.fieldLink RX1 111 "BerthPlan$Ship" "time" "I", Cond.fieldLink RX1 69 "BerthPlan$Search" "places" "I", Cond.fieldLink RX1 117 "BerthPlan$Ship" "length" "I", Cond.static yX3_beginsBetween, Cond.code yX3_beginsBetween cX3_beginsBetween 4 (some .int), Cond.static yX3_spansMeet, Cond.code yX3_spansMeet cX3_spansMeet 4 (some .boolean), Cond.methodLink RX1 93 yX2_latenessIf, Cond.instanceMethod yX2_latenessIf, Cond.selects RX2 yX2_latenessIf yX2_latenessIf, Cond.initialized RX2, Cond.code yX2_latenessIf cX2_latenessIf 2 (some .int), Cond.fieldLink RX2 7 "BerthPlan$Ship" "weight" "I"]
def wsX1_tryBerth_r3 : List Cond := [Cond.fieldLink RX2 13 "BerthPlan$Ship" "arrives" "I", Cond.methodLink RX1 46 yX1_leastOf, Cond.instanceMethod yX1_leastOf, Cond.selects RX1 yX1_leastOf yX1_leastOf, Cond.code yX1_leastOf cX1_leastOf 7 (some .int), Cond.constant RX1 50 (1000000), Cond.methodLink RX1 51 yX1_berthRest, Cond.instanceMethod yX1_berthRest, Cond.selects RX1 yX1_berthRest yX1_berthRest, Cond.code yX1_berthRest cX1_berthRest 6 none, Cond.methodLink RX1 96 yX1_keepIfAhead, Cond.instanceMethod yX1_keepIfAhead, Cond.selects RX1 yX1_keepIfAhead yX1_keepIfAhead, Cond.code yX1_keepIfAhead cX1_keepIfAhead 3 none, Cond.fieldLink RX1 21 "BerthPlan$Search" "bestPlaces" "[I", Cond.fieldLink RX1 24 "BerthPlan$Search" "bestHours" "[I", Cond.methodLink RX1 124 yX1_isTriedAhead, Cond.instanceMethod yX1_isTriedAhead, Cond.selects RX1 yX1_isTriedAhead yX1_isTriedAhead, Cond.code yX1_isTriedAhead cX1_isTriedAhead 2 (some .boolean), Cond.methodLink RX1 100 yX1_tryBerth, Cond.instanceMethod yX1_tryBerth, Cond.selects RX1 yX1_tryBerth yX1_tryBerth]
def wsX1_tryBerth : List Cond := .code yX1_tryBerth cX1_tryBerth 11 none :: ((wsX1_tryBerth_r1 ++ (wsX1_tryBerth_r2 ++ wsX1_tryBerth_r3)) ++ wsX10 ++ wsX20)
def wsX1_finds_r1 : List Cond := [Cond.constant RX1 37 (100000), Cond.fieldLink RX1 38 "BerthPlan$Search" "best" "I", Cond.constant RX1 50 (1000000), Cond.methodLink RX1 33 yX1_openAll, Cond.instanceMethod yX1_openAll, Cond.selects RX1 yX1_openAll yX1_openAll, Cond.initialized RX1, Cond.code yX1_openAll cX1_openAll 6 none, Cond.fieldLink RX1 29 "BerthPlan$Search" "ships" "[LBerthPlan$Ship;", Cond.methodLink RX1 55 Lib.Math.min.name, Cond.static Lib.Math.min.name, Cond.initialized "java/lang/Math", Cond.code Lib.Math.min.name Lib.Math.min.code 2 (some .int), Cond.fieldLink RX1 61 "BerthPlan$Search" "shipCount" "I", Cond.fieldLink RX1 64 "BerthPlan$Quay" "places" "I", Cond.fieldLink RX1 69 "BerthPlan$Search" "places" "I", Cond.fieldLink RX1 9 "BerthPlan$Search" "begins" "[I", Cond.methodLink RX1 70 yX1_index, Cond.static yX1_index, Cond.code yX1_index cX1_index 3 (some .int), Cond.methodLink RX1 74 yX2_beginsAt, Cond.instanceMethod yX2_beginsAt, Cond.selects RX2 yX2_beginsAt yX2_beginsAt, Cond.initialized RX2]
def wsX1_finds_r2 : List Cond := [Cond.code yX2_beginsAt cX2_beginsAt 3 (some .int), Cond.fieldLink RX2 16 "BerthPlan$Ship" "isFixed" "Z", Cond.fieldLink RX2 20 "BerthPlan$Ship" "fixedPlace" "I", Cond.fieldLink RX2 23 "BerthPlan$Ship" "fixedHour" "I", Cond.fieldLink RX2 26 "BerthPlan$Ship" "length" "I", Cond.fieldLink RX2 29 "BerthPlan$Ship" "need" "I", Cond.fieldLink RX2 32 "BerthPlan$Ship" "wanted" "I", Cond.fieldLink RX2 13 "BerthPlan$Ship" "arrives" "I", Cond.methodLink RX2 35 yX0_suits, Cond.instanceMethod yX0_suits, Cond.selects RX0 yX0_suits yX0_suits, Cond.initialized RX0, Cond.code yX0_suits cX0_suits 7 (some .boolean), Cond.fieldLink RX0 15 "BerthPlan$Quay" "depths" "[I", Cond.fieldLink RX0 19 "BerthPlan$Quay" "gears" "[I", Cond.methodLink RX0 22 yX0_isRow, Cond.instanceMethod yX0_isRow, Cond.selects RX0 yX0_isRow yX0_isRow, Cond.code yX0_isRow cX0_isRow 3 (some .boolean), Cond.fieldLink RX0 9 "BerthPlan$Quay" "places" "I", Cond.methodLink RX2 41 yX0_beginsFrom, Cond.instanceMethod yX0_beginsFrom, Cond.selects RX0 yX0_beginsFrom yX0_beginsFrom, Cond.code yX0_beginsFrom cX0_beginsFrom 3 (some .int)]
def wsX1_finds_r3 : List Cond := [Cond.fieldLink RX0 34 "BerthPlan$Quay" "tideSpans" "I", Cond.fieldLink RX0 37 "BerthPlan$Quay" "tideHours" "I", Cond.static yX3_beginsBetween, Cond.initialized RX3, Cond.code yX3_beginsBetween cX3_beginsBetween 4 (some .int), Cond.methodLink RX1 42 yX1_everyShip, Cond.instanceMethod yX1_everyShip, Cond.selects RX1 yX1_everyShip yX1_everyShip, Cond.code yX1_everyShip cX1_everyShip 1 (some .int), Cond.methodLink RX1 46 yX1_leastOf, Cond.instanceMethod yX1_leastOf, Cond.selects RX1 yX1_leastOf yX1_leastOf, Cond.code yX1_leastOf cX1_leastOf 7 (some .int), Cond.methodLink RX1 83 yX1_levelOf, Cond.instanceMethod yX1_levelOf, Cond.selects RX1 yX1_levelOf yX1_levelOf, Cond.code yX1_levelOf cX1_levelOf 2 (some .int), Cond.methodLink RX1 78 yJ6_bitCount_0f7a4, Cond.static yJ6_bitCount_0f7a4, Cond.initialized RJ6, Cond.code yJ6_bitCount_0f7a4 cJ6_bitCount_0f7a4 1 (some .int), Cond.constant RJ6 265 (1431655765), Cond.constant RJ6 266 (858993459), Cond.constant RJ6 267 (252645135)]
def wsX1_finds_r4 : List Cond := [Cond.static yX3_hasBit, Cond.code yX3_hasBit cX3_hasBit 2 (some .boolean), Cond.methodLink RX1 90 yX1_firstOf, Cond.static yX1_firstOf, Cond.code yX1_firstOf cX1_firstOf 1 (some .int), Cond.methodLink RX1 93 yX2_latenessIf, Cond.instanceMethod yX2_latenessIf, Cond.selects RX2 yX2_latenessIf yX2_latenessIf, Cond.code yX2_latenessIf cX2_latenessIf 2 (some .int), Cond.fieldLink RX2 7 "BerthPlan$Ship" "weight" "I", Cond.methodLink RX1 51 yX1_berthRest, Cond.instanceMethod yX1_berthRest, Cond.selects RX1 yX1_berthRest yX1_berthRest, Cond.code yX1_berthRest cX1_berthRest 6 none, Cond.methodLink RX1 96 yX1_keepIfAhead, Cond.instanceMethod yX1_keepIfAhead, Cond.selects RX1 yX1_keepIfAhead yX1_keepIfAhead, Cond.code yX1_keepIfAhead cX1_keepIfAhead 3 none, Cond.fieldLink RX1 21 "BerthPlan$Search" "bestPlaces" "[I", Cond.fieldLink RX1 15 "BerthPlan$Search" "triedPlaces" "[I", Cond.fieldLink RX1 24 "BerthPlan$Search" "bestHours" "[I", Cond.fieldLink RX1 18 "BerthPlan$Search" "triedHours" "[I", Cond.methodLink RX1 124 yX1_isTriedAhead, Cond.instanceMethod yX1_isTriedAhead]
def wsX1_finds_r5 : List Cond := [Cond.selects RX1 yX1_isTriedAhead yX1_isTriedAhead, Cond.code yX1_isTriedAhead cX1_isTriedAhead 2 (some .boolean), Cond.methodLink RX1 100 yX1_tryBerth, Cond.instanceMethod yX1_tryBerth, Cond.selects RX1 yX1_tryBerth yX1_tryBerth, Cond.code yX1_tryBerth cX1_tryBerth 11 none, Cond.methodLink RX1 104 yX1_lay, Cond.instanceMethod yX1_lay, Cond.selects RX1 yX1_lay yX1_lay, Cond.code yX1_lay cX1_lay 7 none, Cond.methodLink RX1 108 yX1_narrow, Cond.instanceMethod yX1_narrow, Cond.selects RX1 yX1_narrow yX1_narrow, Cond.code yX1_narrow cX1_narrow 11 none, Cond.fieldLink RX1 111 "BerthPlan$Ship" "time" "I", Cond.fieldLink RX1 117 "BerthPlan$Ship" "length" "I", Cond.static yX3_spansMeet, Cond.code yX3_spansMeet cX3_spansMeet 4 (some .boolean)]
def wsX1_finds : List Cond := .code yX1_finds cX1_finds 4 (some .boolean) :: ((wsX1_finds_r1 ++ (wsX1_finds_r2 ++ (wsX1_finds_r3 ++ (wsX1_finds_r4 ++ wsX1_finds_r5)))) ++ wsX10 ++ wsX00 ++ wsX20)
def wsX1_leastAlone_r1 : List Cond := [Cond.methodLink RX1 33 yX1_openAll, Cond.instanceMethod yX1_openAll, Cond.selects RX1 yX1_openAll yX1_openAll, Cond.initialized RX1, Cond.code yX1_openAll cX1_openAll 6 none, Cond.fieldLink RX1 29 "BerthPlan$Search" "ships" "[LBerthPlan$Ship;", Cond.methodLink RX1 55 Lib.Math.min.name, Cond.static Lib.Math.min.name, Cond.initialized "java/lang/Math", Cond.code Lib.Math.min.name Lib.Math.min.code 2 (some .int), Cond.fieldLink RX1 61 "BerthPlan$Search" "shipCount" "I", Cond.fieldLink RX1 64 "BerthPlan$Quay" "places" "I", Cond.fieldLink RX1 69 "BerthPlan$Search" "places" "I", Cond.fieldLink RX1 9 "BerthPlan$Search" "begins" "[I", Cond.methodLink RX1 70 yX1_index, Cond.static yX1_index, Cond.code yX1_index cX1_index 3 (some .int), Cond.methodLink RX1 74 yX2_beginsAt, Cond.instanceMethod yX2_beginsAt, Cond.selects RX2 yX2_beginsAt yX2_beginsAt, Cond.initialized RX2, Cond.code yX2_beginsAt cX2_beginsAt 3 (some .int), Cond.fieldLink RX2 16 "BerthPlan$Ship" "isFixed" "Z", Cond.fieldLink RX2 20 "BerthPlan$Ship" "fixedPlace" "I"]
def wsX1_leastAlone_r2 : List Cond := [Cond.fieldLink RX2 23 "BerthPlan$Ship" "fixedHour" "I", Cond.fieldLink RX2 26 "BerthPlan$Ship" "length" "I", Cond.fieldLink RX2 29 "BerthPlan$Ship" "need" "I", Cond.fieldLink RX2 32 "BerthPlan$Ship" "wanted" "I", Cond.fieldLink RX2 13 "BerthPlan$Ship" "arrives" "I", Cond.methodLink RX2 35 yX0_suits, Cond.instanceMethod yX0_suits, Cond.selects RX0 yX0_suits yX0_suits, Cond.initialized RX0, Cond.code yX0_suits cX0_suits 7 (some .boolean), Cond.fieldLink RX0 15 "BerthPlan$Quay" "depths" "[I", Cond.fieldLink RX0 19 "BerthPlan$Quay" "gears" "[I", Cond.methodLink RX0 22 yX0_isRow, Cond.instanceMethod yX0_isRow, Cond.selects RX0 yX0_isRow yX0_isRow, Cond.code yX0_isRow cX0_isRow 3 (some .boolean), Cond.fieldLink RX0 9 "BerthPlan$Quay" "places" "I", Cond.methodLink RX2 41 yX0_beginsFrom, Cond.instanceMethod yX0_beginsFrom, Cond.selects RX0 yX0_beginsFrom yX0_beginsFrom, Cond.code yX0_beginsFrom cX0_beginsFrom 3 (some .int), Cond.fieldLink RX0 34 "BerthPlan$Quay" "tideSpans" "I", Cond.fieldLink RX0 37 "BerthPlan$Quay" "tideHours" "I", Cond.static yX3_beginsBetween]
def wsX1_leastAlone_r3 : List Cond := [Cond.initialized RX3, Cond.code yX3_beginsBetween cX3_beginsBetween 4 (some .int), Cond.methodLink RX1 42 yX1_everyShip, Cond.instanceMethod yX1_everyShip, Cond.selects RX1 yX1_everyShip yX1_everyShip, Cond.code yX1_everyShip cX1_everyShip 1 (some .int), Cond.methodLink RX1 46 yX1_leastOf, Cond.instanceMethod yX1_leastOf, Cond.selects RX1 yX1_leastOf yX1_leastOf, Cond.code yX1_leastOf cX1_leastOf 7 (some .int), Cond.constant RX1 50 (1000000), Cond.methodLink RX1 83 yX1_levelOf, Cond.instanceMethod yX1_levelOf, Cond.selects RX1 yX1_levelOf yX1_levelOf, Cond.code yX1_levelOf cX1_levelOf 2 (some .int), Cond.methodLink RX1 78 yJ6_bitCount_0f7a4, Cond.static yJ6_bitCount_0f7a4, Cond.initialized RJ6, Cond.code yJ6_bitCount_0f7a4 cJ6_bitCount_0f7a4 1 (some .int), Cond.constant RJ6 265 (1431655765), Cond.constant RJ6 266 (858993459), Cond.constant RJ6 267 (252645135), Cond.static yX3_hasBit, Cond.code yX3_hasBit cX3_hasBit 2 (some .boolean)]
def wsX1_leastAlone_r4 : List Cond := [Cond.methodLink RX1 90 yX1_firstOf, Cond.static yX1_firstOf, Cond.code yX1_firstOf cX1_firstOf 1 (some .int), Cond.methodLink RX1 93 yX2_latenessIf, Cond.instanceMethod yX2_latenessIf, Cond.selects RX2 yX2_latenessIf yX2_latenessIf, Cond.code yX2_latenessIf cX2_latenessIf 2 (some .int), Cond.fieldLink RX2 7 "BerthPlan$Ship" "weight" "I"]
def wsX1_leastAlone : List Cond := .code yX1_leastAlone cX1_leastAlone 4 (some .int) :: ((wsX1_leastAlone_r1 ++ (wsX1_leastAlone_r2 ++ (wsX1_leastAlone_r3 ++ wsX1_leastAlone_r4))) ++ wsX10 ++ wsX00 ++ wsX20)
def wsX2_init : List Cond := .code yX2_init cX2_init 1 none :: ([.methodLink RX2 1 objectInit, .instanceMethod objectInit, .code objectInit ⟨#[0xb1]⟩ 1 none])
def wsX2_moveTo : List Cond := .code yX2_moveTo cX2_moveTo 4 (some .boolean) :: ([.fieldLink RX2 45 "BerthPlan$Ship" "place" "I", .fieldLink RX2 48 "BerthPlan$Ship" "hour" "I"] ++ wsX20)
def wsX3_init_r1 : List Cond := [Cond.methodLink RX3 1 objectInit, Cond.instanceMethod objectInit, Cond.code objectInit ⟨#[0xb1]⟩ 1 none, Cond.classLink RX3 7 RX0, Cond.instantiable RX0 5, Cond.initialized RX0, Cond.methodLink RX3 11 Lib.Math.min.name, Cond.static Lib.Math.min.name, Cond.initialized "java/lang/Math", Cond.code Lib.Math.min.name Lib.Math.min.code 2 (some .int), Cond.methodLink RX3 17 Lib.Math.max.name, Cond.static Lib.Math.max.name, Cond.code Lib.Math.max.name Lib.Math.max.code 2 (some .int), Cond.fieldLink RX3 23 "BerthPlan" "quay" "LBerthPlan$Quay;", Cond.classLink RX3 27 RX2, Cond.fieldLink RX3 29 "BerthPlan" "ships" "[LBerthPlan$Ship;", Cond.instantiable RX2 11, Cond.initialized RX2, Cond.classLink RX3 34 RX1, Cond.instantiable RX1 9, Cond.initialized RX1, Cond.fieldLink RX3 37 "BerthPlan" "search" "LBerthPlan$Search;", Cond.methodLink RX3 20 yX0_init, Cond.instanceMethod yX0_init]
def wsX3_init_r2 : List Cond := [Cond.code yX0_init cX0_init 3 none, Cond.methodLink RX0 3 objectInit, Cond.fieldLink RX0 9 "BerthPlan$Quay" "places" "I", Cond.arrayClass .int, Cond.fieldLink RX0 15 "BerthPlan$Quay" "depths" "[I", Cond.fieldLink RX0 19 "BerthPlan$Quay" "gears" "[I", Cond.instanceMethod yX2_init, Cond.code yX2_init cX2_init 1 none, Cond.methodLink RX2 1 objectInit, Cond.instanceMethod yX1_init, Cond.code yX1_init cX1_init 1 none, Cond.methodLink RX1 3 objectInit, Cond.fieldLink RX1 9 "BerthPlan$Search" "begins" "[I", Cond.fieldLink RX1 15 "BerthPlan$Search" "triedPlaces" "[I", Cond.fieldLink RX1 18 "BerthPlan$Search" "triedHours" "[I", Cond.fieldLink RX1 21 "BerthPlan$Search" "bestPlaces" "[I", Cond.fieldLink RX1 24 "BerthPlan$Search" "bestHours" "[I", Cond.classLink RX1 27 RX2, Cond.fieldLink RX1 29 "BerthPlan$Search" "ships" "[LBerthPlan$Ship;"]
def wsX3_init : List Cond := .code yX3_init cX3_init 3 none :: ((wsX3_init_r1 ++ wsX3_init_r2) ++ wsX00 ++ wsX30 ++ wsX20 ++ wsX10)
def wsX3_isWithin : List Cond := .code yX3_isWithin cX3_isWithin 3 (some .boolean) :: ([])
def wsX3_ship : List Cond := .code yX3_ship cX3_ship 9 (some .int) :: ([.classLink RX3 45 "java/lang/IllegalArgumentException", .initialized "java/lang/IllegalArgumentException", .classLink RX3 56 "java/lang/IllegalStateException", .initialized "java/lang/IllegalStateException", .fieldLink RX3 52 "BerthPlan" "shipCount" "I", .fieldLink RX3 29 "BerthPlan" "ships" "[LBerthPlan$Ship;", .fieldLink RX3 61 "BerthPlan$Ship" "length" "I", .fieldLink RX3 64 "BerthPlan$Ship" "need" "I", .fieldLink RX3 67 "BerthPlan$Ship" "time" "I", .fieldLink RX3 70 "BerthPlan$Ship" "arrives" "I", .fieldLink RX3 73 "BerthPlan$Ship" "weight" "I", .fieldLink RX3 76 "BerthPlan" "planned" "Z", .methodLink RX3 41 yX3_isWithin, .static yX3_isWithin, .initialized RX3, .code yX3_isWithin cX3_isWithin 3 (some .boolean)] ++ wsX30 ++ wsX20 ++ (vx_atS RX3 49 "java/lang/IllegalArgumentException" ["java/lang/RuntimeException", "java/lang/Exception"]).filter goodWord ++ (vx_atS RX3 60 "java/lang/IllegalStateException" ["java/lang/RuntimeException", "java/lang/Exception"]).filter goodWord)
def wsX3_depth : List Cond := .code yX3_depth cX3_depth 5 (some .boolean) :: ([.fieldLink RX3 23 "BerthPlan" "quay" "LBerthPlan$Quay;", .fieldLink RX3 84 "BerthPlan$Quay" "depths" "[I", .fieldLink RX3 76 "BerthPlan" "planned" "Z", .methodLink RX3 80 yX0_isPlace, .instanceMethod yX0_isPlace, .selects RX0 yX0_isPlace yX0_isPlace, .initialized RX0, .code yX0_isPlace cX0_isPlace 2 (some .boolean), .fieldLink RX0 9 "BerthPlan$Quay" "places" "I", .methodLink RX3 41 yX3_isWithin, .static yX3_isWithin, .initialized RX3, .code yX3_isWithin cX3_isWithin 3 (some .boolean)] ++ wsX30 ++ wsX00)
def wsX3_isKind : List Cond := .code yX3_isKind cX3_isKind 1 (some .boolean) :: ([])
def wsX3_gear : List Cond := .code yX3_gear cX3_gear 4 (some .boolean) :: ([.fieldLink RX3 23 "BerthPlan" "quay" "LBerthPlan$Quay;", .fieldLink RX3 91 "BerthPlan$Quay" "gears" "[I", .fieldLink RX3 76 "BerthPlan" "planned" "Z", .methodLink RX3 80 yX0_isPlace, .instanceMethod yX0_isPlace, .selects RX0 yX0_isPlace yX0_isPlace, .initialized RX0, .code yX0_isPlace cX0_isPlace 2 (some .boolean), .fieldLink RX0 9 "BerthPlan$Quay" "places" "I", .methodLink RX3 88 yX3_isKind, .static yX3_isKind, .initialized RX3, .code yX3_isKind cX3_isKind 1 (some .boolean), .methodLink RX3 94 yX3_hasBit, .static yX3_hasBit, .code yX3_hasBit cX3_hasBit 2 (some .boolean)] ++ wsX30 ++ wsX00)
def wsX3_isShip : List Cond := .code yX3_isShip cX3_isShip 2 (some .boolean) :: ([.fieldLink RX3 52 "BerthPlan" "shipCount" "I"] ++ wsX30)
def wsX3_wants : List Cond := .code yX3_wants cX3_wants 4 (some .boolean) :: ([.fieldLink RX3 29 "BerthPlan" "ships" "[LBerthPlan$Ship;", .fieldLink RX3 101 "BerthPlan$Ship" "wanted" "I", .fieldLink RX3 76 "BerthPlan" "planned" "Z", .methodLink RX3 98 yX3_isShip, .instanceMethod yX3_isShip, .selects RX3 yX3_isShip yX3_isShip, .initialized RX3, .code yX3_isShip cX3_isShip 2 (some .boolean), .fieldLink RX3 52 "BerthPlan" "shipCount" "I", .methodLink RX3 88 yX3_isKind, .static yX3_isKind, .code yX3_isKind cX3_isKind 1 (some .boolean), .methodLink RX3 94 yX3_hasBit, .static yX3_hasBit, .code yX3_hasBit cX3_hasBit 2 (some .boolean)] ++ wsX30 ++ wsX20)
def wsX3_tide : List Cond := .code yX3_tide cX3_tide 4 (some .boolean) :: ([.fieldLink RX3 23 "BerthPlan" "quay" "LBerthPlan$Quay;", .fieldLink RX3 104 "BerthPlan$Quay" "tideSpans" "I", .fieldLink RX3 107 "BerthPlan$Quay" "tideHours" "I", .fieldLink RX3 76 "BerthPlan" "planned" "Z", .methodLink RX3 41 yX3_isWithin, .static yX3_isWithin, .initialized RX3, .code yX3_isWithin cX3_isWithin 3 (some .boolean), .methodLink RX3 110 yX3_beginsBetween, .static yX3_beginsBetween, .code yX3_beginsBetween cX3_beginsBetween 4 (some .int)] ++ wsX30 ++ wsX00)
def wsX3_meetsFixed : List Cond := .code yX3_meetsFixed cX3_meetsFixed 7 (some .boolean) :: ([.fieldLink RX3 29 "BerthPlan" "ships" "[LBerthPlan$Ship;", .fieldLink RX3 52 "BerthPlan" "shipCount" "I", .fieldLink RX3 119 "BerthPlan$Ship" "isFixed" "Z", .fieldLink RX3 61 "BerthPlan$Ship" "length" "I", .fieldLink RX3 122 "BerthPlan$Ship" "fixedPlace" "I", .fieldLink RX3 67 "BerthPlan$Ship" "time" "I", .fieldLink RX3 125 "BerthPlan$Ship" "fixedHour" "I", .methodLink RX3 190 yX3_spansMeet, .static yX3_spansMeet, .initialized RX3, .code yX3_spansMeet cX3_spansMeet 4 (some .boolean)] ++ wsX30 ++ wsX20)
def wsX3_fix_r1 : List Cond := [Cond.fieldLink RX3 29 "BerthPlan" "ships" "[LBerthPlan$Ship;", Cond.fieldLink RX3 23 "BerthPlan" "quay" "LBerthPlan$Quay;", Cond.fieldLink RX3 61 "BerthPlan$Ship" "length" "I", Cond.fieldLink RX3 119 "BerthPlan$Ship" "isFixed" "Z", Cond.fieldLink RX3 122 "BerthPlan$Ship" "fixedPlace" "I", Cond.fieldLink RX3 125 "BerthPlan$Ship" "fixedHour" "I", Cond.fieldLink RX3 76 "BerthPlan" "planned" "Z", Cond.methodLink RX3 98 yX3_isShip, Cond.instanceMethod yX3_isShip, Cond.selects RX3 yX3_isShip yX3_isShip, Cond.initialized RX3, Cond.code yX3_isShip cX3_isShip 2 (some .boolean), Cond.fieldLink RX3 52 "BerthPlan" "shipCount" "I", Cond.methodLink RX3 41 yX3_isWithin, Cond.static yX3_isWithin, Cond.code yX3_isWithin cX3_isWithin 3 (some .boolean), Cond.methodLink RX3 113 yX0_isRow, Cond.instanceMethod yX0_isRow, Cond.selects RX0 yX0_isRow yX0_isRow, Cond.initialized RX0, Cond.code yX0_isRow cX0_isRow 3 (some .boolean), Cond.fieldLink RX0 9 "BerthPlan$Quay" "places" "I", Cond.methodLink RX3 116 yX3_meetsFixed, Cond.instanceMethod yX3_meetsFixed]
def wsX3_fix_r2 : List Cond := [Cond.selects RX3 yX3_meetsFixed yX3_meetsFixed, Cond.code yX3_meetsFixed cX3_meetsFixed 7 (some .boolean), Cond.fieldLink RX3 67 "BerthPlan$Ship" "time" "I", Cond.methodLink RX3 190 yX3_spansMeet, Cond.static yX3_spansMeet, Cond.code yX3_spansMeet cX3_spansMeet 4 (some .boolean)]
def wsX3_fix : List Cond := .code yX3_fix cX3_fix 5 (some .boolean) :: ((wsX3_fix_r1 ++ wsX3_fix_r2) ++ wsX30 ++ wsX20 ++ wsX00)
def wsX3_free : List Cond := .code yX3_free cX3_free 2 (some .boolean) :: ([.fieldLink RX3 29 "BerthPlan" "ships" "[LBerthPlan$Ship;", .fieldLink RX3 119 "BerthPlan$Ship" "isFixed" "Z", .fieldLink RX3 76 "BerthPlan" "planned" "Z", .methodLink RX3 98 yX3_isShip, .instanceMethod yX3_isShip, .selects RX3 yX3_isShip yX3_isShip, .initialized RX3, .code yX3_isShip cX3_isShip 2 (some .boolean), .fieldLink RX3 52 "BerthPlan" "shipCount" "I"] ++ wsX30 ++ wsX20)
def wsX3_moveShips : List Cond := .code yX3_moveShips cX3_moveShips 3 (some .int) :: ([.fieldLink RX3 52 "BerthPlan" "shipCount" "I", .fieldLink RX3 29 "BerthPlan" "ships" "[LBerthPlan$Ship;", .fieldLink RX3 37 "BerthPlan" "search" "LBerthPlan$Search;", .fieldLink RX3 194 "BerthPlan$Search" "bestPlaces" "[I", .fieldLink RX3 197 "BerthPlan$Search" "bestHours" "[I", .methodLink RX3 200 yX2_moveTo, .instanceMethod yX2_moveTo, .selects RX2 yX2_moveTo yX2_moveTo, .initialized RX2, .code yX2_moveTo cX2_moveTo 4 (some .boolean), .fieldLink RX2 45 "BerthPlan$Ship" "place" "I", .fieldLink RX2 48 "BerthPlan$Ship" "hour" "I"] ++ wsX30 ++ wsX10 ++ wsX20)
def wsX3_solve_r1 : List Cond := [Cond.fieldLink RX3 37 "BerthPlan" "search" "LBerthPlan$Search;", Cond.fieldLink RX3 23 "BerthPlan" "quay" "LBerthPlan$Quay;", Cond.fieldLink RX3 29 "BerthPlan" "ships" "[LBerthPlan$Ship;", Cond.fieldLink RX3 52 "BerthPlan" "shipCount" "I", Cond.fieldLink RX3 76 "BerthPlan" "planned" "Z", Cond.methodLink RX3 128 yX1_finds, Cond.instanceMethod yX1_finds, Cond.selects RX1 yX1_finds yX1_finds, Cond.initialized RX1, Cond.code yX1_finds cX1_finds 4 (some .boolean), Cond.constant RX1 37 (100000), Cond.fieldLink RX1 38 "BerthPlan$Search" "best" "I", Cond.constant RX1 50 (1000000), Cond.methodLink RX1 33 yX1_openAll, Cond.instanceMethod yX1_openAll, Cond.selects RX1 yX1_openAll yX1_openAll, Cond.code yX1_openAll cX1_openAll 6 none, Cond.fieldLink RX1 29 "BerthPlan$Search" "ships" "[LBerthPlan$Ship;", Cond.methodLink RX1 55 Lib.Math.min.name, Cond.static Lib.Math.min.name, Cond.initialized "java/lang/Math", Cond.code Lib.Math.min.name Lib.Math.min.code 2 (some .int), Cond.fieldLink RX1 61 "BerthPlan$Search" "shipCount" "I", Cond.fieldLink RX1 64 "BerthPlan$Quay" "places" "I"]
def wsX3_solve_r2 : List Cond := [Cond.fieldLink RX1 69 "BerthPlan$Search" "places" "I", Cond.fieldLink RX1 9 "BerthPlan$Search" "begins" "[I", Cond.methodLink RX1 70 yX1_index, Cond.static yX1_index, Cond.code yX1_index cX1_index 3 (some .int), Cond.methodLink RX1 74 yX2_beginsAt, Cond.instanceMethod yX2_beginsAt, Cond.selects RX2 yX2_beginsAt yX2_beginsAt, Cond.initialized RX2, Cond.code yX2_beginsAt cX2_beginsAt 3 (some .int), Cond.fieldLink RX2 16 "BerthPlan$Ship" "isFixed" "Z", Cond.fieldLink RX2 20 "BerthPlan$Ship" "fixedPlace" "I", Cond.fieldLink RX2 23 "BerthPlan$Ship" "fixedHour" "I", Cond.fieldLink RX2 26 "BerthPlan$Ship" "length" "I", Cond.fieldLink RX2 29 "BerthPlan$Ship" "need" "I", Cond.fieldLink RX2 32 "BerthPlan$Ship" "wanted" "I", Cond.fieldLink RX2 13 "BerthPlan$Ship" "arrives" "I", Cond.methodLink RX2 35 yX0_suits, Cond.instanceMethod yX0_suits, Cond.selects RX0 yX0_suits yX0_suits, Cond.initialized RX0, Cond.code yX0_suits cX0_suits 7 (some .boolean), Cond.fieldLink RX0 15 "BerthPlan$Quay" "depths" "[I", Cond.fieldLink RX0 19 "BerthPlan$Quay" "gears" "[I"]
def wsX3_solve_r3 : List Cond := [Cond.methodLink RX0 22 yX0_isRow, Cond.instanceMethod yX0_isRow, Cond.selects RX0 yX0_isRow yX0_isRow, Cond.code yX0_isRow cX0_isRow 3 (some .boolean), Cond.fieldLink RX0 9 "BerthPlan$Quay" "places" "I", Cond.methodLink RX2 41 yX0_beginsFrom, Cond.instanceMethod yX0_beginsFrom, Cond.selects RX0 yX0_beginsFrom yX0_beginsFrom, Cond.code yX0_beginsFrom cX0_beginsFrom 3 (some .int), Cond.fieldLink RX0 34 "BerthPlan$Quay" "tideSpans" "I", Cond.fieldLink RX0 37 "BerthPlan$Quay" "tideHours" "I", Cond.static yX3_beginsBetween, Cond.initialized RX3, Cond.code yX3_beginsBetween cX3_beginsBetween 4 (some .int), Cond.methodLink RX1 42 yX1_everyShip, Cond.instanceMethod yX1_everyShip, Cond.selects RX1 yX1_everyShip yX1_everyShip, Cond.code yX1_everyShip cX1_everyShip 1 (some .int), Cond.methodLink RX1 46 yX1_leastOf, Cond.instanceMethod yX1_leastOf, Cond.selects RX1 yX1_leastOf yX1_leastOf, Cond.code yX1_leastOf cX1_leastOf 7 (some .int), Cond.methodLink RX1 83 yX1_levelOf, Cond.instanceMethod yX1_levelOf]
def wsX3_solve_r4 : List Cond := [Cond.selects RX1 yX1_levelOf yX1_levelOf, Cond.code yX1_levelOf cX1_levelOf 2 (some .int), Cond.methodLink RX1 78 yJ6_bitCount_0f7a4, Cond.static yJ6_bitCount_0f7a4, Cond.initialized RJ6, Cond.code yJ6_bitCount_0f7a4 cJ6_bitCount_0f7a4 1 (some .int), Cond.constant RJ6 265 (1431655765), Cond.constant RJ6 266 (858993459), Cond.constant RJ6 267 (252645135), Cond.static yX3_hasBit, Cond.code yX3_hasBit cX3_hasBit 2 (some .boolean), Cond.methodLink RX1 90 yX1_firstOf, Cond.static yX1_firstOf, Cond.code yX1_firstOf cX1_firstOf 1 (some .int), Cond.methodLink RX1 93 yX2_latenessIf, Cond.instanceMethod yX2_latenessIf, Cond.selects RX2 yX2_latenessIf yX2_latenessIf, Cond.code yX2_latenessIf cX2_latenessIf 2 (some .int), Cond.fieldLink RX2 7 "BerthPlan$Ship" "weight" "I", Cond.methodLink RX1 51 yX1_berthRest, Cond.instanceMethod yX1_berthRest, Cond.selects RX1 yX1_berthRest yX1_berthRest, Cond.code yX1_berthRest cX1_berthRest 6 none, Cond.methodLink RX1 96 yX1_keepIfAhead]
def wsX3_solve_r5 : List Cond := [Cond.instanceMethod yX1_keepIfAhead, Cond.selects RX1 yX1_keepIfAhead yX1_keepIfAhead, Cond.code yX1_keepIfAhead cX1_keepIfAhead 3 none, Cond.fieldLink RX1 21 "BerthPlan$Search" "bestPlaces" "[I", Cond.fieldLink RX1 15 "BerthPlan$Search" "triedPlaces" "[I", Cond.fieldLink RX1 24 "BerthPlan$Search" "bestHours" "[I", Cond.fieldLink RX1 18 "BerthPlan$Search" "triedHours" "[I", Cond.methodLink RX1 124 yX1_isTriedAhead, Cond.instanceMethod yX1_isTriedAhead, Cond.selects RX1 yX1_isTriedAhead yX1_isTriedAhead, Cond.code yX1_isTriedAhead cX1_isTriedAhead 2 (some .boolean), Cond.methodLink RX1 100 yX1_tryBerth, Cond.instanceMethod yX1_tryBerth, Cond.selects RX1 yX1_tryBerth yX1_tryBerth, Cond.code yX1_tryBerth cX1_tryBerth 11 none, Cond.methodLink RX1 104 yX1_lay, Cond.instanceMethod yX1_lay, Cond.selects RX1 yX1_lay yX1_lay, Cond.code yX1_lay cX1_lay 7 none, Cond.methodLink RX1 108 yX1_narrow, Cond.instanceMethod yX1_narrow, Cond.selects RX1 yX1_narrow yX1_narrow, Cond.code yX1_narrow cX1_narrow 11 none, Cond.fieldLink RX1 111 "BerthPlan$Ship" "time" "I"]
def wsX3_solve_r6 : List Cond := [Cond.fieldLink RX1 117 "BerthPlan$Ship" "length" "I", Cond.static yX3_spansMeet, Cond.code yX3_spansMeet cX3_spansMeet 4 (some .boolean), Cond.methodLink RX3 132 yX3_moveShips, Cond.instanceMethod yX3_moveShips, Cond.selects RX3 yX3_moveShips yX3_moveShips, Cond.code yX3_moveShips cX3_moveShips 3 (some .int), Cond.fieldLink RX3 194 "BerthPlan$Search" "bestPlaces" "[I", Cond.fieldLink RX3 197 "BerthPlan$Search" "bestHours" "[I", Cond.methodLink RX3 200 yX2_moveTo, Cond.instanceMethod yX2_moveTo, Cond.selects RX2 yX2_moveTo yX2_moveTo, Cond.code yX2_moveTo cX2_moveTo 4 (some .boolean), Cond.fieldLink RX2 45 "BerthPlan$Ship" "place" "I", Cond.fieldLink RX2 48 "BerthPlan$Ship" "hour" "I"]
def wsX3_solve : List Cond := .code yX3_solve cX3_solve 1 (some .int) :: ((wsX3_solve_r1 ++ (wsX3_solve_r2 ++ (wsX3_solve_r3 ++ (wsX3_solve_r4 ++ (wsX3_solve_r5 ++ wsX3_solve_r6))))) ++ wsX30 ++ wsX10 ++ wsX00 ++ wsX20)
def wsX3_at : List Cond := .code yX3_at cX3_at 4 (some .int) :: ([.classLink RX3 136 "java/lang/IndexOutOfBoundsException", .initialized "java/lang/IndexOutOfBoundsException", .classLink RX3 56 "java/lang/IllegalStateException", .initialized "java/lang/IllegalStateException", .fieldLink RX3 76 "BerthPlan" "planned" "Z", .fieldLink RX3 29 "BerthPlan" "ships" "[LBerthPlan$Ship;", .fieldLink RX3 143 "BerthPlan$Ship" "place" "I", .fieldLink RX3 146 "BerthPlan$Ship" "hour" "I", .fieldLink RX3 70 "BerthPlan$Ship" "arrives" "I", .methodLink RX3 98 yX3_isShip, .instanceMethod yX3_isShip, .selects RX3 yX3_isShip yX3_isShip, .initialized RX3, .code yX3_isShip cX3_isShip 2 (some .boolean), .fieldLink RX3 52 "BerthPlan" "shipCount" "I", .methodLink RX3 41 yX3_isWithin, .static yX3_isWithin, .code yX3_isWithin cX3_isWithin 3 (some .boolean)] ++ wsX30 ++ wsX20 ++ (vx_atS RX3 140 "java/lang/IndexOutOfBoundsException" ["java/lang/RuntimeException", "java/lang/Exception"]).filter goodWord ++ (vx_atS RX3 60 "java/lang/IllegalStateException" ["java/lang/RuntimeException", "java/lang/Exception"]).filter goodWord)
def wsX3_lateness : List Cond := .code yX3_lateness cX3_lateness 3 (some .int) :: ([.classLink RX3 56 "java/lang/IllegalStateException", .initialized "java/lang/IllegalStateException", .fieldLink RX3 76 "BerthPlan" "planned" "Z", .fieldLink RX3 52 "BerthPlan" "shipCount" "I", .fieldLink RX3 29 "BerthPlan" "ships" "[LBerthPlan$Ship;", .fieldLink RX3 146 "BerthPlan$Ship" "hour" "I", .methodLink RX3 149 yX2_latenessIf, .instanceMethod yX2_latenessIf, .selects RX2 yX2_latenessIf yX2_latenessIf, .initialized RX2, .code yX2_latenessIf cX2_latenessIf 2 (some .int), .fieldLink RX2 7 "BerthPlan$Ship" "weight" "I", .fieldLink RX2 13 "BerthPlan$Ship" "arrives" "I"] ++ wsX30 ++ wsX20 ++ (vx_atS RX3 60 "java/lang/IllegalStateException" ["java/lang/RuntimeException", "java/lang/Exception"]).filter goodWord)
def wsX3_bound_r1 : List Cond := [Cond.fieldLink RX3 37 "BerthPlan" "search" "LBerthPlan$Search;", Cond.fieldLink RX3 23 "BerthPlan" "quay" "LBerthPlan$Quay;", Cond.fieldLink RX3 29 "BerthPlan" "ships" "[LBerthPlan$Ship;", Cond.fieldLink RX3 52 "BerthPlan" "shipCount" "I", Cond.constant RX3 157 (1000000), Cond.methodLink RX3 153 yX1_leastAlone, Cond.instanceMethod yX1_leastAlone, Cond.selects RX1 yX1_leastAlone yX1_leastAlone, Cond.initialized RX1, Cond.code yX1_leastAlone cX1_leastAlone 4 (some .int), Cond.methodLink RX1 33 yX1_openAll, Cond.instanceMethod yX1_openAll, Cond.selects RX1 yX1_openAll yX1_openAll, Cond.code yX1_openAll cX1_openAll 6 none, Cond.fieldLink RX1 29 "BerthPlan$Search" "ships" "[LBerthPlan$Ship;", Cond.methodLink RX1 55 Lib.Math.min.name, Cond.static Lib.Math.min.name, Cond.initialized "java/lang/Math", Cond.code Lib.Math.min.name Lib.Math.min.code 2 (some .int), Cond.fieldLink RX1 61 "BerthPlan$Search" "shipCount" "I", Cond.fieldLink RX1 64 "BerthPlan$Quay" "places" "I", Cond.fieldLink RX1 69 "BerthPlan$Search" "places" "I", Cond.fieldLink RX1 9 "BerthPlan$Search" "begins" "[I", Cond.methodLink RX1 70 yX1_index]
def wsX3_bound_r2 : List Cond := [Cond.static yX1_index, Cond.code yX1_index cX1_index 3 (some .int), Cond.methodLink RX1 74 yX2_beginsAt, Cond.instanceMethod yX2_beginsAt, Cond.selects RX2 yX2_beginsAt yX2_beginsAt, Cond.initialized RX2, Cond.code yX2_beginsAt cX2_beginsAt 3 (some .int), Cond.fieldLink RX2 16 "BerthPlan$Ship" "isFixed" "Z", Cond.fieldLink RX2 20 "BerthPlan$Ship" "fixedPlace" "I", Cond.fieldLink RX2 23 "BerthPlan$Ship" "fixedHour" "I", Cond.fieldLink RX2 26 "BerthPlan$Ship" "length" "I", Cond.fieldLink RX2 29 "BerthPlan$Ship" "need" "I", Cond.fieldLink RX2 32 "BerthPlan$Ship" "wanted" "I", Cond.fieldLink RX2 13 "BerthPlan$Ship" "arrives" "I", Cond.methodLink RX2 35 yX0_suits, Cond.instanceMethod yX0_suits, Cond.selects RX0 yX0_suits yX0_suits, Cond.initialized RX0, Cond.code yX0_suits cX0_suits 7 (some .boolean), Cond.fieldLink RX0 15 "BerthPlan$Quay" "depths" "[I", Cond.fieldLink RX0 19 "BerthPlan$Quay" "gears" "[I", Cond.methodLink RX0 22 yX0_isRow, Cond.instanceMethod yX0_isRow, Cond.selects RX0 yX0_isRow yX0_isRow]
def wsX3_bound_r3 : List Cond := [Cond.code yX0_isRow cX0_isRow 3 (some .boolean), Cond.fieldLink RX0 9 "BerthPlan$Quay" "places" "I", Cond.methodLink RX2 41 yX0_beginsFrom, Cond.instanceMethod yX0_beginsFrom, Cond.selects RX0 yX0_beginsFrom yX0_beginsFrom, Cond.code yX0_beginsFrom cX0_beginsFrom 3 (some .int), Cond.fieldLink RX0 34 "BerthPlan$Quay" "tideSpans" "I", Cond.fieldLink RX0 37 "BerthPlan$Quay" "tideHours" "I", Cond.static yX3_beginsBetween, Cond.initialized RX3, Cond.code yX3_beginsBetween cX3_beginsBetween 4 (some .int), Cond.methodLink RX1 42 yX1_everyShip, Cond.instanceMethod yX1_everyShip, Cond.selects RX1 yX1_everyShip yX1_everyShip, Cond.code yX1_everyShip cX1_everyShip 1 (some .int), Cond.methodLink RX1 46 yX1_leastOf, Cond.instanceMethod yX1_leastOf, Cond.selects RX1 yX1_leastOf yX1_leastOf, Cond.code yX1_leastOf cX1_leastOf 7 (some .int), Cond.constant RX1 50 (1000000), Cond.methodLink RX1 83 yX1_levelOf, Cond.instanceMethod yX1_levelOf, Cond.selects RX1 yX1_levelOf yX1_levelOf, Cond.code yX1_levelOf cX1_levelOf 2 (some .int)]
def wsX3_bound_r4 : List Cond := [Cond.methodLink RX1 78 yJ6_bitCount_0f7a4, Cond.static yJ6_bitCount_0f7a4, Cond.initialized RJ6, Cond.code yJ6_bitCount_0f7a4 cJ6_bitCount_0f7a4 1 (some .int), Cond.constant RJ6 265 (1431655765), Cond.constant RJ6 266 (858993459), Cond.constant RJ6 267 (252645135), Cond.static yX3_hasBit, Cond.code yX3_hasBit cX3_hasBit 2 (some .boolean), Cond.methodLink RX1 90 yX1_firstOf, Cond.static yX1_firstOf, Cond.code yX1_firstOf cX1_firstOf 1 (some .int), Cond.methodLink RX1 93 yX2_latenessIf, Cond.instanceMethod yX2_latenessIf, Cond.selects RX2 yX2_latenessIf yX2_latenessIf, Cond.code yX2_latenessIf cX2_latenessIf 2 (some .int), Cond.fieldLink RX2 7 "BerthPlan$Ship" "weight" "I"]
def wsX3_bound : List Cond := .code yX3_bound cX3_bound 2 (some .int) :: ((wsX3_bound_r1 ++ (wsX3_bound_r2 ++ (wsX3_bound_r3 ++ wsX3_bound_r4))) ++ wsX30 ++ wsX10 ++ wsX00 ++ wsX20)
def wsX3_why_r1 : List Cond := [Cond.classLink RX3 136 "java/lang/IndexOutOfBoundsException", Cond.initialized "java/lang/IndexOutOfBoundsException", Cond.fieldLink RX3 29 "BerthPlan" "ships" "[LBerthPlan$Ship;", Cond.fieldLink RX3 119 "BerthPlan$Ship" "isFixed" "Z", Cond.fieldLink RX3 61 "BerthPlan$Ship" "length" "I", Cond.fieldLink RX3 23 "BerthPlan" "quay" "LBerthPlan$Quay;", Cond.fieldLink RX3 160 "BerthPlan$Quay" "places" "I", Cond.fieldLink RX3 64 "BerthPlan$Ship" "need" "I", Cond.fieldLink RX3 101 "BerthPlan$Ship" "wanted" "I", Cond.fieldLink RX3 70 "BerthPlan$Ship" "arrives" "I", Cond.methodLink RX3 98 yX3_isShip, Cond.instanceMethod yX3_isShip, Cond.selects RX3 yX3_isShip yX3_isShip, Cond.initialized RX3, Cond.code yX3_isShip cX3_isShip 2 (some .boolean), Cond.fieldLink RX3 52 "BerthPlan" "shipCount" "I", Cond.methodLink RX3 163 yX0_hasRow, Cond.instanceMethod yX0_hasRow, Cond.selects RX0 yX0_hasRow yX0_hasRow, Cond.initialized RX0, Cond.code yX0_hasRow cX0_hasRow 5 (some .boolean), Cond.fieldLink RX0 9 "BerthPlan$Quay" "places" "I", Cond.methodLink RX0 26 yX0_suits, Cond.instanceMethod yX0_suits]
def wsX3_why_r2 : List Cond := [Cond.selects RX0 yX0_suits yX0_suits, Cond.code yX0_suits cX0_suits 7 (some .boolean), Cond.fieldLink RX0 15 "BerthPlan$Quay" "depths" "[I", Cond.fieldLink RX0 19 "BerthPlan$Quay" "gears" "[I", Cond.methodLink RX0 22 yX0_isRow, Cond.instanceMethod yX0_isRow, Cond.selects RX0 yX0_isRow yX0_isRow, Cond.code yX0_isRow cX0_isRow 3 (some .boolean), Cond.methodLink RX3 166 yX0_beginsFrom, Cond.instanceMethod yX0_beginsFrom, Cond.selects RX0 yX0_beginsFrom yX0_beginsFrom, Cond.code yX0_beginsFrom cX0_beginsFrom 3 (some .int), Cond.fieldLink RX0 34 "BerthPlan$Quay" "tideSpans" "I", Cond.fieldLink RX0 37 "BerthPlan$Quay" "tideHours" "I", Cond.static yX3_beginsBetween, Cond.code yX3_beginsBetween cX3_beginsBetween 4 (some .int)]
def wsX3_why : List Cond := .code yX3_why cX3_why 3 (some .int) :: ((wsX3_why_r1 ++ wsX3_why_r2) ++ wsX30 ++ wsX20 ++ wsX00 ++ (vx_atS RX3 140 "java/lang/IndexOutOfBoundsException" ["java/lang/RuntimeException", "java/lang/Exception"]).filter goodWord)
def wsX3_change_r1 : List Cond := [Cond.classLink RX3 136 "java/lang/IndexOutOfBoundsException", Cond.initialized "java/lang/IndexOutOfBoundsException", Cond.classLink RX3 45 "java/lang/IllegalArgumentException", Cond.initialized "java/lang/IllegalArgumentException", Cond.classLink RX3 56 "java/lang/IllegalStateException", Cond.initialized "java/lang/IllegalStateException", Cond.fieldLink RX3 76 "BerthPlan" "planned" "Z", Cond.fieldLink RX3 29 "BerthPlan" "ships" "[LBerthPlan$Ship;", Cond.fieldLink RX3 70 "BerthPlan$Ship" "arrives" "I", Cond.fieldLink RX3 37 "BerthPlan" "search" "LBerthPlan$Search;", Cond.fieldLink RX3 23 "BerthPlan" "quay" "LBerthPlan$Quay;", Cond.fieldLink RX3 52 "BerthPlan" "shipCount" "I", Cond.methodLink RX3 98 yX3_isShip, Cond.instanceMethod yX3_isShip, Cond.selects RX3 yX3_isShip yX3_isShip, Cond.initialized RX3, Cond.code yX3_isShip cX3_isShip 2 (some .boolean), Cond.methodLink RX3 41 yX3_isWithin, Cond.static yX3_isWithin, Cond.code yX3_isWithin cX3_isWithin 3 (some .boolean), Cond.methodLink RX3 128 yX1_finds, Cond.instanceMethod yX1_finds, Cond.selects RX1 yX1_finds yX1_finds, Cond.initialized RX1]
def wsX3_change_r2 : List Cond := [Cond.code yX1_finds cX1_finds 4 (some .boolean), Cond.constant RX1 37 (100000), Cond.fieldLink RX1 38 "BerthPlan$Search" "best" "I", Cond.constant RX1 50 (1000000), Cond.methodLink RX1 33 yX1_openAll, Cond.instanceMethod yX1_openAll, Cond.selects RX1 yX1_openAll yX1_openAll, Cond.code yX1_openAll cX1_openAll 6 none, Cond.fieldLink RX1 29 "BerthPlan$Search" "ships" "[LBerthPlan$Ship;", Cond.methodLink RX1 55 Lib.Math.min.name, Cond.static Lib.Math.min.name, Cond.initialized "java/lang/Math", Cond.code Lib.Math.min.name Lib.Math.min.code 2 (some .int), Cond.fieldLink RX1 61 "BerthPlan$Search" "shipCount" "I", Cond.fieldLink RX1 64 "BerthPlan$Quay" "places" "I", Cond.fieldLink RX1 69 "BerthPlan$Search" "places" "I", Cond.fieldLink RX1 9 "BerthPlan$Search" "begins" "[I", Cond.methodLink RX1 70 yX1_index, Cond.static yX1_index, Cond.code yX1_index cX1_index 3 (some .int), Cond.methodLink RX1 74 yX2_beginsAt, Cond.instanceMethod yX2_beginsAt, Cond.selects RX2 yX2_beginsAt yX2_beginsAt, Cond.initialized RX2]
def wsX3_change_r3 : List Cond := [Cond.code yX2_beginsAt cX2_beginsAt 3 (some .int), Cond.fieldLink RX2 16 "BerthPlan$Ship" "isFixed" "Z", Cond.fieldLink RX2 20 "BerthPlan$Ship" "fixedPlace" "I", Cond.fieldLink RX2 23 "BerthPlan$Ship" "fixedHour" "I", Cond.fieldLink RX2 26 "BerthPlan$Ship" "length" "I", Cond.fieldLink RX2 29 "BerthPlan$Ship" "need" "I", Cond.fieldLink RX2 32 "BerthPlan$Ship" "wanted" "I", Cond.fieldLink RX2 13 "BerthPlan$Ship" "arrives" "I", Cond.methodLink RX2 35 yX0_suits, Cond.instanceMethod yX0_suits, Cond.selects RX0 yX0_suits yX0_suits, Cond.initialized RX0, Cond.code yX0_suits cX0_suits 7 (some .boolean), Cond.fieldLink RX0 15 "BerthPlan$Quay" "depths" "[I", Cond.fieldLink RX0 19 "BerthPlan$Quay" "gears" "[I", Cond.methodLink RX0 22 yX0_isRow, Cond.instanceMethod yX0_isRow, Cond.selects RX0 yX0_isRow yX0_isRow, Cond.code yX0_isRow cX0_isRow 3 (some .boolean), Cond.fieldLink RX0 9 "BerthPlan$Quay" "places" "I", Cond.methodLink RX2 41 yX0_beginsFrom, Cond.instanceMethod yX0_beginsFrom, Cond.selects RX0 yX0_beginsFrom yX0_beginsFrom, Cond.code yX0_beginsFrom cX0_beginsFrom 3 (some .int)]
def wsX3_change_r4 : List Cond := [Cond.fieldLink RX0 34 "BerthPlan$Quay" "tideSpans" "I", Cond.fieldLink RX0 37 "BerthPlan$Quay" "tideHours" "I", Cond.static yX3_beginsBetween, Cond.code yX3_beginsBetween cX3_beginsBetween 4 (some .int), Cond.methodLink RX1 42 yX1_everyShip, Cond.instanceMethod yX1_everyShip, Cond.selects RX1 yX1_everyShip yX1_everyShip, Cond.code yX1_everyShip cX1_everyShip 1 (some .int), Cond.methodLink RX1 46 yX1_leastOf, Cond.instanceMethod yX1_leastOf, Cond.selects RX1 yX1_leastOf yX1_leastOf, Cond.code yX1_leastOf cX1_leastOf 7 (some .int), Cond.methodLink RX1 83 yX1_levelOf, Cond.instanceMethod yX1_levelOf, Cond.selects RX1 yX1_levelOf yX1_levelOf, Cond.code yX1_levelOf cX1_levelOf 2 (some .int), Cond.methodLink RX1 78 yJ6_bitCount_0f7a4, Cond.static yJ6_bitCount_0f7a4, Cond.initialized RJ6, Cond.code yJ6_bitCount_0f7a4 cJ6_bitCount_0f7a4 1 (some .int), Cond.constant RJ6 265 (1431655765), Cond.constant RJ6 266 (858993459), Cond.constant RJ6 267 (252645135), Cond.static yX3_hasBit]
def wsX3_change_r5 : List Cond := [Cond.code yX3_hasBit cX3_hasBit 2 (some .boolean), Cond.methodLink RX1 90 yX1_firstOf, Cond.static yX1_firstOf, Cond.code yX1_firstOf cX1_firstOf 1 (some .int), Cond.methodLink RX1 93 yX2_latenessIf, Cond.instanceMethod yX2_latenessIf, Cond.selects RX2 yX2_latenessIf yX2_latenessIf, Cond.code yX2_latenessIf cX2_latenessIf 2 (some .int), Cond.fieldLink RX2 7 "BerthPlan$Ship" "weight" "I", Cond.methodLink RX1 51 yX1_berthRest, Cond.instanceMethod yX1_berthRest, Cond.selects RX1 yX1_berthRest yX1_berthRest, Cond.code yX1_berthRest cX1_berthRest 6 none, Cond.methodLink RX1 96 yX1_keepIfAhead, Cond.instanceMethod yX1_keepIfAhead, Cond.selects RX1 yX1_keepIfAhead yX1_keepIfAhead, Cond.code yX1_keepIfAhead cX1_keepIfAhead 3 none, Cond.fieldLink RX1 21 "BerthPlan$Search" "bestPlaces" "[I", Cond.fieldLink RX1 15 "BerthPlan$Search" "triedPlaces" "[I", Cond.fieldLink RX1 24 "BerthPlan$Search" "bestHours" "[I", Cond.fieldLink RX1 18 "BerthPlan$Search" "triedHours" "[I", Cond.methodLink RX1 124 yX1_isTriedAhead, Cond.instanceMethod yX1_isTriedAhead, Cond.selects RX1 yX1_isTriedAhead yX1_isTriedAhead]
def wsX3_change_r6 : List Cond := [Cond.code yX1_isTriedAhead cX1_isTriedAhead 2 (some .boolean), Cond.methodLink RX1 100 yX1_tryBerth, Cond.instanceMethod yX1_tryBerth, Cond.selects RX1 yX1_tryBerth yX1_tryBerth, Cond.code yX1_tryBerth cX1_tryBerth 11 none, Cond.methodLink RX1 104 yX1_lay, Cond.instanceMethod yX1_lay, Cond.selects RX1 yX1_lay yX1_lay, Cond.code yX1_lay cX1_lay 7 none, Cond.methodLink RX1 108 yX1_narrow, Cond.instanceMethod yX1_narrow, Cond.selects RX1 yX1_narrow yX1_narrow, Cond.code yX1_narrow cX1_narrow 11 none, Cond.fieldLink RX1 111 "BerthPlan$Ship" "time" "I", Cond.fieldLink RX1 117 "BerthPlan$Ship" "length" "I", Cond.static yX3_spansMeet, Cond.code yX3_spansMeet cX3_spansMeet 4 (some .boolean), Cond.methodLink RX3 132 yX3_moveShips, Cond.instanceMethod yX3_moveShips, Cond.selects RX3 yX3_moveShips yX3_moveShips, Cond.code yX3_moveShips cX3_moveShips 3 (some .int), Cond.fieldLink RX3 194 "BerthPlan$Search" "bestPlaces" "[I", Cond.fieldLink RX3 197 "BerthPlan$Search" "bestHours" "[I", Cond.methodLink RX3 200 yX2_moveTo]
def wsX3_change_r7 : List Cond := [Cond.instanceMethod yX2_moveTo, Cond.selects RX2 yX2_moveTo yX2_moveTo, Cond.code yX2_moveTo cX2_moveTo 4 (some .boolean), Cond.fieldLink RX2 45 "BerthPlan$Ship" "place" "I", Cond.fieldLink RX2 48 "BerthPlan$Ship" "hour" "I"]
def wsX3_change : List Cond := .code yX3_change cX3_change 3 (some .int) :: ((wsX3_change_r1 ++ (wsX3_change_r2 ++ (wsX3_change_r3 ++ (wsX3_change_r4 ++ (wsX3_change_r5 ++ (wsX3_change_r6 ++ wsX3_change_r7)))))) ++ wsX30 ++ wsX20 ++ wsX10 ++ wsX00 ++ (vx_atS RX3 140 "java/lang/IndexOutOfBoundsException" ["java/lang/RuntimeException", "java/lang/Exception"]).filter goodWord ++ (vx_atS RX3 49 "java/lang/IllegalArgumentException" ["java/lang/RuntimeException", "java/lang/Exception"]).filter goodWord ++ (vx_atS RX3 60 "java/lang/IllegalStateException" ["java/lang/RuntimeException", "java/lang/Exception"]).filter goodWord)
def wsX3_isSpanAt : List Cond := .code yX3_isSpanAt cX3_isSpanAt 3 (some .boolean) :: ([])
def wsX3_lies : List Cond := .code yX3_lies cX3_lies 5 (some .int) :: ([.classLink RX3 56 "java/lang/IllegalStateException", .initialized "java/lang/IllegalStateException", .fieldLink RX3 76 "BerthPlan" "planned" "Z", .fieldLink RX3 52 "BerthPlan" "shipCount" "I", .fieldLink RX3 29 "BerthPlan" "ships" "[LBerthPlan$Ship;", .fieldLink RX3 143 "BerthPlan$Ship" "place" "I", .fieldLink RX3 61 "BerthPlan$Ship" "length" "I", .fieldLink RX3 146 "BerthPlan$Ship" "hour" "I", .fieldLink RX3 67 "BerthPlan$Ship" "time" "I", .methodLink RX3 171 yX3_isSpanAt, .static yX3_isSpanAt, .initialized RX3, .code yX3_isSpanAt cX3_isSpanAt 3 (some .boolean)] ++ wsX30 ++ wsX20 ++ (vx_atS RX3 60 "java/lang/IllegalStateException" ["java/lang/RuntimeException", "java/lang/Exception"]).filter goodWord)
def wsX3_share : List Cond := .code yX3_share cX3_share 5 (some .long) :: ([.classLink RX3 45 "java/lang/IllegalArgumentException", .initialized "java/lang/IllegalArgumentException", .classLink RX3 179 "java/lang/ArithmeticException", .initialized "java/lang/ArithmeticException", .constant RX3 157 (1000000), .fieldLink RX3 23 "BerthPlan" "quay" "LBerthPlan$Quay;", .methodLink RX3 41 yX3_isWithin, .static yX3_isWithin, .initialized RX3, .code yX3_isWithin cX3_isWithin 3 (some .boolean), .methodLink RX3 176 yX0_placesOf, .instanceMethod yX0_placesOf, .selects RX0 yX0_placesOf yX0_placesOf, .initialized RX0, .code yX0_placesOf cX0_placesOf 4 (some .int), .fieldLink RX0 9 "BerthPlan$Quay" "places" "I", .fieldLink RX0 15 "BerthPlan$Quay" "depths" "[I"] ++ wsX30 ++ wsX00 ++ (vx_atS RX3 49 "java/lang/IllegalArgumentException" ["java/lang/RuntimeException", "java/lang/Exception"]).filter goodWord ++ (vx_atS RX3 183 "java/lang/ArithmeticException" ["java/lang/RuntimeException", "java/lang/Exception"]).filter goodWord)
def wsX3_fixedShips : List Cond := .code yX3_fixedShips cX3_fixedShips 3 (some .int) :: ([.fieldLink RX3 52 "BerthPlan" "shipCount" "I", .fieldLink RX3 29 "BerthPlan" "ships" "[LBerthPlan$Ship;", .fieldLink RX3 119 "BerthPlan$Ship" "isFixed" "Z"] ++ wsX30 ++ wsX20)
def wsX3_countOfPlace : List Cond := .code yX3_countOfPlace cX3_countOfPlace 2 (some .int) :: ([.fieldLink RX3 23 "BerthPlan" "quay" "LBerthPlan$Quay;", .fieldLink RX3 160 "BerthPlan$Quay" "places" "I", .fieldLink RX3 84 "BerthPlan$Quay" "depths" "[I", .fieldLink RX3 91 "BerthPlan$Quay" "gears" "[I", .methodLink RX3 41 yX3_isWithin, .static yX3_isWithin, .initialized RX3, .code yX3_isWithin cX3_isWithin 3 (some .boolean)] ++ wsX30 ++ wsX00)
def wsX3_count : List Cond := .code yX3_count cX3_count 2 (some .int) :: ([.fieldLink RX3 23 "BerthPlan" "quay" "LBerthPlan$Quay;", .fieldLink RX3 160 "BerthPlan$Quay" "places" "I", .fieldLink RX3 52 "BerthPlan" "shipCount" "I", .fieldLink RX3 104 "BerthPlan$Quay" "tideSpans" "I", .fieldLink RX3 76 "BerthPlan" "planned" "Z", .methodLink RX3 184 yX3_fixedShips, .instanceMethod yX3_fixedShips, .selects RX3 yX3_fixedShips yX3_fixedShips, .initialized RX3, .code yX3_fixedShips cX3_fixedShips 3 (some .int), .fieldLink RX3 29 "BerthPlan" "ships" "[LBerthPlan$Ship;", .fieldLink RX3 119 "BerthPlan$Ship" "isFixed" "Z", .methodLink RX3 187 yX3_countOfPlace, .instanceMethod yX3_countOfPlace, .selects RX3 yX3_countOfPlace yX3_countOfPlace, .code yX3_countOfPlace cX3_countOfPlace 2 (some .int), .fieldLink RX3 84 "BerthPlan$Quay" "depths" "[I", .fieldLink RX3 91 "BerthPlan$Quay" "gears" "[I", .methodLink RX3 41 yX3_isWithin, .static yX3_isWithin, .code yX3_isWithin cX3_isWithin 3 (some .boolean)] ++ wsX30 ++ wsX00 ++ wsX20)
def wsX4_init : List Cond := .code yX4_init cX4_init 2 none :: ([.methodLink RX4 1 objectInit, .instanceMethod objectInit, .code objectInit ⟨#[0xb1]⟩ 1 none, .arrayClass .int, .fieldLink RX4 7 "BerthPlanModel" "depthOf" "[I", .fieldLink RX4 13 "BerthPlanModel" "gearOf" "[I", .fieldLink RX4 16 "BerthPlanModel" "spanFrom" "[I", .fieldLink RX4 19 "BerthPlanModel" "spanTo" "[I", .fieldLink RX4 22 "BerthPlanModel" "length" "[I", .fieldLink RX4 25 "BerthPlanModel" "need" "[I", .fieldLink RX4 28 "BerthPlanModel" "time" "[I", .fieldLink RX4 31 "BerthPlanModel" "arrives" "[I", .fieldLink RX4 34 "BerthPlanModel" "weight" "[I", .fieldLink RX4 37 "BerthPlanModel" "kinds" "[I", .fieldLink RX4 40 "BerthPlanModel" "fixed" "[I", .fieldLink RX4 43 "BerthPlanModel" "berth" "[I", .fieldLink RX4 46 "BerthPlanModel" "tried" "[I", .fieldLink RX4 49 "BerthPlanModel" "least" "[I", .fieldLink RX4 52 "BerthPlanModel" "places" "I"] ++ wsX40)
def wsX4_thrown : List Cond := .code yX4_thrown cX4_thrown 1 (some .int) :: ([.fieldLink RX4 56 "BerthPlanModel" "thrown" "I"] ++ wsX40)
def wsX4_in : List Cond := .code yX4_in cX4_in 3 (some .boolean) :: ([])
def wsX4_isPlace : List Cond := .code yX4_isPlace cX4_isPlace 2 (some .boolean) :: ([.fieldLink RX4 52 "BerthPlanModel" "places" "I"] ++ wsX40)
def wsX4_isShip : List Cond := .code yX4_isShip cX4_isShip 2 (some .boolean) :: ([.fieldLink RX4 59 "BerthPlanModel" "ships" "I"] ++ wsX40)
def wsX4_ship : List Cond := .code yX4_ship cX4_ship 7 (some .int) :: ([.fieldLink RX4 59 "BerthPlanModel" "ships" "I", .fieldLink RX4 56 "BerthPlanModel" "thrown" "I", .fieldLink RX4 22 "BerthPlanModel" "length" "[I", .fieldLink RX4 25 "BerthPlanModel" "need" "[I", .fieldLink RX4 28 "BerthPlanModel" "time" "[I", .fieldLink RX4 31 "BerthPlanModel" "arrives" "[I", .fieldLink RX4 34 "BerthPlanModel" "weight" "[I", .fieldLink RX4 66 "BerthPlanModel" "isPlan" "Z", .methodLink RX4 62 yX4_in, .static yX4_in, .initialized RX4, .code yX4_in cX4_in 3 (some .boolean)] ++ wsX40)
def wsX4_depth : List Cond := .code yX4_depth cX4_depth 5 (some .boolean) :: ([.fieldLink RX4 56 "BerthPlanModel" "thrown" "I", .fieldLink RX4 7 "BerthPlanModel" "depthOf" "[I", .fieldLink RX4 66 "BerthPlanModel" "isPlan" "Z", .methodLink RX4 70 yX4_isPlace, .instanceMethod yX4_isPlace, .selects RX4 yX4_isPlace yX4_isPlace, .initialized RX4, .code yX4_isPlace cX4_isPlace 2 (some .boolean), .fieldLink RX4 52 "BerthPlanModel" "places" "I", .methodLink RX4 62 yX4_in, .static yX4_in, .code yX4_in cX4_in 3 (some .boolean)] ++ wsX40)
def wsX4_bit : List Cond := .code yX4_bit cX4_bit 2 (some .boolean) :: ([])
def wsX4_gear : List Cond := .code yX4_gear cX4_gear 4 (some .boolean) :: ([.fieldLink RX4 56 "BerthPlanModel" "thrown" "I", .fieldLink RX4 13 "BerthPlanModel" "gearOf" "[I", .fieldLink RX4 66 "BerthPlanModel" "isPlan" "Z", .methodLink RX4 70 yX4_isPlace, .instanceMethod yX4_isPlace, .selects RX4 yX4_isPlace yX4_isPlace, .initialized RX4, .code yX4_isPlace cX4_isPlace 2 (some .boolean), .fieldLink RX4 52 "BerthPlanModel" "places" "I", .methodLink RX4 62 yX4_in, .static yX4_in, .code yX4_in cX4_in 3 (some .boolean), .methodLink RX4 74 yX4_bit, .static yX4_bit, .code yX4_bit cX4_bit 2 (some .boolean)] ++ wsX40)
def wsX4_wants : List Cond := .code yX4_wants cX4_wants 4 (some .boolean) :: ([.fieldLink RX4 56 "BerthPlanModel" "thrown" "I", .fieldLink RX4 37 "BerthPlanModel" "kinds" "[I", .fieldLink RX4 66 "BerthPlanModel" "isPlan" "Z", .methodLink RX4 78 yX4_isShip, .instanceMethod yX4_isShip, .selects RX4 yX4_isShip yX4_isShip, .initialized RX4, .code yX4_isShip cX4_isShip 2 (some .boolean), .fieldLink RX4 59 "BerthPlanModel" "ships" "I", .methodLink RX4 62 yX4_in, .static yX4_in, .code yX4_in cX4_in 3 (some .boolean), .methodLink RX4 74 yX4_bit, .static yX4_bit, .code yX4_bit cX4_bit 2 (some .boolean)] ++ wsX40)
def wsX4_tide : List Cond := .code yX4_tide cX4_tide 3 (some .boolean) :: ([.fieldLink RX4 56 "BerthPlanModel" "thrown" "I", .fieldLink RX4 81 "BerthPlanModel" "spans" "I", .fieldLink RX4 16 "BerthPlanModel" "spanFrom" "[I", .fieldLink RX4 19 "BerthPlanModel" "spanTo" "[I", .fieldLink RX4 66 "BerthPlanModel" "isPlan" "Z", .methodLink RX4 62 yX4_in, .static yX4_in, .initialized RX4, .code yX4_in cX4_in 3 (some .boolean)] ++ wsX40)
def wsX4_meet : List Cond := .code yX4_meet cX4_meet 6 (some .boolean) :: ([.fieldLink RX4 22 "BerthPlanModel" "length" "[I", .fieldLink RX4 28 "BerthPlanModel" "time" "[I"] ++ wsX40)
def wsX4_fix : List Cond := .code yX4_fix cX4_fix 5 (some .boolean) :: ([.fieldLink RX4 56 "BerthPlanModel" "thrown" "I", .fieldLink RX4 22 "BerthPlanModel" "length" "[I", .fieldLink RX4 52 "BerthPlanModel" "places" "I", .fieldLink RX4 59 "BerthPlanModel" "ships" "I", .fieldLink RX4 40 "BerthPlanModel" "fixed" "[I", .fieldLink RX4 66 "BerthPlanModel" "isPlan" "Z", .methodLink RX4 78 yX4_isShip, .instanceMethod yX4_isShip, .selects RX4 yX4_isShip yX4_isShip, .initialized RX4, .code yX4_isShip cX4_isShip 2 (some .boolean), .methodLink RX4 70 yX4_isPlace, .instanceMethod yX4_isPlace, .selects RX4 yX4_isPlace yX4_isPlace, .code yX4_isPlace cX4_isPlace 2 (some .boolean), .methodLink RX4 62 yX4_in, .static yX4_in, .code yX4_in cX4_in 3 (some .boolean), .methodLink RX4 84 yX4_meet, .instanceMethod yX4_meet, .selects RX4 yX4_meet yX4_meet, .code yX4_meet cX4_meet 6 (some .boolean), .fieldLink RX4 28 "BerthPlanModel" "time" "[I"] ++ wsX40)
def wsX4_free : List Cond := .code yX4_free cX4_free 2 (some .boolean) :: ([.fieldLink RX4 56 "BerthPlanModel" "thrown" "I", .fieldLink RX4 40 "BerthPlanModel" "fixed" "[I", .fieldLink RX4 66 "BerthPlanModel" "isPlan" "Z", .methodLink RX4 78 yX4_isShip, .instanceMethod yX4_isShip, .selects RX4 yX4_isShip yX4_isShip, .initialized RX4, .code yX4_isShip cX4_isShip 2 (some .boolean), .fieldLink RX4 59 "BerthPlanModel" "ships" "I"] ++ wsX40)
def wsX4_isDeep : List Cond := .code yX4_isDeep cX4_isDeep 5 (some .boolean) :: ([.fieldLink RX4 22 "BerthPlanModel" "length" "[I", .fieldLink RX4 52 "BerthPlanModel" "places" "I", .fieldLink RX4 7 "BerthPlanModel" "depthOf" "[I", .fieldLink RX4 25 "BerthPlanModel" "need" "[I"] ++ wsX40)
def wsX4_hasGear : List Cond := .code yX4_hasGear cX4_hasGear 5 (some .boolean) :: ([.fieldLink RX4 22 "BerthPlanModel" "length" "[I", .fieldLink RX4 52 "BerthPlanModel" "places" "I", .fieldLink RX4 13 "BerthPlanModel" "gearOf" "[I", .fieldLink RX4 37 "BerthPlanModel" "kinds" "[I"] ++ wsX40)
def wsX4_isTide : List Cond := .code yX4_isTide cX4_isTide 4 (some .boolean) :: ([.fieldLink RX4 81 "BerthPlanModel" "spans" "I", .fieldLink RX4 16 "BerthPlanModel" "spanFrom" "[I", .fieldLink RX4 19 "BerthPlanModel" "spanTo" "[I", .methodLink RX4 62 yX4_in, .static yX4_in, .initialized RX4, .code yX4_in cX4_in 3 (some .boolean)] ++ wsX40)
def wsX4_mayBe_r1 : List Cond := [Cond.fieldLink RX4 40 "BerthPlanModel" "fixed" "[I", Cond.fieldLink RX4 52 "BerthPlanModel" "places" "I", Cond.fieldLink RX4 31 "BerthPlanModel" "arrives" "[I", Cond.methodLink RX4 88 yX4_isTide, Cond.instanceMethod yX4_isTide, Cond.selects RX4 yX4_isTide yX4_isTide, Cond.initialized RX4, Cond.code yX4_isTide cX4_isTide 4 (some .boolean), Cond.fieldLink RX4 81 "BerthPlanModel" "spans" "I", Cond.fieldLink RX4 16 "BerthPlanModel" "spanFrom" "[I", Cond.fieldLink RX4 19 "BerthPlanModel" "spanTo" "[I", Cond.methodLink RX4 62 yX4_in, Cond.static yX4_in, Cond.code yX4_in cX4_in 3 (some .boolean), Cond.methodLink RX4 91 yX4_isDeep, Cond.instanceMethod yX4_isDeep, Cond.selects RX4 yX4_isDeep yX4_isDeep, Cond.code yX4_isDeep cX4_isDeep 5 (some .boolean), Cond.fieldLink RX4 22 "BerthPlanModel" "length" "[I", Cond.fieldLink RX4 7 "BerthPlanModel" "depthOf" "[I", Cond.fieldLink RX4 25 "BerthPlanModel" "need" "[I", Cond.methodLink RX4 94 yX4_hasGear, Cond.instanceMethod yX4_hasGear, Cond.selects RX4 yX4_hasGear yX4_hasGear]
def wsX4_mayBe_r2 : List Cond := [Cond.code yX4_hasGear cX4_hasGear 5 (some .boolean), Cond.fieldLink RX4 13 "BerthPlanModel" "gearOf" "[I", Cond.fieldLink RX4 37 "BerthPlanModel" "kinds" "[I"]
def wsX4_mayBe : List Cond := .code yX4_mayBe cX4_mayBe 3 (some .boolean) :: ((wsX4_mayBe_r1 ++ wsX4_mayBe_r2) ++ wsX40)
def wsX4_cost : List Cond := .code yX4_cost cX4_cost 3 (some .int) :: ([.fieldLink RX4 34 "BerthPlanModel" "weight" "[I", .fieldLink RX4 31 "BerthPlanModel" "arrives" "[I"] ++ wsX40)
def wsX4_leastOf_r1 : List Cond := [Cond.constant RX4 97 (1000000000), Cond.methodLink RX4 98 yX4_mayBe, Cond.instanceMethod yX4_mayBe, Cond.selects RX4 yX4_mayBe yX4_mayBe, Cond.initialized RX4, Cond.code yX4_mayBe cX4_mayBe 3 (some .boolean), Cond.fieldLink RX4 40 "BerthPlanModel" "fixed" "[I", Cond.fieldLink RX4 52 "BerthPlanModel" "places" "I", Cond.fieldLink RX4 31 "BerthPlanModel" "arrives" "[I", Cond.methodLink RX4 88 yX4_isTide, Cond.instanceMethod yX4_isTide, Cond.selects RX4 yX4_isTide yX4_isTide, Cond.code yX4_isTide cX4_isTide 4 (some .boolean), Cond.fieldLink RX4 81 "BerthPlanModel" "spans" "I", Cond.fieldLink RX4 16 "BerthPlanModel" "spanFrom" "[I", Cond.fieldLink RX4 19 "BerthPlanModel" "spanTo" "[I", Cond.methodLink RX4 62 yX4_in, Cond.static yX4_in, Cond.code yX4_in cX4_in 3 (some .boolean), Cond.methodLink RX4 91 yX4_isDeep, Cond.instanceMethod yX4_isDeep, Cond.selects RX4 yX4_isDeep yX4_isDeep, Cond.code yX4_isDeep cX4_isDeep 5 (some .boolean), Cond.fieldLink RX4 22 "BerthPlanModel" "length" "[I"]
def wsX4_leastOf_r2 : List Cond := [Cond.fieldLink RX4 7 "BerthPlanModel" "depthOf" "[I", Cond.fieldLink RX4 25 "BerthPlanModel" "need" "[I", Cond.methodLink RX4 94 yX4_hasGear, Cond.instanceMethod yX4_hasGear, Cond.selects RX4 yX4_hasGear yX4_hasGear, Cond.code yX4_hasGear cX4_hasGear 5 (some .boolean), Cond.fieldLink RX4 13 "BerthPlanModel" "gearOf" "[I", Cond.fieldLink RX4 37 "BerthPlanModel" "kinds" "[I", Cond.methodLink RX4 101 yX4_cost, Cond.instanceMethod yX4_cost, Cond.selects RX4 yX4_cost yX4_cost, Cond.code yX4_cost cX4_cost 3 (some .int), Cond.fieldLink RX4 34 "BerthPlanModel" "weight" "[I"]
def wsX4_leastOf : List Cond := .code yX4_leastOf cX4_leastOf 4 (some .int) :: ((wsX4_leastOf_r1 ++ wsX4_leastOf_r2) ++ wsX40)
def wsX4_isClear : List Cond := .code yX4_isClear cX4_isClear 5 (some .boolean) :: ([.fieldLink RX4 46 "BerthPlanModel" "tried" "[I", .methodLink RX4 84 yX4_meet, .instanceMethod yX4_meet, .selects RX4 yX4_meet yX4_meet, .initialized RX4, .code yX4_meet cX4_meet 6 (some .boolean), .fieldLink RX4 22 "BerthPlanModel" "length" "[I", .fieldLink RX4 28 "BerthPlanModel" "time" "[I"] ++ wsX40)
def wsX4_costUpTo : List Cond := .code yX4_costUpTo cX4_costUpTo 4 (some .int) :: ([.fieldLink RX4 46 "BerthPlanModel" "tried" "[I", .methodLink RX4 101 yX4_cost, .instanceMethod yX4_cost, .selects RX4 yX4_cost yX4_cost, .initialized RX4, .code yX4_cost cX4_cost 3 (some .int), .fieldLink RX4 34 "BerthPlanModel" "weight" "[I", .fieldLink RX4 31 "BerthPlanModel" "arrives" "[I"] ++ wsX40)
def wsX4_search_r1 : List Cond := [Cond.fieldLink RX4 49 "BerthPlanModel" "least" "[I", Cond.fieldLink RX4 59 "BerthPlanModel" "ships" "I", Cond.constant RX4 97 (1000000000), Cond.fieldLink RX4 46 "BerthPlanModel" "tried" "[I", Cond.fieldLink RX4 43 "BerthPlanModel" "berth" "[I", Cond.methodLink RX4 105 yX4_leastOf, Cond.instanceMethod yX4_leastOf, Cond.selects RX4 yX4_leastOf yX4_leastOf, Cond.initialized RX4, Cond.code yX4_leastOf cX4_leastOf 4 (some .int), Cond.methodLink RX4 98 yX4_mayBe, Cond.instanceMethod yX4_mayBe, Cond.selects RX4 yX4_mayBe yX4_mayBe, Cond.code yX4_mayBe cX4_mayBe 3 (some .boolean), Cond.fieldLink RX4 40 "BerthPlanModel" "fixed" "[I", Cond.fieldLink RX4 52 "BerthPlanModel" "places" "I", Cond.fieldLink RX4 31 "BerthPlanModel" "arrives" "[I", Cond.methodLink RX4 88 yX4_isTide, Cond.instanceMethod yX4_isTide, Cond.selects RX4 yX4_isTide yX4_isTide, Cond.code yX4_isTide cX4_isTide 4 (some .boolean), Cond.fieldLink RX4 81 "BerthPlanModel" "spans" "I", Cond.fieldLink RX4 16 "BerthPlanModel" "spanFrom" "[I", Cond.fieldLink RX4 19 "BerthPlanModel" "spanTo" "[I"]
def wsX4_search_r2 : List Cond := [Cond.methodLink RX4 62 yX4_in, Cond.static yX4_in, Cond.code yX4_in cX4_in 3 (some .boolean), Cond.methodLink RX4 91 yX4_isDeep, Cond.instanceMethod yX4_isDeep, Cond.selects RX4 yX4_isDeep yX4_isDeep, Cond.code yX4_isDeep cX4_isDeep 5 (some .boolean), Cond.fieldLink RX4 22 "BerthPlanModel" "length" "[I", Cond.fieldLink RX4 7 "BerthPlanModel" "depthOf" "[I", Cond.fieldLink RX4 25 "BerthPlanModel" "need" "[I", Cond.methodLink RX4 94 yX4_hasGear, Cond.instanceMethod yX4_hasGear, Cond.selects RX4 yX4_hasGear yX4_hasGear, Cond.code yX4_hasGear cX4_hasGear 5 (some .boolean), Cond.fieldLink RX4 13 "BerthPlanModel" "gearOf" "[I", Cond.fieldLink RX4 37 "BerthPlanModel" "kinds" "[I", Cond.methodLink RX4 101 yX4_cost, Cond.instanceMethod yX4_cost, Cond.selects RX4 yX4_cost yX4_cost, Cond.code yX4_cost cX4_cost 3 (some .int), Cond.fieldLink RX4 34 "BerthPlanModel" "weight" "[I", Cond.methodLink RX4 109 yX4_costUpTo, Cond.instanceMethod yX4_costUpTo, Cond.selects RX4 yX4_costUpTo yX4_costUpTo]
def wsX4_search_r3 : List Cond := [Cond.code yX4_costUpTo cX4_costUpTo 4 (some .int), Cond.methodLink RX4 112 yX4_isClear, Cond.instanceMethod yX4_isClear, Cond.selects RX4 yX4_isClear yX4_isClear, Cond.code yX4_isClear cX4_isClear 5 (some .boolean), Cond.methodLink RX4 84 yX4_meet, Cond.instanceMethod yX4_meet, Cond.selects RX4 yX4_meet yX4_meet, Cond.code yX4_meet cX4_meet 6 (some .boolean), Cond.fieldLink RX4 28 "BerthPlanModel" "time" "[I"]
def wsX4_search : List Cond := .code yX4_search cX4_search 5 (some .boolean) :: ((wsX4_search_r1 ++ (wsX4_search_r2 ++ wsX4_search_r3)) ++ wsX40)
def wsX4_solve_r1 : List Cond := [Cond.fieldLink RX4 56 "BerthPlanModel" "thrown" "I", Cond.fieldLink RX4 66 "BerthPlanModel" "isPlan" "Z", Cond.methodLink RX4 115 yX4_search, Cond.instanceMethod yX4_search, Cond.selects RX4 yX4_search yX4_search, Cond.initialized RX4, Cond.code yX4_search cX4_search 5 (some .boolean), Cond.fieldLink RX4 49 "BerthPlanModel" "least" "[I", Cond.fieldLink RX4 59 "BerthPlanModel" "ships" "I", Cond.constant RX4 97 (1000000000), Cond.fieldLink RX4 46 "BerthPlanModel" "tried" "[I", Cond.fieldLink RX4 43 "BerthPlanModel" "berth" "[I", Cond.methodLink RX4 105 yX4_leastOf, Cond.instanceMethod yX4_leastOf, Cond.selects RX4 yX4_leastOf yX4_leastOf, Cond.code yX4_leastOf cX4_leastOf 4 (some .int), Cond.methodLink RX4 98 yX4_mayBe, Cond.instanceMethod yX4_mayBe, Cond.selects RX4 yX4_mayBe yX4_mayBe, Cond.code yX4_mayBe cX4_mayBe 3 (some .boolean), Cond.fieldLink RX4 40 "BerthPlanModel" "fixed" "[I", Cond.fieldLink RX4 52 "BerthPlanModel" "places" "I", Cond.fieldLink RX4 31 "BerthPlanModel" "arrives" "[I", Cond.methodLink RX4 88 yX4_isTide]
def wsX4_solve_r2 : List Cond := [Cond.instanceMethod yX4_isTide, Cond.selects RX4 yX4_isTide yX4_isTide, Cond.code yX4_isTide cX4_isTide 4 (some .boolean), Cond.fieldLink RX4 81 "BerthPlanModel" "spans" "I", Cond.fieldLink RX4 16 "BerthPlanModel" "spanFrom" "[I", Cond.fieldLink RX4 19 "BerthPlanModel" "spanTo" "[I", Cond.methodLink RX4 62 yX4_in, Cond.static yX4_in, Cond.code yX4_in cX4_in 3 (some .boolean), Cond.methodLink RX4 91 yX4_isDeep, Cond.instanceMethod yX4_isDeep, Cond.selects RX4 yX4_isDeep yX4_isDeep, Cond.code yX4_isDeep cX4_isDeep 5 (some .boolean), Cond.fieldLink RX4 22 "BerthPlanModel" "length" "[I", Cond.fieldLink RX4 7 "BerthPlanModel" "depthOf" "[I", Cond.fieldLink RX4 25 "BerthPlanModel" "need" "[I", Cond.methodLink RX4 94 yX4_hasGear, Cond.instanceMethod yX4_hasGear, Cond.selects RX4 yX4_hasGear yX4_hasGear, Cond.code yX4_hasGear cX4_hasGear 5 (some .boolean), Cond.fieldLink RX4 13 "BerthPlanModel" "gearOf" "[I", Cond.fieldLink RX4 37 "BerthPlanModel" "kinds" "[I", Cond.methodLink RX4 101 yX4_cost, Cond.instanceMethod yX4_cost]
def wsX4_solve_r3 : List Cond := [Cond.selects RX4 yX4_cost yX4_cost, Cond.code yX4_cost cX4_cost 3 (some .int), Cond.fieldLink RX4 34 "BerthPlanModel" "weight" "[I", Cond.methodLink RX4 109 yX4_costUpTo, Cond.instanceMethod yX4_costUpTo, Cond.selects RX4 yX4_costUpTo yX4_costUpTo, Cond.code yX4_costUpTo cX4_costUpTo 4 (some .int), Cond.methodLink RX4 112 yX4_isClear, Cond.instanceMethod yX4_isClear, Cond.selects RX4 yX4_isClear yX4_isClear, Cond.code yX4_isClear cX4_isClear 5 (some .boolean), Cond.methodLink RX4 84 yX4_meet, Cond.instanceMethod yX4_meet, Cond.selects RX4 yX4_meet yX4_meet, Cond.code yX4_meet cX4_meet 6 (some .boolean), Cond.fieldLink RX4 28 "BerthPlanModel" "time" "[I"]
def wsX4_solve : List Cond := .code yX4_solve cX4_solve 1 (some .int) :: ((wsX4_solve_r1 ++ (wsX4_solve_r2 ++ wsX4_solve_r3)) ++ wsX40)
def wsX4_at : List Cond := .code yX4_at cX4_at 3 (some .int) :: ([.fieldLink RX4 66 "BerthPlanModel" "isPlan" "Z", .fieldLink RX4 56 "BerthPlanModel" "thrown" "I", .fieldLink RX4 43 "BerthPlanModel" "berth" "[I", .fieldLink RX4 31 "BerthPlanModel" "arrives" "[I", .methodLink RX4 78 yX4_isShip, .instanceMethod yX4_isShip, .selects RX4 yX4_isShip yX4_isShip, .initialized RX4, .code yX4_isShip cX4_isShip 2 (some .boolean), .fieldLink RX4 59 "BerthPlanModel" "ships" "I", .methodLink RX4 62 yX4_in, .static yX4_in, .code yX4_in cX4_in 3 (some .boolean)] ++ wsX40)
def wsX4_lateness : List Cond := .code yX4_lateness cX4_lateness 3 (some .int) :: ([.fieldLink RX4 66 "BerthPlanModel" "isPlan" "Z", .fieldLink RX4 56 "BerthPlanModel" "thrown" "I", .fieldLink RX4 59 "BerthPlanModel" "ships" "I", .fieldLink RX4 43 "BerthPlanModel" "berth" "[I", .methodLink RX4 101 yX4_cost, .instanceMethod yX4_cost, .selects RX4 yX4_cost yX4_cost, .initialized RX4, .code yX4_cost cX4_cost 3 (some .int), .fieldLink RX4 34 "BerthPlanModel" "weight" "[I", .fieldLink RX4 31 "BerthPlanModel" "arrives" "[I"] ++ wsX40)
def wsX4_bound_r1 : List Cond := [Cond.fieldLink RX4 56 "BerthPlanModel" "thrown" "I", Cond.fieldLink RX4 59 "BerthPlanModel" "ships" "I", Cond.constant RX4 97 (1000000000), Cond.methodLink RX4 105 yX4_leastOf, Cond.instanceMethod yX4_leastOf, Cond.selects RX4 yX4_leastOf yX4_leastOf, Cond.initialized RX4, Cond.code yX4_leastOf cX4_leastOf 4 (some .int), Cond.methodLink RX4 98 yX4_mayBe, Cond.instanceMethod yX4_mayBe, Cond.selects RX4 yX4_mayBe yX4_mayBe, Cond.code yX4_mayBe cX4_mayBe 3 (some .boolean), Cond.fieldLink RX4 40 "BerthPlanModel" "fixed" "[I", Cond.fieldLink RX4 52 "BerthPlanModel" "places" "I", Cond.fieldLink RX4 31 "BerthPlanModel" "arrives" "[I", Cond.methodLink RX4 88 yX4_isTide, Cond.instanceMethod yX4_isTide, Cond.selects RX4 yX4_isTide yX4_isTide, Cond.code yX4_isTide cX4_isTide 4 (some .boolean), Cond.fieldLink RX4 81 "BerthPlanModel" "spans" "I", Cond.fieldLink RX4 16 "BerthPlanModel" "spanFrom" "[I", Cond.fieldLink RX4 19 "BerthPlanModel" "spanTo" "[I", Cond.methodLink RX4 62 yX4_in, Cond.static yX4_in]
def wsX4_bound_r2 : List Cond := [Cond.code yX4_in cX4_in 3 (some .boolean), Cond.methodLink RX4 91 yX4_isDeep, Cond.instanceMethod yX4_isDeep, Cond.selects RX4 yX4_isDeep yX4_isDeep, Cond.code yX4_isDeep cX4_isDeep 5 (some .boolean), Cond.fieldLink RX4 22 "BerthPlanModel" "length" "[I", Cond.fieldLink RX4 7 "BerthPlanModel" "depthOf" "[I", Cond.fieldLink RX4 25 "BerthPlanModel" "need" "[I", Cond.methodLink RX4 94 yX4_hasGear, Cond.instanceMethod yX4_hasGear, Cond.selects RX4 yX4_hasGear yX4_hasGear, Cond.code yX4_hasGear cX4_hasGear 5 (some .boolean), Cond.fieldLink RX4 13 "BerthPlanModel" "gearOf" "[I", Cond.fieldLink RX4 37 "BerthPlanModel" "kinds" "[I", Cond.methodLink RX4 101 yX4_cost, Cond.instanceMethod yX4_cost, Cond.selects RX4 yX4_cost yX4_cost, Cond.code yX4_cost cX4_cost 3 (some .int), Cond.fieldLink RX4 34 "BerthPlanModel" "weight" "[I"]
def wsX4_bound : List Cond := .code yX4_bound cX4_bound 3 (some .int) :: ((wsX4_bound_r1 ++ wsX4_bound_r2) ++ wsX40)
def wsX4_why_r1 : List Cond := [Cond.fieldLink RX4 56 "BerthPlanModel" "thrown" "I", Cond.fieldLink RX4 52 "BerthPlanModel" "places" "I", Cond.constant RX4 97 (1000000000), Cond.fieldLink RX4 22 "BerthPlanModel" "length" "[I", Cond.methodLink RX4 78 yX4_isShip, Cond.instanceMethod yX4_isShip, Cond.selects RX4 yX4_isShip yX4_isShip, Cond.initialized RX4, Cond.code yX4_isShip cX4_isShip 2 (some .boolean), Cond.fieldLink RX4 59 "BerthPlanModel" "ships" "I", Cond.methodLink RX4 91 yX4_isDeep, Cond.instanceMethod yX4_isDeep, Cond.selects RX4 yX4_isDeep yX4_isDeep, Cond.code yX4_isDeep cX4_isDeep 5 (some .boolean), Cond.fieldLink RX4 7 "BerthPlanModel" "depthOf" "[I", Cond.fieldLink RX4 25 "BerthPlanModel" "need" "[I", Cond.methodLink RX4 94 yX4_hasGear, Cond.instanceMethod yX4_hasGear, Cond.selects RX4 yX4_hasGear yX4_hasGear, Cond.code yX4_hasGear cX4_hasGear 5 (some .boolean), Cond.fieldLink RX4 13 "BerthPlanModel" "gearOf" "[I", Cond.fieldLink RX4 37 "BerthPlanModel" "kinds" "[I", Cond.methodLink RX4 105 yX4_leastOf, Cond.instanceMethod yX4_leastOf]
def wsX4_why_r2 : List Cond := [Cond.selects RX4 yX4_leastOf yX4_leastOf, Cond.code yX4_leastOf cX4_leastOf 4 (some .int), Cond.methodLink RX4 98 yX4_mayBe, Cond.instanceMethod yX4_mayBe, Cond.selects RX4 yX4_mayBe yX4_mayBe, Cond.code yX4_mayBe cX4_mayBe 3 (some .boolean), Cond.fieldLink RX4 40 "BerthPlanModel" "fixed" "[I", Cond.fieldLink RX4 31 "BerthPlanModel" "arrives" "[I", Cond.methodLink RX4 88 yX4_isTide, Cond.instanceMethod yX4_isTide, Cond.selects RX4 yX4_isTide yX4_isTide, Cond.code yX4_isTide cX4_isTide 4 (some .boolean), Cond.fieldLink RX4 81 "BerthPlanModel" "spans" "I", Cond.fieldLink RX4 16 "BerthPlanModel" "spanFrom" "[I", Cond.fieldLink RX4 19 "BerthPlanModel" "spanTo" "[I", Cond.methodLink RX4 62 yX4_in, Cond.static yX4_in, Cond.code yX4_in cX4_in 3 (some .boolean), Cond.methodLink RX4 101 yX4_cost, Cond.instanceMethod yX4_cost, Cond.selects RX4 yX4_cost yX4_cost, Cond.code yX4_cost cX4_cost 3 (some .int), Cond.fieldLink RX4 34 "BerthPlanModel" "weight" "[I"]
def wsX4_why : List Cond := .code yX4_why cX4_why 5 (some .int) :: ((wsX4_why_r1 ++ wsX4_why_r2) ++ wsX40)
def wsX4_change_r1 : List Cond := [Cond.fieldLink RX4 66 "BerthPlanModel" "isPlan" "Z", Cond.fieldLink RX4 56 "BerthPlanModel" "thrown" "I", Cond.fieldLink RX4 59 "BerthPlanModel" "ships" "I", Cond.constantLong RX4 119 (100), Cond.fieldLink RX4 43 "BerthPlanModel" "berth" "[I", Cond.fieldLink RX4 31 "BerthPlanModel" "arrives" "[I", Cond.methodLink RX4 78 yX4_isShip, Cond.instanceMethod yX4_isShip, Cond.selects RX4 yX4_isShip yX4_isShip, Cond.initialized RX4, Cond.code yX4_isShip cX4_isShip 2 (some .boolean), Cond.methodLink RX4 62 yX4_in, Cond.static yX4_in, Cond.code yX4_in cX4_in 3 (some .boolean), Cond.methodLink RX4 115 yX4_search, Cond.instanceMethod yX4_search, Cond.selects RX4 yX4_search yX4_search, Cond.code yX4_search cX4_search 5 (some .boolean), Cond.fieldLink RX4 49 "BerthPlanModel" "least" "[I", Cond.constant RX4 97 (1000000000), Cond.fieldLink RX4 46 "BerthPlanModel" "tried" "[I", Cond.methodLink RX4 105 yX4_leastOf, Cond.instanceMethod yX4_leastOf, Cond.selects RX4 yX4_leastOf yX4_leastOf]
def wsX4_change_r2 : List Cond := [Cond.code yX4_leastOf cX4_leastOf 4 (some .int), Cond.methodLink RX4 98 yX4_mayBe, Cond.instanceMethod yX4_mayBe, Cond.selects RX4 yX4_mayBe yX4_mayBe, Cond.code yX4_mayBe cX4_mayBe 3 (some .boolean), Cond.fieldLink RX4 40 "BerthPlanModel" "fixed" "[I", Cond.fieldLink RX4 52 "BerthPlanModel" "places" "I", Cond.methodLink RX4 88 yX4_isTide, Cond.instanceMethod yX4_isTide, Cond.selects RX4 yX4_isTide yX4_isTide, Cond.code yX4_isTide cX4_isTide 4 (some .boolean), Cond.fieldLink RX4 81 "BerthPlanModel" "spans" "I", Cond.fieldLink RX4 16 "BerthPlanModel" "spanFrom" "[I", Cond.fieldLink RX4 19 "BerthPlanModel" "spanTo" "[I", Cond.methodLink RX4 91 yX4_isDeep, Cond.instanceMethod yX4_isDeep, Cond.selects RX4 yX4_isDeep yX4_isDeep, Cond.code yX4_isDeep cX4_isDeep 5 (some .boolean), Cond.fieldLink RX4 22 "BerthPlanModel" "length" "[I", Cond.fieldLink RX4 7 "BerthPlanModel" "depthOf" "[I", Cond.fieldLink RX4 25 "BerthPlanModel" "need" "[I", Cond.methodLink RX4 94 yX4_hasGear, Cond.instanceMethod yX4_hasGear, Cond.selects RX4 yX4_hasGear yX4_hasGear]
def wsX4_change_r3 : List Cond := [Cond.code yX4_hasGear cX4_hasGear 5 (some .boolean), Cond.fieldLink RX4 13 "BerthPlanModel" "gearOf" "[I", Cond.fieldLink RX4 37 "BerthPlanModel" "kinds" "[I", Cond.methodLink RX4 101 yX4_cost, Cond.instanceMethod yX4_cost, Cond.selects RX4 yX4_cost yX4_cost, Cond.code yX4_cost cX4_cost 3 (some .int), Cond.fieldLink RX4 34 "BerthPlanModel" "weight" "[I", Cond.methodLink RX4 109 yX4_costUpTo, Cond.instanceMethod yX4_costUpTo, Cond.selects RX4 yX4_costUpTo yX4_costUpTo, Cond.code yX4_costUpTo cX4_costUpTo 4 (some .int), Cond.methodLink RX4 112 yX4_isClear, Cond.instanceMethod yX4_isClear, Cond.selects RX4 yX4_isClear yX4_isClear, Cond.code yX4_isClear cX4_isClear 5 (some .boolean), Cond.methodLink RX4 84 yX4_meet, Cond.instanceMethod yX4_meet, Cond.selects RX4 yX4_meet yX4_meet, Cond.code yX4_meet cX4_meet 6 (some .boolean), Cond.fieldLink RX4 28 "BerthPlanModel" "time" "[I"]
def wsX4_change : List Cond := .code yX4_change cX4_change 7 (some .int) :: ((wsX4_change_r1 ++ (wsX4_change_r2 ++ wsX4_change_r3)) ++ wsX40)
def wsX4_lies : List Cond := .code yX4_lies cX4_lies 6 (some .int) :: ([.fieldLink RX4 66 "BerthPlanModel" "isPlan" "Z", .fieldLink RX4 56 "BerthPlanModel" "thrown" "I", .fieldLink RX4 59 "BerthPlanModel" "ships" "I", .fieldLink RX4 43 "BerthPlanModel" "berth" "[I", .fieldLink RX4 22 "BerthPlanModel" "length" "[I", .fieldLink RX4 28 "BerthPlanModel" "time" "[I"] ++ wsX40)
def wsX4_share : List Cond := .code yX4_share cX4_share 6 (some .long) :: ([.fieldLink RX4 52 "BerthPlanModel" "places" "I", .fieldLink RX4 7 "BerthPlanModel" "depthOf" "[I", .constant RX4 121 (1000000), .fieldLink RX4 56 "BerthPlanModel" "thrown" "I", .methodLink RX4 62 yX4_in, .static yX4_in, .initialized RX4, .code yX4_in cX4_in 3 (some .boolean)] ++ wsX40)
def wsX4_count : List Cond := .code yX4_count cX4_count 4 (some .int) :: ([.fieldLink RX4 56 "BerthPlanModel" "thrown" "I", .fieldLink RX4 7 "BerthPlanModel" "depthOf" "[I", .fieldLink RX4 13 "BerthPlanModel" "gearOf" "[I", .fieldLink RX4 59 "BerthPlanModel" "ships" "I", .fieldLink RX4 40 "BerthPlanModel" "fixed" "[I", .fieldLink RX4 52 "BerthPlanModel" "places" "I", .fieldLink RX4 81 "BerthPlanModel" "spans" "I", .fieldLink RX4 66 "BerthPlanModel" "isPlan" "Z", .methodLink RX4 70 yX4_isPlace, .instanceMethod yX4_isPlace, .selects RX4 yX4_isPlace yX4_isPlace, .initialized RX4, .code yX4_isPlace cX4_isPlace 2 (some .boolean)] ++ wsX40)
def wsJ9_max_7cf53 : List Cond := .code yJ9_max_7cf53 cJ9_max_7cf53 2 (some .int) :: ([])
def wsJ9_min_7cf53 : List Cond := .code yJ9_min_7cf53 cJ9_min_7cf53 2 (some .int) :: ([])
def wsL_cell : List Cond := .code yL_cell cL_cell 2 (some .int) :: ([])
def wsL_ship : List Cond := .codeWith yL_ship cL_ship 8 (some .int) [(0, 16, 19, 13), (0, 16, 23, 15)] :: ([.classLink RL 13 "java/lang/IllegalArgumentException", .classLink RL 15 "java/lang/IllegalStateException", .methodLink RL 7 yX3_ship, .instanceMethod yX3_ship, .selects RX3 yX3_ship yX3_ship, .initialized RX3, .code yX3_ship cX3_ship 9 (some .int), .classLink RX3 45 "java/lang/IllegalArgumentException", .initialized "java/lang/IllegalArgumentException", .classLink RX3 56 "java/lang/IllegalStateException", .initialized "java/lang/IllegalStateException", .fieldLink RX3 52 "BerthPlan" "shipCount" "I", .fieldLink RX3 29 "BerthPlan" "ships" "[LBerthPlan$Ship;", .fieldLink RX3 61 "BerthPlan$Ship" "length" "I", .fieldLink RX3 64 "BerthPlan$Ship" "need" "I", .fieldLink RX3 67 "BerthPlan$Ship" "time" "I", .fieldLink RX3 70 "BerthPlan$Ship" "arrives" "I", .fieldLink RX3 73 "BerthPlan$Ship" "weight" "I", .fieldLink RX3 76 "BerthPlan" "planned" "Z", .methodLink RX3 41 yX3_isWithin, .static yX3_isWithin, .code yX3_isWithin cX3_isWithin 3 (some .boolean)] ++ wsX30 ++ wsX20 ++ (vx_atS RX3 49 "java/lang/IllegalArgumentException" ["java/lang/RuntimeException", "java/lang/Exception"]).filter goodWord ++ (vx_atS RX3 60 "java/lang/IllegalStateException" ["java/lang/RuntimeException", "java/lang/Exception"]).filter goodWord)
def wsL_at : List Cond := .codeWith yL_at cL_at 5 (some .int) [(0, 10, 13, 21), (0, 10, 17, 15)] :: ([.classLink RL 21 "java/lang/IndexOutOfBoundsException", .classLink RL 15 "java/lang/IllegalStateException", .methodLink RL 17 yX3_at, .instanceMethod yX3_at, .selects RX3 yX3_at yX3_at, .initialized RX3, .code yX3_at cX3_at 4 (some .int), .classLink RX3 136 "java/lang/IndexOutOfBoundsException", .initialized "java/lang/IndexOutOfBoundsException", .classLink RX3 56 "java/lang/IllegalStateException", .initialized "java/lang/IllegalStateException", .fieldLink RX3 76 "BerthPlan" "planned" "Z", .fieldLink RX3 29 "BerthPlan" "ships" "[LBerthPlan$Ship;", .fieldLink RX3 143 "BerthPlan$Ship" "place" "I", .fieldLink RX3 146 "BerthPlan$Ship" "hour" "I", .fieldLink RX3 70 "BerthPlan$Ship" "arrives" "I", .methodLink RX3 98 yX3_isShip, .instanceMethod yX3_isShip, .selects RX3 yX3_isShip yX3_isShip, .code yX3_isShip cX3_isShip 2 (some .boolean), .fieldLink RX3 52 "BerthPlan" "shipCount" "I", .methodLink RX3 41 yX3_isWithin, .static yX3_isWithin, .code yX3_isWithin cX3_isWithin 3 (some .boolean)] ++ wsX30 ++ wsX20 ++ (vx_atS RX3 140 "java/lang/IndexOutOfBoundsException" ["java/lang/RuntimeException", "java/lang/Exception"]).filter goodWord ++ (vx_atS RX3 60 "java/lang/IllegalStateException" ["java/lang/RuntimeException", "java/lang/Exception"]).filter goodWord)
def wsL_lateness : List Cond := .codeWith yL_lateness cL_lateness 3 (some .int) [(0, 8, 11, 15)] :: ([.classLink RL 15 "java/lang/IllegalStateException", .methodLink RL 23 yX3_lateness, .instanceMethod yX3_lateness, .selects RX3 yX3_lateness yX3_lateness, .initialized RX3, .code yX3_lateness cX3_lateness 3 (some .int), .classLink RX3 56 "java/lang/IllegalStateException", .initialized "java/lang/IllegalStateException", .fieldLink RX3 76 "BerthPlan" "planned" "Z", .fieldLink RX3 52 "BerthPlan" "shipCount" "I", .fieldLink RX3 29 "BerthPlan" "ships" "[LBerthPlan$Ship;", .fieldLink RX3 146 "BerthPlan$Ship" "hour" "I", .methodLink RX3 149 yX2_latenessIf, .instanceMethod yX2_latenessIf, .selects RX2 yX2_latenessIf yX2_latenessIf, .initialized RX2, .code yX2_latenessIf cX2_latenessIf 2 (some .int), .fieldLink RX2 7 "BerthPlan$Ship" "weight" "I", .fieldLink RX2 13 "BerthPlan$Ship" "arrives" "I"] ++ wsX30 ++ wsX20 ++ (vx_atS RX3 60 "java/lang/IllegalStateException" ["java/lang/RuntimeException", "java/lang/Exception"]).filter goodWord)
def wsL_why_r1 : List Cond := [Cond.classLink RL 21 "java/lang/IndexOutOfBoundsException", Cond.methodLink RL 27 yX3_why, Cond.instanceMethod yX3_why, Cond.selects RX3 yX3_why yX3_why, Cond.initialized RX3, Cond.code yX3_why cX3_why 3 (some .int), Cond.classLink RX3 136 "java/lang/IndexOutOfBoundsException", Cond.initialized "java/lang/IndexOutOfBoundsException", Cond.fieldLink RX3 29 "BerthPlan" "ships" "[LBerthPlan$Ship;", Cond.fieldLink RX3 119 "BerthPlan$Ship" "isFixed" "Z", Cond.fieldLink RX3 61 "BerthPlan$Ship" "length" "I", Cond.fieldLink RX3 23 "BerthPlan" "quay" "LBerthPlan$Quay;", Cond.fieldLink RX3 160 "BerthPlan$Quay" "places" "I", Cond.fieldLink RX3 64 "BerthPlan$Ship" "need" "I", Cond.fieldLink RX3 101 "BerthPlan$Ship" "wanted" "I", Cond.fieldLink RX3 70 "BerthPlan$Ship" "arrives" "I", Cond.methodLink RX3 98 yX3_isShip, Cond.instanceMethod yX3_isShip, Cond.selects RX3 yX3_isShip yX3_isShip, Cond.code yX3_isShip cX3_isShip 2 (some .boolean), Cond.fieldLink RX3 52 "BerthPlan" "shipCount" "I", Cond.methodLink RX3 163 yX0_hasRow, Cond.instanceMethod yX0_hasRow, Cond.selects RX0 yX0_hasRow yX0_hasRow]
def wsL_why_r2 : List Cond := [Cond.initialized RX0, Cond.code yX0_hasRow cX0_hasRow 5 (some .boolean), Cond.fieldLink RX0 9 "BerthPlan$Quay" "places" "I", Cond.methodLink RX0 26 yX0_suits, Cond.instanceMethod yX0_suits, Cond.selects RX0 yX0_suits yX0_suits, Cond.code yX0_suits cX0_suits 7 (some .boolean), Cond.fieldLink RX0 15 "BerthPlan$Quay" "depths" "[I", Cond.fieldLink RX0 19 "BerthPlan$Quay" "gears" "[I", Cond.methodLink RX0 22 yX0_isRow, Cond.instanceMethod yX0_isRow, Cond.selects RX0 yX0_isRow yX0_isRow, Cond.code yX0_isRow cX0_isRow 3 (some .boolean), Cond.methodLink RX3 166 yX0_beginsFrom, Cond.instanceMethod yX0_beginsFrom, Cond.selects RX0 yX0_beginsFrom yX0_beginsFrom, Cond.code yX0_beginsFrom cX0_beginsFrom 3 (some .int), Cond.fieldLink RX0 34 "BerthPlan$Quay" "tideSpans" "I", Cond.fieldLink RX0 37 "BerthPlan$Quay" "tideHours" "I", Cond.static yX3_beginsBetween, Cond.code yX3_beginsBetween cX3_beginsBetween 4 (some .int)]
def wsL_why : List Cond := .codeWith yL_why cL_why 4 (some .int) [(0, 9, 12, 21)] :: ((wsL_why_r1 ++ wsL_why_r2) ++ wsX30 ++ wsX20 ++ wsX00 ++ (vx_atS RX3 140 "java/lang/IndexOutOfBoundsException" ["java/lang/RuntimeException", "java/lang/Exception"]).filter goodWord)
def wsL_change_r1 : List Cond := [Cond.classLink RL 21 "java/lang/IndexOutOfBoundsException", Cond.classLink RL 13 "java/lang/IllegalArgumentException", Cond.classLink RL 15 "java/lang/IllegalStateException", Cond.methodLink RL 31 yX3_change, Cond.instanceMethod yX3_change, Cond.selects RX3 yX3_change yX3_change, Cond.initialized RX3, Cond.code yX3_change cX3_change 3 (some .int), Cond.classLink RX3 136 "java/lang/IndexOutOfBoundsException", Cond.initialized "java/lang/IndexOutOfBoundsException", Cond.classLink RX3 45 "java/lang/IllegalArgumentException", Cond.initialized "java/lang/IllegalArgumentException", Cond.classLink RX3 56 "java/lang/IllegalStateException", Cond.initialized "java/lang/IllegalStateException", Cond.fieldLink RX3 76 "BerthPlan" "planned" "Z", Cond.fieldLink RX3 29 "BerthPlan" "ships" "[LBerthPlan$Ship;", Cond.fieldLink RX3 70 "BerthPlan$Ship" "arrives" "I", Cond.fieldLink RX3 37 "BerthPlan" "search" "LBerthPlan$Search;", Cond.fieldLink RX3 23 "BerthPlan" "quay" "LBerthPlan$Quay;", Cond.fieldLink RX3 52 "BerthPlan" "shipCount" "I", Cond.methodLink RX3 98 yX3_isShip, Cond.instanceMethod yX3_isShip, Cond.selects RX3 yX3_isShip yX3_isShip, Cond.code yX3_isShip cX3_isShip 2 (some .boolean)]
def wsL_change_r2 : List Cond := [Cond.methodLink RX3 41 yX3_isWithin, Cond.static yX3_isWithin, Cond.code yX3_isWithin cX3_isWithin 3 (some .boolean), Cond.methodLink RX3 128 yX1_finds, Cond.instanceMethod yX1_finds, Cond.selects RX1 yX1_finds yX1_finds, Cond.initialized RX1, Cond.code yX1_finds cX1_finds 4 (some .boolean), Cond.constant RX1 37 (100000), Cond.fieldLink RX1 38 "BerthPlan$Search" "best" "I", Cond.constant RX1 50 (1000000), Cond.methodLink RX1 33 yX1_openAll, Cond.instanceMethod yX1_openAll, Cond.selects RX1 yX1_openAll yX1_openAll, Cond.code yX1_openAll cX1_openAll 6 none, Cond.fieldLink RX1 29 "BerthPlan$Search" "ships" "[LBerthPlan$Ship;", Cond.methodLink RX1 55 Lib.Math.min.name, Cond.static Lib.Math.min.name, Cond.initialized "java/lang/Math", Cond.code Lib.Math.min.name Lib.Math.min.code 2 (some .int), Cond.fieldLink RX1 61 "BerthPlan$Search" "shipCount" "I", Cond.fieldLink RX1 64 "BerthPlan$Quay" "places" "I", Cond.fieldLink RX1 69 "BerthPlan$Search" "places" "I", Cond.fieldLink RX1 9 "BerthPlan$Search" "begins" "[I"]
def wsL_change_r3 : List Cond := [Cond.methodLink RX1 70 yX1_index, Cond.static yX1_index, Cond.code yX1_index cX1_index 3 (some .int), Cond.methodLink RX1 74 yX2_beginsAt, Cond.instanceMethod yX2_beginsAt, Cond.selects RX2 yX2_beginsAt yX2_beginsAt, Cond.initialized RX2, Cond.code yX2_beginsAt cX2_beginsAt 3 (some .int), Cond.fieldLink RX2 16 "BerthPlan$Ship" "isFixed" "Z", Cond.fieldLink RX2 20 "BerthPlan$Ship" "fixedPlace" "I", Cond.fieldLink RX2 23 "BerthPlan$Ship" "fixedHour" "I", Cond.fieldLink RX2 26 "BerthPlan$Ship" "length" "I", Cond.fieldLink RX2 29 "BerthPlan$Ship" "need" "I", Cond.fieldLink RX2 32 "BerthPlan$Ship" "wanted" "I", Cond.fieldLink RX2 13 "BerthPlan$Ship" "arrives" "I", Cond.methodLink RX2 35 yX0_suits, Cond.instanceMethod yX0_suits, Cond.selects RX0 yX0_suits yX0_suits, Cond.initialized RX0, Cond.code yX0_suits cX0_suits 7 (some .boolean), Cond.fieldLink RX0 15 "BerthPlan$Quay" "depths" "[I", Cond.fieldLink RX0 19 "BerthPlan$Quay" "gears" "[I", Cond.methodLink RX0 22 yX0_isRow, Cond.instanceMethod yX0_isRow]
def wsL_change_r4 : List Cond := [Cond.selects RX0 yX0_isRow yX0_isRow, Cond.code yX0_isRow cX0_isRow 3 (some .boolean), Cond.fieldLink RX0 9 "BerthPlan$Quay" "places" "I", Cond.methodLink RX2 41 yX0_beginsFrom, Cond.instanceMethod yX0_beginsFrom, Cond.selects RX0 yX0_beginsFrom yX0_beginsFrom, Cond.code yX0_beginsFrom cX0_beginsFrom 3 (some .int), Cond.fieldLink RX0 34 "BerthPlan$Quay" "tideSpans" "I", Cond.fieldLink RX0 37 "BerthPlan$Quay" "tideHours" "I", Cond.static yX3_beginsBetween, Cond.code yX3_beginsBetween cX3_beginsBetween 4 (some .int), Cond.methodLink RX1 42 yX1_everyShip, Cond.instanceMethod yX1_everyShip, Cond.selects RX1 yX1_everyShip yX1_everyShip, Cond.code yX1_everyShip cX1_everyShip 1 (some .int), Cond.methodLink RX1 46 yX1_leastOf, Cond.instanceMethod yX1_leastOf, Cond.selects RX1 yX1_leastOf yX1_leastOf, Cond.code yX1_leastOf cX1_leastOf 7 (some .int), Cond.methodLink RX1 83 yX1_levelOf, Cond.instanceMethod yX1_levelOf, Cond.selects RX1 yX1_levelOf yX1_levelOf, Cond.code yX1_levelOf cX1_levelOf 2 (some .int), Cond.methodLink RX1 78 yJ6_bitCount_0f7a4]
def wsL_change_r5 : List Cond := [Cond.static yJ6_bitCount_0f7a4, Cond.initialized RJ6, Cond.code yJ6_bitCount_0f7a4 cJ6_bitCount_0f7a4 1 (some .int), Cond.constant RJ6 265 (1431655765), Cond.constant RJ6 266 (858993459), Cond.constant RJ6 267 (252645135), Cond.static yX3_hasBit, Cond.code yX3_hasBit cX3_hasBit 2 (some .boolean), Cond.methodLink RX1 90 yX1_firstOf, Cond.static yX1_firstOf, Cond.code yX1_firstOf cX1_firstOf 1 (some .int), Cond.methodLink RX1 93 yX2_latenessIf, Cond.instanceMethod yX2_latenessIf, Cond.selects RX2 yX2_latenessIf yX2_latenessIf, Cond.code yX2_latenessIf cX2_latenessIf 2 (some .int), Cond.fieldLink RX2 7 "BerthPlan$Ship" "weight" "I", Cond.methodLink RX1 51 yX1_berthRest, Cond.instanceMethod yX1_berthRest, Cond.selects RX1 yX1_berthRest yX1_berthRest, Cond.code yX1_berthRest cX1_berthRest 6 none, Cond.methodLink RX1 96 yX1_keepIfAhead, Cond.instanceMethod yX1_keepIfAhead, Cond.selects RX1 yX1_keepIfAhead yX1_keepIfAhead, Cond.code yX1_keepIfAhead cX1_keepIfAhead 3 none]
def wsL_change_r6 : List Cond := [Cond.fieldLink RX1 21 "BerthPlan$Search" "bestPlaces" "[I", Cond.fieldLink RX1 15 "BerthPlan$Search" "triedPlaces" "[I", Cond.fieldLink RX1 24 "BerthPlan$Search" "bestHours" "[I", Cond.fieldLink RX1 18 "BerthPlan$Search" "triedHours" "[I", Cond.methodLink RX1 124 yX1_isTriedAhead, Cond.instanceMethod yX1_isTriedAhead, Cond.selects RX1 yX1_isTriedAhead yX1_isTriedAhead, Cond.code yX1_isTriedAhead cX1_isTriedAhead 2 (some .boolean), Cond.methodLink RX1 100 yX1_tryBerth, Cond.instanceMethod yX1_tryBerth, Cond.selects RX1 yX1_tryBerth yX1_tryBerth, Cond.code yX1_tryBerth cX1_tryBerth 11 none, Cond.methodLink RX1 104 yX1_lay, Cond.instanceMethod yX1_lay, Cond.selects RX1 yX1_lay yX1_lay, Cond.code yX1_lay cX1_lay 7 none, Cond.methodLink RX1 108 yX1_narrow, Cond.instanceMethod yX1_narrow, Cond.selects RX1 yX1_narrow yX1_narrow, Cond.code yX1_narrow cX1_narrow 11 none, Cond.fieldLink RX1 111 "BerthPlan$Ship" "time" "I", Cond.fieldLink RX1 117 "BerthPlan$Ship" "length" "I", Cond.static yX3_spansMeet, Cond.code yX3_spansMeet cX3_spansMeet 4 (some .boolean)]
def wsL_change_r7 : List Cond := [Cond.methodLink RX3 132 yX3_moveShips, Cond.instanceMethod yX3_moveShips, Cond.selects RX3 yX3_moveShips yX3_moveShips, Cond.code yX3_moveShips cX3_moveShips 3 (some .int), Cond.fieldLink RX3 194 "BerthPlan$Search" "bestPlaces" "[I", Cond.fieldLink RX3 197 "BerthPlan$Search" "bestHours" "[I", Cond.methodLink RX3 200 yX2_moveTo, Cond.instanceMethod yX2_moveTo, Cond.selects RX2 yX2_moveTo yX2_moveTo, Cond.code yX2_moveTo cX2_moveTo 4 (some .boolean), Cond.fieldLink RX2 45 "BerthPlan$Ship" "place" "I", Cond.fieldLink RX2 48 "BerthPlan$Ship" "hour" "I"]
def wsL_change : List Cond := .codeWith yL_change cL_change 5 (some .int) [(0, 10, 13, 21), (0, 10, 17, 13), (0, 10, 21, 15)] :: ((wsL_change_r1 ++ (wsL_change_r2 ++ (wsL_change_r3 ++ (wsL_change_r4 ++ (wsL_change_r5 ++ (wsL_change_r6 ++ wsL_change_r7)))))) ++ wsX30 ++ wsX20 ++ wsX10 ++ wsX00 ++ (vx_atS RX3 140 "java/lang/IndexOutOfBoundsException" ["java/lang/RuntimeException", "java/lang/Exception"]).filter goodWord ++ (vx_atS RX3 49 "java/lang/IllegalArgumentException" ["java/lang/RuntimeException", "java/lang/Exception"]).filter goodWord ++ (vx_atS RX3 60 "java/lang/IllegalStateException" ["java/lang/RuntimeException", "java/lang/Exception"]).filter goodWord)
def wsL_lies : List Cond := .codeWith yL_lies cL_lies 5 (some .int) [(0, 10, 13, 15)] :: ([.classLink RL 15 "java/lang/IllegalStateException", .methodLink RL 34 yX3_lies, .instanceMethod yX3_lies, .selects RX3 yX3_lies yX3_lies, .initialized RX3, .code yX3_lies cX3_lies 5 (some .int), .classLink RX3 56 "java/lang/IllegalStateException", .initialized "java/lang/IllegalStateException", .fieldLink RX3 76 "BerthPlan" "planned" "Z", .fieldLink RX3 52 "BerthPlan" "shipCount" "I", .fieldLink RX3 29 "BerthPlan" "ships" "[LBerthPlan$Ship;", .fieldLink RX3 143 "BerthPlan$Ship" "place" "I", .fieldLink RX3 61 "BerthPlan$Ship" "length" "I", .fieldLink RX3 146 "BerthPlan$Ship" "hour" "I", .fieldLink RX3 67 "BerthPlan$Ship" "time" "I", .methodLink RX3 171 yX3_isSpanAt, .static yX3_isSpanAt, .code yX3_isSpanAt cX3_isSpanAt 3 (some .boolean)] ++ wsX30 ++ wsX20 ++ (vx_atS RX3 60 "java/lang/IllegalStateException" ["java/lang/RuntimeException", "java/lang/Exception"]).filter goodWord)
def wsL_share : List Cond := .codeWith yL_share cL_share 6 (some .int) [(0, 11, 14, 13), (0, 11, 18, 41)] :: ([.classLink RL 13 "java/lang/IllegalArgumentException", .classLink RL 41 "java/lang/ArithmeticException", .methodLink RL 37 yX3_share, .instanceMethod yX3_share, .selects RX3 yX3_share yX3_share, .initialized RX3, .code yX3_share cX3_share 5 (some .long), .classLink RX3 45 "java/lang/IllegalArgumentException", .initialized "java/lang/IllegalArgumentException", .classLink RX3 179 "java/lang/ArithmeticException", .initialized "java/lang/ArithmeticException", .constant RX3 157 (1000000), .fieldLink RX3 23 "BerthPlan" "quay" "LBerthPlan$Quay;", .methodLink RX3 41 yX3_isWithin, .static yX3_isWithin, .code yX3_isWithin cX3_isWithin 3 (some .boolean), .methodLink RX3 176 yX0_placesOf, .instanceMethod yX0_placesOf, .selects RX0 yX0_placesOf yX0_placesOf, .initialized RX0, .code yX0_placesOf cX0_placesOf 4 (some .int), .fieldLink RX0 9 "BerthPlan$Quay" "places" "I", .fieldLink RX0 15 "BerthPlan$Quay" "depths" "[I"] ++ wsX30 ++ wsX00 ++ (vx_atS RX3 49 "java/lang/IllegalArgumentException" ["java/lang/RuntimeException", "java/lang/Exception"]).filter goodWord ++ (vx_atS RX3 183 "java/lang/ArithmeticException" ["java/lang/RuntimeException", "java/lang/Exception"]).filter goodWord)
def wsL_law0_r1 : List Cond := [Cond.classLink RL 8 RX3, Cond.instantiable RX3 5, Cond.initialized RX3, Cond.classLink RL 52 RX4, Cond.instantiable RX4 19, Cond.initialized RX4, Cond.arrayClass .long, Cond.methodLink RL 43 yL_cell, Cond.static yL_cell, Cond.initialized RL, Cond.code yL_cell cL_cell 2 (some .int), Cond.methodLink RL 49 yX3_init, Cond.instanceMethod yX3_init, Cond.code yX3_init cX3_init 3 none, Cond.methodLink RX3 1 objectInit, Cond.instanceMethod objectInit, Cond.code objectInit ⟨#[0xb1]⟩ 1 none, Cond.classLink RX3 7 RX0, Cond.instantiable RX0 5, Cond.initialized RX0, Cond.methodLink RX3 11 Lib.Math.min.name, Cond.static Lib.Math.min.name, Cond.initialized "java/lang/Math", Cond.code Lib.Math.min.name Lib.Math.min.code 2 (some .int)]
def wsL_law0_r2 : List Cond := [Cond.methodLink RX3 17 Lib.Math.max.name, Cond.static Lib.Math.max.name, Cond.code Lib.Math.max.name Lib.Math.max.code 2 (some .int), Cond.fieldLink RX3 23 "BerthPlan" "quay" "LBerthPlan$Quay;", Cond.classLink RX3 27 RX2, Cond.fieldLink RX3 29 "BerthPlan" "ships" "[LBerthPlan$Ship;", Cond.instantiable RX2 11, Cond.initialized RX2, Cond.classLink RX3 34 RX1, Cond.instantiable RX1 9, Cond.initialized RX1, Cond.fieldLink RX3 37 "BerthPlan" "search" "LBerthPlan$Search;", Cond.methodLink RX3 20 yX0_init, Cond.instanceMethod yX0_init, Cond.code yX0_init cX0_init 3 none, Cond.methodLink RX0 3 objectInit, Cond.fieldLink RX0 9 "BerthPlan$Quay" "places" "I", Cond.arrayClass .int, Cond.fieldLink RX0 15 "BerthPlan$Quay" "depths" "[I", Cond.fieldLink RX0 19 "BerthPlan$Quay" "gears" "[I", Cond.instanceMethod yX2_init, Cond.code yX2_init cX2_init 1 none, Cond.methodLink RX2 1 objectInit, Cond.instanceMethod yX1_init]
def wsL_law0_r3 : List Cond := [Cond.code yX1_init cX1_init 1 none, Cond.methodLink RX1 3 objectInit, Cond.fieldLink RX1 9 "BerthPlan$Search" "begins" "[I", Cond.fieldLink RX1 15 "BerthPlan$Search" "triedPlaces" "[I", Cond.fieldLink RX1 18 "BerthPlan$Search" "triedHours" "[I", Cond.fieldLink RX1 21 "BerthPlan$Search" "bestPlaces" "[I", Cond.fieldLink RX1 24 "BerthPlan$Search" "bestHours" "[I", Cond.classLink RX1 27 RX2, Cond.fieldLink RX1 29 "BerthPlan$Search" "ships" "[LBerthPlan$Ship;", Cond.methodLink RL 54 yX4_init, Cond.instanceMethod yX4_init, Cond.code yX4_init cX4_init 2 none, Cond.methodLink RX4 1 objectInit, Cond.fieldLink RX4 7 "BerthPlanModel" "depthOf" "[I", Cond.fieldLink RX4 13 "BerthPlanModel" "gearOf" "[I", Cond.fieldLink RX4 16 "BerthPlanModel" "spanFrom" "[I", Cond.fieldLink RX4 19 "BerthPlanModel" "spanTo" "[I", Cond.fieldLink RX4 22 "BerthPlanModel" "length" "[I", Cond.fieldLink RX4 25 "BerthPlanModel" "need" "[I", Cond.fieldLink RX4 28 "BerthPlanModel" "time" "[I", Cond.fieldLink RX4 31 "BerthPlanModel" "arrives" "[I", Cond.fieldLink RX4 34 "BerthPlanModel" "weight" "[I", Cond.fieldLink RX4 37 "BerthPlanModel" "kinds" "[I", Cond.fieldLink RX4 40 "BerthPlanModel" "fixed" "[I"]
def wsL_law0_r4 : List Cond := [Cond.fieldLink RX4 43 "BerthPlanModel" "berth" "[I", Cond.fieldLink RX4 46 "BerthPlanModel" "tried" "[I", Cond.fieldLink RX4 49 "BerthPlanModel" "least" "[I", Cond.fieldLink RX4 52 "BerthPlanModel" "places" "I", Cond.methodLink RL 55 yL_ship, Cond.static yL_ship, Cond.codeWith yL_ship cL_ship 8 (some .int) [(0, 16, 19, 13), (0, 16, 23, 15)], Cond.classLink RL 13 "java/lang/IllegalArgumentException", Cond.classLink RL 15 "java/lang/IllegalStateException", Cond.methodLink RL 7 yX3_ship, Cond.instanceMethod yX3_ship, Cond.selects RX3 yX3_ship yX3_ship, Cond.code yX3_ship cX3_ship 9 (some .int), Cond.classLink RX3 45 "java/lang/IllegalArgumentException", Cond.initialized "java/lang/IllegalArgumentException", Cond.classLink RX3 56 "java/lang/IllegalStateException", Cond.initialized "java/lang/IllegalStateException", Cond.fieldLink RX3 52 "BerthPlan" "shipCount" "I", Cond.fieldLink RX3 61 "BerthPlan$Ship" "length" "I", Cond.fieldLink RX3 64 "BerthPlan$Ship" "need" "I", Cond.fieldLink RX3 67 "BerthPlan$Ship" "time" "I", Cond.fieldLink RX3 70 "BerthPlan$Ship" "arrives" "I", Cond.fieldLink RX3 73 "BerthPlan$Ship" "weight" "I", Cond.fieldLink RX3 76 "BerthPlan" "planned" "Z"]
def wsL_law0_r5 : List Cond := [Cond.methodLink RX3 41 yX3_isWithin, Cond.static yX3_isWithin, Cond.code yX3_isWithin cX3_isWithin 3 (some .boolean), Cond.methodLink RL 58 yX4_ship, Cond.instanceMethod yX4_ship, Cond.selects RX4 yX4_ship yX4_ship, Cond.code yX4_ship cX4_ship 7 (some .int), Cond.fieldLink RX4 59 "BerthPlanModel" "ships" "I", Cond.fieldLink RX4 56 "BerthPlanModel" "thrown" "I", Cond.fieldLink RX4 66 "BerthPlanModel" "isPlan" "Z", Cond.methodLink RX4 62 yX4_in, Cond.static yX4_in, Cond.code yX4_in cX4_in 3 (some .boolean), Cond.methodLink RL 59 yX4_thrown, Cond.instanceMethod yX4_thrown, Cond.selects RX4 yX4_thrown yX4_thrown, Cond.code yX4_thrown cX4_thrown 1 (some .int), Cond.methodLink RL 62 yX3_depth, Cond.instanceMethod yX3_depth, Cond.selects RX3 yX3_depth yX3_depth, Cond.code yX3_depth cX3_depth 5 (some .boolean), Cond.fieldLink RX3 84 "BerthPlan$Quay" "depths" "[I", Cond.methodLink RX3 80 yX0_isPlace, Cond.instanceMethod yX0_isPlace]
def wsL_law0_r6 : List Cond := [Cond.selects RX0 yX0_isPlace yX0_isPlace, Cond.code yX0_isPlace cX0_isPlace 2 (some .boolean), Cond.methodLink RL 66 yX4_depth, Cond.instanceMethod yX4_depth, Cond.selects RX4 yX4_depth yX4_depth, Cond.code yX4_depth cX4_depth 5 (some .boolean), Cond.methodLink RX4 70 yX4_isPlace, Cond.instanceMethod yX4_isPlace, Cond.selects RX4 yX4_isPlace yX4_isPlace, Cond.code yX4_isPlace cX4_isPlace 2 (some .boolean), Cond.methodLink RL 67 yX3_gear, Cond.instanceMethod yX3_gear, Cond.selects RX3 yX3_gear yX3_gear, Cond.code yX3_gear cX3_gear 4 (some .boolean), Cond.fieldLink RX3 91 "BerthPlan$Quay" "gears" "[I", Cond.methodLink RX3 88 yX3_isKind, Cond.static yX3_isKind, Cond.code yX3_isKind cX3_isKind 1 (some .boolean), Cond.methodLink RX3 94 yX3_hasBit, Cond.static yX3_hasBit, Cond.code yX3_hasBit cX3_hasBit 2 (some .boolean), Cond.methodLink RL 71 yX4_gear, Cond.instanceMethod yX4_gear, Cond.selects RX4 yX4_gear yX4_gear]
def wsL_law0_r7 : List Cond := [Cond.code yX4_gear cX4_gear 4 (some .boolean), Cond.methodLink RX4 74 yX4_bit, Cond.static yX4_bit, Cond.code yX4_bit cX4_bit 2 (some .boolean), Cond.methodLink RL 72 yX3_wants, Cond.instanceMethod yX3_wants, Cond.selects RX3 yX3_wants yX3_wants, Cond.code yX3_wants cX3_wants 4 (some .boolean), Cond.fieldLink RX3 101 "BerthPlan$Ship" "wanted" "I", Cond.methodLink RX3 98 yX3_isShip, Cond.instanceMethod yX3_isShip, Cond.selects RX3 yX3_isShip yX3_isShip, Cond.code yX3_isShip cX3_isShip 2 (some .boolean), Cond.methodLink RL 75 yX4_wants, Cond.instanceMethod yX4_wants, Cond.selects RX4 yX4_wants yX4_wants, Cond.code yX4_wants cX4_wants 4 (some .boolean), Cond.methodLink RX4 78 yX4_isShip, Cond.instanceMethod yX4_isShip, Cond.selects RX4 yX4_isShip yX4_isShip, Cond.code yX4_isShip cX4_isShip 2 (some .boolean), Cond.methodLink RL 76 yX3_tide, Cond.instanceMethod yX3_tide, Cond.selects RX3 yX3_tide yX3_tide]
def wsL_law0_r8 : List Cond := [Cond.code yX3_tide cX3_tide 4 (some .boolean), Cond.fieldLink RX3 104 "BerthPlan$Quay" "tideSpans" "I", Cond.fieldLink RX3 107 "BerthPlan$Quay" "tideHours" "I", Cond.methodLink RX3 110 yX3_beginsBetween, Cond.static yX3_beginsBetween, Cond.code yX3_beginsBetween cX3_beginsBetween 4 (some .int), Cond.methodLink RL 80 yX4_tide, Cond.instanceMethod yX4_tide, Cond.selects RX4 yX4_tide yX4_tide, Cond.code yX4_tide cX4_tide 3 (some .boolean), Cond.fieldLink RX4 81 "BerthPlanModel" "spans" "I", Cond.methodLink RL 81 yX3_fix, Cond.instanceMethod yX3_fix, Cond.selects RX3 yX3_fix yX3_fix, Cond.code yX3_fix cX3_fix 5 (some .boolean), Cond.fieldLink RX3 119 "BerthPlan$Ship" "isFixed" "Z", Cond.fieldLink RX3 122 "BerthPlan$Ship" "fixedPlace" "I", Cond.fieldLink RX3 125 "BerthPlan$Ship" "fixedHour" "I", Cond.methodLink RX3 113 yX0_isRow, Cond.instanceMethod yX0_isRow, Cond.selects RX0 yX0_isRow yX0_isRow, Cond.code yX0_isRow cX0_isRow 3 (some .boolean), Cond.methodLink RX3 116 yX3_meetsFixed, Cond.instanceMethod yX3_meetsFixed]
def wsL_law0_r9 : List Cond := [Cond.selects RX3 yX3_meetsFixed yX3_meetsFixed, Cond.code yX3_meetsFixed cX3_meetsFixed 7 (some .boolean), Cond.methodLink RX3 190 yX3_spansMeet, Cond.static yX3_spansMeet, Cond.code yX3_spansMeet cX3_spansMeet 4 (some .boolean), Cond.methodLink RL 84 yX4_fix, Cond.instanceMethod yX4_fix, Cond.selects RX4 yX4_fix yX4_fix, Cond.code yX4_fix cX4_fix 5 (some .boolean), Cond.methodLink RX4 84 yX4_meet, Cond.instanceMethod yX4_meet, Cond.selects RX4 yX4_meet yX4_meet, Cond.code yX4_meet cX4_meet 6 (some .boolean), Cond.methodLink RL 85 yX3_free, Cond.instanceMethod yX3_free, Cond.selects RX3 yX3_free yX3_free, Cond.code yX3_free cX3_free 2 (some .boolean), Cond.methodLink RL 89 yX4_free, Cond.instanceMethod yX4_free, Cond.selects RX4 yX4_free yX4_free, Cond.code yX4_free cX4_free 2 (some .boolean), Cond.methodLink RL 90 yX3_solve, Cond.instanceMethod yX3_solve, Cond.selects RX3 yX3_solve yX3_solve]
def wsL_law0_r10 : List Cond := [Cond.code yX3_solve cX3_solve 1 (some .int), Cond.methodLink RX3 128 yX1_finds, Cond.instanceMethod yX1_finds, Cond.selects RX1 yX1_finds yX1_finds, Cond.code yX1_finds cX1_finds 4 (some .boolean), Cond.constant RX1 37 (100000), Cond.fieldLink RX1 38 "BerthPlan$Search" "best" "I", Cond.constant RX1 50 (1000000), Cond.methodLink RX1 33 yX1_openAll, Cond.instanceMethod yX1_openAll, Cond.selects RX1 yX1_openAll yX1_openAll, Cond.code yX1_openAll cX1_openAll 6 none, Cond.methodLink RX1 55 Lib.Math.min.name, Cond.fieldLink RX1 61 "BerthPlan$Search" "shipCount" "I", Cond.fieldLink RX1 64 "BerthPlan$Quay" "places" "I", Cond.fieldLink RX1 69 "BerthPlan$Search" "places" "I", Cond.methodLink RX1 70 yX1_index, Cond.static yX1_index, Cond.code yX1_index cX1_index 3 (some .int), Cond.methodLink RX1 74 yX2_beginsAt, Cond.instanceMethod yX2_beginsAt, Cond.selects RX2 yX2_beginsAt yX2_beginsAt, Cond.code yX2_beginsAt cX2_beginsAt 3 (some .int), Cond.fieldLink RX2 16 "BerthPlan$Ship" "isFixed" "Z"]
def wsL_law0_r11 : List Cond := [Cond.fieldLink RX2 20 "BerthPlan$Ship" "fixedPlace" "I", Cond.fieldLink RX2 23 "BerthPlan$Ship" "fixedHour" "I", Cond.fieldLink RX2 26 "BerthPlan$Ship" "length" "I", Cond.fieldLink RX2 29 "BerthPlan$Ship" "need" "I", Cond.fieldLink RX2 32 "BerthPlan$Ship" "wanted" "I", Cond.fieldLink RX2 13 "BerthPlan$Ship" "arrives" "I", Cond.methodLink RX2 35 yX0_suits, Cond.instanceMethod yX0_suits, Cond.selects RX0 yX0_suits yX0_suits, Cond.code yX0_suits cX0_suits 7 (some .boolean), Cond.methodLink RX0 22 yX0_isRow, Cond.methodLink RX2 41 yX0_beginsFrom, Cond.instanceMethod yX0_beginsFrom, Cond.selects RX0 yX0_beginsFrom yX0_beginsFrom, Cond.code yX0_beginsFrom cX0_beginsFrom 3 (some .int), Cond.fieldLink RX0 34 "BerthPlan$Quay" "tideSpans" "I", Cond.fieldLink RX0 37 "BerthPlan$Quay" "tideHours" "I", Cond.methodLink RX1 42 yX1_everyShip, Cond.instanceMethod yX1_everyShip, Cond.selects RX1 yX1_everyShip yX1_everyShip, Cond.code yX1_everyShip cX1_everyShip 1 (some .int), Cond.methodLink RX1 46 yX1_leastOf, Cond.instanceMethod yX1_leastOf, Cond.selects RX1 yX1_leastOf yX1_leastOf]
def wsL_law0_r12 : List Cond := [Cond.code yX1_leastOf cX1_leastOf 7 (some .int), Cond.methodLink RX1 83 yX1_levelOf, Cond.instanceMethod yX1_levelOf, Cond.selects RX1 yX1_levelOf yX1_levelOf, Cond.code yX1_levelOf cX1_levelOf 2 (some .int), Cond.methodLink RX1 78 yJ6_bitCount_0f7a4, Cond.static yJ6_bitCount_0f7a4, Cond.initialized RJ6, Cond.code yJ6_bitCount_0f7a4 cJ6_bitCount_0f7a4 1 (some .int), Cond.constant RJ6 265 (1431655765), Cond.constant RJ6 266 (858993459), Cond.constant RJ6 267 (252645135), Cond.methodLink RX1 90 yX1_firstOf, Cond.static yX1_firstOf, Cond.code yX1_firstOf cX1_firstOf 1 (some .int), Cond.methodLink RX1 93 yX2_latenessIf, Cond.instanceMethod yX2_latenessIf, Cond.selects RX2 yX2_latenessIf yX2_latenessIf, Cond.code yX2_latenessIf cX2_latenessIf 2 (some .int), Cond.fieldLink RX2 7 "BerthPlan$Ship" "weight" "I", Cond.methodLink RX1 51 yX1_berthRest, Cond.instanceMethod yX1_berthRest, Cond.selects RX1 yX1_berthRest yX1_berthRest, Cond.code yX1_berthRest cX1_berthRest 6 none]
def wsL_law0_r13 : List Cond := [Cond.methodLink RX1 96 yX1_keepIfAhead, Cond.instanceMethod yX1_keepIfAhead, Cond.selects RX1 yX1_keepIfAhead yX1_keepIfAhead, Cond.code yX1_keepIfAhead cX1_keepIfAhead 3 none, Cond.methodLink RX1 124 yX1_isTriedAhead, Cond.instanceMethod yX1_isTriedAhead, Cond.selects RX1 yX1_isTriedAhead yX1_isTriedAhead, Cond.code yX1_isTriedAhead cX1_isTriedAhead 2 (some .boolean), Cond.methodLink RX1 100 yX1_tryBerth, Cond.instanceMethod yX1_tryBerth, Cond.selects RX1 yX1_tryBerth yX1_tryBerth, Cond.code yX1_tryBerth cX1_tryBerth 11 none, Cond.methodLink RX1 104 yX1_lay, Cond.instanceMethod yX1_lay, Cond.selects RX1 yX1_lay yX1_lay, Cond.code yX1_lay cX1_lay 7 none, Cond.methodLink RX1 108 yX1_narrow, Cond.instanceMethod yX1_narrow, Cond.selects RX1 yX1_narrow yX1_narrow, Cond.code yX1_narrow cX1_narrow 11 none, Cond.fieldLink RX1 111 "BerthPlan$Ship" "time" "I", Cond.fieldLink RX1 117 "BerthPlan$Ship" "length" "I", Cond.methodLink RX3 132 yX3_moveShips, Cond.instanceMethod yX3_moveShips]
def wsL_law0_r14 : List Cond := [Cond.selects RX3 yX3_moveShips yX3_moveShips, Cond.code yX3_moveShips cX3_moveShips 3 (some .int), Cond.fieldLink RX3 194 "BerthPlan$Search" "bestPlaces" "[I", Cond.fieldLink RX3 197 "BerthPlan$Search" "bestHours" "[I", Cond.methodLink RX3 200 yX2_moveTo, Cond.instanceMethod yX2_moveTo, Cond.selects RX2 yX2_moveTo yX2_moveTo, Cond.code yX2_moveTo cX2_moveTo 4 (some .boolean), Cond.fieldLink RX2 45 "BerthPlan$Ship" "place" "I", Cond.fieldLink RX2 48 "BerthPlan$Ship" "hour" "I", Cond.methodLink RL 93 yX4_solve, Cond.instanceMethod yX4_solve, Cond.selects RX4 yX4_solve yX4_solve, Cond.code yX4_solve cX4_solve 1 (some .int), Cond.methodLink RX4 115 yX4_search, Cond.instanceMethod yX4_search, Cond.selects RX4 yX4_search yX4_search, Cond.code yX4_search cX4_search 5 (some .boolean), Cond.constant RX4 97 (1000000000), Cond.methodLink RX4 105 yX4_leastOf, Cond.instanceMethod yX4_leastOf, Cond.selects RX4 yX4_leastOf yX4_leastOf, Cond.code yX4_leastOf cX4_leastOf 4 (some .int), Cond.methodLink RX4 98 yX4_mayBe]
def wsL_law0_r15 : List Cond := [Cond.instanceMethod yX4_mayBe, Cond.selects RX4 yX4_mayBe yX4_mayBe, Cond.code yX4_mayBe cX4_mayBe 3 (some .boolean), Cond.methodLink RX4 88 yX4_isTide, Cond.instanceMethod yX4_isTide, Cond.selects RX4 yX4_isTide yX4_isTide, Cond.code yX4_isTide cX4_isTide 4 (some .boolean), Cond.methodLink RX4 91 yX4_isDeep, Cond.instanceMethod yX4_isDeep, Cond.selects RX4 yX4_isDeep yX4_isDeep, Cond.code yX4_isDeep cX4_isDeep 5 (some .boolean), Cond.methodLink RX4 94 yX4_hasGear, Cond.instanceMethod yX4_hasGear, Cond.selects RX4 yX4_hasGear yX4_hasGear, Cond.code yX4_hasGear cX4_hasGear 5 (some .boolean), Cond.methodLink RX4 101 yX4_cost, Cond.instanceMethod yX4_cost, Cond.selects RX4 yX4_cost yX4_cost, Cond.code yX4_cost cX4_cost 3 (some .int), Cond.methodLink RX4 109 yX4_costUpTo, Cond.instanceMethod yX4_costUpTo, Cond.selects RX4 yX4_costUpTo yX4_costUpTo, Cond.code yX4_costUpTo cX4_costUpTo 4 (some .int), Cond.methodLink RX4 112 yX4_isClear]
def wsL_law0_r16 : List Cond := [Cond.instanceMethod yX4_isClear, Cond.selects RX4 yX4_isClear yX4_isClear, Cond.code yX4_isClear cX4_isClear 5 (some .boolean), Cond.methodLink RL 94 yL_at, Cond.static yL_at, Cond.codeWith yL_at cL_at 5 (some .int) [(0, 10, 13, 21), (0, 10, 17, 15)], Cond.classLink RL 21 "java/lang/IndexOutOfBoundsException", Cond.methodLink RL 17 yX3_at, Cond.instanceMethod yX3_at, Cond.selects RX3 yX3_at yX3_at, Cond.code yX3_at cX3_at 4 (some .int), Cond.classLink RX3 136 "java/lang/IndexOutOfBoundsException", Cond.initialized "java/lang/IndexOutOfBoundsException", Cond.fieldLink RX3 143 "BerthPlan$Ship" "place" "I", Cond.fieldLink RX3 146 "BerthPlan$Ship" "hour" "I", Cond.methodLink RL 97 yX4_at, Cond.instanceMethod yX4_at, Cond.selects RX4 yX4_at yX4_at, Cond.code yX4_at cX4_at 3 (some .int), Cond.methodLink RL 98 yL_lateness, Cond.static yL_lateness, Cond.codeWith yL_lateness cL_lateness 3 (some .int) [(0, 8, 11, 15)], Cond.methodLink RL 23 yX3_lateness, Cond.instanceMethod yX3_lateness]
def wsL_law0_r17 : List Cond := [Cond.selects RX3 yX3_lateness yX3_lateness, Cond.code yX3_lateness cX3_lateness 3 (some .int), Cond.methodLink RX3 149 yX2_latenessIf, Cond.methodLink RL 101 yX4_lateness, Cond.instanceMethod yX4_lateness, Cond.selects RX4 yX4_lateness yX4_lateness, Cond.code yX4_lateness cX4_lateness 3 (some .int), Cond.methodLink RL 102 yX3_bound, Cond.instanceMethod yX3_bound, Cond.selects RX3 yX3_bound yX3_bound, Cond.code yX3_bound cX3_bound 2 (some .int), Cond.constant RX3 157 (1000000), Cond.methodLink RX3 153 yX1_leastAlone, Cond.instanceMethod yX1_leastAlone, Cond.selects RX1 yX1_leastAlone yX1_leastAlone, Cond.code yX1_leastAlone cX1_leastAlone 4 (some .int), Cond.methodLink RL 105 yX4_bound, Cond.instanceMethod yX4_bound, Cond.selects RX4 yX4_bound yX4_bound, Cond.code yX4_bound cX4_bound 3 (some .int), Cond.methodLink RL 106 yL_why, Cond.static yL_why, Cond.codeWith yL_why cL_why 4 (some .int) [(0, 9, 12, 21)], Cond.methodLink RL 27 yX3_why]
def wsL_law0_r18 : List Cond := [Cond.instanceMethod yX3_why, Cond.selects RX3 yX3_why yX3_why, Cond.code yX3_why cX3_why 3 (some .int), Cond.fieldLink RX3 160 "BerthPlan$Quay" "places" "I", Cond.methodLink RX3 163 yX0_hasRow, Cond.instanceMethod yX0_hasRow, Cond.selects RX0 yX0_hasRow yX0_hasRow, Cond.code yX0_hasRow cX0_hasRow 5 (some .boolean), Cond.methodLink RX0 26 yX0_suits, Cond.methodLink RX3 166 yX0_beginsFrom, Cond.methodLink RL 109 yX4_why, Cond.instanceMethod yX4_why, Cond.selects RX4 yX4_why yX4_why, Cond.code yX4_why cX4_why 5 (some .int), Cond.methodLink RL 110 yL_change, Cond.static yL_change, Cond.codeWith yL_change cL_change 5 (some .int) [(0, 10, 13, 21), (0, 10, 17, 13), (0, 10, 21, 15)], Cond.methodLink RL 31 yX3_change, Cond.instanceMethod yX3_change, Cond.selects RX3 yX3_change yX3_change, Cond.code yX3_change cX3_change 3 (some .int), Cond.methodLink RL 112 yX4_change, Cond.instanceMethod yX4_change, Cond.selects RX4 yX4_change yX4_change]
def wsL_law0_r19 : List Cond := [Cond.code yX4_change cX4_change 7 (some .int), Cond.constantLong RX4 119 (100), Cond.methodLink RL 113 yL_lies, Cond.static yL_lies, Cond.codeWith yL_lies cL_lies 5 (some .int) [(0, 10, 13, 15)], Cond.methodLink RL 34 yX3_lies, Cond.instanceMethod yX3_lies, Cond.selects RX3 yX3_lies yX3_lies, Cond.code yX3_lies cX3_lies 5 (some .int), Cond.methodLink RX3 171 yX3_isSpanAt, Cond.static yX3_isSpanAt, Cond.code yX3_isSpanAt cX3_isSpanAt 3 (some .boolean), Cond.methodLink RL 115 yX4_lies, Cond.instanceMethod yX4_lies, Cond.selects RX4 yX4_lies yX4_lies, Cond.code yX4_lies cX4_lies 6 (some .int), Cond.methodLink RL 116 yL_share, Cond.static yL_share, Cond.codeWith yL_share cL_share 6 (some .int) [(0, 11, 14, 13), (0, 11, 18, 41)], Cond.classLink RL 41 "java/lang/ArithmeticException", Cond.methodLink RL 37 yX3_share, Cond.instanceMethod yX3_share, Cond.selects RX3 yX3_share yX3_share, Cond.code yX3_share cX3_share 5 (some .long)]
def wsL_law0_r20 : List Cond := [Cond.classLink RX3 179 "java/lang/ArithmeticException", Cond.initialized "java/lang/ArithmeticException", Cond.methodLink RX3 176 yX0_placesOf, Cond.instanceMethod yX0_placesOf, Cond.selects RX0 yX0_placesOf yX0_placesOf, Cond.code yX0_placesOf cX0_placesOf 4 (some .int), Cond.methodLink RL 119 yX4_share, Cond.instanceMethod yX4_share, Cond.selects RX4 yX4_share yX4_share, Cond.code yX4_share cX4_share 6 (some .long), Cond.constant RX4 121 (1000000), Cond.methodLink RL 120 yX3_count, Cond.instanceMethod yX3_count, Cond.selects RX3 yX3_count yX3_count, Cond.code yX3_count cX3_count 2 (some .int), Cond.methodLink RX3 184 yX3_fixedShips, Cond.instanceMethod yX3_fixedShips, Cond.selects RX3 yX3_fixedShips yX3_fixedShips, Cond.code yX3_fixedShips cX3_fixedShips 3 (some .int), Cond.methodLink RX3 187 yX3_countOfPlace, Cond.instanceMethod yX3_countOfPlace, Cond.selects RX3 yX3_countOfPlace yX3_countOfPlace, Cond.code yX3_countOfPlace cX3_countOfPlace 2 (some .int), Cond.methodLink RL 123 yX4_count]
def wsL_law0_r21 : List Cond := [Cond.instanceMethod yX4_count, Cond.selects RX4 yX4_count yX4_count, Cond.code yX4_count cX4_count 4 (some .int)]
def wsL_law0 : List Cond := (wsL_law0_r1 ++ (wsL_law0_r2 ++ (wsL_law0_r3 ++ (wsL_law0_r4 ++ (wsL_law0_r5 ++ (wsL_law0_r6 ++ (wsL_law0_r7 ++ (wsL_law0_r8 ++ (wsL_law0_r9 ++ (wsL_law0_r10 ++ (wsL_law0_r11 ++ (wsL_law0_r12 ++ (wsL_law0_r13 ++ (wsL_law0_r14 ++ (wsL_law0_r15 ++ (wsL_law0_r16 ++ (wsL_law0_r17 ++ (wsL_law0_r18 ++ (wsL_law0_r19 ++ (wsL_law0_r20 ++ wsL_law0_r21)))))))))))))))))))) ++ wsX30 ++ wsX40 ++ wsX00 ++ wsX20 ++ wsX10 ++ ([] : List Cond)
def wsL_law : List Cond := wsL_law0 ++ (vx_atS RX3 49 "java/lang/IllegalArgumentException" ["java/lang/RuntimeException", "java/lang/Exception"]).filter goodWord ++ (vx_atS RX3 60 "java/lang/IllegalStateException" ["java/lang/RuntimeException", "java/lang/Exception"]).filter goodWord ++ (vx_atS RX3 140 "java/lang/IndexOutOfBoundsException" ["java/lang/RuntimeException", "java/lang/Exception"]).filter goodWord ++ (vx_atS RX3 183 "java/lang/ArithmeticException" ["java/lang/RuntimeException", "java/lang/Exception"]).filter goodWord
end
section
theorem dX0_init_0 : decode cX0_init 0 = .ok (.aload_n 0, 1) := by decide +kernel
theorem dX0_init_1 : decode cX0_init 1 = .ok (.invokespecial 3, 3) := by decide +kernel
theorem dX0_init_4 : decode cX0_init 4 = .ok (.aload_n 0, 1) := by decide +kernel
theorem dX0_init_5 : decode cX0_init 5 = .ok (.iload_n 1, 1) := by decide +kernel
theorem dX0_init_6 : decode cX0_init 6 = .ok (.putfield 9, 3) := by decide +kernel
theorem dX0_init_9 : decode cX0_init 9 = .ok (.aload_n 0, 1) := by decide +kernel
theorem dX0_init_10 : decode cX0_init 10 = .ok (.bipush 6, 2) := by decide +kernel
theorem dX0_init_12 : decode cX0_init 12 = .ok (.newarray .int, 2) := by decide +kernel
theorem dX0_init_14 : decode cX0_init 14 = .ok (.putfield 15, 3) := by decide +kernel
theorem dX0_init_17 : decode cX0_init 17 = .ok (.aload_n 0, 1) := by decide +kernel
theorem dX0_init_18 : decode cX0_init 18 = .ok (.bipush 6, 2) := by decide +kernel
theorem dX0_init_20 : decode cX0_init 20 = .ok (.newarray .int, 2) := by decide +kernel
theorem dX0_init_22 : decode cX0_init 22 = .ok (.putfield 19, 3) := by decide +kernel
theorem dX0_init_25 : decode cX0_init 25 = .ok (.iconst 0, 1) := by decide +kernel
theorem dX0_init_26 : decode cX0_init 26 = .ok (.istore_n 2, 1) := by decide +kernel
theorem dX0_init_27 : decode cX0_init 27 = .ok (.iload_n 2, 1) := by decide +kernel
theorem dX0_init_28 : decode cX0_init 28 = .ok (.bipush 6, 2) := by decide +kernel
theorem dX0_init_30 : decode cX0_init 30 = .ok (.if_icmp .ge 17, 3) := by decide +kernel
theorem dX0_init_33 : decode cX0_init 33 = .ok (.aload_n 0, 1) := by decide +kernel
theorem dX0_init_34 : decode cX0_init 34 = .ok (.getfield 15, 3) := by decide +kernel
theorem dX0_init_37 : decode cX0_init 37 = .ok (.iload_n 2, 1) := by decide +kernel
theorem dX0_init_38 : decode cX0_init 38 = .ok (.bipush 20, 2) := by decide +kernel
theorem dX0_init_40 : decode cX0_init 40 = .ok (.iastore, 1) := by decide +kernel
theorem dX0_init_41 : decode cX0_init 41 = .ok (.iinc 2 1, 3) := by decide +kernel
theorem dX0_init_44 : decode cX0_init 44 = .ok (.goto (-17), 3) := by decide +kernel
theorem dX0_init_47 : decode cX0_init 47 = .ok (.return_, 1) := by decide +kernel
theorem dX0_isPlace_0 : decode cX0_isPlace 0 = .ok (.iload_n 1, 1) := by decide +kernel
theorem dX0_isPlace_1 : decode cX0_isPlace 1 = .ok (.ifCond .lt 15, 3) := by decide +kernel
theorem dX0_isPlace_4 : decode cX0_isPlace 4 = .ok (.iload_n 1, 1) := by decide +kernel
theorem dX0_isPlace_5 : decode cX0_isPlace 5 = .ok (.aload_n 0, 1) := by decide +kernel
theorem dX0_isPlace_6 : decode cX0_isPlace 6 = .ok (.getfield 9, 3) := by decide +kernel
theorem dX0_isPlace_9 : decode cX0_isPlace 9 = .ok (.if_icmp .ge 7, 3) := by decide +kernel
theorem dX0_isPlace_12 : decode cX0_isPlace 12 = .ok (.iconst 1, 1) := by decide +kernel
theorem dX0_isPlace_13 : decode cX0_isPlace 13 = .ok (.goto 4, 3) := by decide +kernel
theorem dX0_isPlace_16 : decode cX0_isPlace 16 = .ok (.iconst 0, 1) := by decide +kernel
theorem dX0_isPlace_17 : decode cX0_isPlace 17 = .ok (.ireturn, 1) := by decide +kernel
theorem dX0_isRow_0 : decode cX0_isRow 0 = .ok (.iload_n 1, 1) := by decide +kernel
theorem dX0_isRow_1 : decode cX0_isRow 1 = .ok (.ifCond .lt 17, 3) := by decide +kernel
theorem dX0_isRow_4 : decode cX0_isRow 4 = .ok (.iload_n 1, 1) := by decide +kernel
theorem dX0_isRow_5 : decode cX0_isRow 5 = .ok (.aload_n 0, 1) := by decide +kernel
theorem dX0_isRow_6 : decode cX0_isRow 6 = .ok (.getfield 9, 3) := by decide +kernel
theorem dX0_isRow_9 : decode cX0_isRow 9 = .ok (.iload_n 2, 1) := by decide +kernel
theorem dX0_isRow_10 : decode cX0_isRow 10 = .ok (.isub, 1) := by decide +kernel
theorem dX0_isRow_11 : decode cX0_isRow 11 = .ok (.if_icmp .gt 7, 3) := by decide +kernel
theorem dX0_isRow_14 : decode cX0_isRow 14 = .ok (.iconst 1, 1) := by decide +kernel
theorem dX0_isRow_15 : decode cX0_isRow 15 = .ok (.goto 4, 3) := by decide +kernel
theorem dX0_isRow_18 : decode cX0_isRow 18 = .ok (.iconst 0, 1) := by decide +kernel
theorem dX0_isRow_19 : decode cX0_isRow 19 = .ok (.ireturn, 1) := by decide +kernel
theorem dX0_placesOf_0 : decode cX0_placesOf 0 = .ok (.iconst 0, 1) := by decide +kernel
theorem dX0_placesOf_1 : decode cX0_placesOf 1 = .ok (.istore_n 2, 1) := by decide +kernel
theorem dX0_placesOf_2 : decode cX0_placesOf 2 = .ok (.iconst 0, 1) := by decide +kernel
theorem dX0_placesOf_3 : decode cX0_placesOf 3 = .ok (.istore_n 3, 1) := by decide +kernel
theorem dX0_placesOf_4 : decode cX0_placesOf 4 = .ok (.iload_n 3, 1) := by decide +kernel
theorem dX0_placesOf_5 : decode cX0_placesOf 5 = .ok (.aload_n 0, 1) := by decide +kernel
theorem dX0_placesOf_6 : decode cX0_placesOf 6 = .ok (.getfield 9, 3) := by decide +kernel
theorem dX0_placesOf_9 : decode cX0_placesOf 9 = .ok (.if_icmp .ge 22, 3) := by decide +kernel
theorem dX0_placesOf_12 : decode cX0_placesOf 12 = .ok (.aload_n 0, 1) := by decide +kernel
theorem dX0_placesOf_13 : decode cX0_placesOf 13 = .ok (.getfield 15, 3) := by decide +kernel
theorem dX0_placesOf_16 : decode cX0_placesOf 16 = .ok (.iload_n 3, 1) := by decide +kernel
theorem dX0_placesOf_17 : decode cX0_placesOf 17 = .ok (.iaload, 1) := by decide +kernel
theorem dX0_placesOf_18 : decode cX0_placesOf 18 = .ok (.iload_n 1, 1) := by decide +kernel
theorem dX0_placesOf_19 : decode cX0_placesOf 19 = .ok (.if_icmp .lt 6, 3) := by decide +kernel
theorem dX0_placesOf_22 : decode cX0_placesOf 22 = .ok (.iinc 2 1, 3) := by decide +kernel
theorem dX0_placesOf_25 : decode cX0_placesOf 25 = .ok (.iinc 3 1, 3) := by decide +kernel
theorem dX0_placesOf_28 : decode cX0_placesOf 28 = .ok (.goto (-24), 3) := by decide +kernel
theorem dX0_placesOf_31 : decode cX0_placesOf 31 = .ok (.iload_n 2, 1) := by decide +kernel
theorem dX0_placesOf_32 : decode cX0_placesOf 32 = .ok (.ireturn, 1) := by decide +kernel
set_option maxRecDepth 20000 in
theorem ggX0_suits_X0_isRow : GoodIn wsX0_suits wsX0_isRow := goodIn_r _ [7, 8, 9, 10, 11, 12, 13] (by decide +kernel) (by decide +kernel)
set_option maxRecDepth 20000 in
theorem gX0_suits_X0_isRow : GoodIn wsX0_suits (wsV RX0 22 RX0 yX0_isRow wsX0_isRow) := goodIn_app (goodIn_of _ (by decide +kernel)) ggX0_suits_X0_isRow
theorem dX0_suits_0 : decode cX0_suits 0 = .ok (.aload_n 0, 1) := by decide +kernel
theorem dX0_suits_1 : decode cX0_suits 1 = .ok (.iload_n 1, 1) := by decide +kernel
theorem dX0_suits_2 : decode cX0_suits 2 = .ok (.iload_n 2, 1) := by decide +kernel
theorem dX0_suits_3 : decode cX0_suits 3 = .ok (.invokevirtual 22, 3) := by decide +kernel
theorem dX0_suits_6 : decode cX0_suits 6 = .ok (.ifCond .ne 5, 3) := by decide +kernel
theorem dX0_suits_9 : decode cX0_suits 9 = .ok (.iconst 0, 1) := by decide +kernel
theorem dX0_suits_10 : decode cX0_suits 10 = .ok (.ireturn, 1) := by decide +kernel
theorem dX0_suits_11 : decode cX0_suits 11 = .ok (.iload 4, 2) := by decide +kernel
theorem dX0_suits_13 : decode cX0_suits 13 = .ok (.istore 5, 2) := by decide +kernel
theorem dX0_suits_15 : decode cX0_suits 15 = .ok (.iload_n 1, 1) := by decide +kernel
theorem dX0_suits_16 : decode cX0_suits 16 = .ok (.istore 6, 2) := by decide +kernel
theorem dX0_suits_18 : decode cX0_suits 18 = .ok (.iload 6, 2) := by decide +kernel
theorem dX0_suits_20 : decode cX0_suits 20 = .ok (.iload_n 1, 1) := by decide +kernel
theorem dX0_suits_21 : decode cX0_suits 21 = .ok (.iload_n 2, 1) := by decide +kernel
theorem dX0_suits_22 : decode cX0_suits 22 = .ok (.iadd, 1) := by decide +kernel
theorem dX0_suits_23 : decode cX0_suits 23 = .ok (.if_icmp .ge 36, 3) := by decide +kernel
theorem dX0_suits_26 : decode cX0_suits 26 = .ok (.aload_n 0, 1) := by decide +kernel
theorem dX0_suits_27 : decode cX0_suits 27 = .ok (.getfield 15, 3) := by decide +kernel
theorem dX0_suits_30 : decode cX0_suits 30 = .ok (.iload 6, 2) := by decide +kernel
theorem dX0_suits_32 : decode cX0_suits 32 = .ok (.iaload, 1) := by decide +kernel
theorem dX0_suits_33 : decode cX0_suits 33 = .ok (.iload_n 3, 1) := by decide +kernel
theorem dX0_suits_34 : decode cX0_suits 34 = .ok (.if_icmp .ge 5, 3) := by decide +kernel
theorem dX0_suits_37 : decode cX0_suits 37 = .ok (.iconst 0, 1) := by decide +kernel
theorem dX0_suits_38 : decode cX0_suits 38 = .ok (.ireturn, 1) := by decide +kernel
theorem dX0_suits_39 : decode cX0_suits 39 = .ok (.iload 5, 2) := by decide +kernel
theorem dX0_suits_41 : decode cX0_suits 41 = .ok (.aload_n 0, 1) := by decide +kernel
theorem dX0_suits_42 : decode cX0_suits 42 = .ok (.getfield 19, 3) := by decide +kernel
theorem dX0_suits_45 : decode cX0_suits 45 = .ok (.iload 6, 2) := by decide +kernel
theorem dX0_suits_47 : decode cX0_suits 47 = .ok (.iaload, 1) := by decide +kernel
theorem dX0_suits_48 : decode cX0_suits 48 = .ok (.iconst (-1), 1) := by decide +kernel
theorem dX0_suits_49 : decode cX0_suits 49 = .ok (.ixor, 1) := by decide +kernel
theorem dX0_suits_50 : decode cX0_suits 50 = .ok (.iand, 1) := by decide +kernel
theorem dX0_suits_51 : decode cX0_suits 51 = .ok (.istore 5, 2) := by decide +kernel
theorem dX0_suits_53 : decode cX0_suits 53 = .ok (.iinc 6 1, 3) := by decide +kernel
theorem dX0_suits_56 : decode cX0_suits 56 = .ok (.goto (-38), 3) := by decide +kernel
theorem dX0_suits_59 : decode cX0_suits 59 = .ok (.iload 5, 2) := by decide +kernel
theorem dX0_suits_61 : decode cX0_suits 61 = .ok (.ifCond .ne 7, 3) := by decide +kernel
theorem dX0_suits_64 : decode cX0_suits 64 = .ok (.iconst 1, 1) := by decide +kernel
theorem dX0_suits_65 : decode cX0_suits 65 = .ok (.goto 4, 3) := by decide +kernel
theorem dX0_suits_68 : decode cX0_suits 68 = .ok (.iconst 0, 1) := by decide +kernel
theorem dX0_suits_69 : decode cX0_suits 69 = .ok (.ireturn, 1) := by decide +kernel
set_option maxRecDepth 20000 in
theorem ggX0_hasRow_X0_suits : GoodIn wsX0_hasRow wsX0_suits := goodIn_r _ [6, 7, 8, 9, 10, 11, 5, 12, 1, 13, 14, 15, 16, 17] (by decide +kernel) (by decide +kernel)
set_option maxRecDepth 20000 in
theorem gX0_hasRow_X0_suits : GoodIn wsX0_hasRow (wsV RX0 26 RX0 yX0_suits wsX0_suits) := goodIn_app (goodIn_of _ (by decide +kernel)) ggX0_hasRow_X0_suits
theorem dX0_hasRow_0 : decode cX0_hasRow 0 = .ok (.iconst 0, 1) := by decide +kernel
theorem dX0_hasRow_1 : decode cX0_hasRow 1 = .ok (.istore 4, 2) := by decide +kernel
theorem dX0_hasRow_3 : decode cX0_hasRow 3 = .ok (.iload 4, 2) := by decide +kernel
theorem dX0_hasRow_5 : decode cX0_hasRow 5 = .ok (.aload_n 0, 1) := by decide +kernel
theorem dX0_hasRow_6 : decode cX0_hasRow 6 = .ok (.getfield 9, 3) := by decide +kernel
theorem dX0_hasRow_9 : decode cX0_hasRow 9 = .ok (.if_icmp .ge 23, 3) := by decide +kernel
theorem dX0_hasRow_12 : decode cX0_hasRow 12 = .ok (.aload_n 0, 1) := by decide +kernel
theorem dX0_hasRow_13 : decode cX0_hasRow 13 = .ok (.iload 4, 2) := by decide +kernel
theorem dX0_hasRow_15 : decode cX0_hasRow 15 = .ok (.iload_n 1, 1) := by decide +kernel
theorem dX0_hasRow_16 : decode cX0_hasRow 16 = .ok (.iload_n 2, 1) := by decide +kernel
theorem dX0_hasRow_17 : decode cX0_hasRow 17 = .ok (.iload_n 3, 1) := by decide +kernel
theorem dX0_hasRow_18 : decode cX0_hasRow 18 = .ok (.invokevirtual 26, 3) := by decide +kernel
theorem dX0_hasRow_21 : decode cX0_hasRow 21 = .ok (.ifCond .eq 5, 3) := by decide +kernel
theorem dX0_hasRow_24 : decode cX0_hasRow 24 = .ok (.iconst 1, 1) := by decide +kernel
theorem dX0_hasRow_25 : decode cX0_hasRow 25 = .ok (.ireturn, 1) := by decide +kernel
theorem dX0_hasRow_26 : decode cX0_hasRow 26 = .ok (.iinc 4 1, 3) := by decide +kernel
theorem dX0_hasRow_29 : decode cX0_hasRow 29 = .ok (.goto (-26), 3) := by decide +kernel
theorem dX0_hasRow_32 : decode cX0_hasRow 32 = .ok (.iconst 0, 1) := by decide +kernel
theorem dX0_hasRow_33 : decode cX0_hasRow 33 = .ok (.ireturn, 1) := by decide +kernel
set_option maxRecDepth 20000 in
theorem ggX0_beginsFrom_X3_beginsBetween : GoodIn wsX0_beginsFrom wsX3_beginsBetween := goodIn_r _ [5] (by decide +kernel) (by decide +kernel)
set_option maxRecDepth 20000 in
theorem gX0_beginsFrom_X3_beginsBetween_n30 : GoodIn wsX0_beginsFrom (wsX3_beginsBetween) := ggX0_beginsFrom_X3_beginsBetween
theorem dX0_beginsFrom_0 : decode cX0_beginsFrom 0 = .ok (.iload_n 1, 1) := by decide +kernel
theorem dX0_beginsFrom_1 : decode cX0_beginsFrom 1 = .ok (.bipush 15, 2) := by decide +kernel
theorem dX0_beginsFrom_3 : decode cX0_beginsFrom 3 = .ok (.invokestatic 30, 3) := by decide +kernel
theorem dX0_beginsFrom_6 : decode cX0_beginsFrom 6 = .ok (.istore_n 2, 1) := by decide +kernel
theorem dX0_beginsFrom_7 : decode cX0_beginsFrom 7 = .ok (.aload_n 0, 1) := by decide +kernel
theorem dX0_beginsFrom_8 : decode cX0_beginsFrom 8 = .ok (.getfield 34, 3) := by decide +kernel
theorem dX0_beginsFrom_11 : decode cX0_beginsFrom 11 = .ok (.ifCond .ne 7, 3) := by decide +kernel
theorem dX0_beginsFrom_14 : decode cX0_beginsFrom 14 = .ok (.iload_n 2, 1) := by decide +kernel
theorem dX0_beginsFrom_15 : decode cX0_beginsFrom 15 = .ok (.goto 9, 3) := by decide +kernel
theorem dX0_beginsFrom_18 : decode cX0_beginsFrom 18 = .ok (.iload_n 2, 1) := by decide +kernel
theorem dX0_beginsFrom_19 : decode cX0_beginsFrom 19 = .ok (.aload_n 0, 1) := by decide +kernel
theorem dX0_beginsFrom_20 : decode cX0_beginsFrom 20 = .ok (.getfield 37, 3) := by decide +kernel
theorem dX0_beginsFrom_23 : decode cX0_beginsFrom 23 = .ok (.iand, 1) := by decide +kernel
theorem dX0_beginsFrom_24 : decode cX0_beginsFrom 24 = .ok (.ireturn, 1) := by decide +kernel
theorem dX1_init_0 : decode cX1_init 0 = .ok (.aload_n 0, 1) := by decide +kernel
theorem dX1_init_1 : decode cX1_init 1 = .ok (.invokespecial 3, 3) := by decide +kernel
theorem dX1_init_4 : decode cX1_init 4 = .ok (.aload_n 0, 1) := by decide +kernel
theorem dX1_init_5 : decode cX1_init 5 = .ok (.bipush 96, 2) := by decide +kernel
theorem dX1_init_7 : decode cX1_init 7 = .ok (.newarray .int, 2) := by decide +kernel
theorem dX1_init_9 : decode cX1_init 9 = .ok (.putfield 9, 3) := by decide +kernel
theorem dX1_init_12 : decode cX1_init 12 = .ok (.aload_n 0, 1) := by decide +kernel
theorem dX1_init_13 : decode cX1_init 13 = .ok (.iconst 4, 1) := by decide +kernel
theorem dX1_init_14 : decode cX1_init 14 = .ok (.newarray .int, 2) := by decide +kernel
theorem dX1_init_16 : decode cX1_init 16 = .ok (.putfield 15, 3) := by decide +kernel
theorem dX1_init_19 : decode cX1_init 19 = .ok (.aload_n 0, 1) := by decide +kernel
theorem dX1_init_20 : decode cX1_init 20 = .ok (.iconst 4, 1) := by decide +kernel
theorem dX1_init_21 : decode cX1_init 21 = .ok (.newarray .int, 2) := by decide +kernel
theorem dX1_init_23 : decode cX1_init 23 = .ok (.putfield 18, 3) := by decide +kernel
theorem dX1_init_26 : decode cX1_init 26 = .ok (.aload_n 0, 1) := by decide +kernel
theorem dX1_init_27 : decode cX1_init 27 = .ok (.iconst 4, 1) := by decide +kernel
theorem dX1_init_28 : decode cX1_init 28 = .ok (.newarray .int, 2) := by decide +kernel
theorem dX1_init_30 : decode cX1_init 30 = .ok (.putfield 21, 3) := by decide +kernel
theorem dX1_init_33 : decode cX1_init 33 = .ok (.aload_n 0, 1) := by decide +kernel
theorem dX1_init_34 : decode cX1_init 34 = .ok (.iconst 4, 1) := by decide +kernel
theorem dX1_init_35 : decode cX1_init 35 = .ok (.newarray .int, 2) := by decide +kernel
theorem dX1_init_37 : decode cX1_init 37 = .ok (.putfield 24, 3) := by decide +kernel
theorem dX1_init_40 : decode cX1_init 40 = .ok (.aload_n 0, 1) := by decide +kernel
theorem dX1_init_41 : decode cX1_init 41 = .ok (.iconst 0, 1) := by decide +kernel
theorem dX1_init_42 : decode cX1_init 42 = .ok (.anewarray 27, 3) := by decide +kernel
theorem dX1_init_45 : decode cX1_init 45 = .ok (.putfield 29, 3) := by decide +kernel
theorem dX1_init_48 : decode cX1_init 48 = .ok (.return_, 1) := by decide +kernel
set_option maxRecDepth 20000 in
theorem ggX1_finds_X1_openAll : GoodIn wsX1_finds wsX1_openAll := goodIn_r _ [8, 9, 10, 11, 12, 13, 14, 15, 16, 17, 18, 19, 7, 20, 21, 22, 23, 24, 25, 26, 27, 28, 29, 30, 31, 32, 33, 34, 35, 36, 37, 38, 39, 40, 41, 42, 43, 44, 45, 46, 47, 48, 49, 50, 51, 52, 53, 115, 116, 117, 118, 119, 120, 121, 122, 123, 124, 125, 126, 127, 128, 129, 130, 131, 132, 133, 134, 135, 136, 137, 138, 139] (by decide +kernel) (by decide +kernel)
set_option maxRecDepth 20000 in
theorem gX1_finds_X1_openAll : GoodIn wsX1_finds (wsV RX1 33 RX1 yX1_openAll wsX1_openAll) := goodIn_app (goodIn_of _ (by decide +kernel)) ggX1_finds_X1_openAll
set_option maxRecDepth 20000 in
theorem ggX1_finds_X1_everyShip : GoodIn wsX1_finds wsX1_everyShip := goodIn_r _ [57, 14, 115, 116, 117, 118, 119, 120, 121, 122, 123] (by decide +kernel) (by decide +kernel)
set_option maxRecDepth 20000 in
theorem gX1_finds_X1_everyShip : GoodIn wsX1_finds (wsV RX1 42 RX1 yX1_everyShip wsX1_everyShip) := goodIn_app (goodIn_of _ (by decide +kernel)) ggX1_finds_X1_everyShip
set_option maxRecDepth 20000 in
theorem ggX1_finds_X1_leastOf : GoodIn wsX1_finds wsX1_leastOf := goodIn_r _ [61, 14, 16, 17, 3, 9, 62, 63, 64, 7, 65, 66, 67, 68, 69, 70, 71, 72, 73, 52, 74, 18, 19, 20, 75, 76, 77, 78, 79, 80, 24, 81, 82, 32, 115, 116, 117, 118, 119, 120, 121, 122, 123, 129, 130, 131, 132, 133, 134, 135, 136, 137, 138, 139] (by decide +kernel) (by decide +kernel)
set_option maxRecDepth 20000 in
theorem gX1_finds_X1_leastOf : GoodIn wsX1_finds (wsV RX1 46 RX1 yX1_leastOf wsX1_leastOf) := goodIn_app (goodIn_of _ (by decide +kernel)) ggX1_finds_X1_leastOf
set_option maxRecDepth 20000 in
theorem ggX1_finds_X1_berthRest : GoodIn wsX1_finds wsX1_berthRest := goodIn_r _ [86, 14, 16, 87, 88, 89, 7, 90, 2, 91, 92, 93, 94, 95, 96, 97, 98, 73, 52, 74, 99, 100, 101, 102, 17, 9, 62, 63, 64, 65, 66, 67, 68, 69, 70, 71, 72, 18, 19, 20, 75, 76, 77, 103, 104, 105, 106, 107, 108, 109, 110, 111, 112, 51, 53, 113, 114, 78, 79, 80, 24, 81, 82, 32, 58, 59, 60, 61, 3, 83, 84, 85, 115, 116, 117, 118, 119, 120, 121, 122, 123, 129, 130, 131, 132, 133, 134, 135, 136, 137, 138, 139] (by decide +kernel) (by decide +kernel)
set_option maxRecDepth 20000 in
theorem gX1_finds_X1_berthRest : GoodIn wsX1_finds (wsV RX1 51 RX1 yX1_berthRest wsX1_berthRest) := goodIn_app (goodIn_of _ (by decide +kernel)) ggX1_finds_X1_berthRest
theorem dX1_finds_0 : decode cX1_finds 0 = .ok (.aload_n 0, 1) := by decide +kernel
theorem dX1_finds_1 : decode cX1_finds 1 = .ok (.aload_n 1, 1) := by decide +kernel
theorem dX1_finds_2 : decode cX1_finds 2 = .ok (.aload_n 2, 1) := by decide +kernel
theorem dX1_finds_3 : decode cX1_finds 3 = .ok (.iload_n 3, 1) := by decide +kernel
theorem dX1_finds_4 : decode cX1_finds 4 = .ok (.invokevirtual 33, 3) := by decide +kernel
theorem dX1_finds_7 : decode cX1_finds 7 = .ok (.aload_n 0, 1) := by decide +kernel
theorem dX1_finds_8 : decode cX1_finds 8 = .ok (.ldc 37, 2) := by decide +kernel
theorem dX1_finds_10 : decode cX1_finds 10 = .ok (.putfield 38, 3) := by decide +kernel
theorem dX1_finds_13 : decode cX1_finds 13 = .ok (.aload_n 0, 1) := by decide +kernel
theorem dX1_finds_14 : decode cX1_finds 14 = .ok (.aload_n 0, 1) := by decide +kernel
theorem dX1_finds_15 : decode cX1_finds 15 = .ok (.invokevirtual 42, 3) := by decide +kernel
theorem dX1_finds_18 : decode cX1_finds 18 = .ok (.invokevirtual 46, 3) := by decide +kernel
theorem dX1_finds_21 : decode cX1_finds 21 = .ok (.ldc 50, 2) := by decide +kernel
theorem dX1_finds_23 : decode cX1_finds 23 = .ok (.if_icmp .ge 13, 3) := by decide +kernel
theorem dX1_finds_26 : decode cX1_finds 26 = .ok (.aload_n 0, 1) := by decide +kernel
theorem dX1_finds_27 : decode cX1_finds 27 = .ok (.aload_n 0, 1) := by decide +kernel
theorem dX1_finds_28 : decode cX1_finds 28 = .ok (.invokevirtual 42, 3) := by decide +kernel
theorem dX1_finds_31 : decode cX1_finds 31 = .ok (.iconst 0, 1) := by decide +kernel
theorem dX1_finds_32 : decode cX1_finds 32 = .ok (.iconst (-1), 1) := by decide +kernel
theorem dX1_finds_33 : decode cX1_finds 33 = .ok (.invokevirtual 51, 3) := by decide +kernel
theorem dX1_finds_36 : decode cX1_finds 36 = .ok (.aload_n 0, 1) := by decide +kernel
theorem dX1_finds_37 : decode cX1_finds 37 = .ok (.getfield 38, 3) := by decide +kernel
theorem dX1_finds_40 : decode cX1_finds 40 = .ok (.ldc 37, 2) := by decide +kernel
theorem dX1_finds_42 : decode cX1_finds 42 = .ok (.if_icmp .ge 7, 3) := by decide +kernel
theorem dX1_finds_45 : decode cX1_finds 45 = .ok (.iconst 1, 1) := by decide +kernel
theorem dX1_finds_46 : decode cX1_finds 46 = .ok (.goto 4, 3) := by decide +kernel
theorem dX1_finds_49 : decode cX1_finds 49 = .ok (.iconst 0, 1) := by decide +kernel
theorem dX1_finds_50 : decode cX1_finds 50 = .ok (.ireturn, 1) := by decide +kernel
set_option maxRecDepth 20000 in
theorem ggX1_leastAlone_X1_openAll : GoodIn wsX1_leastAlone wsX1_openAll := goodIn_r _ [5, 6, 7, 8, 9, 10, 11, 12, 13, 14, 15, 16, 4, 17, 18, 19, 20, 21, 22, 23, 24, 25, 26, 27, 28, 29, 30, 31, 32, 33, 34, 35, 36, 37, 38, 39, 40, 41, 42, 43, 44, 45, 46, 47, 48, 49, 50, 81, 82, 83, 84, 85, 86, 87, 88, 89, 90, 91, 92, 93, 94, 95, 96, 97, 98, 99, 100, 101, 102, 103, 104, 105] (by decide +kernel) (by decide +kernel)
set_option maxRecDepth 20000 in
theorem gX1_leastAlone_X1_openAll : GoodIn wsX1_leastAlone (wsV RX1 33 RX1 yX1_openAll wsX1_openAll) := goodIn_app (goodIn_of _ (by decide +kernel)) ggX1_leastAlone_X1_openAll
set_option maxRecDepth 20000 in
theorem ggX1_leastAlone_X1_everyShip : GoodIn wsX1_leastAlone wsX1_everyShip := goodIn_r _ [54, 11, 81, 82, 83, 84, 85, 86, 87, 88, 89] (by decide +kernel) (by decide +kernel)
set_option maxRecDepth 20000 in
theorem gX1_leastAlone_X1_everyShip : GoodIn wsX1_leastAlone (wsV RX1 42 RX1 yX1_everyShip wsX1_everyShip) := goodIn_app (goodIn_of _ (by decide +kernel)) ggX1_leastAlone_X1_everyShip
set_option maxRecDepth 20000 in
theorem ggX1_leastAlone_X1_leastOf : GoodIn wsX1_leastAlone wsX1_leastOf := goodIn_r _ [58, 11, 13, 14, 59, 6, 60, 61, 62, 4, 63, 64, 65, 66, 67, 68, 69, 70, 71, 49, 72, 15, 16, 17, 73, 74, 75, 76, 77, 78, 21, 79, 80, 29, 81, 82, 83, 84, 85, 86, 87, 88, 89, 95, 96, 97, 98, 99, 100, 101, 102, 103, 104, 105] (by decide +kernel) (by decide +kernel)
set_option maxRecDepth 20000 in
theorem gX1_leastAlone_X1_leastOf : GoodIn wsX1_leastAlone (wsV RX1 46 RX1 yX1_leastOf wsX1_leastOf) := goodIn_app (goodIn_of _ (by decide +kernel)) ggX1_leastAlone_X1_leastOf
theorem dX1_leastAlone_0 : decode cX1_leastAlone 0 = .ok (.aload_n 0, 1) := by decide +kernel
theorem dX1_leastAlone_1 : decode cX1_leastAlone 1 = .ok (.aload_n 1, 1) := by decide +kernel
theorem dX1_leastAlone_2 : decode cX1_leastAlone 2 = .ok (.aload_n 2, 1) := by decide +kernel
theorem dX1_leastAlone_3 : decode cX1_leastAlone 3 = .ok (.iload_n 3, 1) := by decide +kernel
theorem dX1_leastAlone_4 : decode cX1_leastAlone 4 = .ok (.invokevirtual 33, 3) := by decide +kernel
theorem dX1_leastAlone_7 : decode cX1_leastAlone 7 = .ok (.aload_n 0, 1) := by decide +kernel
theorem dX1_leastAlone_8 : decode cX1_leastAlone 8 = .ok (.aload_n 0, 1) := by decide +kernel
theorem dX1_leastAlone_9 : decode cX1_leastAlone 9 = .ok (.invokevirtual 42, 3) := by decide +kernel
theorem dX1_leastAlone_12 : decode cX1_leastAlone 12 = .ok (.invokevirtual 46, 3) := by decide +kernel
theorem dX1_leastAlone_15 : decode cX1_leastAlone 15 = .ok (.ireturn, 1) := by decide +kernel
set_option maxRecDepth 20000 in
theorem ggX1_openAll_X1_index : GoodIn wsX1_openAll wsX1_index := goodIn_r _ [13] (by decide +kernel) (by decide +kernel)
set_option maxRecDepth 20000 in
theorem gX1_openAll_X1_index : GoodIn wsX1_openAll (va_wsS RX1 70 yX1_index wsX1_index) := goodIn_app (goodIn_of _ (by decide +kernel)) ggX1_openAll_X1_index
set_option maxRecDepth 20000 in
theorem ggX1_openAll_X2_beginsAt : GoodIn wsX1_openAll wsX2_beginsAt := goodIn_r _ [18, 19, 20, 21, 22, 23, 24, 25, 26, 27, 28, 29, 30, 31, 32, 33, 34, 35, 36, 37, 38, 39, 40, 41, 42, 43, 44, 45, 46, 61, 62, 63, 64, 65, 66, 67, 68, 69, 70, 71, 56, 57, 58, 59, 60] (by decide +kernel) (by decide +kernel)
set_option maxRecDepth 20000 in
theorem gX1_openAll_X2_beginsAt : GoodIn wsX1_openAll (wsV RX1 74 RX2 yX2_beginsAt wsX2_beginsAt) := goodIn_app (goodIn_of _ (by decide +kernel)) ggX1_openAll_X2_beginsAt
theorem dX1_openAll_0 : decode cX1_openAll 0 = .ok (.aload_n 0, 1) := by decide +kernel
theorem dX1_openAll_1 : decode cX1_openAll 1 = .ok (.aload_n 2, 1) := by decide +kernel
theorem dX1_openAll_2 : decode cX1_openAll 2 = .ok (.putfield 29, 3) := by decide +kernel
theorem dX1_openAll_5 : decode cX1_openAll 5 = .ok (.aload_n 0, 1) := by decide +kernel
theorem dX1_openAll_6 : decode cX1_openAll 6 = .ok (.iload_n 3, 1) := by decide +kernel
theorem dX1_openAll_7 : decode cX1_openAll 7 = .ok (.aload_n 2, 1) := by decide +kernel
theorem dX1_openAll_8 : decode cX1_openAll 8 = .ok (.arraylength, 1) := by decide +kernel
theorem dX1_openAll_9 : decode cX1_openAll 9 = .ok (.invokestatic 55, 3) := by decide +kernel
theorem dX1_openAll_12 : decode cX1_openAll 12 = .ok (.putfield 61, 3) := by decide +kernel
theorem dX1_openAll_15 : decode cX1_openAll 15 = .ok (.aload_n 0, 1) := by decide +kernel
theorem dX1_openAll_16 : decode cX1_openAll 16 = .ok (.aload_n 1, 1) := by decide +kernel
theorem dX1_openAll_17 : decode cX1_openAll 17 = .ok (.getfield 64, 3) := by decide +kernel
theorem dX1_openAll_20 : decode cX1_openAll 20 = .ok (.putfield 69, 3) := by decide +kernel
theorem dX1_openAll_23 : decode cX1_openAll 23 = .ok (.iconst 0, 1) := by decide +kernel
theorem dX1_openAll_24 : decode cX1_openAll 24 = .ok (.istore 4, 2) := by decide +kernel
theorem dX1_openAll_26 : decode cX1_openAll 26 = .ok (.iload 4, 2) := by decide +kernel
theorem dX1_openAll_28 : decode cX1_openAll 28 = .ok (.aload_n 0, 1) := by decide +kernel
theorem dX1_openAll_29 : decode cX1_openAll 29 = .ok (.getfield 61, 3) := by decide +kernel
theorem dX1_openAll_32 : decode cX1_openAll 32 = .ok (.if_icmp .ge 53, 3) := by decide +kernel
theorem dX1_openAll_35 : decode cX1_openAll 35 = .ok (.iconst 0, 1) := by decide +kernel
theorem dX1_openAll_36 : decode cX1_openAll 36 = .ok (.istore 5, 2) := by decide +kernel
theorem dX1_openAll_38 : decode cX1_openAll 38 = .ok (.iload 5, 2) := by decide +kernel
theorem dX1_openAll_40 : decode cX1_openAll 40 = .ok (.aload_n 0, 1) := by decide +kernel
theorem dX1_openAll_41 : decode cX1_openAll 41 = .ok (.getfield 69, 3) := by decide +kernel
theorem dX1_openAll_44 : decode cX1_openAll 44 = .ok (.if_icmp .ge 35, 3) := by decide +kernel
theorem dX1_openAll_47 : decode cX1_openAll 47 = .ok (.aload_n 0, 1) := by decide +kernel
theorem dX1_openAll_48 : decode cX1_openAll 48 = .ok (.getfield 9, 3) := by decide +kernel
theorem dX1_openAll_51 : decode cX1_openAll 51 = .ok (.iconst 0, 1) := by decide +kernel
theorem dX1_openAll_52 : decode cX1_openAll 52 = .ok (.iload 4, 2) := by decide +kernel
theorem dX1_openAll_54 : decode cX1_openAll 54 = .ok (.iload 5, 2) := by decide +kernel
theorem dX1_openAll_56 : decode cX1_openAll 56 = .ok (.invokestatic 70, 3) := by decide +kernel
theorem dX1_openAll_59 : decode cX1_openAll 59 = .ok (.aload_n 0, 1) := by decide +kernel
theorem dX1_openAll_60 : decode cX1_openAll 60 = .ok (.getfield 29, 3) := by decide +kernel
theorem dX1_openAll_63 : decode cX1_openAll 63 = .ok (.iload 4, 2) := by decide +kernel
theorem dX1_openAll_65 : decode cX1_openAll 65 = .ok (.aaload, 1) := by decide +kernel
theorem dX1_openAll_66 : decode cX1_openAll 66 = .ok (.iload 5, 2) := by decide +kernel
theorem dX1_openAll_68 : decode cX1_openAll 68 = .ok (.aload_n 1, 1) := by decide +kernel
theorem dX1_openAll_69 : decode cX1_openAll 69 = .ok (.invokevirtual 74, 3) := by decide +kernel
theorem dX1_openAll_72 : decode cX1_openAll 72 = .ok (.iastore, 1) := by decide +kernel
theorem dX1_openAll_73 : decode cX1_openAll 73 = .ok (.iinc 5 1, 3) := by decide +kernel
theorem dX1_openAll_76 : decode cX1_openAll 76 = .ok (.goto (-38), 3) := by decide +kernel
theorem dX1_openAll_79 : decode cX1_openAll 79 = .ok (.iinc 4 1, 3) := by decide +kernel
theorem dX1_openAll_82 : decode cX1_openAll 82 = .ok (.goto (-56), 3) := by decide +kernel
theorem dX1_openAll_85 : decode cX1_openAll 85 = .ok (.return_, 1) := by decide +kernel
theorem dX1_everyShip_0 : decode cX1_everyShip 0 = .ok (.iconst 1, 1) := by decide +kernel
theorem dX1_everyShip_1 : decode cX1_everyShip 1 = .ok (.aload_n 0, 1) := by decide +kernel
theorem dX1_everyShip_2 : decode cX1_everyShip 2 = .ok (.getfield 61, 3) := by decide +kernel
theorem dX1_everyShip_5 : decode cX1_everyShip 5 = .ok (.ishl, 1) := by decide +kernel
theorem dX1_everyShip_6 : decode cX1_everyShip 6 = .ok (.iconst 1, 1) := by decide +kernel
theorem dX1_everyShip_7 : decode cX1_everyShip 7 = .ok (.isub, 1) := by decide +kernel
theorem dX1_everyShip_8 : decode cX1_everyShip 8 = .ok (.ireturn, 1) := by decide +kernel
set_option maxRecDepth 20000 in
theorem ggX1_levelOf_J6_bitCount_0f7a4 : GoodIn wsX1_levelOf wsJ6_bitCount_0f7a4 := goodIn_r _ [5, 6, 7, 8] (by decide +kernel) (by decide +kernel)
set_option maxRecDepth 20000 in
theorem gX1_levelOf_J6_bitCount_0f7a4 : GoodIn wsX1_levelOf (va_wsS RX1 78 yJ6_bitCount_0f7a4 wsJ6_bitCount_0f7a4) := goodIn_app (goodIn_of _ (by decide +kernel)) ggX1_levelOf_J6_bitCount_0f7a4
theorem dX1_levelOf_0 : decode cX1_levelOf 0 = .ok (.aload_n 0, 1) := by decide +kernel
theorem dX1_levelOf_1 : decode cX1_levelOf 1 = .ok (.getfield 61, 3) := by decide +kernel
theorem dX1_levelOf_4 : decode cX1_levelOf 4 = .ok (.iload_n 1, 1) := by decide +kernel
theorem dX1_levelOf_5 : decode cX1_levelOf 5 = .ok (.invokestatic 78, 3) := by decide +kernel
theorem dX1_levelOf_8 : decode cX1_levelOf 8 = .ok (.isub, 1) := by decide +kernel
theorem dX1_levelOf_9 : decode cX1_levelOf 9 = .ok (.ireturn, 1) := by decide +kernel
set_option maxRecDepth 20000 in
theorem ggX1_leastOf_X1_levelOf : GoodIn wsX1_leastOf wsX1_levelOf := goodIn_r _ [10, 1, 11, 12, 13, 14, 15, 16, 17, 34, 35, 36, 37, 38, 39, 40, 41, 42] (by decide +kernel) (by decide +kernel)
set_option maxRecDepth 20000 in
theorem gX1_leastOf_X1_levelOf : GoodIn wsX1_leastOf (wsV RX1 83 RX1 yX1_levelOf wsX1_levelOf) := goodIn_app (goodIn_of _ (by decide +kernel)) ggX1_leastOf_X1_levelOf
set_option maxRecDepth 20000 in
theorem ggX1_leastOf_X3_hasBit : GoodIn wsX1_leastOf wsX3_hasBit := goodIn_r _ [20] (by decide +kernel) (by decide +kernel)
set_option maxRecDepth 20000 in
theorem gX1_leastOf_X3_hasBit_n86 : GoodIn wsX1_leastOf (wsX3_hasBit) := ggX1_leastOf_X3_hasBit
set_option maxRecDepth 20000 in
theorem ggX1_leastOf_X1_index : GoodIn wsX1_leastOf wsX1_index := goodIn_r _ [23] (by decide +kernel) (by decide +kernel)
set_option maxRecDepth 20000 in
theorem gX1_leastOf_X1_index : GoodIn wsX1_leastOf (va_wsS RX1 70 yX1_index wsX1_index) := goodIn_app (goodIn_of _ (by decide +kernel)) ggX1_leastOf_X1_index
set_option maxRecDepth 20000 in
theorem ggX1_leastOf_X1_firstOf : GoodIn wsX1_leastOf wsX1_firstOf := goodIn_r _ [26, 11, 12, 13, 14, 15, 16, 17] (by decide +kernel) (by decide +kernel)
set_option maxRecDepth 20000 in
theorem gX1_leastOf_X1_firstOf : GoodIn wsX1_leastOf (va_wsS RX1 90 yX1_firstOf wsX1_firstOf) := goodIn_app (goodIn_of _ (by decide +kernel)) ggX1_leastOf_X1_firstOf
set_option maxRecDepth 20000 in
theorem ggX1_leastOf_X2_latenessIf : GoodIn wsX1_leastOf wsX2_latenessIf := goodIn_r _ [31, 32, 33, 43, 44, 45, 46, 47, 48, 49, 50, 51, 52, 53] (by decide +kernel) (by decide +kernel)
set_option maxRecDepth 20000 in
theorem gX1_leastOf_X2_latenessIf : GoodIn wsX1_leastOf (wsV RX1 93 RX2 yX2_latenessIf wsX2_latenessIf) := goodIn_app (goodIn_of _ (by decide +kernel)) ggX1_leastOf_X2_latenessIf
theorem dX1_leastOf_0 : decode cX1_leastOf 0 = .ok (.aload_n 0, 1) := by decide +kernel
theorem dX1_leastOf_1 : decode cX1_leastOf 1 = .ok (.iload_n 1, 1) := by decide +kernel
theorem dX1_leastOf_2 : decode cX1_leastOf 2 = .ok (.invokevirtual 83, 3) := by decide +kernel
theorem dX1_leastOf_5 : decode cX1_leastOf 5 = .ok (.istore_n 2, 1) := by decide +kernel
theorem dX1_leastOf_6 : decode cX1_leastOf 6 = .ok (.iconst 0, 1) := by decide +kernel
theorem dX1_leastOf_7 : decode cX1_leastOf 7 = .ok (.istore_n 3, 1) := by decide +kernel
theorem dX1_leastOf_8 : decode cX1_leastOf 8 = .ok (.iconst 0, 1) := by decide +kernel
theorem dX1_leastOf_9 : decode cX1_leastOf 9 = .ok (.istore 4, 2) := by decide +kernel
theorem dX1_leastOf_11 : decode cX1_leastOf 11 = .ok (.iload 4, 2) := by decide +kernel
theorem dX1_leastOf_13 : decode cX1_leastOf 13 = .ok (.aload_n 0, 1) := by decide +kernel
theorem dX1_leastOf_14 : decode cX1_leastOf 14 = .ok (.getfield 61, 3) := by decide +kernel
theorem dX1_leastOf_17 : decode cX1_leastOf 17 = .ok (.if_icmp .ge 83, 3) := by decide +kernel
theorem dX1_leastOf_20 : decode cX1_leastOf 20 = .ok (.iload_n 1, 1) := by decide +kernel
theorem dX1_leastOf_21 : decode cX1_leastOf 21 = .ok (.iload 4, 2) := by decide +kernel
theorem dX1_leastOf_23 : decode cX1_leastOf 23 = .ok (.invokestatic 86, 3) := by decide +kernel
theorem dX1_leastOf_26 : decode cX1_leastOf 26 = .ok (.ifCond .eq 68, 3) := by decide +kernel
theorem dX1_leastOf_29 : decode cX1_leastOf 29 = .ok (.iconst 0, 1) := by decide +kernel
theorem dX1_leastOf_30 : decode cX1_leastOf 30 = .ok (.istore 5, 2) := by decide +kernel
theorem dX1_leastOf_32 : decode cX1_leastOf 32 = .ok (.iconst 0, 1) := by decide +kernel
theorem dX1_leastOf_33 : decode cX1_leastOf 33 = .ok (.istore 6, 2) := by decide +kernel
theorem dX1_leastOf_35 : decode cX1_leastOf 35 = .ok (.iload 6, 2) := by decide +kernel
theorem dX1_leastOf_37 : decode cX1_leastOf 37 = .ok (.aload_n 0, 1) := by decide +kernel
theorem dX1_leastOf_38 : decode cX1_leastOf 38 = .ok (.getfield 69, 3) := by decide +kernel
theorem dX1_leastOf_41 : decode cX1_leastOf 41 = .ok (.if_icmp .ge 27, 3) := by decide +kernel
theorem dX1_leastOf_44 : decode cX1_leastOf 44 = .ok (.iload 5, 2) := by decide +kernel
theorem dX1_leastOf_46 : decode cX1_leastOf 46 = .ok (.aload_n 0, 1) := by decide +kernel
theorem dX1_leastOf_47 : decode cX1_leastOf 47 = .ok (.getfield 9, 3) := by decide +kernel
theorem dX1_leastOf_50 : decode cX1_leastOf 50 = .ok (.iload_n 2, 1) := by decide +kernel
theorem dX1_leastOf_51 : decode cX1_leastOf 51 = .ok (.iload 4, 2) := by decide +kernel
theorem dX1_leastOf_53 : decode cX1_leastOf 53 = .ok (.iload 6, 2) := by decide +kernel
theorem dX1_leastOf_55 : decode cX1_leastOf 55 = .ok (.invokestatic 70, 3) := by decide +kernel
theorem dX1_leastOf_58 : decode cX1_leastOf 58 = .ok (.iaload, 1) := by decide +kernel
theorem dX1_leastOf_59 : decode cX1_leastOf 59 = .ok (.ior, 1) := by decide +kernel
theorem dX1_leastOf_60 : decode cX1_leastOf 60 = .ok (.istore 5, 2) := by decide +kernel
theorem dX1_leastOf_62 : decode cX1_leastOf 62 = .ok (.iinc 6 1, 3) := by decide +kernel
theorem dX1_leastOf_65 : decode cX1_leastOf 65 = .ok (.goto (-30), 3) := by decide +kernel
theorem dX1_leastOf_68 : decode cX1_leastOf 68 = .ok (.iload 5, 2) := by decide +kernel
theorem dX1_leastOf_70 : decode cX1_leastOf 70 = .ok (.ifCond .ne 6, 3) := by decide +kernel
theorem dX1_leastOf_73 : decode cX1_leastOf 73 = .ok (.ldc 50, 2) := by decide +kernel
theorem dX1_leastOf_75 : decode cX1_leastOf 75 = .ok (.ireturn, 1) := by decide +kernel
theorem dX1_leastOf_76 : decode cX1_leastOf 76 = .ok (.iload_n 3, 1) := by decide +kernel
theorem dX1_leastOf_77 : decode cX1_leastOf 77 = .ok (.aload_n 0, 1) := by decide +kernel
theorem dX1_leastOf_78 : decode cX1_leastOf 78 = .ok (.getfield 29, 3) := by decide +kernel
theorem dX1_leastOf_81 : decode cX1_leastOf 81 = .ok (.iload 4, 2) := by decide +kernel
theorem dX1_leastOf_83 : decode cX1_leastOf 83 = .ok (.aaload, 1) := by decide +kernel
theorem dX1_leastOf_84 : decode cX1_leastOf 84 = .ok (.iload 5, 2) := by decide +kernel
theorem dX1_leastOf_86 : decode cX1_leastOf 86 = .ok (.invokestatic 90, 3) := by decide +kernel
theorem dX1_leastOf_89 : decode cX1_leastOf 89 = .ok (.invokevirtual 93, 3) := by decide +kernel
theorem dX1_leastOf_92 : decode cX1_leastOf 92 = .ok (.iadd, 1) := by decide +kernel
theorem dX1_leastOf_93 : decode cX1_leastOf 93 = .ok (.istore_n 3, 1) := by decide +kernel
theorem dX1_leastOf_94 : decode cX1_leastOf 94 = .ok (.iinc 4 1, 3) := by decide +kernel
theorem dX1_leastOf_97 : decode cX1_leastOf 97 = .ok (.goto (-86), 3) := by decide +kernel
theorem dX1_leastOf_100 : decode cX1_leastOf 100 = .ok (.iload_n 3, 1) := by decide +kernel
theorem dX1_leastOf_101 : decode cX1_leastOf 101 = .ok (.ireturn, 1) := by decide +kernel
set_option maxRecDepth 20000 in
theorem ggX1_berthRest_X1_keepIfAhead : GoodIn wsX1_berthRest wsX1_keepIfAhead := goodIn_r _ [7, 8, 1, 9, 10, 11, 12, 13, 14, 15, 6, 16, 72, 73, 74, 75, 76, 77, 78, 79, 80] (by decide +kernel) (by decide +kernel)
set_option maxRecDepth 20000 in
theorem gX1_berthRest_X1_keepIfAhead : GoodIn wsX1_berthRest (wsV RX1 96 RX1 yX1_keepIfAhead wsX1_keepIfAhead) := goodIn_app (goodIn_of _ (by decide +kernel)) ggX1_berthRest_X1_keepIfAhead
set_option maxRecDepth 20000 in
theorem ggX1_berthRest_X3_hasBit : GoodIn wsX1_berthRest wsX3_hasBit := goodIn_r _ [19] (by decide +kernel) (by decide +kernel)
set_option maxRecDepth 20000 in
theorem gX1_berthRest_X3_hasBit_n86 : GoodIn wsX1_berthRest (wsX3_hasBit) := ggX1_berthRest_X3_hasBit
set_option maxRecDepth 20000 in
theorem ggX1_berthRest_X1_tryBerth : GoodIn wsX1_berthRest wsX1_tryBerth := goodIn_r _ [23, 24, 25, 8, 26, 27, 28, 6, 29, 1, 30, 31, 32, 33, 34, 35, 36, 37, 38, 39, 40, 41, 42, 43, 44, 45, 46, 10, 12, 17, 18, 19, 47, 48, 49, 50, 51, 2, 52, 53, 54, 55, 56, 57, 58, 59, 60, 61, 62, 63, 64, 65, 66, 67, 68, 69, 70, 71, 0, 3, 4, 5, 7, 9, 11, 13, 14, 15, 16, 20, 21, 22, 72, 73, 74, 75, 76, 77, 78, 79, 80, 81, 82, 83, 84, 85, 86, 87, 88, 89, 90, 91] (by decide +kernel) (by decide +kernel)
set_option maxRecDepth 20000 in
theorem gX1_berthRest_X1_tryBerth : GoodIn wsX1_berthRest (wsV RX1 100 RX1 yX1_tryBerth wsX1_tryBerth) := goodIn_app (goodIn_of _ (by decide +kernel)) ggX1_berthRest_X1_tryBerth
theorem dX1_berthRest_0 : decode cX1_berthRest 0 = .ok (.iload_n 1, 1) := by decide +kernel
theorem dX1_berthRest_1 : decode cX1_berthRest 1 = .ok (.ifCond .ne 9, 3) := by decide +kernel
theorem dX1_berthRest_4 : decode cX1_berthRest 4 = .ok (.aload_n 0, 1) := by decide +kernel
theorem dX1_berthRest_5 : decode cX1_berthRest 5 = .ok (.iload_n 2, 1) := by decide +kernel
theorem dX1_berthRest_6 : decode cX1_berthRest 6 = .ok (.invokevirtual 96, 3) := by decide +kernel
theorem dX1_berthRest_9 : decode cX1_berthRest 9 = .ok (.return_, 1) := by decide +kernel
theorem dX1_berthRest_10 : decode cX1_berthRest 10 = .ok (.iconst 0, 1) := by decide +kernel
theorem dX1_berthRest_11 : decode cX1_berthRest 11 = .ok (.istore 4, 2) := by decide +kernel
theorem dX1_berthRest_13 : decode cX1_berthRest 13 = .ok (.iload 4, 2) := by decide +kernel
theorem dX1_berthRest_15 : decode cX1_berthRest 15 = .ok (.aload_n 0, 1) := by decide +kernel
theorem dX1_berthRest_16 : decode cX1_berthRest 16 = .ok (.getfield 61, 3) := by decide +kernel
theorem dX1_berthRest_19 : decode cX1_berthRest 19 = .ok (.if_icmp .ge 47, 3) := by decide +kernel
theorem dX1_berthRest_22 : decode cX1_berthRest 22 = .ok (.iconst 0, 1) := by decide +kernel
theorem dX1_berthRest_23 : decode cX1_berthRest 23 = .ok (.istore 5, 2) := by decide +kernel
theorem dX1_berthRest_25 : decode cX1_berthRest 25 = .ok (.iload 5, 2) := by decide +kernel
theorem dX1_berthRest_27 : decode cX1_berthRest 27 = .ok (.aload_n 0, 1) := by decide +kernel
theorem dX1_berthRest_28 : decode cX1_berthRest 28 = .ok (.getfield 69, 3) := by decide +kernel
theorem dX1_berthRest_31 : decode cX1_berthRest 31 = .ok (.if_icmp .ge 29, 3) := by decide +kernel
theorem dX1_berthRest_34 : decode cX1_berthRest 34 = .ok (.iload_n 1, 1) := by decide +kernel
theorem dX1_berthRest_35 : decode cX1_berthRest 35 = .ok (.iload 4, 2) := by decide +kernel
theorem dX1_berthRest_37 : decode cX1_berthRest 37 = .ok (.invokestatic 86, 3) := by decide +kernel
theorem dX1_berthRest_40 : decode cX1_berthRest 40 = .ok (.ifCond .eq 20, 3) := by decide +kernel
theorem dX1_berthRest_43 : decode cX1_berthRest 43 = .ok (.aload_n 0, 1) := by decide +kernel
theorem dX1_berthRest_44 : decode cX1_berthRest 44 = .ok (.iload_n 1, 1) := by decide +kernel
theorem dX1_berthRest_45 : decode cX1_berthRest 45 = .ok (.iload 4, 2) := by decide +kernel
theorem dX1_berthRest_47 : decode cX1_berthRest 47 = .ok (.iload 5, 2) := by decide +kernel
theorem dX1_berthRest_49 : decode cX1_berthRest 49 = .ok (.iload_n 2, 1) := by decide +kernel
theorem dX1_berthRest_50 : decode cX1_berthRest 50 = .ok (.iload_n 3, 1) := by decide +kernel
theorem dX1_berthRest_51 : decode cX1_berthRest 51 = .ok (.invokevirtual 100, 3) := by decide +kernel
theorem dX1_berthRest_54 : decode cX1_berthRest 54 = .ok (.iinc 5 1, 3) := by decide +kernel
theorem dX1_berthRest_57 : decode cX1_berthRest 57 = .ok (.goto (-32), 3) := by decide +kernel
theorem dX1_berthRest_60 : decode cX1_berthRest 60 = .ok (.iinc 4 1, 3) := by decide +kernel
theorem dX1_berthRest_63 : decode cX1_berthRest 63 = .ok (.goto (-50), 3) := by decide +kernel
theorem dX1_berthRest_66 : decode cX1_berthRest 66 = .ok (.return_, 1) := by decide +kernel
set_option maxRecDepth 20000 in
theorem ggX1_tryBerth_X1_levelOf : GoodIn wsX1_tryBerth wsX1_levelOf := goodIn_r _ [8, 9, 10, 11, 12, 13, 14, 15, 16, 72, 73, 74, 75, 76, 77, 78, 79, 80] (by decide +kernel) (by decide +kernel)
set_option maxRecDepth 20000 in
theorem gX1_tryBerth_X1_levelOf : GoodIn wsX1_tryBerth (wsV RX1 83 RX1 yX1_levelOf wsX1_levelOf) := goodIn_app (goodIn_of _ (by decide +kernel)) ggX1_tryBerth_X1_levelOf
set_option maxRecDepth 20000 in
theorem ggX1_tryBerth_X1_index : GoodIn wsX1_tryBerth wsX1_index := goodIn_r _ [19] (by decide +kernel) (by decide +kernel)
set_option maxRecDepth 20000 in
theorem gX1_tryBerth_X1_index : GoodIn wsX1_tryBerth (va_wsS RX1 70 yX1_index wsX1_index) := goodIn_app (goodIn_of _ (by decide +kernel)) ggX1_tryBerth_X1_index
set_option maxRecDepth 20000 in
theorem ggX1_tryBerth_X1_firstOf : GoodIn wsX1_tryBerth wsX1_firstOf := goodIn_r _ [22, 10, 11, 12, 13, 14, 15, 16] (by decide +kernel) (by decide +kernel)
set_option maxRecDepth 20000 in
theorem gX1_tryBerth_X1_firstOf : GoodIn wsX1_tryBerth (va_wsS RX1 90 yX1_firstOf wsX1_firstOf) := goodIn_app (goodIn_of _ (by decide +kernel)) ggX1_tryBerth_X1_firstOf
set_option maxRecDepth 20000 in
theorem ggX1_tryBerth_X1_lay : GoodIn wsX1_tryBerth wsX1_lay := goodIn_r _ [26, 27, 28, 9, 4, 5, 6, 7, 8, 10, 11, 12, 13, 14, 15, 16, 29, 30, 31, 32, 33, 34, 35, 2, 36, 37, 38, 1, 39, 40, 41, 42, 17, 18, 19, 72, 73, 74, 75, 76, 77, 78, 79, 80, 81, 82, 83, 84, 85, 86, 87, 88, 89, 90, 91] (by decide +kernel) (by decide +kernel)
set_option maxRecDepth 20000 in
theorem gX1_tryBerth_X1_lay : GoodIn wsX1_tryBerth (wsV RX1 104 RX1 yX1_lay wsX1_lay) := goodIn_app (goodIn_of _ (by decide +kernel)) ggX1_tryBerth_X1_lay
set_option maxRecDepth 20000 in
theorem ggX1_tryBerth_X2_latenessIf : GoodIn wsX1_tryBerth wsX2_latenessIf := goodIn_r _ [47, 48, 49, 81, 82, 83, 84, 85, 86, 87, 88, 89, 90, 91] (by decide +kernel) (by decide +kernel)
set_option maxRecDepth 20000 in
theorem gX1_tryBerth_X2_latenessIf : GoodIn wsX1_tryBerth (wsV RX1 93 RX2 yX2_latenessIf wsX2_latenessIf) := goodIn_app (goodIn_of _ (by decide +kernel)) ggX1_tryBerth_X2_latenessIf
set_option maxRecDepth 20000 in
theorem ggX1_tryBerth_X1_leastOf : GoodIn wsX1_tryBerth wsX1_leastOf := goodIn_r _ [53, 9, 37, 1, 54, 2, 4, 5, 6, 7, 8, 10, 11, 12, 13, 14, 15, 16, 29, 30, 31, 17, 18, 19, 20, 21, 22, 43, 44, 45, 46, 47, 48, 49, 72, 73, 74, 75, 76, 77, 78, 79, 80, 81, 82, 83, 84, 85, 86, 87, 88, 89, 90, 91] (by decide +kernel) (by decide +kernel)
set_option maxRecDepth 20000 in
theorem gX1_tryBerth_X1_leastOf : GoodIn wsX1_tryBerth (wsV RX1 46 RX1 yX1_leastOf wsX1_leastOf) := goodIn_app (goodIn_of _ (by decide +kernel)) ggX1_tryBerth_X1_leastOf
set_option maxRecDepth 20000 in
theorem ggX1_tryBerth_X1_berthRest : GoodIn wsX1_tryBerth wsX1_berthRest := goodIn_r _ [58, 9, 37, 59, 60, 61, 7, 62, 3, 63, 27, 64, 28, 65, 66, 67, 68, 29, 30, 31, 69, 70, 71, 0, 1, 2, 4, 5, 6, 8, 10, 11, 12, 13, 14, 15, 16, 17, 18, 19, 20, 21, 22, 23, 24, 25, 26, 32, 33, 34, 35, 36, 38, 39, 40, 41, 42, 43, 44, 45, 46, 47, 48, 49, 50, 51, 52, 53, 54, 55, 56, 57, 72, 73, 74, 75, 76, 77, 78, 79, 80, 81, 82, 83, 84, 85, 86, 87, 88, 89, 90, 91] (by decide +kernel) (by decide +kernel)
set_option maxRecDepth 20000 in
theorem gX1_tryBerth_X1_berthRest : GoodIn wsX1_tryBerth (wsV RX1 51 RX1 yX1_berthRest wsX1_berthRest) := goodIn_app (goodIn_of _ (by decide +kernel)) ggX1_tryBerth_X1_berthRest
theorem dX1_tryBerth_0 : decode cX1_tryBerth 0 = .ok (.aload_n 0, 1) := by decide +kernel
theorem dX1_tryBerth_1 : decode cX1_tryBerth 1 = .ok (.getfield 9, 3) := by decide +kernel
theorem dX1_tryBerth_4 : decode cX1_tryBerth 4 = .ok (.aload_n 0, 1) := by decide +kernel
theorem dX1_tryBerth_5 : decode cX1_tryBerth 5 = .ok (.iload_n 1, 1) := by decide +kernel
theorem dX1_tryBerth_6 : decode cX1_tryBerth 6 = .ok (.invokevirtual 83, 3) := by decide +kernel
theorem dX1_tryBerth_9 : decode cX1_tryBerth 9 = .ok (.iload_n 2, 1) := by decide +kernel
theorem dX1_tryBerth_10 : decode cX1_tryBerth 10 = .ok (.iload_n 3, 1) := by decide +kernel
theorem dX1_tryBerth_11 : decode cX1_tryBerth 11 = .ok (.invokestatic 70, 3) := by decide +kernel
theorem dX1_tryBerth_14 : decode cX1_tryBerth 14 = .ok (.iaload, 1) := by decide +kernel
theorem dX1_tryBerth_15 : decode cX1_tryBerth 15 = .ok (.istore 6, 2) := by decide +kernel
theorem dX1_tryBerth_17 : decode cX1_tryBerth 17 = .ok (.iload 6, 2) := by decide +kernel
theorem dX1_tryBerth_19 : decode cX1_tryBerth 19 = .ok (.ifCond .ne 4, 3) := by decide +kernel
theorem dX1_tryBerth_22 : decode cX1_tryBerth 22 = .ok (.return_, 1) := by decide +kernel
theorem dX1_tryBerth_23 : decode cX1_tryBerth 23 = .ok (.iload 6, 2) := by decide +kernel
theorem dX1_tryBerth_25 : decode cX1_tryBerth 25 = .ok (.invokestatic 90, 3) := by decide +kernel
theorem dX1_tryBerth_28 : decode cX1_tryBerth 28 = .ok (.istore 7, 2) := by decide +kernel
theorem dX1_tryBerth_30 : decode cX1_tryBerth 30 = .ok (.iload 7, 2) := by decide +kernel
theorem dX1_tryBerth_32 : decode cX1_tryBerth 32 = .ok (.iconst 4, 1) := by decide +kernel
theorem dX1_tryBerth_33 : decode cX1_tryBerth 33 = .ok (.imul, 1) := by decide +kernel
theorem dX1_tryBerth_34 : decode cX1_tryBerth 34 = .ok (.iload_n 2, 1) := by decide +kernel
theorem dX1_tryBerth_35 : decode cX1_tryBerth 35 = .ok (.iadd, 1) := by decide +kernel
theorem dX1_tryBerth_36 : decode cX1_tryBerth 36 = .ok (.istore 8, 2) := by decide +kernel
theorem dX1_tryBerth_38 : decode cX1_tryBerth 38 = .ok (.iload 8, 2) := by decide +kernel
theorem dX1_tryBerth_40 : decode cX1_tryBerth 40 = .ok (.iload 5, 2) := by decide +kernel
theorem dX1_tryBerth_42 : decode cX1_tryBerth 42 = .ok (.if_icmp .gt 4, 3) := by decide +kernel
theorem dX1_tryBerth_45 : decode cX1_tryBerth 45 = .ok (.return_, 1) := by decide +kernel
theorem dX1_tryBerth_46 : decode cX1_tryBerth 46 = .ok (.aload_n 0, 1) := by decide +kernel
theorem dX1_tryBerth_47 : decode cX1_tryBerth 47 = .ok (.iload_n 1, 1) := by decide +kernel
theorem dX1_tryBerth_48 : decode cX1_tryBerth 48 = .ok (.iload_n 2, 1) := by decide +kernel
theorem dX1_tryBerth_49 : decode cX1_tryBerth 49 = .ok (.iload_n 3, 1) := by decide +kernel
theorem dX1_tryBerth_50 : decode cX1_tryBerth 50 = .ok (.iload 7, 2) := by decide +kernel
theorem dX1_tryBerth_52 : decode cX1_tryBerth 52 = .ok (.invokevirtual 104, 3) := by decide +kernel
theorem dX1_tryBerth_55 : decode cX1_tryBerth 55 = .ok (.iload_n 1, 1) := by decide +kernel
theorem dX1_tryBerth_56 : decode cX1_tryBerth 56 = .ok (.iconst 1, 1) := by decide +kernel
theorem dX1_tryBerth_57 : decode cX1_tryBerth 57 = .ok (.iload_n 2, 1) := by decide +kernel
theorem dX1_tryBerth_58 : decode cX1_tryBerth 58 = .ok (.ishl, 1) := by decide +kernel
theorem dX1_tryBerth_59 : decode cX1_tryBerth 59 = .ok (.iconst (-1), 1) := by decide +kernel
theorem dX1_tryBerth_60 : decode cX1_tryBerth 60 = .ok (.ixor, 1) := by decide +kernel
theorem dX1_tryBerth_61 : decode cX1_tryBerth 61 = .ok (.iand, 1) := by decide +kernel
theorem dX1_tryBerth_62 : decode cX1_tryBerth 62 = .ok (.istore 9, 2) := by decide +kernel
theorem dX1_tryBerth_64 : decode cX1_tryBerth 64 = .ok (.iload 4, 2) := by decide +kernel
theorem dX1_tryBerth_66 : decode cX1_tryBerth 66 = .ok (.aload_n 0, 1) := by decide +kernel
theorem dX1_tryBerth_67 : decode cX1_tryBerth 67 = .ok (.getfield 29, 3) := by decide +kernel
theorem dX1_tryBerth_70 : decode cX1_tryBerth 70 = .ok (.iload_n 2, 1) := by decide +kernel
theorem dX1_tryBerth_71 : decode cX1_tryBerth 71 = .ok (.aaload, 1) := by decide +kernel
theorem dX1_tryBerth_72 : decode cX1_tryBerth 72 = .ok (.iload 7, 2) := by decide +kernel
theorem dX1_tryBerth_74 : decode cX1_tryBerth 74 = .ok (.invokevirtual 93, 3) := by decide +kernel
theorem dX1_tryBerth_77 : decode cX1_tryBerth 77 = .ok (.iadd, 1) := by decide +kernel
theorem dX1_tryBerth_78 : decode cX1_tryBerth 78 = .ok (.istore 10, 2) := by decide +kernel
theorem dX1_tryBerth_80 : decode cX1_tryBerth 80 = .ok (.iload 10, 2) := by decide +kernel
theorem dX1_tryBerth_82 : decode cX1_tryBerth 82 = .ok (.aload_n 0, 1) := by decide +kernel
theorem dX1_tryBerth_83 : decode cX1_tryBerth 83 = .ok (.iload 9, 2) := by decide +kernel
theorem dX1_tryBerth_85 : decode cX1_tryBerth 85 = .ok (.invokevirtual 46, 3) := by decide +kernel
theorem dX1_tryBerth_88 : decode cX1_tryBerth 88 = .ok (.iadd, 1) := by decide +kernel
theorem dX1_tryBerth_89 : decode cX1_tryBerth 89 = .ok (.aload_n 0, 1) := by decide +kernel
theorem dX1_tryBerth_90 : decode cX1_tryBerth 90 = .ok (.getfield 38, 3) := by decide +kernel
theorem dX1_tryBerth_93 : decode cX1_tryBerth 93 = .ok (.if_icmp .gt 13, 3) := by decide +kernel
theorem dX1_tryBerth_96 : decode cX1_tryBerth 96 = .ok (.aload_n 0, 1) := by decide +kernel
theorem dX1_tryBerth_97 : decode cX1_tryBerth 97 = .ok (.iload 9, 2) := by decide +kernel
theorem dX1_tryBerth_99 : decode cX1_tryBerth 99 = .ok (.iload 10, 2) := by decide +kernel
theorem dX1_tryBerth_101 : decode cX1_tryBerth 101 = .ok (.iload 8, 2) := by decide +kernel
theorem dX1_tryBerth_103 : decode cX1_tryBerth 103 = .ok (.invokevirtual 51, 3) := by decide +kernel
theorem dX1_tryBerth_106 : decode cX1_tryBerth 106 = .ok (.return_, 1) := by decide +kernel
set_option maxRecDepth 20000 in
theorem ggX1_lay_X1_levelOf : GoodIn wsX1_lay wsX1_levelOf := goodIn_r _ [8, 3, 9, 10, 11, 12, 13, 14, 15, 35, 36, 37, 38, 39, 40, 41, 42, 43] (by decide +kernel) (by decide +kernel)
set_option maxRecDepth 20000 in
theorem gX1_lay_X1_levelOf : GoodIn wsX1_lay (wsV RX1 83 RX1 yX1_levelOf wsX1_levelOf) := goodIn_app (goodIn_of _ (by decide +kernel)) ggX1_lay_X1_levelOf
set_option maxRecDepth 20000 in
theorem ggX1_lay_X3_hasBit : GoodIn wsX1_lay wsX3_hasBit := goodIn_r _ [18] (by decide +kernel) (by decide +kernel)
set_option maxRecDepth 20000 in
theorem gX1_lay_X3_hasBit_n86 : GoodIn wsX1_lay (wsX3_hasBit) := ggX1_lay_X3_hasBit
set_option maxRecDepth 20000 in
theorem ggX1_lay_X1_narrow : GoodIn wsX1_lay wsX1_narrow := goodIn_r _ [22, 23, 24, 2, 25, 1, 26, 27, 28, 17, 29, 30, 31, 32, 33, 7, 34, 35, 36, 37, 38, 39, 40, 41, 42, 43, 44, 45, 46, 47, 48, 49, 50, 51, 52, 53, 54] (by decide +kernel) (by decide +kernel)
set_option maxRecDepth 20000 in
theorem gX1_lay_X1_narrow : GoodIn wsX1_lay (wsV RX1 108 RX1 yX1_narrow wsX1_narrow) := goodIn_app (goodIn_of _ (by decide +kernel)) ggX1_lay_X1_narrow
theorem dX1_lay_0 : decode cX1_lay 0 = .ok (.aload_n 0, 1) := by decide +kernel
theorem dX1_lay_1 : decode cX1_lay 1 = .ok (.getfield 15, 3) := by decide +kernel
theorem dX1_lay_4 : decode cX1_lay 4 = .ok (.iload_n 2, 1) := by decide +kernel
theorem dX1_lay_5 : decode cX1_lay 5 = .ok (.iload_n 3, 1) := by decide +kernel
theorem dX1_lay_6 : decode cX1_lay 6 = .ok (.iastore, 1) := by decide +kernel
theorem dX1_lay_7 : decode cX1_lay 7 = .ok (.aload_n 0, 1) := by decide +kernel
theorem dX1_lay_8 : decode cX1_lay 8 = .ok (.getfield 18, 3) := by decide +kernel
theorem dX1_lay_11 : decode cX1_lay 11 = .ok (.iload_n 2, 1) := by decide +kernel
theorem dX1_lay_12 : decode cX1_lay 12 = .ok (.iload 4, 2) := by decide +kernel
theorem dX1_lay_14 : decode cX1_lay 14 = .ok (.iastore, 1) := by decide +kernel
theorem dX1_lay_15 : decode cX1_lay 15 = .ok (.aload_n 0, 1) := by decide +kernel
theorem dX1_lay_16 : decode cX1_lay 16 = .ok (.iload_n 1, 1) := by decide +kernel
theorem dX1_lay_17 : decode cX1_lay 17 = .ok (.invokevirtual 83, 3) := by decide +kernel
theorem dX1_lay_20 : decode cX1_lay 20 = .ok (.istore 5, 2) := by decide +kernel
theorem dX1_lay_22 : decode cX1_lay 22 = .ok (.iconst 0, 1) := by decide +kernel
theorem dX1_lay_23 : decode cX1_lay 23 = .ok (.istore 6, 2) := by decide +kernel
theorem dX1_lay_25 : decode cX1_lay 25 = .ok (.iload 6, 2) := by decide +kernel
theorem dX1_lay_27 : decode cX1_lay 27 = .ok (.aload_n 0, 1) := by decide +kernel
theorem dX1_lay_28 : decode cX1_lay 28 = .ok (.getfield 61, 3) := by decide +kernel
theorem dX1_lay_31 : decode cX1_lay 31 = .ok (.if_icmp .ge 33, 3) := by decide +kernel
theorem dX1_lay_34 : decode cX1_lay 34 = .ok (.iload 6, 2) := by decide +kernel
theorem dX1_lay_36 : decode cX1_lay 36 = .ok (.iload_n 2, 1) := by decide +kernel
theorem dX1_lay_37 : decode cX1_lay 37 = .ok (.if_icmp .eq 21, 3) := by decide +kernel
theorem dX1_lay_40 : decode cX1_lay 40 = .ok (.iload_n 1, 1) := by decide +kernel
theorem dX1_lay_41 : decode cX1_lay 41 = .ok (.iload 6, 2) := by decide +kernel
theorem dX1_lay_43 : decode cX1_lay 43 = .ok (.invokestatic 86, 3) := by decide +kernel
theorem dX1_lay_46 : decode cX1_lay 46 = .ok (.ifCond .eq 12, 3) := by decide +kernel
theorem dX1_lay_49 : decode cX1_lay 49 = .ok (.aload_n 0, 1) := by decide +kernel
theorem dX1_lay_50 : decode cX1_lay 50 = .ok (.iload 5, 2) := by decide +kernel
theorem dX1_lay_52 : decode cX1_lay 52 = .ok (.iload_n 2, 1) := by decide +kernel
theorem dX1_lay_53 : decode cX1_lay 53 = .ok (.iload 6, 2) := by decide +kernel
theorem dX1_lay_55 : decode cX1_lay 55 = .ok (.invokevirtual 108, 3) := by decide +kernel
theorem dX1_lay_58 : decode cX1_lay 58 = .ok (.iinc 6 1, 3) := by decide +kernel
theorem dX1_lay_61 : decode cX1_lay 61 = .ok (.goto (-36), 3) := by decide +kernel
theorem dX1_lay_64 : decode cX1_lay 64 = .ok (.return_, 1) := by decide +kernel
set_option maxRecDepth 20000 in
theorem ggX1_narrow_X3_beginsBetween : GoodIn wsX1_narrow wsX3_beginsBetween := goodIn_r _ [10] (by decide +kernel) (by decide +kernel)
set_option maxRecDepth 20000 in
theorem gX1_narrow_X3_beginsBetween_n114 : GoodIn wsX1_narrow (wsX3_beginsBetween) := ggX1_narrow_X3_beginsBetween
set_option maxRecDepth 20000 in
theorem ggX1_narrow_X3_spansMeet : GoodIn wsX1_narrow wsX3_spansMeet := goodIn_r _ [12] (by decide +kernel) (by decide +kernel)
set_option maxRecDepth 20000 in
theorem gX1_narrow_X3_spansMeet_n120 : GoodIn wsX1_narrow (wsX3_spansMeet) := ggX1_narrow_X3_spansMeet
set_option maxRecDepth 20000 in
theorem ggX1_narrow_X1_index : GoodIn wsX1_narrow wsX1_index := goodIn_r _ [16] (by decide +kernel) (by decide +kernel)
set_option maxRecDepth 20000 in
theorem gX1_narrow_X1_index : GoodIn wsX1_narrow (va_wsS RX1 70 yX1_index wsX1_index) := goodIn_app (goodIn_of _ (by decide +kernel)) ggX1_narrow_X1_index
theorem dX1_narrow_0 : decode cX1_narrow 0 = .ok (.aload_n 0, 1) := by decide +kernel
theorem dX1_narrow_1 : decode cX1_narrow 1 = .ok (.getfield 29, 3) := by decide +kernel
theorem dX1_narrow_4 : decode cX1_narrow 4 = .ok (.iload_n 2, 1) := by decide +kernel
theorem dX1_narrow_5 : decode cX1_narrow 5 = .ok (.aaload, 1) := by decide +kernel
theorem dX1_narrow_6 : decode cX1_narrow 6 = .ok (.getfield 111, 3) := by decide +kernel
theorem dX1_narrow_9 : decode cX1_narrow 9 = .ok (.istore 4, 2) := by decide +kernel
theorem dX1_narrow_11 : decode cX1_narrow 11 = .ok (.aload_n 0, 1) := by decide +kernel
theorem dX1_narrow_12 : decode cX1_narrow 12 = .ok (.getfield 29, 3) := by decide +kernel
theorem dX1_narrow_15 : decode cX1_narrow 15 = .ok (.iload_n 3, 1) := by decide +kernel
theorem dX1_narrow_16 : decode cX1_narrow 16 = .ok (.aaload, 1) := by decide +kernel
theorem dX1_narrow_17 : decode cX1_narrow 17 = .ok (.getfield 111, 3) := by decide +kernel
theorem dX1_narrow_20 : decode cX1_narrow 20 = .ok (.istore 5, 2) := by decide +kernel
theorem dX1_narrow_22 : decode cX1_narrow 22 = .ok (.aload_n 0, 1) := by decide +kernel
theorem dX1_narrow_23 : decode cX1_narrow 23 = .ok (.getfield 18, 3) := by decide +kernel
theorem dX1_narrow_26 : decode cX1_narrow 26 = .ok (.iload_n 2, 1) := by decide +kernel
theorem dX1_narrow_27 : decode cX1_narrow 27 = .ok (.iaload, 1) := by decide +kernel
theorem dX1_narrow_28 : decode cX1_narrow 28 = .ok (.istore 6, 2) := by decide +kernel
theorem dX1_narrow_30 : decode cX1_narrow 30 = .ok (.iload 6, 2) := by decide +kernel
theorem dX1_narrow_32 : decode cX1_narrow 32 = .ok (.iload 5, 2) := by decide +kernel
theorem dX1_narrow_34 : decode cX1_narrow 34 = .ok (.isub, 1) := by decide +kernel
theorem dX1_narrow_35 : decode cX1_narrow 35 = .ok (.iconst 1, 1) := by decide +kernel
theorem dX1_narrow_36 : decode cX1_narrow 36 = .ok (.iadd, 1) := by decide +kernel
theorem dX1_narrow_37 : decode cX1_narrow 37 = .ok (.iload 6, 2) := by decide +kernel
theorem dX1_narrow_39 : decode cX1_narrow 39 = .ok (.iload 4, 2) := by decide +kernel
theorem dX1_narrow_41 : decode cX1_narrow 41 = .ok (.iadd, 1) := by decide +kernel
theorem dX1_narrow_42 : decode cX1_narrow 42 = .ok (.iconst 1, 1) := by decide +kernel
theorem dX1_narrow_43 : decode cX1_narrow 43 = .ok (.isub, 1) := by decide +kernel
theorem dX1_narrow_44 : decode cX1_narrow 44 = .ok (.invokestatic 114, 3) := by decide +kernel
theorem dX1_narrow_47 : decode cX1_narrow 47 = .ok (.istore 7, 2) := by decide +kernel
theorem dX1_narrow_49 : decode cX1_narrow 49 = .ok (.iconst 0, 1) := by decide +kernel
theorem dX1_narrow_50 : decode cX1_narrow 50 = .ok (.istore 8, 2) := by decide +kernel
theorem dX1_narrow_52 : decode cX1_narrow 52 = .ok (.iload 8, 2) := by decide +kernel
theorem dX1_narrow_54 : decode cX1_narrow 54 = .ok (.aload_n 0, 1) := by decide +kernel
theorem dX1_narrow_55 : decode cX1_narrow 55 = .ok (.getfield 69, 3) := by decide +kernel
theorem dX1_narrow_58 : decode cX1_narrow 58 = .ok (.if_icmp .ge 85, 3) := by decide +kernel
theorem dX1_narrow_61 : decode cX1_narrow 61 = .ok (.aload_n 0, 1) := by decide +kernel
theorem dX1_narrow_62 : decode cX1_narrow 62 = .ok (.getfield 15, 3) := by decide +kernel
theorem dX1_narrow_65 : decode cX1_narrow 65 = .ok (.iload_n 2, 1) := by decide +kernel
theorem dX1_narrow_66 : decode cX1_narrow 66 = .ok (.iaload, 1) := by decide +kernel
theorem dX1_narrow_67 : decode cX1_narrow 67 = .ok (.aload_n 0, 1) := by decide +kernel
theorem dX1_narrow_68 : decode cX1_narrow 68 = .ok (.getfield 29, 3) := by decide +kernel
theorem dX1_narrow_71 : decode cX1_narrow 71 = .ok (.iload_n 2, 1) := by decide +kernel
theorem dX1_narrow_72 : decode cX1_narrow 72 = .ok (.aaload, 1) := by decide +kernel
theorem dX1_narrow_73 : decode cX1_narrow 73 = .ok (.getfield 117, 3) := by decide +kernel
theorem dX1_narrow_76 : decode cX1_narrow 76 = .ok (.iload 8, 2) := by decide +kernel
theorem dX1_narrow_78 : decode cX1_narrow 78 = .ok (.aload_n 0, 1) := by decide +kernel
theorem dX1_narrow_79 : decode cX1_narrow 79 = .ok (.getfield 29, 3) := by decide +kernel
theorem dX1_narrow_82 : decode cX1_narrow 82 = .ok (.iload_n 3, 1) := by decide +kernel
theorem dX1_narrow_83 : decode cX1_narrow 83 = .ok (.aaload, 1) := by decide +kernel
theorem dX1_narrow_84 : decode cX1_narrow 84 = .ok (.getfield 117, 3) := by decide +kernel
theorem dX1_narrow_87 : decode cX1_narrow 87 = .ok (.invokestatic 120, 3) := by decide +kernel
theorem dX1_narrow_90 : decode cX1_narrow 90 = .ok (.istore 9, 2) := by decide +kernel
theorem dX1_narrow_92 : decode cX1_narrow 92 = .ok (.aload_n 0, 1) := by decide +kernel
theorem dX1_narrow_93 : decode cX1_narrow 93 = .ok (.getfield 9, 3) := by decide +kernel
theorem dX1_narrow_96 : decode cX1_narrow 96 = .ok (.iload_n 1, 1) := by decide +kernel
theorem dX1_narrow_97 : decode cX1_narrow 97 = .ok (.iload_n 3, 1) := by decide +kernel
theorem dX1_narrow_98 : decode cX1_narrow 98 = .ok (.iload 8, 2) := by decide +kernel
theorem dX1_narrow_100 : decode cX1_narrow 100 = .ok (.invokestatic 70, 3) := by decide +kernel
theorem dX1_narrow_103 : decode cX1_narrow 103 = .ok (.iaload, 1) := by decide +kernel
theorem dX1_narrow_104 : decode cX1_narrow 104 = .ok (.istore 10, 2) := by decide +kernel
theorem dX1_narrow_106 : decode cX1_narrow 106 = .ok (.aload_n 0, 1) := by decide +kernel
theorem dX1_narrow_107 : decode cX1_narrow 107 = .ok (.getfield 9, 3) := by decide +kernel
theorem dX1_narrow_110 : decode cX1_narrow 110 = .ok (.iload_n 1, 1) := by decide +kernel
theorem dX1_narrow_111 : decode cX1_narrow 111 = .ok (.iconst 1, 1) := by decide +kernel
theorem dX1_narrow_112 : decode cX1_narrow 112 = .ok (.iadd, 1) := by decide +kernel
theorem dX1_narrow_113 : decode cX1_narrow 113 = .ok (.iload_n 3, 1) := by decide +kernel
theorem dX1_narrow_114 : decode cX1_narrow 114 = .ok (.iload 8, 2) := by decide +kernel
theorem dX1_narrow_116 : decode cX1_narrow 116 = .ok (.invokestatic 70, 3) := by decide +kernel
theorem dX1_narrow_119 : decode cX1_narrow 119 = .ok (.iload 9, 2) := by decide +kernel
theorem dX1_narrow_121 : decode cX1_narrow 121 = .ok (.ifCond .eq 13, 3) := by decide +kernel
theorem dX1_narrow_124 : decode cX1_narrow 124 = .ok (.iload 10, 2) := by decide +kernel
theorem dX1_narrow_126 : decode cX1_narrow 126 = .ok (.iload 7, 2) := by decide +kernel
theorem dX1_narrow_128 : decode cX1_narrow 128 = .ok (.iconst (-1), 1) := by decide +kernel
theorem dX1_narrow_129 : decode cX1_narrow 129 = .ok (.ixor, 1) := by decide +kernel
theorem dX1_narrow_130 : decode cX1_narrow 130 = .ok (.iand, 1) := by decide +kernel
theorem dX1_narrow_131 : decode cX1_narrow 131 = .ok (.goto 5, 3) := by decide +kernel
theorem dX1_narrow_134 : decode cX1_narrow 134 = .ok (.iload 10, 2) := by decide +kernel
theorem dX1_narrow_136 : decode cX1_narrow 136 = .ok (.iastore, 1) := by decide +kernel
theorem dX1_narrow_137 : decode cX1_narrow 137 = .ok (.iinc 8 1, 3) := by decide +kernel
theorem dX1_narrow_140 : decode cX1_narrow 140 = .ok (.goto (-88), 3) := by decide +kernel
theorem dX1_narrow_143 : decode cX1_narrow 143 = .ok (.return_, 1) := by decide +kernel
set_option maxRecDepth 20000 in
theorem ggX1_keepIfAhead_X1_isTriedAhead : GoodIn wsX1_keepIfAhead wsX1_isTriedAhead := goodIn_r _ [11, 2, 6, 5, 4, 3, 12, 13, 14, 15, 16, 17, 18, 19, 20] (by decide +kernel) (by decide +kernel)
set_option maxRecDepth 20000 in
theorem gX1_keepIfAhead_X1_isTriedAhead : GoodIn wsX1_keepIfAhead (wsV RX1 124 RX1 yX1_isTriedAhead wsX1_isTriedAhead) := goodIn_app (goodIn_of _ (by decide +kernel)) ggX1_keepIfAhead_X1_isTriedAhead
theorem dX1_keepIfAhead_0 : decode cX1_keepIfAhead 0 = .ok (.iload_n 1, 1) := by decide +kernel
theorem dX1_keepIfAhead_1 : decode cX1_keepIfAhead 1 = .ok (.aload_n 0, 1) := by decide +kernel
theorem dX1_keepIfAhead_2 : decode cX1_keepIfAhead 2 = .ok (.getfield 38, 3) := by decide +kernel
theorem dX1_keepIfAhead_5 : decode cX1_keepIfAhead 5 = .ok (.if_icmp .lt 11, 3) := by decide +kernel
theorem dX1_keepIfAhead_8 : decode cX1_keepIfAhead 8 = .ok (.aload_n 0, 1) := by decide +kernel
theorem dX1_keepIfAhead_9 : decode cX1_keepIfAhead 9 = .ok (.invokevirtual 124, 3) := by decide +kernel
theorem dX1_keepIfAhead_12 : decode cX1_keepIfAhead 12 = .ok (.ifCond .ne 4, 3) := by decide +kernel
theorem dX1_keepIfAhead_15 : decode cX1_keepIfAhead 15 = .ok (.return_, 1) := by decide +kernel
theorem dX1_keepIfAhead_16 : decode cX1_keepIfAhead 16 = .ok (.aload_n 0, 1) := by decide +kernel
theorem dX1_keepIfAhead_17 : decode cX1_keepIfAhead 17 = .ok (.iload_n 1, 1) := by decide +kernel
theorem dX1_keepIfAhead_18 : decode cX1_keepIfAhead 18 = .ok (.putfield 38, 3) := by decide +kernel
theorem dX1_keepIfAhead_21 : decode cX1_keepIfAhead 21 = .ok (.iconst 0, 1) := by decide +kernel
theorem dX1_keepIfAhead_22 : decode cX1_keepIfAhead 22 = .ok (.istore_n 2, 1) := by decide +kernel
theorem dX1_keepIfAhead_23 : decode cX1_keepIfAhead 23 = .ok (.iload_n 2, 1) := by decide +kernel
theorem dX1_keepIfAhead_24 : decode cX1_keepIfAhead 24 = .ok (.aload_n 0, 1) := by decide +kernel
theorem dX1_keepIfAhead_25 : decode cX1_keepIfAhead 25 = .ok (.getfield 61, 3) := by decide +kernel
theorem dX1_keepIfAhead_28 : decode cX1_keepIfAhead 28 = .ok (.if_icmp .ge 33, 3) := by decide +kernel
theorem dX1_keepIfAhead_31 : decode cX1_keepIfAhead 31 = .ok (.aload_n 0, 1) := by decide +kernel
theorem dX1_keepIfAhead_32 : decode cX1_keepIfAhead 32 = .ok (.getfield 21, 3) := by decide +kernel
theorem dX1_keepIfAhead_35 : decode cX1_keepIfAhead 35 = .ok (.iload_n 2, 1) := by decide +kernel
theorem dX1_keepIfAhead_36 : decode cX1_keepIfAhead 36 = .ok (.aload_n 0, 1) := by decide +kernel
theorem dX1_keepIfAhead_37 : decode cX1_keepIfAhead 37 = .ok (.getfield 15, 3) := by decide +kernel
theorem dX1_keepIfAhead_40 : decode cX1_keepIfAhead 40 = .ok (.iload_n 2, 1) := by decide +kernel
theorem dX1_keepIfAhead_41 : decode cX1_keepIfAhead 41 = .ok (.iaload, 1) := by decide +kernel
theorem dX1_keepIfAhead_42 : decode cX1_keepIfAhead 42 = .ok (.iastore, 1) := by decide +kernel
theorem dX1_keepIfAhead_43 : decode cX1_keepIfAhead 43 = .ok (.aload_n 0, 1) := by decide +kernel
theorem dX1_keepIfAhead_44 : decode cX1_keepIfAhead 44 = .ok (.getfield 24, 3) := by decide +kernel
theorem dX1_keepIfAhead_47 : decode cX1_keepIfAhead 47 = .ok (.iload_n 2, 1) := by decide +kernel
theorem dX1_keepIfAhead_48 : decode cX1_keepIfAhead 48 = .ok (.aload_n 0, 1) := by decide +kernel
theorem dX1_keepIfAhead_49 : decode cX1_keepIfAhead 49 = .ok (.getfield 18, 3) := by decide +kernel
theorem dX1_keepIfAhead_52 : decode cX1_keepIfAhead 52 = .ok (.iload_n 2, 1) := by decide +kernel
theorem dX1_keepIfAhead_53 : decode cX1_keepIfAhead 53 = .ok (.iaload, 1) := by decide +kernel
theorem dX1_keepIfAhead_54 : decode cX1_keepIfAhead 54 = .ok (.iastore, 1) := by decide +kernel
theorem dX1_keepIfAhead_55 : decode cX1_keepIfAhead 55 = .ok (.iinc 2 1, 3) := by decide +kernel
theorem dX1_keepIfAhead_58 : decode cX1_keepIfAhead 58 = .ok (.goto (-35), 3) := by decide +kernel
theorem dX1_keepIfAhead_61 : decode cX1_keepIfAhead 61 = .ok (.return_, 1) := by decide +kernel
theorem dX1_isTriedAhead_0 : decode cX1_isTriedAhead 0 = .ok (.iconst 0, 1) := by decide +kernel
theorem dX1_isTriedAhead_1 : decode cX1_isTriedAhead 1 = .ok (.istore_n 1, 1) := by decide +kernel
theorem dX1_isTriedAhead_2 : decode cX1_isTriedAhead 2 = .ok (.iload_n 1, 1) := by decide +kernel
theorem dX1_isTriedAhead_3 : decode cX1_isTriedAhead 3 = .ok (.aload_n 0, 1) := by decide +kernel
theorem dX1_isTriedAhead_4 : decode cX1_isTriedAhead 4 = .ok (.getfield 61, 3) := by decide +kernel
theorem dX1_isTriedAhead_7 : decode cX1_isTriedAhead 7 = .ok (.if_icmp .ge 81, 3) := by decide +kernel
theorem dX1_isTriedAhead_10 : decode cX1_isTriedAhead 10 = .ok (.aload_n 0, 1) := by decide +kernel
theorem dX1_isTriedAhead_11 : decode cX1_isTriedAhead 11 = .ok (.getfield 18, 3) := by decide +kernel
theorem dX1_isTriedAhead_14 : decode cX1_isTriedAhead 14 = .ok (.iload_n 1, 1) := by decide +kernel
theorem dX1_isTriedAhead_15 : decode cX1_isTriedAhead 15 = .ok (.iaload, 1) := by decide +kernel
theorem dX1_isTriedAhead_16 : decode cX1_isTriedAhead 16 = .ok (.aload_n 0, 1) := by decide +kernel
theorem dX1_isTriedAhead_17 : decode cX1_isTriedAhead 17 = .ok (.getfield 24, 3) := by decide +kernel
theorem dX1_isTriedAhead_20 : decode cX1_isTriedAhead 20 = .ok (.iload_n 1, 1) := by decide +kernel
theorem dX1_isTriedAhead_21 : decode cX1_isTriedAhead 21 = .ok (.iaload, 1) := by decide +kernel
theorem dX1_isTriedAhead_22 : decode cX1_isTriedAhead 22 = .ok (.if_icmp .eq 24, 3) := by decide +kernel
theorem dX1_isTriedAhead_25 : decode cX1_isTriedAhead 25 = .ok (.aload_n 0, 1) := by decide +kernel
theorem dX1_isTriedAhead_26 : decode cX1_isTriedAhead 26 = .ok (.getfield 18, 3) := by decide +kernel
theorem dX1_isTriedAhead_29 : decode cX1_isTriedAhead 29 = .ok (.iload_n 1, 1) := by decide +kernel
theorem dX1_isTriedAhead_30 : decode cX1_isTriedAhead 30 = .ok (.iaload, 1) := by decide +kernel
theorem dX1_isTriedAhead_31 : decode cX1_isTriedAhead 31 = .ok (.aload_n 0, 1) := by decide +kernel
theorem dX1_isTriedAhead_32 : decode cX1_isTriedAhead 32 = .ok (.getfield 24, 3) := by decide +kernel
theorem dX1_isTriedAhead_35 : decode cX1_isTriedAhead 35 = .ok (.iload_n 1, 1) := by decide +kernel
theorem dX1_isTriedAhead_36 : decode cX1_isTriedAhead 36 = .ok (.iaload, 1) := by decide +kernel
theorem dX1_isTriedAhead_37 : decode cX1_isTriedAhead 37 = .ok (.if_icmp .ge 7, 3) := by decide +kernel
theorem dX1_isTriedAhead_40 : decode cX1_isTriedAhead 40 = .ok (.iconst 1, 1) := by decide +kernel
theorem dX1_isTriedAhead_41 : decode cX1_isTriedAhead 41 = .ok (.goto 4, 3) := by decide +kernel
theorem dX1_isTriedAhead_44 : decode cX1_isTriedAhead 44 = .ok (.iconst 0, 1) := by decide +kernel
theorem dX1_isTriedAhead_45 : decode cX1_isTriedAhead 45 = .ok (.ireturn, 1) := by decide +kernel
theorem dX1_isTriedAhead_46 : decode cX1_isTriedAhead 46 = .ok (.aload_n 0, 1) := by decide +kernel
theorem dX1_isTriedAhead_47 : decode cX1_isTriedAhead 47 = .ok (.getfield 15, 3) := by decide +kernel
theorem dX1_isTriedAhead_50 : decode cX1_isTriedAhead 50 = .ok (.iload_n 1, 1) := by decide +kernel
theorem dX1_isTriedAhead_51 : decode cX1_isTriedAhead 51 = .ok (.iaload, 1) := by decide +kernel
theorem dX1_isTriedAhead_52 : decode cX1_isTriedAhead 52 = .ok (.aload_n 0, 1) := by decide +kernel
theorem dX1_isTriedAhead_53 : decode cX1_isTriedAhead 53 = .ok (.getfield 21, 3) := by decide +kernel
theorem dX1_isTriedAhead_56 : decode cX1_isTriedAhead 56 = .ok (.iload_n 1, 1) := by decide +kernel
theorem dX1_isTriedAhead_57 : decode cX1_isTriedAhead 57 = .ok (.iaload, 1) := by decide +kernel
theorem dX1_isTriedAhead_58 : decode cX1_isTriedAhead 58 = .ok (.if_icmp .eq 24, 3) := by decide +kernel
theorem dX1_isTriedAhead_61 : decode cX1_isTriedAhead 61 = .ok (.aload_n 0, 1) := by decide +kernel
theorem dX1_isTriedAhead_62 : decode cX1_isTriedAhead 62 = .ok (.getfield 15, 3) := by decide +kernel
theorem dX1_isTriedAhead_65 : decode cX1_isTriedAhead 65 = .ok (.iload_n 1, 1) := by decide +kernel
theorem dX1_isTriedAhead_66 : decode cX1_isTriedAhead 66 = .ok (.iaload, 1) := by decide +kernel
theorem dX1_isTriedAhead_67 : decode cX1_isTriedAhead 67 = .ok (.aload_n 0, 1) := by decide +kernel
theorem dX1_isTriedAhead_68 : decode cX1_isTriedAhead 68 = .ok (.getfield 21, 3) := by decide +kernel
theorem dX1_isTriedAhead_71 : decode cX1_isTriedAhead 71 = .ok (.iload_n 1, 1) := by decide +kernel
theorem dX1_isTriedAhead_72 : decode cX1_isTriedAhead 72 = .ok (.iaload, 1) := by decide +kernel
theorem dX1_isTriedAhead_73 : decode cX1_isTriedAhead 73 = .ok (.if_icmp .ge 7, 3) := by decide +kernel
theorem dX1_isTriedAhead_76 : decode cX1_isTriedAhead 76 = .ok (.iconst 1, 1) := by decide +kernel
theorem dX1_isTriedAhead_77 : decode cX1_isTriedAhead 77 = .ok (.goto 4, 3) := by decide +kernel
theorem dX1_isTriedAhead_80 : decode cX1_isTriedAhead 80 = .ok (.iconst 0, 1) := by decide +kernel
theorem dX1_isTriedAhead_81 : decode cX1_isTriedAhead 81 = .ok (.ireturn, 1) := by decide +kernel
theorem dX1_isTriedAhead_82 : decode cX1_isTriedAhead 82 = .ok (.iinc 1 1, 3) := by decide +kernel
theorem dX1_isTriedAhead_85 : decode cX1_isTriedAhead 85 = .ok (.goto (-83), 3) := by decide +kernel
theorem dX1_isTriedAhead_88 : decode cX1_isTriedAhead 88 = .ok (.iconst 0, 1) := by decide +kernel
theorem dX1_isTriedAhead_89 : decode cX1_isTriedAhead 89 = .ok (.ireturn, 1) := by decide +kernel
theorem dX1_index_0 : decode cX1_index 0 = .ok (.iload_n 0, 1) := by decide +kernel
theorem dX1_index_1 : decode cX1_index 1 = .ok (.iconst 4, 1) := by decide +kernel
theorem dX1_index_2 : decode cX1_index 2 = .ok (.imul, 1) := by decide +kernel
theorem dX1_index_3 : decode cX1_index 3 = .ok (.iload_n 1, 1) := by decide +kernel
theorem dX1_index_4 : decode cX1_index 4 = .ok (.iadd, 1) := by decide +kernel
theorem dX1_index_5 : decode cX1_index 5 = .ok (.bipush 6, 2) := by decide +kernel
theorem dX1_index_7 : decode cX1_index 7 = .ok (.imul, 1) := by decide +kernel
theorem dX1_index_8 : decode cX1_index 8 = .ok (.iload_n 2, 1) := by decide +kernel
theorem dX1_index_9 : decode cX1_index 9 = .ok (.iadd, 1) := by decide +kernel
theorem dX1_index_10 : decode cX1_index 10 = .ok (.ireturn, 1) := by decide +kernel
set_option maxRecDepth 20000 in
theorem ggX1_firstOf_J6_bitCount_0f7a4 : GoodIn wsX1_firstOf wsJ6_bitCount_0f7a4 := goodIn_r _ [4, 5, 6, 7] (by decide +kernel) (by decide +kernel)
set_option maxRecDepth 20000 in
theorem gX1_firstOf_J6_bitCount_0f7a4 : GoodIn wsX1_firstOf (va_wsS RX1 78 yJ6_bitCount_0f7a4 wsJ6_bitCount_0f7a4) := goodIn_app (goodIn_of _ (by decide +kernel)) ggX1_firstOf_J6_bitCount_0f7a4
theorem dX1_firstOf_0 : decode cX1_firstOf 0 = .ok (.iload_n 0, 1) := by decide +kernel
theorem dX1_firstOf_1 : decode cX1_firstOf 1 = .ok (.iload_n 0, 1) := by decide +kernel
theorem dX1_firstOf_2 : decode cX1_firstOf 2 = .ok (.ineg, 1) := by decide +kernel
theorem dX1_firstOf_3 : decode cX1_firstOf 3 = .ok (.iand, 1) := by decide +kernel
theorem dX1_firstOf_4 : decode cX1_firstOf 4 = .ok (.iconst 1, 1) := by decide +kernel
theorem dX1_firstOf_5 : decode cX1_firstOf 5 = .ok (.isub, 1) := by decide +kernel
theorem dX1_firstOf_6 : decode cX1_firstOf 6 = .ok (.invokestatic 78, 3) := by decide +kernel
theorem dX1_firstOf_9 : decode cX1_firstOf 9 = .ok (.ireturn, 1) := by decide +kernel
theorem dX2_init_0 : decode cX2_init 0 = .ok (.aload_n 0, 1) := by decide +kernel
theorem dX2_init_1 : decode cX2_init 1 = .ok (.invokespecial 1, 3) := by decide +kernel
theorem dX2_init_4 : decode cX2_init 4 = .ok (.return_, 1) := by decide +kernel
theorem dX2_latenessIf_0 : decode cX2_latenessIf 0 = .ok (.aload_n 0, 1) := by decide +kernel
theorem dX2_latenessIf_1 : decode cX2_latenessIf 1 = .ok (.getfield 7, 3) := by decide +kernel
theorem dX2_latenessIf_4 : decode cX2_latenessIf 4 = .ok (.iload_n 1, 1) := by decide +kernel
theorem dX2_latenessIf_5 : decode cX2_latenessIf 5 = .ok (.aload_n 0, 1) := by decide +kernel
theorem dX2_latenessIf_6 : decode cX2_latenessIf 6 = .ok (.getfield 13, 3) := by decide +kernel
theorem dX2_latenessIf_9 : decode cX2_latenessIf 9 = .ok (.isub, 1) := by decide +kernel
theorem dX2_latenessIf_10 : decode cX2_latenessIf 10 = .ok (.imul, 1) := by decide +kernel
theorem dX2_latenessIf_11 : decode cX2_latenessIf 11 = .ok (.ireturn, 1) := by decide +kernel
set_option maxRecDepth 20000 in
theorem ggX2_beginsAt_X0_suits : GoodIn wsX2_beginsAt wsX0_suits := goodIn_r _ [12, 13, 14, 15, 16, 17, 11, 18, 19, 40, 41, 42, 43, 44] (by decide +kernel) (by decide +kernel)
set_option maxRecDepth 20000 in
theorem gX2_beginsAt_X0_suits : GoodIn wsX2_beginsAt (wsV RX2 35 RX0 yX0_suits wsX0_suits) := goodIn_app (goodIn_of _ (by decide +kernel)) ggX2_beginsAt_X0_suits
set_option maxRecDepth 20000 in
theorem ggX2_beginsAt_X0_beginsFrom : GoodIn wsX2_beginsAt wsX0_beginsFrom := goodIn_r _ [23, 24, 25, 26, 27, 28, 40, 41, 42, 43, 44] (by decide +kernel) (by decide +kernel)
set_option maxRecDepth 20000 in
theorem gX2_beginsAt_X0_beginsFrom : GoodIn wsX2_beginsAt (wsV RX2 41 RX0 yX0_beginsFrom wsX0_beginsFrom) := goodIn_app (goodIn_of _ (by decide +kernel)) ggX2_beginsAt_X0_beginsFrom
theorem dX2_beginsAt_0 : decode cX2_beginsAt 0 = .ok (.aload_n 0, 1) := by decide +kernel
theorem dX2_beginsAt_1 : decode cX2_beginsAt 1 = .ok (.getfield 16, 3) := by decide +kernel
theorem dX2_beginsAt_4 : decode cX2_beginsAt 4 = .ok (.ifCond .eq 22, 3) := by decide +kernel
theorem dX2_beginsAt_7 : decode cX2_beginsAt 7 = .ok (.iload_n 1, 1) := by decide +kernel
theorem dX2_beginsAt_8 : decode cX2_beginsAt 8 = .ok (.aload_n 0, 1) := by decide +kernel
theorem dX2_beginsAt_9 : decode cX2_beginsAt 9 = .ok (.getfield 20, 3) := by decide +kernel
theorem dX2_beginsAt_12 : decode cX2_beginsAt 12 = .ok (.if_icmp .ne 12, 3) := by decide +kernel
theorem dX2_beginsAt_15 : decode cX2_beginsAt 15 = .ok (.iconst 1, 1) := by decide +kernel
theorem dX2_beginsAt_16 : decode cX2_beginsAt 16 = .ok (.aload_n 0, 1) := by decide +kernel
theorem dX2_beginsAt_17 : decode cX2_beginsAt 17 = .ok (.getfield 23, 3) := by decide +kernel
theorem dX2_beginsAt_20 : decode cX2_beginsAt 20 = .ok (.ishl, 1) := by decide +kernel
theorem dX2_beginsAt_21 : decode cX2_beginsAt 21 = .ok (.goto 4, 3) := by decide +kernel
theorem dX2_beginsAt_24 : decode cX2_beginsAt 24 = .ok (.iconst 0, 1) := by decide +kernel
theorem dX2_beginsAt_25 : decode cX2_beginsAt 25 = .ok (.ireturn, 1) := by decide +kernel
theorem dX2_beginsAt_26 : decode cX2_beginsAt 26 = .ok (.aload_n 2, 1) := by decide +kernel
theorem dX2_beginsAt_27 : decode cX2_beginsAt 27 = .ok (.iload_n 1, 1) := by decide +kernel
theorem dX2_beginsAt_28 : decode cX2_beginsAt 28 = .ok (.aload_n 0, 1) := by decide +kernel
theorem dX2_beginsAt_29 : decode cX2_beginsAt 29 = .ok (.getfield 26, 3) := by decide +kernel
theorem dX2_beginsAt_32 : decode cX2_beginsAt 32 = .ok (.aload_n 0, 1) := by decide +kernel
theorem dX2_beginsAt_33 : decode cX2_beginsAt 33 = .ok (.getfield 29, 3) := by decide +kernel
theorem dX2_beginsAt_36 : decode cX2_beginsAt 36 = .ok (.aload_n 0, 1) := by decide +kernel
theorem dX2_beginsAt_37 : decode cX2_beginsAt 37 = .ok (.getfield 32, 3) := by decide +kernel
theorem dX2_beginsAt_40 : decode cX2_beginsAt 40 = .ok (.invokevirtual 35, 3) := by decide +kernel
theorem dX2_beginsAt_43 : decode cX2_beginsAt 43 = .ok (.ifCond .eq 14, 3) := by decide +kernel
theorem dX2_beginsAt_46 : decode cX2_beginsAt 46 = .ok (.aload_n 2, 1) := by decide +kernel
theorem dX2_beginsAt_47 : decode cX2_beginsAt 47 = .ok (.aload_n 0, 1) := by decide +kernel
theorem dX2_beginsAt_48 : decode cX2_beginsAt 48 = .ok (.getfield 13, 3) := by decide +kernel
theorem dX2_beginsAt_51 : decode cX2_beginsAt 51 = .ok (.invokevirtual 41, 3) := by decide +kernel
theorem dX2_beginsAt_54 : decode cX2_beginsAt 54 = .ok (.goto 4, 3) := by decide +kernel
theorem dX2_beginsAt_57 : decode cX2_beginsAt 57 = .ok (.iconst 0, 1) := by decide +kernel
theorem dX2_beginsAt_58 : decode cX2_beginsAt 58 = .ok (.ireturn, 1) := by decide +kernel
theorem dX2_moveTo_0 : decode cX2_moveTo 0 = .ok (.aload_n 0, 1) := by decide +kernel
theorem dX2_moveTo_1 : decode cX2_moveTo 1 = .ok (.getfield 45, 3) := by decide +kernel
theorem dX2_moveTo_4 : decode cX2_moveTo 4 = .ok (.iload_n 1, 1) := by decide +kernel
theorem dX2_moveTo_5 : decode cX2_moveTo 5 = .ok (.if_icmp .ne 11, 3) := by decide +kernel
theorem dX2_moveTo_8 : decode cX2_moveTo 8 = .ok (.aload_n 0, 1) := by decide +kernel
theorem dX2_moveTo_9 : decode cX2_moveTo 9 = .ok (.getfield 48, 3) := by decide +kernel
theorem dX2_moveTo_12 : decode cX2_moveTo 12 = .ok (.iload_n 2, 1) := by decide +kernel
theorem dX2_moveTo_13 : decode cX2_moveTo 13 = .ok (.if_icmp .eq 7, 3) := by decide +kernel
theorem dX2_moveTo_16 : decode cX2_moveTo 16 = .ok (.iconst 1, 1) := by decide +kernel
theorem dX2_moveTo_17 : decode cX2_moveTo 17 = .ok (.goto 4, 3) := by decide +kernel
theorem dX2_moveTo_20 : decode cX2_moveTo 20 = .ok (.iconst 0, 1) := by decide +kernel
theorem dX2_moveTo_21 : decode cX2_moveTo 21 = .ok (.istore_n 3, 1) := by decide +kernel
theorem dX2_moveTo_22 : decode cX2_moveTo 22 = .ok (.aload_n 0, 1) := by decide +kernel
theorem dX2_moveTo_23 : decode cX2_moveTo 23 = .ok (.iload_n 1, 1) := by decide +kernel
theorem dX2_moveTo_24 : decode cX2_moveTo 24 = .ok (.putfield 45, 3) := by decide +kernel
theorem dX2_moveTo_27 : decode cX2_moveTo 27 = .ok (.aload_n 0, 1) := by decide +kernel
theorem dX2_moveTo_28 : decode cX2_moveTo 28 = .ok (.iload_n 2, 1) := by decide +kernel
theorem dX2_moveTo_29 : decode cX2_moveTo 29 = .ok (.putfield 48, 3) := by decide +kernel
theorem dX2_moveTo_32 : decode cX2_moveTo 32 = .ok (.iload_n 3, 1) := by decide +kernel
theorem dX2_moveTo_33 : decode cX2_moveTo 33 = .ok (.ireturn, 1) := by decide +kernel
end
section
set_option maxRecDepth 20000 in
theorem ggX3_init_X0_init : GoodIn wsX3_init wsX0_init := goodIn_r _ [25, 26, 2, 3, 27, 28, 29, 30, 44, 45, 46, 47, 48] (by decide +kernel) (by decide +kernel)
set_option maxRecDepth 20000 in
theorem gX3_init_X0_init : GoodIn wsX3_init (wsX0_init) := ggX3_init_X0_init
set_option maxRecDepth 20000 in
theorem ggX3_init_X2_init : GoodIn wsX3_init wsX2_init := goodIn_r _ [32, 33, 2, 3] (by decide +kernel) (by decide +kernel)
set_option maxRecDepth 20000 in
theorem gX3_init_X2_init_n33 : GoodIn wsX3_init (wsX2_init) := ggX3_init_X2_init
set_option maxRecDepth 20000 in
theorem ggX3_init_X1_init : GoodIn wsX3_init wsX1_init := goodIn_r _ [35, 36, 2, 3, 28, 37, 38, 39, 40, 41, 42, 43, 65, 66, 67, 68, 69, 70, 71, 72, 73] (by decide +kernel) (by decide +kernel)
set_option maxRecDepth 20000 in
theorem gX3_init_X1_init_n36 : GoodIn wsX3_init (wsX1_init) := ggX3_init_X1_init
theorem dX3_init_0 : decode cX3_init 0 = .ok (.aload_n 0, 1) := by decide +kernel
theorem dX3_init_1 : decode cX3_init 1 = .ok (.invokespecial 1, 3) := by decide +kernel
theorem dX3_init_4 : decode cX3_init 4 = .ok (.aload_n 0, 1) := by decide +kernel
theorem dX3_init_5 : decode cX3_init 5 = .ok (.new 7, 3) := by decide +kernel
theorem dX3_init_8 : decode cX3_init 8 = .ok (.dup, 1) := by decide +kernel
theorem dX3_init_9 : decode cX3_init 9 = .ok (.iconst 1, 1) := by decide +kernel
theorem dX3_init_10 : decode cX3_init 10 = .ok (.iload_n 1, 1) := by decide +kernel
theorem dX3_init_11 : decode cX3_init 11 = .ok (.bipush 6, 2) := by decide +kernel
theorem dX3_init_13 : decode cX3_init 13 = .ok (.invokestatic 11, 3) := by decide +kernel
theorem dX3_init_16 : decode cX3_init 16 = .ok (.invokestatic 17, 3) := by decide +kernel
theorem dX3_init_19 : decode cX3_init 19 = .ok (.invokespecial 20, 3) := by decide +kernel
theorem dX3_init_22 : decode cX3_init 22 = .ok (.putfield 23, 3) := by decide +kernel
theorem dX3_init_25 : decode cX3_init 25 = .ok (.aload_n 0, 1) := by decide +kernel
theorem dX3_init_26 : decode cX3_init 26 = .ok (.iconst 4, 1) := by decide +kernel
theorem dX3_init_27 : decode cX3_init 27 = .ok (.anewarray 27, 3) := by decide +kernel
theorem dX3_init_30 : decode cX3_init 30 = .ok (.putfield 29, 3) := by decide +kernel
theorem dX3_init_33 : decode cX3_init 33 = .ok (.iconst 0, 1) := by decide +kernel
theorem dX3_init_34 : decode cX3_init 34 = .ok (.istore_n 2, 1) := by decide +kernel
theorem dX3_init_35 : decode cX3_init 35 = .ok (.iload_n 2, 1) := by decide +kernel
theorem dX3_init_36 : decode cX3_init 36 = .ok (.iconst 4, 1) := by decide +kernel
theorem dX3_init_37 : decode cX3_init 37 = .ok (.if_icmp .ge 22, 3) := by decide +kernel
theorem dX3_init_40 : decode cX3_init 40 = .ok (.aload_n 0, 1) := by decide +kernel
theorem dX3_init_41 : decode cX3_init 41 = .ok (.getfield 29, 3) := by decide +kernel
theorem dX3_init_44 : decode cX3_init 44 = .ok (.iload_n 2, 1) := by decide +kernel
theorem dX3_init_45 : decode cX3_init 45 = .ok (.new 27, 3) := by decide +kernel
theorem dX3_init_48 : decode cX3_init 48 = .ok (.dup, 1) := by decide +kernel
theorem dX3_init_49 : decode cX3_init 49 = .ok (.invokespecial 33, 3) := by decide +kernel
theorem dX3_init_52 : decode cX3_init 52 = .ok (.aastore, 1) := by decide +kernel
theorem dX3_init_53 : decode cX3_init 53 = .ok (.iinc 2 1, 3) := by decide +kernel
theorem dX3_init_56 : decode cX3_init 56 = .ok (.goto (-21), 3) := by decide +kernel
theorem dX3_init_59 : decode cX3_init 59 = .ok (.aload_n 0, 1) := by decide +kernel
theorem dX3_init_60 : decode cX3_init 60 = .ok (.new 34, 3) := by decide +kernel
theorem dX3_init_63 : decode cX3_init 63 = .ok (.dup, 1) := by decide +kernel
theorem dX3_init_64 : decode cX3_init 64 = .ok (.invokespecial 36, 3) := by decide +kernel
theorem dX3_init_67 : decode cX3_init 67 = .ok (.putfield 37, 3) := by decide +kernel
theorem dX3_init_70 : decode cX3_init 70 = .ok (.return_, 1) := by decide +kernel
set_option maxRecDepth 20000 in
theorem ggX3_ship_X3_isWithin : GoodIn wsX3_ship wsX3_isWithin := goodIn_r _ [16] (by decide +kernel) (by decide +kernel)
set_option maxRecDepth 20000 in
theorem gX3_ship_X3_isWithin : GoodIn wsX3_ship (va_wsS RX3 41 yX3_isWithin wsX3_isWithin) := goodIn_app (goodIn_of _ (by decide +kernel)) ggX3_ship_X3_isWithin
theorem dX3_ship_0 : decode cX3_ship 0 = .ok (.iload_n 1, 1) := by decide +kernel
theorem dX3_ship_1 : decode cX3_ship 1 = .ok (.iconst 1, 1) := by decide +kernel
theorem dX3_ship_2 : decode cX3_ship 2 = .ok (.bipush 6, 2) := by decide +kernel
theorem dX3_ship_4 : decode cX3_ship 4 = .ok (.invokestatic 41, 3) := by decide +kernel
theorem dX3_ship_7 : decode cX3_ship 7 = .ok (.ifCond .eq 17, 3) := by decide +kernel
theorem dX3_ship_10 : decode cX3_ship 10 = .ok (.iload_n 2, 1) := by decide +kernel
theorem dX3_ship_11 : decode cX3_ship 11 = .ok (.iconst 0, 1) := by decide +kernel
theorem dX3_ship_12 : decode cX3_ship 12 = .ok (.bipush 100, 2) := by decide +kernel
theorem dX3_ship_14 : decode cX3_ship 14 = .ok (.invokestatic 41, 3) := by decide +kernel
theorem dX3_ship_17 : decode cX3_ship 17 = .ok (.ifCond .eq 7, 3) := by decide +kernel
theorem dX3_ship_20 : decode cX3_ship 20 = .ok (.iconst 1, 1) := by decide +kernel
theorem dX3_ship_21 : decode cX3_ship 21 = .ok (.goto 4, 3) := by decide +kernel
theorem dX3_ship_24 : decode cX3_ship 24 = .ok (.iconst 0, 1) := by decide +kernel
theorem dX3_ship_25 : decode cX3_ship 25 = .ok (.istore 6, 2) := by decide +kernel
theorem dX3_ship_27 : decode cX3_ship 27 = .ok (.iload_n 3, 1) := by decide +kernel
theorem dX3_ship_28 : decode cX3_ship 28 = .ok (.iconst 1, 1) := by decide +kernel
theorem dX3_ship_29 : decode cX3_ship 29 = .ok (.bipush 24, 2) := by decide +kernel
theorem dX3_ship_31 : decode cX3_ship 31 = .ok (.invokestatic 41, 3) := by decide +kernel
theorem dX3_ship_34 : decode cX3_ship 34 = .ok (.ifCond .eq 18, 3) := by decide +kernel
theorem dX3_ship_37 : decode cX3_ship 37 = .ok (.iload 4, 2) := by decide +kernel
theorem dX3_ship_39 : decode cX3_ship 39 = .ok (.iconst 0, 1) := by decide +kernel
theorem dX3_ship_40 : decode cX3_ship 40 = .ok (.bipush 15, 2) := by decide +kernel
theorem dX3_ship_42 : decode cX3_ship 42 = .ok (.invokestatic 41, 3) := by decide +kernel
theorem dX3_ship_45 : decode cX3_ship 45 = .ok (.ifCond .eq 7, 3) := by decide +kernel
theorem dX3_ship_48 : decode cX3_ship 48 = .ok (.iconst 1, 1) := by decide +kernel
theorem dX3_ship_49 : decode cX3_ship 49 = .ok (.goto 4, 3) := by decide +kernel
theorem dX3_ship_52 : decode cX3_ship 52 = .ok (.iconst 0, 1) := by decide +kernel
theorem dX3_ship_53 : decode cX3_ship 53 = .ok (.istore 7, 2) := by decide +kernel
theorem dX3_ship_55 : decode cX3_ship 55 = .ok (.iload 6, 2) := by decide +kernel
theorem dX3_ship_57 : decode cX3_ship 57 = .ok (.ifCond .eq 19, 3) := by decide +kernel
theorem dX3_ship_60 : decode cX3_ship 60 = .ok (.iload 7, 2) := by decide +kernel
theorem dX3_ship_62 : decode cX3_ship 62 = .ok (.ifCond .eq 14, 3) := by decide +kernel
theorem dX3_ship_65 : decode cX3_ship 65 = .ok (.iload 5, 2) := by decide +kernel
theorem dX3_ship_67 : decode cX3_ship 67 = .ok (.iconst 1, 1) := by decide +kernel
theorem dX3_ship_68 : decode cX3_ship 68 = .ok (.bipush 100, 2) := by decide +kernel
theorem dX3_ship_70 : decode cX3_ship 70 = .ok (.invokestatic 41, 3) := by decide +kernel
theorem dX3_ship_73 : decode cX3_ship 73 = .ok (.ifCond .ne 13, 3) := by decide +kernel
theorem dX3_ship_76 : decode cX3_ship 76 = .ok (.new 45, 3) := by decide +kernel
theorem dX3_ship_79 : decode cX3_ship 79 = .ok (.dup, 1) := by decide +kernel
theorem dX3_ship_80 : decode cX3_ship 80 = .ok (.ldc 47, 2) := by decide +kernel
theorem dX3_ship_82 : decode cX3_ship 82 = .ok (.invokespecial 49, 3) := by decide +kernel
theorem dX3_ship_85 : decode cX3_ship 85 = .ok (.athrow, 1) := by decide +kernel
theorem dX3_ship_86 : decode cX3_ship 86 = .ok (.aload_n 0, 1) := by decide +kernel
theorem dX3_ship_87 : decode cX3_ship 87 = .ok (.getfield 52, 3) := by decide +kernel
theorem dX3_ship_90 : decode cX3_ship 90 = .ok (.iconst 4, 1) := by decide +kernel
theorem dX3_ship_91 : decode cX3_ship 91 = .ok (.if_icmp .lt 13, 3) := by decide +kernel
theorem dX3_ship_94 : decode cX3_ship 94 = .ok (.new 56, 3) := by decide +kernel
theorem dX3_ship_97 : decode cX3_ship 97 = .ok (.dup, 1) := by decide +kernel
theorem dX3_ship_98 : decode cX3_ship 98 = .ok (.ldc 58, 2) := by decide +kernel
theorem dX3_ship_100 : decode cX3_ship 100 = .ok (.invokespecial 60, 3) := by decide +kernel
theorem dX3_ship_103 : decode cX3_ship 103 = .ok (.athrow, 1) := by decide +kernel
theorem dX3_ship_104 : decode cX3_ship 104 = .ok (.aload_n 0, 1) := by decide +kernel
theorem dX3_ship_105 : decode cX3_ship 105 = .ok (.getfield 29, 3) := by decide +kernel
theorem dX3_ship_108 : decode cX3_ship 108 = .ok (.aload_n 0, 1) := by decide +kernel
theorem dX3_ship_109 : decode cX3_ship 109 = .ok (.getfield 52, 3) := by decide +kernel
theorem dX3_ship_112 : decode cX3_ship 112 = .ok (.aaload, 1) := by decide +kernel
theorem dX3_ship_113 : decode cX3_ship 113 = .ok (.astore 8, 2) := by decide +kernel
theorem dX3_ship_115 : decode cX3_ship 115 = .ok (.aload 8, 2) := by decide +kernel
theorem dX3_ship_117 : decode cX3_ship 117 = .ok (.iload_n 1, 1) := by decide +kernel
theorem dX3_ship_118 : decode cX3_ship 118 = .ok (.putfield 61, 3) := by decide +kernel
theorem dX3_ship_121 : decode cX3_ship 121 = .ok (.aload 8, 2) := by decide +kernel
theorem dX3_ship_123 : decode cX3_ship 123 = .ok (.iload_n 2, 1) := by decide +kernel
theorem dX3_ship_124 : decode cX3_ship 124 = .ok (.putfield 64, 3) := by decide +kernel
theorem dX3_ship_127 : decode cX3_ship 127 = .ok (.aload 8, 2) := by decide +kernel
theorem dX3_ship_129 : decode cX3_ship 129 = .ok (.iload_n 3, 1) := by decide +kernel
theorem dX3_ship_130 : decode cX3_ship 130 = .ok (.putfield 67, 3) := by decide +kernel
theorem dX3_ship_133 : decode cX3_ship 133 = .ok (.aload 8, 2) := by decide +kernel
theorem dX3_ship_135 : decode cX3_ship 135 = .ok (.iload 4, 2) := by decide +kernel
theorem dX3_ship_137 : decode cX3_ship 137 = .ok (.putfield 70, 3) := by decide +kernel
theorem dX3_ship_140 : decode cX3_ship 140 = .ok (.aload 8, 2) := by decide +kernel
theorem dX3_ship_142 : decode cX3_ship 142 = .ok (.iload 5, 2) := by decide +kernel
theorem dX3_ship_144 : decode cX3_ship 144 = .ok (.putfield 73, 3) := by decide +kernel
theorem dX3_ship_147 : decode cX3_ship 147 = .ok (.aload_n 0, 1) := by decide +kernel
theorem dX3_ship_148 : decode cX3_ship 148 = .ok (.iconst 0, 1) := by decide +kernel
theorem dX3_ship_149 : decode cX3_ship 149 = .ok (.putfield 76, 3) := by decide +kernel
theorem dX3_ship_152 : decode cX3_ship 152 = .ok (.aload_n 0, 1) := by decide +kernel
theorem dX3_ship_153 : decode cX3_ship 153 = .ok (.dup, 1) := by decide +kernel
theorem dX3_ship_154 : decode cX3_ship 154 = .ok (.getfield 52, 3) := by decide +kernel
theorem dX3_ship_157 : decode cX3_ship 157 = .ok (.dup_x1, 1) := by decide +kernel
theorem dX3_ship_158 : decode cX3_ship 158 = .ok (.iconst 1, 1) := by decide +kernel
theorem dX3_ship_159 : decode cX3_ship 159 = .ok (.iadd, 1) := by decide +kernel
theorem dX3_ship_160 : decode cX3_ship 160 = .ok (.putfield 52, 3) := by decide +kernel
theorem dX3_ship_163 : decode cX3_ship 163 = .ok (.ireturn, 1) := by decide +kernel
set_option maxRecDepth 20000 in
theorem ggX3_depth_X0_isPlace : GoodIn wsX3_depth wsX0_isPlace := goodIn_r _ [8, 9, 19, 20, 21, 22, 23] (by decide +kernel) (by decide +kernel)
set_option maxRecDepth 20000 in
theorem gX3_depth_X0_isPlace : GoodIn wsX3_depth (wsV RX3 80 RX0 yX0_isPlace wsX0_isPlace) := goodIn_app (goodIn_of _ (by decide +kernel)) ggX3_depth_X0_isPlace
set_option maxRecDepth 20000 in
theorem ggX3_depth_X3_isWithin : GoodIn wsX3_depth wsX3_isWithin := goodIn_r _ [13] (by decide +kernel) (by decide +kernel)
set_option maxRecDepth 20000 in
theorem gX3_depth_X3_isWithin : GoodIn wsX3_depth (va_wsS RX3 41 yX3_isWithin wsX3_isWithin) := goodIn_app (goodIn_of _ (by decide +kernel)) ggX3_depth_X3_isWithin
theorem dX3_depth_0 : decode cX3_depth 0 = .ok (.aload_n 0, 1) := by decide +kernel
theorem dX3_depth_1 : decode cX3_depth 1 = .ok (.getfield 23, 3) := by decide +kernel
theorem dX3_depth_4 : decode cX3_depth 4 = .ok (.iload_n 1, 1) := by decide +kernel
theorem dX3_depth_5 : decode cX3_depth 5 = .ok (.invokevirtual 80, 3) := by decide +kernel
theorem dX3_depth_8 : decode cX3_depth 8 = .ok (.ifCond .eq 29, 3) := by decide +kernel
theorem dX3_depth_11 : decode cX3_depth 11 = .ok (.aload_n 0, 1) := by decide +kernel
theorem dX3_depth_12 : decode cX3_depth 12 = .ok (.getfield 23, 3) := by decide +kernel
theorem dX3_depth_15 : decode cX3_depth 15 = .ok (.iload_n 2, 1) := by decide +kernel
theorem dX3_depth_16 : decode cX3_depth 16 = .ok (.invokevirtual 80, 3) := by decide +kernel
theorem dX3_depth_19 : decode cX3_depth 19 = .ok (.ifCond .eq 18, 3) := by decide +kernel
theorem dX3_depth_22 : decode cX3_depth 22 = .ok (.iload_n 1, 1) := by decide +kernel
theorem dX3_depth_23 : decode cX3_depth 23 = .ok (.iload_n 2, 1) := by decide +kernel
theorem dX3_depth_24 : decode cX3_depth 24 = .ok (.if_icmp .gt 13, 3) := by decide +kernel
theorem dX3_depth_27 : decode cX3_depth 27 = .ok (.iload_n 3, 1) := by decide +kernel
theorem dX3_depth_28 : decode cX3_depth 28 = .ok (.iconst 0, 1) := by decide +kernel
theorem dX3_depth_29 : decode cX3_depth 29 = .ok (.bipush 100, 2) := by decide +kernel
theorem dX3_depth_31 : decode cX3_depth 31 = .ok (.invokestatic 41, 3) := by decide +kernel
theorem dX3_depth_34 : decode cX3_depth 34 = .ok (.ifCond .ne 5, 3) := by decide +kernel
theorem dX3_depth_37 : decode cX3_depth 37 = .ok (.iconst 0, 1) := by decide +kernel
theorem dX3_depth_38 : decode cX3_depth 38 = .ok (.ireturn, 1) := by decide +kernel
theorem dX3_depth_39 : decode cX3_depth 39 = .ok (.iload_n 1, 1) := by decide +kernel
theorem dX3_depth_40 : decode cX3_depth 40 = .ok (.istore 4, 2) := by decide +kernel
theorem dX3_depth_42 : decode cX3_depth 42 = .ok (.iload 4, 2) := by decide +kernel
theorem dX3_depth_44 : decode cX3_depth 44 = .ok (.iload_n 2, 1) := by decide +kernel
theorem dX3_depth_45 : decode cX3_depth 45 = .ok (.if_icmp .gt 20, 3) := by decide +kernel
theorem dX3_depth_48 : decode cX3_depth 48 = .ok (.aload_n 0, 1) := by decide +kernel
theorem dX3_depth_49 : decode cX3_depth 49 = .ok (.getfield 23, 3) := by decide +kernel
theorem dX3_depth_52 : decode cX3_depth 52 = .ok (.getfield 84, 3) := by decide +kernel
theorem dX3_depth_55 : decode cX3_depth 55 = .ok (.iload 4, 2) := by decide +kernel
theorem dX3_depth_57 : decode cX3_depth 57 = .ok (.iload_n 3, 1) := by decide +kernel
theorem dX3_depth_58 : decode cX3_depth 58 = .ok (.iastore, 1) := by decide +kernel
theorem dX3_depth_59 : decode cX3_depth 59 = .ok (.iinc 4 1, 3) := by decide +kernel
theorem dX3_depth_62 : decode cX3_depth 62 = .ok (.goto (-20), 3) := by decide +kernel
theorem dX3_depth_65 : decode cX3_depth 65 = .ok (.aload_n 0, 1) := by decide +kernel
theorem dX3_depth_66 : decode cX3_depth 66 = .ok (.iconst 0, 1) := by decide +kernel
theorem dX3_depth_67 : decode cX3_depth 67 = .ok (.putfield 76, 3) := by decide +kernel
theorem dX3_depth_70 : decode cX3_depth 70 = .ok (.iconst 1, 1) := by decide +kernel
theorem dX3_depth_71 : decode cX3_depth 71 = .ok (.ireturn, 1) := by decide +kernel
set_option maxRecDepth 20000 in
theorem ggX3_gear_X0_isPlace : GoodIn wsX3_gear wsX0_isPlace := goodIn_r _ [8, 9, 22, 23, 24, 25, 26] (by decide +kernel) (by decide +kernel)
set_option maxRecDepth 20000 in
theorem gX3_gear_X0_isPlace : GoodIn wsX3_gear (wsV RX3 80 RX0 yX0_isPlace wsX0_isPlace) := goodIn_app (goodIn_of _ (by decide +kernel)) ggX3_gear_X0_isPlace
set_option maxRecDepth 20000 in
theorem ggX3_gear_X3_isKind : GoodIn wsX3_gear wsX3_isKind := goodIn_r _ [13] (by decide +kernel) (by decide +kernel)
set_option maxRecDepth 20000 in
theorem gX3_gear_X3_isKind : GoodIn wsX3_gear (va_wsS RX3 88 yX3_isKind wsX3_isKind) := goodIn_app (goodIn_of _ (by decide +kernel)) ggX3_gear_X3_isKind
set_option maxRecDepth 20000 in
theorem ggX3_gear_X3_hasBit : GoodIn wsX3_gear wsX3_hasBit := goodIn_r _ [16] (by decide +kernel) (by decide +kernel)
set_option maxRecDepth 20000 in
theorem gX3_gear_X3_hasBit : GoodIn wsX3_gear (va_wsS RX3 94 yX3_hasBit wsX3_hasBit) := goodIn_app (goodIn_of _ (by decide +kernel)) ggX3_gear_X3_hasBit
theorem dX3_gear_0 : decode cX3_gear 0 = .ok (.aload_n 0, 1) := by decide +kernel
theorem dX3_gear_1 : decode cX3_gear 1 = .ok (.getfield 23, 3) := by decide +kernel
theorem dX3_gear_4 : decode cX3_gear 4 = .ok (.iload_n 1, 1) := by decide +kernel
theorem dX3_gear_5 : decode cX3_gear 5 = .ok (.invokevirtual 80, 3) := by decide +kernel
theorem dX3_gear_8 : decode cX3_gear 8 = .ok (.ifCond .eq 27, 3) := by decide +kernel
theorem dX3_gear_11 : decode cX3_gear 11 = .ok (.iload_n 2, 1) := by decide +kernel
theorem dX3_gear_12 : decode cX3_gear 12 = .ok (.invokestatic 88, 3) := by decide +kernel
theorem dX3_gear_15 : decode cX3_gear 15 = .ok (.ifCond .eq 20, 3) := by decide +kernel
theorem dX3_gear_18 : decode cX3_gear 18 = .ok (.aload_n 0, 1) := by decide +kernel
theorem dX3_gear_19 : decode cX3_gear 19 = .ok (.getfield 23, 3) := by decide +kernel
theorem dX3_gear_22 : decode cX3_gear 22 = .ok (.getfield 91, 3) := by decide +kernel
theorem dX3_gear_25 : decode cX3_gear 25 = .ok (.iload_n 1, 1) := by decide +kernel
theorem dX3_gear_26 : decode cX3_gear 26 = .ok (.iaload, 1) := by decide +kernel
theorem dX3_gear_27 : decode cX3_gear 27 = .ok (.iload_n 2, 1) := by decide +kernel
theorem dX3_gear_28 : decode cX3_gear 28 = .ok (.invokestatic 94, 3) := by decide +kernel
theorem dX3_gear_31 : decode cX3_gear 31 = .ok (.iload_n 3, 1) := by decide +kernel
theorem dX3_gear_32 : decode cX3_gear 32 = .ok (.if_icmp .ne 5, 3) := by decide +kernel
theorem dX3_gear_35 : decode cX3_gear 35 = .ok (.iconst 0, 1) := by decide +kernel
theorem dX3_gear_36 : decode cX3_gear 36 = .ok (.ireturn, 1) := by decide +kernel
theorem dX3_gear_37 : decode cX3_gear 37 = .ok (.aload_n 0, 1) := by decide +kernel
theorem dX3_gear_38 : decode cX3_gear 38 = .ok (.getfield 23, 3) := by decide +kernel
theorem dX3_gear_41 : decode cX3_gear 41 = .ok (.getfield 91, 3) := by decide +kernel
theorem dX3_gear_44 : decode cX3_gear 44 = .ok (.iload_n 1, 1) := by decide +kernel
theorem dX3_gear_45 : decode cX3_gear 45 = .ok (.dup2, 1) := by decide +kernel
theorem dX3_gear_46 : decode cX3_gear 46 = .ok (.iaload, 1) := by decide +kernel
theorem dX3_gear_47 : decode cX3_gear 47 = .ok (.iconst 1, 1) := by decide +kernel
theorem dX3_gear_48 : decode cX3_gear 48 = .ok (.iload_n 2, 1) := by decide +kernel
theorem dX3_gear_49 : decode cX3_gear 49 = .ok (.ishl, 1) := by decide +kernel
theorem dX3_gear_50 : decode cX3_gear 50 = .ok (.ixor, 1) := by decide +kernel
theorem dX3_gear_51 : decode cX3_gear 51 = .ok (.iastore, 1) := by decide +kernel
theorem dX3_gear_52 : decode cX3_gear 52 = .ok (.aload_n 0, 1) := by decide +kernel
theorem dX3_gear_53 : decode cX3_gear 53 = .ok (.iconst 0, 1) := by decide +kernel
theorem dX3_gear_54 : decode cX3_gear 54 = .ok (.putfield 76, 3) := by decide +kernel
theorem dX3_gear_57 : decode cX3_gear 57 = .ok (.iconst 1, 1) := by decide +kernel
theorem dX3_gear_58 : decode cX3_gear 58 = .ok (.ireturn, 1) := by decide +kernel
set_option maxRecDepth 20000 in
theorem ggX3_wants_X3_isShip : GoodIn wsX3_wants wsX3_isShip := goodIn_r _ [8, 9, 16, 17, 18, 19, 20] (by decide +kernel) (by decide +kernel)
set_option maxRecDepth 20000 in
theorem gX3_wants_X3_isShip : GoodIn wsX3_wants (wsV RX3 98 RX3 yX3_isShip wsX3_isShip) := goodIn_app (goodIn_of _ (by decide +kernel)) ggX3_wants_X3_isShip
set_option maxRecDepth 20000 in
theorem ggX3_wants_X3_isKind : GoodIn wsX3_wants wsX3_isKind := goodIn_r _ [12] (by decide +kernel) (by decide +kernel)
set_option maxRecDepth 20000 in
theorem gX3_wants_X3_isKind : GoodIn wsX3_wants (va_wsS RX3 88 yX3_isKind wsX3_isKind) := goodIn_app (goodIn_of _ (by decide +kernel)) ggX3_wants_X3_isKind
set_option maxRecDepth 20000 in
theorem ggX3_wants_X3_hasBit : GoodIn wsX3_wants wsX3_hasBit := goodIn_r _ [15] (by decide +kernel) (by decide +kernel)
set_option maxRecDepth 20000 in
theorem gX3_wants_X3_hasBit : GoodIn wsX3_wants (va_wsS RX3 94 yX3_hasBit wsX3_hasBit) := goodIn_app (goodIn_of _ (by decide +kernel)) ggX3_wants_X3_hasBit
theorem dX3_wants_0 : decode cX3_wants 0 = .ok (.aload_n 0, 1) := by decide +kernel
theorem dX3_wants_1 : decode cX3_wants 1 = .ok (.iload_n 1, 1) := by decide +kernel
theorem dX3_wants_2 : decode cX3_wants 2 = .ok (.invokevirtual 98, 3) := by decide +kernel
theorem dX3_wants_5 : decode cX3_wants 5 = .ok (.ifCond .eq 27, 3) := by decide +kernel
theorem dX3_wants_8 : decode cX3_wants 8 = .ok (.iload_n 2, 1) := by decide +kernel
theorem dX3_wants_9 : decode cX3_wants 9 = .ok (.invokestatic 88, 3) := by decide +kernel
theorem dX3_wants_12 : decode cX3_wants 12 = .ok (.ifCond .eq 20, 3) := by decide +kernel
theorem dX3_wants_15 : decode cX3_wants 15 = .ok (.aload_n 0, 1) := by decide +kernel
theorem dX3_wants_16 : decode cX3_wants 16 = .ok (.getfield 29, 3) := by decide +kernel
theorem dX3_wants_19 : decode cX3_wants 19 = .ok (.iload_n 1, 1) := by decide +kernel
theorem dX3_wants_20 : decode cX3_wants 20 = .ok (.aaload, 1) := by decide +kernel
theorem dX3_wants_21 : decode cX3_wants 21 = .ok (.getfield 101, 3) := by decide +kernel
theorem dX3_wants_24 : decode cX3_wants 24 = .ok (.iload_n 2, 1) := by decide +kernel
theorem dX3_wants_25 : decode cX3_wants 25 = .ok (.invokestatic 94, 3) := by decide +kernel
theorem dX3_wants_28 : decode cX3_wants 28 = .ok (.iload_n 3, 1) := by decide +kernel
theorem dX3_wants_29 : decode cX3_wants 29 = .ok (.if_icmp .ne 5, 3) := by decide +kernel
theorem dX3_wants_32 : decode cX3_wants 32 = .ok (.iconst 0, 1) := by decide +kernel
theorem dX3_wants_33 : decode cX3_wants 33 = .ok (.ireturn, 1) := by decide +kernel
theorem dX3_wants_34 : decode cX3_wants 34 = .ok (.aload_n 0, 1) := by decide +kernel
theorem dX3_wants_35 : decode cX3_wants 35 = .ok (.getfield 29, 3) := by decide +kernel
theorem dX3_wants_38 : decode cX3_wants 38 = .ok (.iload_n 1, 1) := by decide +kernel
theorem dX3_wants_39 : decode cX3_wants 39 = .ok (.aaload, 1) := by decide +kernel
theorem dX3_wants_40 : decode cX3_wants 40 = .ok (.dup, 1) := by decide +kernel
theorem dX3_wants_41 : decode cX3_wants 41 = .ok (.getfield 101, 3) := by decide +kernel
theorem dX3_wants_44 : decode cX3_wants 44 = .ok (.iconst 1, 1) := by decide +kernel
theorem dX3_wants_45 : decode cX3_wants 45 = .ok (.iload_n 2, 1) := by decide +kernel
theorem dX3_wants_46 : decode cX3_wants 46 = .ok (.ishl, 1) := by decide +kernel
theorem dX3_wants_47 : decode cX3_wants 47 = .ok (.ixor, 1) := by decide +kernel
theorem dX3_wants_48 : decode cX3_wants 48 = .ok (.putfield 101, 3) := by decide +kernel
theorem dX3_wants_51 : decode cX3_wants 51 = .ok (.aload_n 0, 1) := by decide +kernel
theorem dX3_wants_52 : decode cX3_wants 52 = .ok (.iconst 0, 1) := by decide +kernel
theorem dX3_wants_53 : decode cX3_wants 53 = .ok (.putfield 76, 3) := by decide +kernel
theorem dX3_wants_56 : decode cX3_wants 56 = .ok (.iconst 1, 1) := by decide +kernel
theorem dX3_wants_57 : decode cX3_wants 57 = .ok (.ireturn, 1) := by decide +kernel
set_option maxRecDepth 20000 in
theorem ggX3_tide_X3_isWithin : GoodIn wsX3_tide wsX3_isWithin := goodIn_r _ [8] (by decide +kernel) (by decide +kernel)
set_option maxRecDepth 20000 in
theorem gX3_tide_X3_isWithin : GoodIn wsX3_tide (va_wsS RX3 41 yX3_isWithin wsX3_isWithin) := goodIn_app (goodIn_of _ (by decide +kernel)) ggX3_tide_X3_isWithin
set_option maxRecDepth 20000 in
theorem ggX3_tide_X3_beginsBetween : GoodIn wsX3_tide wsX3_beginsBetween := goodIn_r _ [11] (by decide +kernel) (by decide +kernel)
set_option maxRecDepth 20000 in
theorem gX3_tide_X3_beginsBetween : GoodIn wsX3_tide (va_wsS RX3 110 yX3_beginsBetween wsX3_beginsBetween) := goodIn_app (goodIn_of _ (by decide +kernel)) ggX3_tide_X3_beginsBetween
theorem dX3_tide_0 : decode cX3_tide 0 = .ok (.iload_n 1, 1) := by decide +kernel
theorem dX3_tide_1 : decode cX3_tide 1 = .ok (.iconst 0, 1) := by decide +kernel
theorem dX3_tide_2 : decode cX3_tide 2 = .ok (.bipush 39, 2) := by decide +kernel
theorem dX3_tide_4 : decode cX3_tide 4 = .ok (.invokestatic 41, 3) := by decide +kernel
theorem dX3_tide_7 : decode cX3_tide 7 = .ok (.ifCond .eq 17, 3) := by decide +kernel
theorem dX3_tide_10 : decode cX3_tide 10 = .ok (.iload_n 2, 1) := by decide +kernel
theorem dX3_tide_11 : decode cX3_tide 11 = .ok (.iconst 0, 1) := by decide +kernel
theorem dX3_tide_12 : decode cX3_tide 12 = .ok (.bipush 39, 2) := by decide +kernel
theorem dX3_tide_14 : decode cX3_tide 14 = .ok (.invokestatic 41, 3) := by decide +kernel
theorem dX3_tide_17 : decode cX3_tide 17 = .ok (.ifCond .eq 7, 3) := by decide +kernel
theorem dX3_tide_20 : decode cX3_tide 20 = .ok (.iconst 1, 1) := by decide +kernel
theorem dX3_tide_21 : decode cX3_tide 21 = .ok (.goto 4, 3) := by decide +kernel
theorem dX3_tide_24 : decode cX3_tide 24 = .ok (.iconst 0, 1) := by decide +kernel
theorem dX3_tide_25 : decode cX3_tide 25 = .ok (.istore_n 3, 1) := by decide +kernel
theorem dX3_tide_26 : decode cX3_tide 26 = .ok (.iload_n 3, 1) := by decide +kernel
theorem dX3_tide_27 : decode cX3_tide 27 = .ok (.ifCond .eq 20, 3) := by decide +kernel
theorem dX3_tide_30 : decode cX3_tide 30 = .ok (.iload_n 1, 1) := by decide +kernel
theorem dX3_tide_31 : decode cX3_tide 31 = .ok (.iload_n 2, 1) := by decide +kernel
theorem dX3_tide_32 : decode cX3_tide 32 = .ok (.if_icmp .gt 15, 3) := by decide +kernel
theorem dX3_tide_35 : decode cX3_tide 35 = .ok (.aload_n 0, 1) := by decide +kernel
theorem dX3_tide_36 : decode cX3_tide 36 = .ok (.getfield 23, 3) := by decide +kernel
theorem dX3_tide_39 : decode cX3_tide 39 = .ok (.getfield 104, 3) := by decide +kernel
theorem dX3_tide_42 : decode cX3_tide 42 = .ok (.bipush 8, 2) := by decide +kernel
theorem dX3_tide_44 : decode cX3_tide 44 = .ok (.if_icmp .lt 5, 3) := by decide +kernel
theorem dX3_tide_47 : decode cX3_tide 47 = .ok (.iconst 0, 1) := by decide +kernel
theorem dX3_tide_48 : decode cX3_tide 48 = .ok (.ireturn, 1) := by decide +kernel
theorem dX3_tide_49 : decode cX3_tide 49 = .ok (.aload_n 0, 1) := by decide +kernel
theorem dX3_tide_50 : decode cX3_tide 50 = .ok (.getfield 23, 3) := by decide +kernel
theorem dX3_tide_53 : decode cX3_tide 53 = .ok (.dup, 1) := by decide +kernel
theorem dX3_tide_54 : decode cX3_tide 54 = .ok (.getfield 107, 3) := by decide +kernel
theorem dX3_tide_57 : decode cX3_tide 57 = .ok (.iload_n 1, 1) := by decide +kernel
theorem dX3_tide_58 : decode cX3_tide 58 = .ok (.iload_n 2, 1) := by decide +kernel
theorem dX3_tide_59 : decode cX3_tide 59 = .ok (.invokestatic 110, 3) := by decide +kernel
theorem dX3_tide_62 : decode cX3_tide 62 = .ok (.ior, 1) := by decide +kernel
theorem dX3_tide_63 : decode cX3_tide 63 = .ok (.putfield 107, 3) := by decide +kernel
theorem dX3_tide_66 : decode cX3_tide 66 = .ok (.aload_n 0, 1) := by decide +kernel
theorem dX3_tide_67 : decode cX3_tide 67 = .ok (.getfield 23, 3) := by decide +kernel
theorem dX3_tide_70 : decode cX3_tide 70 = .ok (.dup, 1) := by decide +kernel
theorem dX3_tide_71 : decode cX3_tide 71 = .ok (.getfield 104, 3) := by decide +kernel
theorem dX3_tide_74 : decode cX3_tide 74 = .ok (.iconst 1, 1) := by decide +kernel
theorem dX3_tide_75 : decode cX3_tide 75 = .ok (.iadd, 1) := by decide +kernel
theorem dX3_tide_76 : decode cX3_tide 76 = .ok (.putfield 104, 3) := by decide +kernel
theorem dX3_tide_79 : decode cX3_tide 79 = .ok (.aload_n 0, 1) := by decide +kernel
theorem dX3_tide_80 : decode cX3_tide 80 = .ok (.iconst 0, 1) := by decide +kernel
theorem dX3_tide_81 : decode cX3_tide 81 = .ok (.putfield 76, 3) := by decide +kernel
theorem dX3_tide_84 : decode cX3_tide 84 = .ok (.iconst 1, 1) := by decide +kernel
theorem dX3_tide_85 : decode cX3_tide 85 = .ok (.ireturn, 1) := by decide +kernel
set_option maxRecDepth 20000 in
theorem ggX3_fix_X3_isShip : GoodIn wsX3_fix wsX3_isShip := goodIn_r _ [12, 13, 31, 32, 33, 34, 35] (by decide +kernel) (by decide +kernel)
set_option maxRecDepth 20000 in
theorem gX3_fix_X3_isShip : GoodIn wsX3_fix (wsV RX3 98 RX3 yX3_isShip wsX3_isShip) := goodIn_app (goodIn_of _ (by decide +kernel)) ggX3_fix_X3_isShip
set_option maxRecDepth 20000 in
theorem ggX3_fix_X3_isWithin : GoodIn wsX3_fix wsX3_isWithin := goodIn_r _ [16] (by decide +kernel) (by decide +kernel)
set_option maxRecDepth 20000 in
theorem gX3_fix_X3_isWithin : GoodIn wsX3_fix (va_wsS RX3 41 yX3_isWithin wsX3_isWithin) := goodIn_app (goodIn_of _ (by decide +kernel)) ggX3_fix_X3_isWithin
set_option maxRecDepth 20000 in
theorem ggX3_fix_X0_isRow : GoodIn wsX3_fix wsX0_isRow := goodIn_r _ [21, 22, 47, 48, 49, 50, 51] (by decide +kernel) (by decide +kernel)
set_option maxRecDepth 20000 in
theorem gX3_fix_X0_isRow : GoodIn wsX3_fix (wsV RX3 113 RX0 yX0_isRow wsX0_isRow) := goodIn_app (goodIn_of _ (by decide +kernel)) ggX3_fix_X0_isRow
set_option maxRecDepth 20000 in
theorem ggX3_fix_X3_meetsFixed : GoodIn wsX3_fix wsX3_meetsFixed := goodIn_r _ [26, 1, 13, 4, 3, 5, 27, 6, 28, 29, 11, 30, 31, 32, 33, 34, 35, 36, 37, 38, 39, 40, 41, 42, 43, 44, 45, 46] (by decide +kernel) (by decide +kernel)
set_option maxRecDepth 20000 in
theorem gX3_fix_X3_meetsFixed : GoodIn wsX3_fix (wsV RX3 116 RX3 yX3_meetsFixed wsX3_meetsFixed) := goodIn_app (goodIn_of _ (by decide +kernel)) ggX3_fix_X3_meetsFixed
theorem dX3_fix_0 : decode cX3_fix 0 = .ok (.aload_n 0, 1) := by decide +kernel
theorem dX3_fix_1 : decode cX3_fix 1 = .ok (.iload_n 1, 1) := by decide +kernel
theorem dX3_fix_2 : decode cX3_fix 2 = .ok (.invokevirtual 98, 3) := by decide +kernel
theorem dX3_fix_5 : decode cX3_fix 5 = .ok (.ifCond .eq 13, 3) := by decide +kernel
theorem dX3_fix_8 : decode cX3_fix 8 = .ok (.iload_n 3, 1) := by decide +kernel
theorem dX3_fix_9 : decode cX3_fix 9 = .ok (.iconst 0, 1) := by decide +kernel
theorem dX3_fix_10 : decode cX3_fix 10 = .ok (.bipush 15, 2) := by decide +kernel
theorem dX3_fix_12 : decode cX3_fix 12 = .ok (.invokestatic 41, 3) := by decide +kernel
theorem dX3_fix_15 : decode cX3_fix 15 = .ok (.ifCond .ne 5, 3) := by decide +kernel
theorem dX3_fix_18 : decode cX3_fix 18 = .ok (.iconst 0, 1) := by decide +kernel
theorem dX3_fix_19 : decode cX3_fix 19 = .ok (.ireturn, 1) := by decide +kernel
theorem dX3_fix_20 : decode cX3_fix 20 = .ok (.aload_n 0, 1) := by decide +kernel
theorem dX3_fix_21 : decode cX3_fix 21 = .ok (.getfield 29, 3) := by decide +kernel
theorem dX3_fix_24 : decode cX3_fix 24 = .ok (.iload_n 1, 1) := by decide +kernel
theorem dX3_fix_25 : decode cX3_fix 25 = .ok (.aaload, 1) := by decide +kernel
theorem dX3_fix_26 : decode cX3_fix 26 = .ok (.astore 4, 2) := by decide +kernel
theorem dX3_fix_28 : decode cX3_fix 28 = .ok (.aload_n 0, 1) := by decide +kernel
theorem dX3_fix_29 : decode cX3_fix 29 = .ok (.getfield 23, 3) := by decide +kernel
theorem dX3_fix_32 : decode cX3_fix 32 = .ok (.iload_n 2, 1) := by decide +kernel
theorem dX3_fix_33 : decode cX3_fix 33 = .ok (.aload 4, 2) := by decide +kernel
theorem dX3_fix_35 : decode cX3_fix 35 = .ok (.getfield 61, 3) := by decide +kernel
theorem dX3_fix_38 : decode cX3_fix 38 = .ok (.invokevirtual 113, 3) := by decide +kernel
theorem dX3_fix_41 : decode cX3_fix 41 = .ok (.ifCond .eq 13, 3) := by decide +kernel
theorem dX3_fix_44 : decode cX3_fix 44 = .ok (.aload_n 0, 1) := by decide +kernel
theorem dX3_fix_45 : decode cX3_fix 45 = .ok (.iload_n 1, 1) := by decide +kernel
theorem dX3_fix_46 : decode cX3_fix 46 = .ok (.iload_n 2, 1) := by decide +kernel
theorem dX3_fix_47 : decode cX3_fix 47 = .ok (.iload_n 3, 1) := by decide +kernel
theorem dX3_fix_48 : decode cX3_fix 48 = .ok (.invokevirtual 116, 3) := by decide +kernel
theorem dX3_fix_51 : decode cX3_fix 51 = .ok (.ifCond .eq 5, 3) := by decide +kernel
theorem dX3_fix_54 : decode cX3_fix 54 = .ok (.iconst 0, 1) := by decide +kernel
theorem dX3_fix_55 : decode cX3_fix 55 = .ok (.ireturn, 1) := by decide +kernel
theorem dX3_fix_56 : decode cX3_fix 56 = .ok (.aload 4, 2) := by decide +kernel
theorem dX3_fix_58 : decode cX3_fix 58 = .ok (.iconst 1, 1) := by decide +kernel
theorem dX3_fix_59 : decode cX3_fix 59 = .ok (.putfield 119, 3) := by decide +kernel
theorem dX3_fix_62 : decode cX3_fix 62 = .ok (.aload 4, 2) := by decide +kernel
theorem dX3_fix_64 : decode cX3_fix 64 = .ok (.iload_n 2, 1) := by decide +kernel
theorem dX3_fix_65 : decode cX3_fix 65 = .ok (.putfield 122, 3) := by decide +kernel
theorem dX3_fix_68 : decode cX3_fix 68 = .ok (.aload 4, 2) := by decide +kernel
theorem dX3_fix_70 : decode cX3_fix 70 = .ok (.iload_n 3, 1) := by decide +kernel
theorem dX3_fix_71 : decode cX3_fix 71 = .ok (.putfield 125, 3) := by decide +kernel
theorem dX3_fix_74 : decode cX3_fix 74 = .ok (.aload_n 0, 1) := by decide +kernel
theorem dX3_fix_75 : decode cX3_fix 75 = .ok (.iconst 0, 1) := by decide +kernel
theorem dX3_fix_76 : decode cX3_fix 76 = .ok (.putfield 76, 3) := by decide +kernel
theorem dX3_fix_79 : decode cX3_fix 79 = .ok (.iconst 1, 1) := by decide +kernel
theorem dX3_fix_80 : decode cX3_fix 80 = .ok (.ireturn, 1) := by decide +kernel
set_option maxRecDepth 20000 in
theorem ggX3_free_X3_isShip : GoodIn wsX3_free wsX3_isShip := goodIn_r _ [8, 9, 10, 11, 12, 13, 14] (by decide +kernel) (by decide +kernel)
set_option maxRecDepth 20000 in
theorem gX3_free_X3_isShip : GoodIn wsX3_free (wsV RX3 98 RX3 yX3_isShip wsX3_isShip) := goodIn_app (goodIn_of _ (by decide +kernel)) ggX3_free_X3_isShip
theorem dX3_free_0 : decode cX3_free 0 = .ok (.aload_n 0, 1) := by decide +kernel
theorem dX3_free_1 : decode cX3_free 1 = .ok (.iload_n 1, 1) := by decide +kernel
theorem dX3_free_2 : decode cX3_free 2 = .ok (.invokevirtual 98, 3) := by decide +kernel
theorem dX3_free_5 : decode cX3_free 5 = .ok (.ifCond .eq 15, 3) := by decide +kernel
theorem dX3_free_8 : decode cX3_free 8 = .ok (.aload_n 0, 1) := by decide +kernel
theorem dX3_free_9 : decode cX3_free 9 = .ok (.getfield 29, 3) := by decide +kernel
theorem dX3_free_12 : decode cX3_free 12 = .ok (.iload_n 1, 1) := by decide +kernel
theorem dX3_free_13 : decode cX3_free 13 = .ok (.aaload, 1) := by decide +kernel
theorem dX3_free_14 : decode cX3_free 14 = .ok (.getfield 119, 3) := by decide +kernel
theorem dX3_free_17 : decode cX3_free 17 = .ok (.ifCond .ne 5, 3) := by decide +kernel
theorem dX3_free_20 : decode cX3_free 20 = .ok (.iconst 0, 1) := by decide +kernel
theorem dX3_free_21 : decode cX3_free 21 = .ok (.ireturn, 1) := by decide +kernel
theorem dX3_free_22 : decode cX3_free 22 = .ok (.aload_n 0, 1) := by decide +kernel
theorem dX3_free_23 : decode cX3_free 23 = .ok (.getfield 29, 3) := by decide +kernel
theorem dX3_free_26 : decode cX3_free 26 = .ok (.iload_n 1, 1) := by decide +kernel
theorem dX3_free_27 : decode cX3_free 27 = .ok (.aaload, 1) := by decide +kernel
theorem dX3_free_28 : decode cX3_free 28 = .ok (.iconst 0, 1) := by decide +kernel
theorem dX3_free_29 : decode cX3_free 29 = .ok (.putfield 119, 3) := by decide +kernel
theorem dX3_free_32 : decode cX3_free 32 = .ok (.aload_n 0, 1) := by decide +kernel
theorem dX3_free_33 : decode cX3_free 33 = .ok (.iconst 0, 1) := by decide +kernel
theorem dX3_free_34 : decode cX3_free 34 = .ok (.putfield 76, 3) := by decide +kernel
theorem dX3_free_37 : decode cX3_free 37 = .ok (.iconst 1, 1) := by decide +kernel
theorem dX3_free_38 : decode cX3_free 38 = .ok (.ireturn, 1) := by decide +kernel
set_option maxRecDepth 20000 in
theorem ggX3_solve_X1_finds : GoodIn wsX3_solve wsX1_finds := goodIn_r _ [10, 11, 12, 13, 14, 15, 16, 9, 17, 18, 19, 20, 21, 22, 23, 24, 25, 26, 27, 28, 29, 30, 31, 32, 33, 34, 35, 36, 37, 38, 39, 40, 41, 42, 43, 44, 45, 46, 47, 48, 49, 50, 51, 52, 53, 54, 55, 56, 57, 58, 59, 60, 61, 62, 63, 64, 65, 66, 67, 68, 69, 70, 71, 72, 73, 74, 75, 76, 77, 78, 79, 80, 81, 82, 83, 84, 85, 86, 87, 88, 89, 90, 91, 92, 93, 94, 95, 96, 97, 98, 99, 100, 101, 102, 103, 104, 105, 106, 107, 108, 109, 110, 111, 112, 113, 114, 115, 116, 117, 118, 119, 120, 121, 122, 123, 141, 142, 143, 144, 145, 146, 147, 148, 149, 150, 151, 152, 153, 154, 155, 156, 157, 158, 159, 160, 161, 162, 163, 164, 165] (by decide +kernel) (by decide +kernel)
set_option maxRecDepth 20000 in
theorem gX3_solve_X1_finds : GoodIn wsX3_solve (wsV RX3 128 RX1 yX1_finds wsX1_finds) := goodIn_app (goodIn_of _ (by decide +kernel)) ggX3_solve_X1_finds
set_option maxRecDepth 20000 in
theorem ggX3_solve_X3_moveShips : GoodIn wsX3_solve wsX3_moveShips := goodIn_r _ [127, 4, 3, 1, 128, 129, 130, 131, 132, 33, 133, 134, 135, 136, 137, 138, 139, 140, 141, 142, 143, 144, 145, 146, 147, 148, 149, 155, 156, 157, 158, 159, 160, 161, 162, 163, 164, 165] (by decide +kernel) (by decide +kernel)
set_option maxRecDepth 20000 in
theorem gX3_solve_X3_moveShips : GoodIn wsX3_solve (wsV RX3 132 RX3 yX3_moveShips wsX3_moveShips) := goodIn_app (goodIn_of _ (by decide +kernel)) ggX3_solve_X3_moveShips
theorem dX3_solve_0 : decode cX3_solve 0 = .ok (.aload_n 0, 1) := by decide +kernel
theorem dX3_solve_1 : decode cX3_solve 1 = .ok (.aload_n 0, 1) := by decide +kernel
theorem dX3_solve_2 : decode cX3_solve 2 = .ok (.getfield 37, 3) := by decide +kernel
theorem dX3_solve_5 : decode cX3_solve 5 = .ok (.aload_n 0, 1) := by decide +kernel
theorem dX3_solve_6 : decode cX3_solve 6 = .ok (.getfield 23, 3) := by decide +kernel
theorem dX3_solve_9 : decode cX3_solve 9 = .ok (.aload_n 0, 1) := by decide +kernel
theorem dX3_solve_10 : decode cX3_solve 10 = .ok (.getfield 29, 3) := by decide +kernel
theorem dX3_solve_13 : decode cX3_solve 13 = .ok (.aload_n 0, 1) := by decide +kernel
theorem dX3_solve_14 : decode cX3_solve 14 = .ok (.getfield 52, 3) := by decide +kernel
theorem dX3_solve_17 : decode cX3_solve 17 = .ok (.invokevirtual 128, 3) := by decide +kernel
theorem dX3_solve_20 : decode cX3_solve 20 = .ok (.putfield 76, 3) := by decide +kernel
theorem dX3_solve_23 : decode cX3_solve 23 = .ok (.aload_n 0, 1) := by decide +kernel
theorem dX3_solve_24 : decode cX3_solve 24 = .ok (.getfield 76, 3) := by decide +kernel
theorem dX3_solve_27 : decode cX3_solve 27 = .ok (.ifCond .ne 5, 3) := by decide +kernel
theorem dX3_solve_30 : decode cX3_solve 30 = .ok (.iconst 0, 1) := by decide +kernel
theorem dX3_solve_31 : decode cX3_solve 31 = .ok (.ireturn, 1) := by decide +kernel
theorem dX3_solve_32 : decode cX3_solve 32 = .ok (.aload_n 0, 1) := by decide +kernel
theorem dX3_solve_33 : decode cX3_solve 33 = .ok (.invokevirtual 132, 3) := by decide +kernel
theorem dX3_solve_36 : decode cX3_solve 36 = .ok (.pop, 1) := by decide +kernel
theorem dX3_solve_37 : decode cX3_solve 37 = .ok (.iconst 1, 1) := by decide +kernel
theorem dX3_solve_38 : decode cX3_solve 38 = .ok (.ireturn, 1) := by decide +kernel
set_option maxRecDepth 20000 in
theorem ggX3_at_X3_isShip : GoodIn wsX3_at wsX3_isShip := goodIn_r _ [14, 15, 19, 20, 21, 22, 23] (by decide +kernel) (by decide +kernel)
set_option maxRecDepth 20000 in
theorem gX3_at_X3_isShip : GoodIn wsX3_at (wsV RX3 98 RX3 yX3_isShip wsX3_isShip) := goodIn_app (goodIn_of _ (by decide +kernel)) ggX3_at_X3_isShip
set_option maxRecDepth 20000 in
theorem ggX3_at_X3_isWithin : GoodIn wsX3_at wsX3_isWithin := goodIn_r _ [18] (by decide +kernel) (by decide +kernel)
set_option maxRecDepth 20000 in
theorem gX3_at_X3_isWithin : GoodIn wsX3_at (va_wsS RX3 41 yX3_isWithin wsX3_isWithin) := goodIn_app (goodIn_of _ (by decide +kernel)) ggX3_at_X3_isWithin
theorem dX3_at_0 : decode cX3_at 0 = .ok (.aload_n 0, 1) := by decide +kernel
theorem dX3_at_1 : decode cX3_at 1 = .ok (.iload_n 1, 1) := by decide +kernel
theorem dX3_at_2 : decode cX3_at 2 = .ok (.invokevirtual 98, 3) := by decide +kernel
theorem dX3_at_5 : decode cX3_at 5 = .ok (.ifCond .eq 12, 3) := by decide +kernel
theorem dX3_at_8 : decode cX3_at 8 = .ok (.iload_n 2, 1) := by decide +kernel
theorem dX3_at_9 : decode cX3_at 9 = .ok (.iconst 0, 1) := by decide +kernel
theorem dX3_at_10 : decode cX3_at 10 = .ok (.iconst 2, 1) := by decide +kernel
theorem dX3_at_11 : decode cX3_at 11 = .ok (.invokestatic 41, 3) := by decide +kernel
theorem dX3_at_14 : decode cX3_at 14 = .ok (.ifCond .ne 13, 3) := by decide +kernel
theorem dX3_at_17 : decode cX3_at 17 = .ok (.new 136, 3) := by decide +kernel
theorem dX3_at_20 : decode cX3_at 20 = .ok (.dup, 1) := by decide +kernel
theorem dX3_at_21 : decode cX3_at 21 = .ok (.ldc 138, 2) := by decide +kernel
theorem dX3_at_23 : decode cX3_at 23 = .ok (.invokespecial 140, 3) := by decide +kernel
theorem dX3_at_26 : decode cX3_at 26 = .ok (.athrow, 1) := by decide +kernel
theorem dX3_at_27 : decode cX3_at 27 = .ok (.aload_n 0, 1) := by decide +kernel
theorem dX3_at_28 : decode cX3_at 28 = .ok (.getfield 76, 3) := by decide +kernel
theorem dX3_at_31 : decode cX3_at 31 = .ok (.ifCond .ne 13, 3) := by decide +kernel
theorem dX3_at_34 : decode cX3_at 34 = .ok (.new 56, 3) := by decide +kernel
theorem dX3_at_37 : decode cX3_at 37 = .ok (.dup, 1) := by decide +kernel
theorem dX3_at_38 : decode cX3_at 38 = .ok (.ldc 141, 2) := by decide +kernel
theorem dX3_at_40 : decode cX3_at 40 = .ok (.invokespecial 60, 3) := by decide +kernel
theorem dX3_at_43 : decode cX3_at 43 = .ok (.athrow, 1) := by decide +kernel
theorem dX3_at_44 : decode cX3_at 44 = .ok (.aload_n 0, 1) := by decide +kernel
theorem dX3_at_45 : decode cX3_at 45 = .ok (.getfield 29, 3) := by decide +kernel
theorem dX3_at_48 : decode cX3_at 48 = .ok (.iload_n 1, 1) := by decide +kernel
theorem dX3_at_49 : decode cX3_at 49 = .ok (.aaload, 1) := by decide +kernel
theorem dX3_at_50 : decode cX3_at 50 = .ok (.astore_n 3, 1) := by decide +kernel
theorem dX3_at_51 : decode cX3_at 51 = .ok (.iload_n 2, 1) := by decide +kernel
theorem dX3_at_52 : decode cX3_at 52 = .ok (.ifCond .ne 8, 3) := by decide +kernel
theorem dX3_at_55 : decode cX3_at 55 = .ok (.aload_n 3, 1) := by decide +kernel
theorem dX3_at_56 : decode cX3_at 56 = .ok (.getfield 143, 3) := by decide +kernel
theorem dX3_at_59 : decode cX3_at 59 = .ok (.ireturn, 1) := by decide +kernel
theorem dX3_at_60 : decode cX3_at 60 = .ok (.iload_n 2, 1) := by decide +kernel
theorem dX3_at_61 : decode cX3_at 61 = .ok (.iconst 1, 1) := by decide +kernel
theorem dX3_at_62 : decode cX3_at 62 = .ok (.if_icmp .ne 10, 3) := by decide +kernel
theorem dX3_at_65 : decode cX3_at 65 = .ok (.aload_n 3, 1) := by decide +kernel
theorem dX3_at_66 : decode cX3_at 66 = .ok (.getfield 146, 3) := by decide +kernel
theorem dX3_at_69 : decode cX3_at 69 = .ok (.goto 12, 3) := by decide +kernel
theorem dX3_at_72 : decode cX3_at 72 = .ok (.aload_n 3, 1) := by decide +kernel
theorem dX3_at_73 : decode cX3_at 73 = .ok (.getfield 146, 3) := by decide +kernel
theorem dX3_at_76 : decode cX3_at 76 = .ok (.aload_n 3, 1) := by decide +kernel
theorem dX3_at_77 : decode cX3_at 77 = .ok (.getfield 70, 3) := by decide +kernel
theorem dX3_at_80 : decode cX3_at 80 = .ok (.isub, 1) := by decide +kernel
theorem dX3_at_81 : decode cX3_at 81 = .ok (.ireturn, 1) := by decide +kernel
set_option maxRecDepth 20000 in
theorem ggX3_lateness_X2_latenessIf : GoodIn wsX3_lateness wsX2_latenessIf := goodIn_r _ [11, 12, 13, 19, 20, 21, 22, 23, 24, 25, 26, 27, 28, 29] (by decide +kernel) (by decide +kernel)
set_option maxRecDepth 20000 in
theorem gX3_lateness_X2_latenessIf : GoodIn wsX3_lateness (wsV RX3 149 RX2 yX2_latenessIf wsX2_latenessIf) := goodIn_app (goodIn_of _ (by decide +kernel)) ggX3_lateness_X2_latenessIf
theorem dX3_lateness_0 : decode cX3_lateness 0 = .ok (.aload_n 0, 1) := by decide +kernel
theorem dX3_lateness_1 : decode cX3_lateness 1 = .ok (.getfield 76, 3) := by decide +kernel
theorem dX3_lateness_4 : decode cX3_lateness 4 = .ok (.ifCond .ne 13, 3) := by decide +kernel
theorem dX3_lateness_7 : decode cX3_lateness 7 = .ok (.new 56, 3) := by decide +kernel
theorem dX3_lateness_10 : decode cX3_lateness 10 = .ok (.dup, 1) := by decide +kernel
theorem dX3_lateness_11 : decode cX3_lateness 11 = .ok (.ldc 141, 2) := by decide +kernel
theorem dX3_lateness_13 : decode cX3_lateness 13 = .ok (.invokespecial 60, 3) := by decide +kernel
theorem dX3_lateness_16 : decode cX3_lateness 16 = .ok (.athrow, 1) := by decide +kernel
theorem dX3_lateness_17 : decode cX3_lateness 17 = .ok (.iconst 0, 1) := by decide +kernel
theorem dX3_lateness_18 : decode cX3_lateness 18 = .ok (.istore_n 1, 1) := by decide +kernel
theorem dX3_lateness_19 : decode cX3_lateness 19 = .ok (.iconst 0, 1) := by decide +kernel
theorem dX3_lateness_20 : decode cX3_lateness 20 = .ok (.istore_n 2, 1) := by decide +kernel
theorem dX3_lateness_21 : decode cX3_lateness 21 = .ok (.iload_n 2, 1) := by decide +kernel
theorem dX3_lateness_22 : decode cX3_lateness 22 = .ok (.aload_n 0, 1) := by decide +kernel
theorem dX3_lateness_23 : decode cX3_lateness 23 = .ok (.getfield 52, 3) := by decide +kernel
theorem dX3_lateness_26 : decode cX3_lateness 26 = .ok (.if_icmp .ge 30, 3) := by decide +kernel
theorem dX3_lateness_29 : decode cX3_lateness 29 = .ok (.iload_n 1, 1) := by decide +kernel
theorem dX3_lateness_30 : decode cX3_lateness 30 = .ok (.aload_n 0, 1) := by decide +kernel
theorem dX3_lateness_31 : decode cX3_lateness 31 = .ok (.getfield 29, 3) := by decide +kernel
theorem dX3_lateness_34 : decode cX3_lateness 34 = .ok (.iload_n 2, 1) := by decide +kernel
theorem dX3_lateness_35 : decode cX3_lateness 35 = .ok (.aaload, 1) := by decide +kernel
theorem dX3_lateness_36 : decode cX3_lateness 36 = .ok (.aload_n 0, 1) := by decide +kernel
theorem dX3_lateness_37 : decode cX3_lateness 37 = .ok (.getfield 29, 3) := by decide +kernel
theorem dX3_lateness_40 : decode cX3_lateness 40 = .ok (.iload_n 2, 1) := by decide +kernel
theorem dX3_lateness_41 : decode cX3_lateness 41 = .ok (.aaload, 1) := by decide +kernel
theorem dX3_lateness_42 : decode cX3_lateness 42 = .ok (.getfield 146, 3) := by decide +kernel
theorem dX3_lateness_45 : decode cX3_lateness 45 = .ok (.invokevirtual 149, 3) := by decide +kernel
theorem dX3_lateness_48 : decode cX3_lateness 48 = .ok (.iadd, 1) := by decide +kernel
theorem dX3_lateness_49 : decode cX3_lateness 49 = .ok (.istore_n 1, 1) := by decide +kernel
theorem dX3_lateness_50 : decode cX3_lateness 50 = .ok (.iinc 2 1, 3) := by decide +kernel
theorem dX3_lateness_53 : decode cX3_lateness 53 = .ok (.goto (-32), 3) := by decide +kernel
theorem dX3_lateness_56 : decode cX3_lateness 56 = .ok (.iload_n 1, 1) := by decide +kernel
theorem dX3_lateness_57 : decode cX3_lateness 57 = .ok (.ireturn, 1) := by decide +kernel
set_option maxRecDepth 20000 in
theorem ggX3_bound_X1_leastAlone : GoodIn wsX3_bound wsX1_leastAlone := goodIn_r _ [10, 11, 12, 13, 9, 14, 15, 16, 17, 18, 19, 20, 21, 22, 23, 24, 25, 26, 27, 28, 29, 30, 31, 32, 33, 34, 35, 36, 37, 38, 39, 40, 41, 42, 43, 44, 45, 46, 47, 48, 49, 50, 51, 52, 53, 54, 55, 56, 57, 58, 59, 60, 61, 62, 63, 64, 65, 66, 67, 68, 69, 70, 71, 72, 73, 74, 75, 76, 77, 78, 79, 80, 81, 82, 83, 84, 85, 86, 87, 88, 89, 95, 96, 97, 98, 99, 100, 101, 102, 103, 104, 105, 106, 107, 108, 109, 110, 111, 112, 113, 114, 115, 116, 117, 118, 119] (by decide +kernel) (by decide +kernel)
set_option maxRecDepth 20000 in
theorem gX3_bound_X1_leastAlone : GoodIn wsX3_bound (wsV RX3 153 RX1 yX1_leastAlone wsX1_leastAlone) := goodIn_app (goodIn_of _ (by decide +kernel)) ggX3_bound_X1_leastAlone
theorem dX3_bound_0 : decode cX3_bound 0 = .ok (.aload_n 0, 1) := by decide +kernel
theorem dX3_bound_1 : decode cX3_bound 1 = .ok (.getfield 37, 3) := by decide +kernel
theorem dX3_bound_4 : decode cX3_bound 4 = .ok (.aload_n 0, 1) := by decide +kernel
theorem dX3_bound_5 : decode cX3_bound 5 = .ok (.getfield 23, 3) := by decide +kernel
theorem dX3_bound_8 : decode cX3_bound 8 = .ok (.aload_n 0, 1) := by decide +kernel
theorem dX3_bound_9 : decode cX3_bound 9 = .ok (.getfield 29, 3) := by decide +kernel
theorem dX3_bound_12 : decode cX3_bound 12 = .ok (.aload_n 0, 1) := by decide +kernel
theorem dX3_bound_13 : decode cX3_bound 13 = .ok (.getfield 52, 3) := by decide +kernel
theorem dX3_bound_16 : decode cX3_bound 16 = .ok (.invokevirtual 153, 3) := by decide +kernel
theorem dX3_bound_19 : decode cX3_bound 19 = .ok (.istore_n 1, 1) := by decide +kernel
theorem dX3_bound_20 : decode cX3_bound 20 = .ok (.iload_n 1, 1) := by decide +kernel
theorem dX3_bound_21 : decode cX3_bound 21 = .ok (.ldc 157, 2) := by decide +kernel
theorem dX3_bound_23 : decode cX3_bound 23 = .ok (.if_icmp .lt 7, 3) := by decide +kernel
theorem dX3_bound_26 : decode cX3_bound 26 = .ok (.iconst (-1), 1) := by decide +kernel
theorem dX3_bound_27 : decode cX3_bound 27 = .ok (.goto 4, 3) := by decide +kernel
theorem dX3_bound_30 : decode cX3_bound 30 = .ok (.iload_n 1, 1) := by decide +kernel
theorem dX3_bound_31 : decode cX3_bound 31 = .ok (.ireturn, 1) := by decide +kernel
set_option maxRecDepth 20000 in
theorem ggX3_why_X3_isShip : GoodIn wsX3_why wsX3_isShip := goodIn_r _ [15, 16, 41, 42, 43, 44, 45] (by decide +kernel) (by decide +kernel)
set_option maxRecDepth 20000 in
theorem gX3_why_X3_isShip : GoodIn wsX3_why (wsV RX3 98 RX3 yX3_isShip wsX3_isShip) := goodIn_app (goodIn_of _ (by decide +kernel)) ggX3_why_X3_isShip
set_option maxRecDepth 20000 in
theorem ggX3_why_X0_hasRow : GoodIn wsX3_why wsX0_hasRow := goodIn_r _ [21, 22, 23, 24, 25, 20, 26, 27, 28, 29, 30, 31, 32, 57, 58, 59, 60, 61] (by decide +kernel) (by decide +kernel)
set_option maxRecDepth 20000 in
theorem gX3_why_X0_hasRow : GoodIn wsX3_why (wsV RX3 163 RX0 yX0_hasRow wsX0_hasRow) := goodIn_app (goodIn_of _ (by decide +kernel)) ggX3_why_X0_hasRow
set_option maxRecDepth 20000 in
theorem ggX3_why_X0_beginsFrom : GoodIn wsX3_why wsX0_beginsFrom := goodIn_r _ [36, 37, 38, 39, 14, 40, 57, 58, 59, 60, 61] (by decide +kernel) (by decide +kernel)
set_option maxRecDepth 20000 in
theorem gX3_why_X0_beginsFrom : GoodIn wsX3_why (wsV RX3 166 RX0 yX0_beginsFrom wsX0_beginsFrom) := goodIn_app (goodIn_of _ (by decide +kernel)) ggX3_why_X0_beginsFrom
theorem dX3_why_0 : decode cX3_why 0 = .ok (.aload_n 0, 1) := by decide +kernel
theorem dX3_why_1 : decode cX3_why 1 = .ok (.iload_n 1, 1) := by decide +kernel
theorem dX3_why_2 : decode cX3_why 2 = .ok (.invokevirtual 98, 3) := by decide +kernel
theorem dX3_why_5 : decode cX3_why 5 = .ok (.ifCond .ne 13, 3) := by decide +kernel
theorem dX3_why_8 : decode cX3_why 8 = .ok (.new 136, 3) := by decide +kernel
theorem dX3_why_11 : decode cX3_why 11 = .ok (.dup, 1) := by decide +kernel
theorem dX3_why_12 : decode cX3_why 12 = .ok (.ldc 158, 2) := by decide +kernel
theorem dX3_why_14 : decode cX3_why 14 = .ok (.invokespecial 140, 3) := by decide +kernel
theorem dX3_why_17 : decode cX3_why 17 = .ok (.athrow, 1) := by decide +kernel
theorem dX3_why_18 : decode cX3_why 18 = .ok (.aload_n 0, 1) := by decide +kernel
theorem dX3_why_19 : decode cX3_why 19 = .ok (.getfield 29, 3) := by decide +kernel
theorem dX3_why_22 : decode cX3_why 22 = .ok (.iload_n 1, 1) := by decide +kernel
theorem dX3_why_23 : decode cX3_why 23 = .ok (.aaload, 1) := by decide +kernel
theorem dX3_why_24 : decode cX3_why 24 = .ok (.astore_n 2, 1) := by decide +kernel
theorem dX3_why_25 : decode cX3_why 25 = .ok (.aload_n 2, 1) := by decide +kernel
theorem dX3_why_26 : decode cX3_why 26 = .ok (.getfield 119, 3) := by decide +kernel
theorem dX3_why_29 : decode cX3_why 29 = .ok (.ifCond .eq 5, 3) := by decide +kernel
theorem dX3_why_32 : decode cX3_why 32 = .ok (.iconst 0, 1) := by decide +kernel
theorem dX3_why_33 : decode cX3_why 33 = .ok (.ireturn, 1) := by decide +kernel
theorem dX3_why_34 : decode cX3_why 34 = .ok (.aload_n 2, 1) := by decide +kernel
theorem dX3_why_35 : decode cX3_why 35 = .ok (.getfield 61, 3) := by decide +kernel
theorem dX3_why_38 : decode cX3_why 38 = .ok (.aload_n 0, 1) := by decide +kernel
theorem dX3_why_39 : decode cX3_why 39 = .ok (.getfield 23, 3) := by decide +kernel
theorem dX3_why_42 : decode cX3_why 42 = .ok (.getfield 160, 3) := by decide +kernel
theorem dX3_why_45 : decode cX3_why 45 = .ok (.if_icmp .le 5, 3) := by decide +kernel
theorem dX3_why_48 : decode cX3_why 48 = .ok (.iconst 1, 1) := by decide +kernel
theorem dX3_why_49 : decode cX3_why 49 = .ok (.ireturn, 1) := by decide +kernel
theorem dX3_why_50 : decode cX3_why 50 = .ok (.aload_n 0, 1) := by decide +kernel
theorem dX3_why_51 : decode cX3_why 51 = .ok (.getfield 23, 3) := by decide +kernel
theorem dX3_why_54 : decode cX3_why 54 = .ok (.aload_n 2, 1) := by decide +kernel
theorem dX3_why_55 : decode cX3_why 55 = .ok (.getfield 61, 3) := by decide +kernel
theorem dX3_why_58 : decode cX3_why 58 = .ok (.aload_n 2, 1) := by decide +kernel
theorem dX3_why_59 : decode cX3_why 59 = .ok (.getfield 64, 3) := by decide +kernel
theorem dX3_why_62 : decode cX3_why 62 = .ok (.iconst 0, 1) := by decide +kernel
theorem dX3_why_63 : decode cX3_why 63 = .ok (.invokevirtual 163, 3) := by decide +kernel
theorem dX3_why_66 : decode cX3_why 66 = .ok (.ifCond .ne 5, 3) := by decide +kernel
theorem dX3_why_69 : decode cX3_why 69 = .ok (.iconst 2, 1) := by decide +kernel
theorem dX3_why_70 : decode cX3_why 70 = .ok (.ireturn, 1) := by decide +kernel
theorem dX3_why_71 : decode cX3_why 71 = .ok (.aload_n 0, 1) := by decide +kernel
theorem dX3_why_72 : decode cX3_why 72 = .ok (.getfield 23, 3) := by decide +kernel
theorem dX3_why_75 : decode cX3_why 75 = .ok (.aload_n 2, 1) := by decide +kernel
theorem dX3_why_76 : decode cX3_why 76 = .ok (.getfield 61, 3) := by decide +kernel
theorem dX3_why_79 : decode cX3_why 79 = .ok (.aload_n 2, 1) := by decide +kernel
theorem dX3_why_80 : decode cX3_why 80 = .ok (.getfield 64, 3) := by decide +kernel
theorem dX3_why_83 : decode cX3_why 83 = .ok (.aload_n 2, 1) := by decide +kernel
theorem dX3_why_84 : decode cX3_why 84 = .ok (.getfield 101, 3) := by decide +kernel
theorem dX3_why_87 : decode cX3_why 87 = .ok (.invokevirtual 163, 3) := by decide +kernel
theorem dX3_why_90 : decode cX3_why 90 = .ok (.ifCond .ne 5, 3) := by decide +kernel
theorem dX3_why_93 : decode cX3_why 93 = .ok (.iconst 3, 1) := by decide +kernel
theorem dX3_why_94 : decode cX3_why 94 = .ok (.ireturn, 1) := by decide +kernel
theorem dX3_why_95 : decode cX3_why 95 = .ok (.aload_n 0, 1) := by decide +kernel
theorem dX3_why_96 : decode cX3_why 96 = .ok (.getfield 23, 3) := by decide +kernel
theorem dX3_why_99 : decode cX3_why 99 = .ok (.aload_n 2, 1) := by decide +kernel
theorem dX3_why_100 : decode cX3_why 100 = .ok (.getfield 70, 3) := by decide +kernel
theorem dX3_why_103 : decode cX3_why 103 = .ok (.invokevirtual 166, 3) := by decide +kernel
theorem dX3_why_106 : decode cX3_why 106 = .ok (.ifCond .ne 7, 3) := by decide +kernel
theorem dX3_why_109 : decode cX3_why 109 = .ok (.iconst 4, 1) := by decide +kernel
theorem dX3_why_110 : decode cX3_why 110 = .ok (.goto 4, 3) := by decide +kernel
theorem dX3_why_113 : decode cX3_why 113 = .ok (.iconst 0, 1) := by decide +kernel
theorem dX3_why_114 : decode cX3_why 114 = .ok (.ireturn, 1) := by decide +kernel
set_option maxRecDepth 20000 in
theorem ggX3_change_X3_isShip : GoodIn wsX3_change wsX3_isShip := goodIn_r _ [17, 12, 150, 151, 152, 153, 154] (by decide +kernel) (by decide +kernel)
set_option maxRecDepth 20000 in
theorem gX3_change_X3_isShip : GoodIn wsX3_change (wsV RX3 98 RX3 yX3_isShip wsX3_isShip) := goodIn_app (goodIn_of _ (by decide +kernel)) ggX3_change_X3_isShip
set_option maxRecDepth 20000 in
theorem ggX3_change_X3_isWithin : GoodIn wsX3_change wsX3_isWithin := goodIn_r _ [20] (by decide +kernel) (by decide +kernel)
set_option maxRecDepth 20000 in
theorem gX3_change_X3_isWithin : GoodIn wsX3_change (va_wsS RX3 41 yX3_isWithin wsX3_isWithin) := goodIn_app (goodIn_of _ (by decide +kernel)) ggX3_change_X3_isWithin
set_option maxRecDepth 20000 in
theorem ggX3_change_X1_finds : GoodIn wsX3_change wsX1_finds := goodIn_r _ [25, 26, 27, 28, 29, 30, 31, 24, 32, 33, 34, 35, 36, 37, 38, 39, 40, 41, 42, 43, 44, 45, 46, 47, 48, 49, 50, 51, 52, 53, 54, 55, 56, 57, 58, 59, 60, 61, 62, 63, 64, 65, 66, 67, 68, 69, 70, 71, 72, 73, 74, 75, 16, 76, 77, 78, 79, 80, 81, 82, 83, 84, 85, 86, 87, 88, 89, 90, 91, 92, 93, 94, 95, 96, 97, 98, 99, 100, 101, 102, 103, 104, 105, 106, 107, 108, 109, 110, 111, 112, 113, 114, 115, 116, 117, 118, 119, 120, 121, 122, 123, 124, 125, 126, 127, 128, 129, 130, 131, 132, 133, 134, 135, 136, 137, 166, 167, 168, 169, 170, 171, 172, 173, 174, 175, 176, 177, 178, 179, 155, 156, 157, 158, 159, 160, 161, 162, 163, 164, 165] (by decide +kernel) (by decide +kernel)
set_option maxRecDepth 20000 in
theorem gX3_change_X1_finds : GoodIn wsX3_change (wsV RX3 128 RX1 yX1_finds wsX1_finds) := goodIn_app (goodIn_of _ (by decide +kernel)) ggX3_change_X1_finds
set_option maxRecDepth 20000 in
theorem ggX3_change_X3_moveShips : GoodIn wsX3_change wsX3_moveShips := goodIn_r _ [141, 12, 8, 10, 142, 143, 144, 145, 146, 48, 147, 148, 149, 150, 151, 152, 153, 154, 166, 167, 168, 169, 170, 171, 172, 173, 174, 155, 156, 157, 158, 159, 160, 161, 162, 163, 164, 165] (by decide +kernel) (by decide +kernel)
set_option maxRecDepth 20000 in
theorem gX3_change_X3_moveShips : GoodIn wsX3_change (wsV RX3 132 RX3 yX3_moveShips wsX3_moveShips) := goodIn_app (goodIn_of _ (by decide +kernel)) ggX3_change_X3_moveShips
theorem dX3_change_0 : decode cX3_change 0 = .ok (.aload_n 0, 1) := by decide +kernel
theorem dX3_change_1 : decode cX3_change 1 = .ok (.iload_n 1, 1) := by decide +kernel
theorem dX3_change_2 : decode cX3_change 2 = .ok (.invokevirtual 98, 3) := by decide +kernel
theorem dX3_change_5 : decode cX3_change 5 = .ok (.ifCond .ne 13, 3) := by decide +kernel
theorem dX3_change_8 : decode cX3_change 8 = .ok (.new 136, 3) := by decide +kernel
theorem dX3_change_11 : decode cX3_change 11 = .ok (.dup, 1) := by decide +kernel
theorem dX3_change_12 : decode cX3_change 12 = .ok (.ldc 158, 2) := by decide +kernel
theorem dX3_change_14 : decode cX3_change 14 = .ok (.invokespecial 140, 3) := by decide +kernel
theorem dX3_change_17 : decode cX3_change 17 = .ok (.athrow, 1) := by decide +kernel
theorem dX3_change_18 : decode cX3_change 18 = .ok (.iload_n 2, 1) := by decide +kernel
theorem dX3_change_19 : decode cX3_change 19 = .ok (.iconst 0, 1) := by decide +kernel
theorem dX3_change_20 : decode cX3_change 20 = .ok (.bipush 15, 2) := by decide +kernel
theorem dX3_change_22 : decode cX3_change 22 = .ok (.invokestatic 41, 3) := by decide +kernel
theorem dX3_change_25 : decode cX3_change 25 = .ok (.ifCond .ne 13, 3) := by decide +kernel
theorem dX3_change_28 : decode cX3_change 28 = .ok (.new 45, 3) := by decide +kernel
theorem dX3_change_31 : decode cX3_change 31 = .ok (.dup, 1) := by decide +kernel
theorem dX3_change_32 : decode cX3_change 32 = .ok (.ldc 169, 2) := by decide +kernel
theorem dX3_change_34 : decode cX3_change 34 = .ok (.invokespecial 49, 3) := by decide +kernel
theorem dX3_change_37 : decode cX3_change 37 = .ok (.athrow, 1) := by decide +kernel
theorem dX3_change_38 : decode cX3_change 38 = .ok (.aload_n 0, 1) := by decide +kernel
theorem dX3_change_39 : decode cX3_change 39 = .ok (.getfield 76, 3) := by decide +kernel
theorem dX3_change_42 : decode cX3_change 42 = .ok (.ifCond .ne 13, 3) := by decide +kernel
theorem dX3_change_45 : decode cX3_change 45 = .ok (.new 56, 3) := by decide +kernel
theorem dX3_change_48 : decode cX3_change 48 = .ok (.dup, 1) := by decide +kernel
theorem dX3_change_49 : decode cX3_change 49 = .ok (.ldc 141, 2) := by decide +kernel
theorem dX3_change_51 : decode cX3_change 51 = .ok (.invokespecial 60, 3) := by decide +kernel
theorem dX3_change_54 : decode cX3_change 54 = .ok (.athrow, 1) := by decide +kernel
theorem dX3_change_55 : decode cX3_change 55 = .ok (.aload_n 0, 1) := by decide +kernel
theorem dX3_change_56 : decode cX3_change 56 = .ok (.getfield 29, 3) := by decide +kernel
theorem dX3_change_59 : decode cX3_change 59 = .ok (.iload_n 1, 1) := by decide +kernel
theorem dX3_change_60 : decode cX3_change 60 = .ok (.aaload, 1) := by decide +kernel
theorem dX3_change_61 : decode cX3_change 61 = .ok (.iload_n 2, 1) := by decide +kernel
theorem dX3_change_62 : decode cX3_change 62 = .ok (.putfield 70, 3) := by decide +kernel
theorem dX3_change_65 : decode cX3_change 65 = .ok (.aload_n 0, 1) := by decide +kernel
theorem dX3_change_66 : decode cX3_change 66 = .ok (.aload_n 0, 1) := by decide +kernel
theorem dX3_change_67 : decode cX3_change 67 = .ok (.getfield 37, 3) := by decide +kernel
theorem dX3_change_70 : decode cX3_change 70 = .ok (.aload_n 0, 1) := by decide +kernel
theorem dX3_change_71 : decode cX3_change 71 = .ok (.getfield 23, 3) := by decide +kernel
theorem dX3_change_74 : decode cX3_change 74 = .ok (.aload_n 0, 1) := by decide +kernel
theorem dX3_change_75 : decode cX3_change 75 = .ok (.getfield 29, 3) := by decide +kernel
theorem dX3_change_78 : decode cX3_change 78 = .ok (.aload_n 0, 1) := by decide +kernel
theorem dX3_change_79 : decode cX3_change 79 = .ok (.getfield 52, 3) := by decide +kernel
theorem dX3_change_82 : decode cX3_change 82 = .ok (.invokevirtual 128, 3) := by decide +kernel
theorem dX3_change_85 : decode cX3_change 85 = .ok (.putfield 76, 3) := by decide +kernel
theorem dX3_change_88 : decode cX3_change 88 = .ok (.aload_n 0, 1) := by decide +kernel
theorem dX3_change_89 : decode cX3_change 89 = .ok (.getfield 76, 3) := by decide +kernel
theorem dX3_change_92 : decode cX3_change 92 = .ok (.ifCond .eq 10, 3) := by decide +kernel
theorem dX3_change_95 : decode cX3_change 95 = .ok (.aload_n 0, 1) := by decide +kernel
theorem dX3_change_96 : decode cX3_change 96 = .ok (.invokevirtual 132, 3) := by decide +kernel
theorem dX3_change_99 : decode cX3_change 99 = .ok (.goto 4, 3) := by decide +kernel
theorem dX3_change_102 : decode cX3_change 102 = .ok (.iconst (-1), 1) := by decide +kernel
theorem dX3_change_103 : decode cX3_change 103 = .ok (.ireturn, 1) := by decide +kernel
set_option maxRecDepth 20000 in
theorem ggX3_lies_X3_isSpanAt : GoodIn wsX3_lies wsX3_isSpanAt := goodIn_r _ [13] (by decide +kernel) (by decide +kernel)
set_option maxRecDepth 20000 in
theorem gX3_lies_X3_isSpanAt : GoodIn wsX3_lies (va_wsS RX3 171 yX3_isSpanAt wsX3_isSpanAt) := goodIn_app (goodIn_of _ (by decide +kernel)) ggX3_lies_X3_isSpanAt
theorem dX3_lies_0 : decode cX3_lies 0 = .ok (.aload_n 0, 1) := by decide +kernel
theorem dX3_lies_1 : decode cX3_lies 1 = .ok (.getfield 76, 3) := by decide +kernel
theorem dX3_lies_4 : decode cX3_lies 4 = .ok (.ifCond .ne 13, 3) := by decide +kernel
theorem dX3_lies_7 : decode cX3_lies 7 = .ok (.new 56, 3) := by decide +kernel
theorem dX3_lies_10 : decode cX3_lies 10 = .ok (.dup, 1) := by decide +kernel
theorem dX3_lies_11 : decode cX3_lies 11 = .ok (.ldc 141, 2) := by decide +kernel
theorem dX3_lies_13 : decode cX3_lies 13 = .ok (.invokespecial 60, 3) := by decide +kernel
theorem dX3_lies_16 : decode cX3_lies 16 = .ok (.athrow, 1) := by decide +kernel
theorem dX3_lies_17 : decode cX3_lies 17 = .ok (.iconst 0, 1) := by decide +kernel
theorem dX3_lies_18 : decode cX3_lies 18 = .ok (.istore_n 3, 1) := by decide +kernel
theorem dX3_lies_19 : decode cX3_lies 19 = .ok (.iload_n 3, 1) := by decide +kernel
theorem dX3_lies_20 : decode cX3_lies 20 = .ok (.aload_n 0, 1) := by decide +kernel
theorem dX3_lies_21 : decode cX3_lies 21 = .ok (.getfield 52, 3) := by decide +kernel
theorem dX3_lies_24 : decode cX3_lies 24 = .ok (.if_icmp .ge 53, 3) := by decide +kernel
theorem dX3_lies_27 : decode cX3_lies 27 = .ok (.aload_n 0, 1) := by decide +kernel
theorem dX3_lies_28 : decode cX3_lies 28 = .ok (.getfield 29, 3) := by decide +kernel
theorem dX3_lies_31 : decode cX3_lies 31 = .ok (.iload_n 3, 1) := by decide +kernel
theorem dX3_lies_32 : decode cX3_lies 32 = .ok (.aaload, 1) := by decide +kernel
theorem dX3_lies_33 : decode cX3_lies 33 = .ok (.astore 4, 2) := by decide +kernel
theorem dX3_lies_35 : decode cX3_lies 35 = .ok (.aload 4, 2) := by decide +kernel
theorem dX3_lies_37 : decode cX3_lies 37 = .ok (.getfield 143, 3) := by decide +kernel
theorem dX3_lies_40 : decode cX3_lies 40 = .ok (.aload 4, 2) := by decide +kernel
theorem dX3_lies_42 : decode cX3_lies 42 = .ok (.getfield 61, 3) := by decide +kernel
theorem dX3_lies_45 : decode cX3_lies 45 = .ok (.iload_n 1, 1) := by decide +kernel
theorem dX3_lies_46 : decode cX3_lies 46 = .ok (.invokestatic 171, 3) := by decide +kernel
theorem dX3_lies_49 : decode cX3_lies 49 = .ok (.ifCond .eq 22, 3) := by decide +kernel
theorem dX3_lies_52 : decode cX3_lies 52 = .ok (.aload 4, 2) := by decide +kernel
theorem dX3_lies_54 : decode cX3_lies 54 = .ok (.getfield 146, 3) := by decide +kernel
theorem dX3_lies_57 : decode cX3_lies 57 = .ok (.aload 4, 2) := by decide +kernel
theorem dX3_lies_59 : decode cX3_lies 59 = .ok (.getfield 67, 3) := by decide +kernel
theorem dX3_lies_62 : decode cX3_lies 62 = .ok (.iload_n 2, 1) := by decide +kernel
theorem dX3_lies_63 : decode cX3_lies 63 = .ok (.invokestatic 171, 3) := by decide +kernel
theorem dX3_lies_66 : decode cX3_lies 66 = .ok (.ifCond .eq 5, 3) := by decide +kernel
theorem dX3_lies_69 : decode cX3_lies 69 = .ok (.iload_n 3, 1) := by decide +kernel
theorem dX3_lies_70 : decode cX3_lies 70 = .ok (.ireturn, 1) := by decide +kernel
theorem dX3_lies_71 : decode cX3_lies 71 = .ok (.iinc 3 1, 3) := by decide +kernel
theorem dX3_lies_74 : decode cX3_lies 74 = .ok (.goto (-55), 3) := by decide +kernel
theorem dX3_lies_77 : decode cX3_lies 77 = .ok (.iconst (-1), 1) := by decide +kernel
theorem dX3_lies_78 : decode cX3_lies 78 = .ok (.ireturn, 1) := by decide +kernel
set_option maxRecDepth 20000 in
theorem ggX3_share_X3_isWithin : GoodIn wsX3_share wsX3_isWithin := goodIn_r _ [10] (by decide +kernel) (by decide +kernel)
set_option maxRecDepth 20000 in
theorem gX3_share_X3_isWithin : GoodIn wsX3_share (va_wsS RX3 41 yX3_isWithin wsX3_isWithin) := goodIn_app (goodIn_of _ (by decide +kernel)) ggX3_share_X3_isWithin
set_option maxRecDepth 20000 in
theorem ggX3_share_X0_placesOf : GoodIn wsX3_share wsX0_placesOf := goodIn_r _ [15, 16, 17, 23, 24, 25, 26, 27] (by decide +kernel) (by decide +kernel)
set_option maxRecDepth 20000 in
theorem gX3_share_X0_placesOf : GoodIn wsX3_share (wsV RX3 176 RX0 yX0_placesOf wsX0_placesOf) := goodIn_app (goodIn_of _ (by decide +kernel)) ggX3_share_X0_placesOf
theorem dX3_share_0 : decode cX3_share 0 = .ok (.iload_n 1, 1) := by decide +kernel
theorem dX3_share_1 : decode cX3_share 1 = .ok (.iconst 0, 1) := by decide +kernel
theorem dX3_share_2 : decode cX3_share 2 = .ok (.ldc 157, 2) := by decide +kernel
theorem dX3_share_4 : decode cX3_share 4 = .ok (.invokestatic 41, 3) := by decide +kernel
theorem dX3_share_7 : decode cX3_share 7 = .ok (.ifCond .eq 13, 3) := by decide +kernel
theorem dX3_share_10 : decode cX3_share 10 = .ok (.iload_n 2, 1) := by decide +kernel
theorem dX3_share_11 : decode cX3_share 11 = .ok (.iconst 0, 1) := by decide +kernel
theorem dX3_share_12 : decode cX3_share 12 = .ok (.ldc 157, 2) := by decide +kernel
theorem dX3_share_14 : decode cX3_share 14 = .ok (.invokestatic 41, 3) := by decide +kernel
theorem dX3_share_17 : decode cX3_share 17 = .ok (.ifCond .ne 13, 3) := by decide +kernel
theorem dX3_share_20 : decode cX3_share 20 = .ok (.new 45, 3) := by decide +kernel
theorem dX3_share_23 : decode cX3_share 23 = .ok (.dup, 1) := by decide +kernel
theorem dX3_share_24 : decode cX3_share 24 = .ok (.ldc 174, 2) := by decide +kernel
theorem dX3_share_26 : decode cX3_share 26 = .ok (.invokespecial 49, 3) := by decide +kernel
theorem dX3_share_29 : decode cX3_share 29 = .ok (.athrow, 1) := by decide +kernel
theorem dX3_share_30 : decode cX3_share 30 = .ok (.aload_n 0, 1) := by decide +kernel
theorem dX3_share_31 : decode cX3_share 31 = .ok (.getfield 23, 3) := by decide +kernel
theorem dX3_share_34 : decode cX3_share 34 = .ok (.iload_n 3, 1) := by decide +kernel
theorem dX3_share_35 : decode cX3_share 35 = .ok (.invokevirtual 176, 3) := by decide +kernel
theorem dX3_share_38 : decode cX3_share 38 = .ok (.istore 4, 2) := by decide +kernel
theorem dX3_share_40 : decode cX3_share 40 = .ok (.iload 4, 2) := by decide +kernel
theorem dX3_share_42 : decode cX3_share 42 = .ok (.ifCond .ne 13, 3) := by decide +kernel
theorem dX3_share_45 : decode cX3_share 45 = .ok (.new 179, 3) := by decide +kernel
theorem dX3_share_48 : decode cX3_share 48 = .ok (.dup, 1) := by decide +kernel
theorem dX3_share_49 : decode cX3_share 49 = .ok (.ldc 181, 2) := by decide +kernel
theorem dX3_share_51 : decode cX3_share 51 = .ok (.invokespecial 183, 3) := by decide +kernel
theorem dX3_share_54 : decode cX3_share 54 = .ok (.athrow, 1) := by decide +kernel
theorem dX3_share_55 : decode cX3_share 55 = .ok (.iload_n 1, 1) := by decide +kernel
theorem dX3_share_56 : decode cX3_share 56 = .ok (.i2l, 1) := by decide +kernel
theorem dX3_share_57 : decode cX3_share 57 = .ok (.iload_n 2, 1) := by decide +kernel
theorem dX3_share_58 : decode cX3_share 58 = .ok (.i2l, 1) := by decide +kernel
theorem dX3_share_59 : decode cX3_share 59 = .ok (.lmul, 1) := by decide +kernel
theorem dX3_share_60 : decode cX3_share 60 = .ok (.iload 4, 2) := by decide +kernel
theorem dX3_share_62 : decode cX3_share 62 = .ok (.i2l, 1) := by decide +kernel
theorem dX3_share_63 : decode cX3_share 63 = .ok (.ldiv, 1) := by decide +kernel
theorem dX3_share_64 : decode cX3_share 64 = .ok (.lreturn, 1) := by decide +kernel
set_option maxRecDepth 20000 in
theorem ggX3_count_X3_fixedShips : GoodIn wsX3_count wsX3_fixedShips := goodIn_r _ [10, 3, 11, 12, 22, 23, 24, 25, 26, 32, 33, 34, 35, 36, 37, 38, 39, 40, 41, 42] (by decide +kernel) (by decide +kernel)
set_option maxRecDepth 20000 in
theorem gX3_count_X3_fixedShips : GoodIn wsX3_count (wsV RX3 184 RX3 yX3_fixedShips wsX3_fixedShips) := goodIn_app (goodIn_of _ (by decide +kernel)) ggX3_count_X3_fixedShips
set_option maxRecDepth 20000 in
theorem ggX3_count_X3_countOfPlace : GoodIn wsX3_count wsX3_countOfPlace := goodIn_r _ [16, 1, 2, 17, 18, 19, 20, 9, 21, 22, 23, 24, 25, 26, 27, 28, 29, 30, 31] (by decide +kernel) (by decide +kernel)
set_option maxRecDepth 20000 in
theorem gX3_count_X3_countOfPlace : GoodIn wsX3_count (wsV RX3 187 RX3 yX3_countOfPlace wsX3_countOfPlace) := goodIn_app (goodIn_of _ (by decide +kernel)) ggX3_count_X3_countOfPlace
theorem dX3_count_0 : decode cX3_count 0 = .ok (.iload_n 1, 1) := by decide +kernel
theorem dX3_count_1 : decode cX3_count 1 = .ok (.tableswitch 74 0 4 #[35, 43, 48, 56, 69], 35) := by decide +kernel
theorem dX3_count_36 : decode cX3_count 36 = .ok (.aload_n 0, 1) := by decide +kernel
theorem dX3_count_37 : decode cX3_count 37 = .ok (.getfield 23, 3) := by decide +kernel
theorem dX3_count_40 : decode cX3_count 40 = .ok (.getfield 160, 3) := by decide +kernel
theorem dX3_count_43 : decode cX3_count 43 = .ok (.ireturn, 1) := by decide +kernel
theorem dX3_count_44 : decode cX3_count 44 = .ok (.aload_n 0, 1) := by decide +kernel
theorem dX3_count_45 : decode cX3_count 45 = .ok (.getfield 52, 3) := by decide +kernel
theorem dX3_count_48 : decode cX3_count 48 = .ok (.ireturn, 1) := by decide +kernel
theorem dX3_count_49 : decode cX3_count 49 = .ok (.aload_n 0, 1) := by decide +kernel
theorem dX3_count_50 : decode cX3_count 50 = .ok (.getfield 23, 3) := by decide +kernel
theorem dX3_count_53 : decode cX3_count 53 = .ok (.getfield 104, 3) := by decide +kernel
theorem dX3_count_56 : decode cX3_count 56 = .ok (.ireturn, 1) := by decide +kernel
theorem dX3_count_57 : decode cX3_count 57 = .ok (.aload_n 0, 1) := by decide +kernel
theorem dX3_count_58 : decode cX3_count 58 = .ok (.getfield 76, 3) := by decide +kernel
theorem dX3_count_61 : decode cX3_count 61 = .ok (.ifCond .eq 7, 3) := by decide +kernel
theorem dX3_count_64 : decode cX3_count 64 = .ok (.iconst 1, 1) := by decide +kernel
theorem dX3_count_65 : decode cX3_count 65 = .ok (.goto 4, 3) := by decide +kernel
theorem dX3_count_68 : decode cX3_count 68 = .ok (.iconst 0, 1) := by decide +kernel
theorem dX3_count_69 : decode cX3_count 69 = .ok (.ireturn, 1) := by decide +kernel
theorem dX3_count_70 : decode cX3_count 70 = .ok (.aload_n 0, 1) := by decide +kernel
theorem dX3_count_71 : decode cX3_count 71 = .ok (.invokevirtual 184, 3) := by decide +kernel
theorem dX3_count_74 : decode cX3_count 74 = .ok (.ireturn, 1) := by decide +kernel
theorem dX3_count_75 : decode cX3_count 75 = .ok (.aload_n 0, 1) := by decide +kernel
theorem dX3_count_76 : decode cX3_count 76 = .ok (.iload_n 1, 1) := by decide +kernel
theorem dX3_count_77 : decode cX3_count 77 = .ok (.invokevirtual 187, 3) := by decide +kernel
theorem dX3_count_80 : decode cX3_count 80 = .ok (.ireturn, 1) := by decide +kernel
set_option maxRecDepth 20000 in
theorem ggX3_countOfPlace_X3_isWithin : GoodIn wsX3_countOfPlace wsX3_isWithin := goodIn_r _ [8] (by decide +kernel) (by decide +kernel)
set_option maxRecDepth 20000 in
theorem gX3_countOfPlace_X3_isWithin : GoodIn wsX3_countOfPlace (va_wsS RX3 41 yX3_isWithin wsX3_isWithin) := goodIn_app (goodIn_of _ (by decide +kernel)) ggX3_countOfPlace_X3_isWithin
theorem dX3_countOfPlace_0 : decode cX3_countOfPlace 0 = .ok (.iload_n 1, 1) := by decide +kernel
theorem dX3_countOfPlace_1 : decode cX3_countOfPlace 1 = .ok (.bipush 10, 2) := by decide +kernel
theorem dX3_countOfPlace_3 : decode cX3_countOfPlace 3 = .ok (.bipush 10, 2) := by decide +kernel
theorem dX3_countOfPlace_5 : decode cX3_countOfPlace 5 = .ok (.aload_n 0, 1) := by decide +kernel
theorem dX3_countOfPlace_6 : decode cX3_countOfPlace 6 = .ok (.getfield 23, 3) := by decide +kernel
theorem dX3_countOfPlace_9 : decode cX3_countOfPlace 9 = .ok (.getfield 160, 3) := by decide +kernel
theorem dX3_countOfPlace_12 : decode cX3_countOfPlace 12 = .ok (.iadd, 1) := by decide +kernel
theorem dX3_countOfPlace_13 : decode cX3_countOfPlace 13 = .ok (.iconst 1, 1) := by decide +kernel
theorem dX3_countOfPlace_14 : decode cX3_countOfPlace 14 = .ok (.isub, 1) := by decide +kernel
theorem dX3_countOfPlace_15 : decode cX3_countOfPlace 15 = .ok (.invokestatic 41, 3) := by decide +kernel
theorem dX3_countOfPlace_18 : decode cX3_countOfPlace 18 = .ok (.ifCond .eq 16, 3) := by decide +kernel
theorem dX3_countOfPlace_21 : decode cX3_countOfPlace 21 = .ok (.aload_n 0, 1) := by decide +kernel
theorem dX3_countOfPlace_22 : decode cX3_countOfPlace 22 = .ok (.getfield 23, 3) := by decide +kernel
theorem dX3_countOfPlace_25 : decode cX3_countOfPlace 25 = .ok (.getfield 84, 3) := by decide +kernel
theorem dX3_countOfPlace_28 : decode cX3_countOfPlace 28 = .ok (.iload_n 1, 1) := by decide +kernel
theorem dX3_countOfPlace_29 : decode cX3_countOfPlace 29 = .ok (.bipush 10, 2) := by decide +kernel
theorem dX3_countOfPlace_31 : decode cX3_countOfPlace 31 = .ok (.isub, 1) := by decide +kernel
theorem dX3_countOfPlace_32 : decode cX3_countOfPlace 32 = .ok (.iaload, 1) := by decide +kernel
theorem dX3_countOfPlace_33 : decode cX3_countOfPlace 33 = .ok (.ireturn, 1) := by decide +kernel
theorem dX3_countOfPlace_34 : decode cX3_countOfPlace 34 = .ok (.iload_n 1, 1) := by decide +kernel
theorem dX3_countOfPlace_35 : decode cX3_countOfPlace 35 = .ok (.bipush 20, 2) := by decide +kernel
theorem dX3_countOfPlace_37 : decode cX3_countOfPlace 37 = .ok (.bipush 20, 2) := by decide +kernel
theorem dX3_countOfPlace_39 : decode cX3_countOfPlace 39 = .ok (.aload_n 0, 1) := by decide +kernel
theorem dX3_countOfPlace_40 : decode cX3_countOfPlace 40 = .ok (.getfield 23, 3) := by decide +kernel
theorem dX3_countOfPlace_43 : decode cX3_countOfPlace 43 = .ok (.getfield 160, 3) := by decide +kernel
theorem dX3_countOfPlace_46 : decode cX3_countOfPlace 46 = .ok (.iadd, 1) := by decide +kernel
theorem dX3_countOfPlace_47 : decode cX3_countOfPlace 47 = .ok (.iconst 1, 1) := by decide +kernel
theorem dX3_countOfPlace_48 : decode cX3_countOfPlace 48 = .ok (.isub, 1) := by decide +kernel
theorem dX3_countOfPlace_49 : decode cX3_countOfPlace 49 = .ok (.invokestatic 41, 3) := by decide +kernel
theorem dX3_countOfPlace_52 : decode cX3_countOfPlace 52 = .ok (.ifCond .eq 16, 3) := by decide +kernel
theorem dX3_countOfPlace_55 : decode cX3_countOfPlace 55 = .ok (.aload_n 0, 1) := by decide +kernel
theorem dX3_countOfPlace_56 : decode cX3_countOfPlace 56 = .ok (.getfield 23, 3) := by decide +kernel
theorem dX3_countOfPlace_59 : decode cX3_countOfPlace 59 = .ok (.getfield 91, 3) := by decide +kernel
theorem dX3_countOfPlace_62 : decode cX3_countOfPlace 62 = .ok (.iload_n 1, 1) := by decide +kernel
theorem dX3_countOfPlace_63 : decode cX3_countOfPlace 63 = .ok (.bipush 20, 2) := by decide +kernel
theorem dX3_countOfPlace_65 : decode cX3_countOfPlace 65 = .ok (.isub, 1) := by decide +kernel
theorem dX3_countOfPlace_66 : decode cX3_countOfPlace 66 = .ok (.iaload, 1) := by decide +kernel
theorem dX3_countOfPlace_67 : decode cX3_countOfPlace 67 = .ok (.ireturn, 1) := by decide +kernel
theorem dX3_countOfPlace_68 : decode cX3_countOfPlace 68 = .ok (.iconst (-1), 1) := by decide +kernel
theorem dX3_countOfPlace_69 : decode cX3_countOfPlace 69 = .ok (.ireturn, 1) := by decide +kernel
theorem dX3_fixedShips_0 : decode cX3_fixedShips 0 = .ok (.iconst 0, 1) := by decide +kernel
theorem dX3_fixedShips_1 : decode cX3_fixedShips 1 = .ok (.istore_n 1, 1) := by decide +kernel
theorem dX3_fixedShips_2 : decode cX3_fixedShips 2 = .ok (.iconst 0, 1) := by decide +kernel
theorem dX3_fixedShips_3 : decode cX3_fixedShips 3 = .ok (.istore_n 2, 1) := by decide +kernel
theorem dX3_fixedShips_4 : decode cX3_fixedShips 4 = .ok (.iload_n 2, 1) := by decide +kernel
theorem dX3_fixedShips_5 : decode cX3_fixedShips 5 = .ok (.aload_n 0, 1) := by decide +kernel
theorem dX3_fixedShips_6 : decode cX3_fixedShips 6 = .ok (.getfield 52, 3) := by decide +kernel
theorem dX3_fixedShips_9 : decode cX3_fixedShips 9 = .ok (.if_icmp .ge 24, 3) := by decide +kernel
theorem dX3_fixedShips_12 : decode cX3_fixedShips 12 = .ok (.aload_n 0, 1) := by decide +kernel
theorem dX3_fixedShips_13 : decode cX3_fixedShips 13 = .ok (.getfield 29, 3) := by decide +kernel
theorem dX3_fixedShips_16 : decode cX3_fixedShips 16 = .ok (.iload_n 2, 1) := by decide +kernel
theorem dX3_fixedShips_17 : decode cX3_fixedShips 17 = .ok (.aaload, 1) := by decide +kernel
theorem dX3_fixedShips_18 : decode cX3_fixedShips 18 = .ok (.getfield 119, 3) := by decide +kernel
theorem dX3_fixedShips_21 : decode cX3_fixedShips 21 = .ok (.ifCond .eq 6, 3) := by decide +kernel
theorem dX3_fixedShips_24 : decode cX3_fixedShips 24 = .ok (.iinc 1 1, 3) := by decide +kernel
theorem dX3_fixedShips_27 : decode cX3_fixedShips 27 = .ok (.iinc 2 1, 3) := by decide +kernel
theorem dX3_fixedShips_30 : decode cX3_fixedShips 30 = .ok (.goto (-26), 3) := by decide +kernel
theorem dX3_fixedShips_33 : decode cX3_fixedShips 33 = .ok (.iload_n 1, 1) := by decide +kernel
theorem dX3_fixedShips_34 : decode cX3_fixedShips 34 = .ok (.ireturn, 1) := by decide +kernel
theorem dX3_isShip_0 : decode cX3_isShip 0 = .ok (.iload_n 1, 1) := by decide +kernel
theorem dX3_isShip_1 : decode cX3_isShip 1 = .ok (.ifCond .lt 15, 3) := by decide +kernel
theorem dX3_isShip_4 : decode cX3_isShip 4 = .ok (.iload_n 1, 1) := by decide +kernel
theorem dX3_isShip_5 : decode cX3_isShip 5 = .ok (.aload_n 0, 1) := by decide +kernel
theorem dX3_isShip_6 : decode cX3_isShip 6 = .ok (.getfield 52, 3) := by decide +kernel
theorem dX3_isShip_9 : decode cX3_isShip 9 = .ok (.if_icmp .ge 7, 3) := by decide +kernel
theorem dX3_isShip_12 : decode cX3_isShip 12 = .ok (.iconst 1, 1) := by decide +kernel
theorem dX3_isShip_13 : decode cX3_isShip 13 = .ok (.goto 4, 3) := by decide +kernel
theorem dX3_isShip_16 : decode cX3_isShip 16 = .ok (.iconst 0, 1) := by decide +kernel
theorem dX3_isShip_17 : decode cX3_isShip 17 = .ok (.ireturn, 1) := by decide +kernel
set_option maxRecDepth 20000 in
theorem ggX3_meetsFixed_X3_spansMeet : GoodIn wsX3_meetsFixed wsX3_spansMeet := goodIn_r _ [11] (by decide +kernel) (by decide +kernel)
set_option maxRecDepth 20000 in
theorem gX3_meetsFixed_X3_spansMeet : GoodIn wsX3_meetsFixed (va_wsS RX3 190 yX3_spansMeet wsX3_spansMeet) := goodIn_app (goodIn_of _ (by decide +kernel)) ggX3_meetsFixed_X3_spansMeet
theorem dX3_meetsFixed_0 : decode cX3_meetsFixed 0 = .ok (.aload_n 0, 1) := by decide +kernel
theorem dX3_meetsFixed_1 : decode cX3_meetsFixed 1 = .ok (.getfield 29, 3) := by decide +kernel
theorem dX3_meetsFixed_4 : decode cX3_meetsFixed 4 = .ok (.iload_n 1, 1) := by decide +kernel
theorem dX3_meetsFixed_5 : decode cX3_meetsFixed 5 = .ok (.aaload, 1) := by decide +kernel
theorem dX3_meetsFixed_6 : decode cX3_meetsFixed 6 = .ok (.astore 4, 2) := by decide +kernel
theorem dX3_meetsFixed_8 : decode cX3_meetsFixed 8 = .ok (.iconst 0, 1) := by decide +kernel
theorem dX3_meetsFixed_9 : decode cX3_meetsFixed 9 = .ok (.istore 5, 2) := by decide +kernel
theorem dX3_meetsFixed_11 : decode cX3_meetsFixed 11 = .ok (.iload 5, 2) := by decide +kernel
theorem dX3_meetsFixed_13 : decode cX3_meetsFixed 13 = .ok (.aload_n 0, 1) := by decide +kernel
theorem dX3_meetsFixed_14 : decode cX3_meetsFixed 14 = .ok (.getfield 52, 3) := by decide +kernel
theorem dX3_meetsFixed_17 : decode cX3_meetsFixed 17 = .ok (.if_icmp .ge 78, 3) := by decide +kernel
theorem dX3_meetsFixed_20 : decode cX3_meetsFixed 20 = .ok (.aload_n 0, 1) := by decide +kernel
theorem dX3_meetsFixed_21 : decode cX3_meetsFixed 21 = .ok (.getfield 29, 3) := by decide +kernel
theorem dX3_meetsFixed_24 : decode cX3_meetsFixed 24 = .ok (.iload 5, 2) := by decide +kernel
theorem dX3_meetsFixed_26 : decode cX3_meetsFixed 26 = .ok (.aaload, 1) := by decide +kernel
theorem dX3_meetsFixed_27 : decode cX3_meetsFixed 27 = .ok (.astore 6, 2) := by decide +kernel
theorem dX3_meetsFixed_29 : decode cX3_meetsFixed 29 = .ok (.iload 5, 2) := by decide +kernel
theorem dX3_meetsFixed_31 : decode cX3_meetsFixed 31 = .ok (.iload_n 1, 1) := by decide +kernel
theorem dX3_meetsFixed_32 : decode cX3_meetsFixed 32 = .ok (.if_icmp .eq 57, 3) := by decide +kernel
theorem dX3_meetsFixed_35 : decode cX3_meetsFixed 35 = .ok (.aload 6, 2) := by decide +kernel
theorem dX3_meetsFixed_37 : decode cX3_meetsFixed 37 = .ok (.getfield 119, 3) := by decide +kernel
theorem dX3_meetsFixed_40 : decode cX3_meetsFixed 40 = .ok (.ifCond .eq 49, 3) := by decide +kernel
theorem dX3_meetsFixed_43 : decode cX3_meetsFixed 43 = .ok (.iload_n 2, 1) := by decide +kernel
theorem dX3_meetsFixed_44 : decode cX3_meetsFixed 44 = .ok (.aload 4, 2) := by decide +kernel
theorem dX3_meetsFixed_46 : decode cX3_meetsFixed 46 = .ok (.getfield 61, 3) := by decide +kernel
theorem dX3_meetsFixed_49 : decode cX3_meetsFixed 49 = .ok (.aload 6, 2) := by decide +kernel
theorem dX3_meetsFixed_51 : decode cX3_meetsFixed 51 = .ok (.getfield 122, 3) := by decide +kernel
theorem dX3_meetsFixed_54 : decode cX3_meetsFixed 54 = .ok (.aload 6, 2) := by decide +kernel
theorem dX3_meetsFixed_56 : decode cX3_meetsFixed 56 = .ok (.getfield 61, 3) := by decide +kernel
theorem dX3_meetsFixed_59 : decode cX3_meetsFixed 59 = .ok (.invokestatic 190, 3) := by decide +kernel
theorem dX3_meetsFixed_62 : decode cX3_meetsFixed 62 = .ok (.ifCond .eq 27, 3) := by decide +kernel
theorem dX3_meetsFixed_65 : decode cX3_meetsFixed 65 = .ok (.iload_n 3, 1) := by decide +kernel
theorem dX3_meetsFixed_66 : decode cX3_meetsFixed 66 = .ok (.aload 4, 2) := by decide +kernel
theorem dX3_meetsFixed_68 : decode cX3_meetsFixed 68 = .ok (.getfield 67, 3) := by decide +kernel
theorem dX3_meetsFixed_71 : decode cX3_meetsFixed 71 = .ok (.aload 6, 2) := by decide +kernel
theorem dX3_meetsFixed_73 : decode cX3_meetsFixed 73 = .ok (.getfield 125, 3) := by decide +kernel
theorem dX3_meetsFixed_76 : decode cX3_meetsFixed 76 = .ok (.aload 6, 2) := by decide +kernel
theorem dX3_meetsFixed_78 : decode cX3_meetsFixed 78 = .ok (.getfield 67, 3) := by decide +kernel
theorem dX3_meetsFixed_81 : decode cX3_meetsFixed 81 = .ok (.invokestatic 190, 3) := by decide +kernel
theorem dX3_meetsFixed_84 : decode cX3_meetsFixed 84 = .ok (.ifCond .eq 5, 3) := by decide +kernel
theorem dX3_meetsFixed_87 : decode cX3_meetsFixed 87 = .ok (.iconst 1, 1) := by decide +kernel
theorem dX3_meetsFixed_88 : decode cX3_meetsFixed 88 = .ok (.ireturn, 1) := by decide +kernel
theorem dX3_meetsFixed_89 : decode cX3_meetsFixed 89 = .ok (.iinc 5 1, 3) := by decide +kernel
theorem dX3_meetsFixed_92 : decode cX3_meetsFixed 92 = .ok (.goto (-81), 3) := by decide +kernel
theorem dX3_meetsFixed_95 : decode cX3_meetsFixed 95 = .ok (.iconst 0, 1) := by decide +kernel
theorem dX3_meetsFixed_96 : decode cX3_meetsFixed 96 = .ok (.ireturn, 1) := by decide +kernel
set_option maxRecDepth 20000 in
theorem ggX3_moveShips_X2_moveTo : GoodIn wsX3_moveShips wsX2_moveTo := goodIn_r _ [10, 11, 12, 27, 28, 29, 30, 31, 32, 33, 34, 35, 36, 37] (by decide +kernel) (by decide +kernel)
set_option maxRecDepth 20000 in
theorem gX3_moveShips_X2_moveTo : GoodIn wsX3_moveShips (wsV RX3 200 RX2 yX2_moveTo wsX2_moveTo) := goodIn_app (goodIn_of _ (by decide +kernel)) ggX3_moveShips_X2_moveTo
theorem dX3_moveShips_0 : decode cX3_moveShips 0 = .ok (.iconst 0, 1) := by decide +kernel
theorem dX3_moveShips_1 : decode cX3_moveShips 1 = .ok (.istore_n 1, 1) := by decide +kernel
theorem dX3_moveShips_2 : decode cX3_moveShips 2 = .ok (.iconst 0, 1) := by decide +kernel
theorem dX3_moveShips_3 : decode cX3_moveShips 3 = .ok (.istore_n 2, 1) := by decide +kernel
theorem dX3_moveShips_4 : decode cX3_moveShips 4 = .ok (.iload_n 2, 1) := by decide +kernel
theorem dX3_moveShips_5 : decode cX3_moveShips 5 = .ok (.aload_n 0, 1) := by decide +kernel
theorem dX3_moveShips_6 : decode cX3_moveShips 6 = .ok (.getfield 52, 3) := by decide +kernel
theorem dX3_moveShips_9 : decode cX3_moveShips 9 = .ok (.if_icmp .ge 42, 3) := by decide +kernel
theorem dX3_moveShips_12 : decode cX3_moveShips 12 = .ok (.aload_n 0, 1) := by decide +kernel
theorem dX3_moveShips_13 : decode cX3_moveShips 13 = .ok (.getfield 29, 3) := by decide +kernel
theorem dX3_moveShips_16 : decode cX3_moveShips 16 = .ok (.iload_n 2, 1) := by decide +kernel
theorem dX3_moveShips_17 : decode cX3_moveShips 17 = .ok (.aaload, 1) := by decide +kernel
theorem dX3_moveShips_18 : decode cX3_moveShips 18 = .ok (.aload_n 0, 1) := by decide +kernel
theorem dX3_moveShips_19 : decode cX3_moveShips 19 = .ok (.getfield 37, 3) := by decide +kernel
theorem dX3_moveShips_22 : decode cX3_moveShips 22 = .ok (.getfield 194, 3) := by decide +kernel
theorem dX3_moveShips_25 : decode cX3_moveShips 25 = .ok (.iload_n 2, 1) := by decide +kernel
theorem dX3_moveShips_26 : decode cX3_moveShips 26 = .ok (.iaload, 1) := by decide +kernel
theorem dX3_moveShips_27 : decode cX3_moveShips 27 = .ok (.aload_n 0, 1) := by decide +kernel
theorem dX3_moveShips_28 : decode cX3_moveShips 28 = .ok (.getfield 37, 3) := by decide +kernel
theorem dX3_moveShips_31 : decode cX3_moveShips 31 = .ok (.getfield 197, 3) := by decide +kernel
theorem dX3_moveShips_34 : decode cX3_moveShips 34 = .ok (.iload_n 2, 1) := by decide +kernel
theorem dX3_moveShips_35 : decode cX3_moveShips 35 = .ok (.iaload, 1) := by decide +kernel
theorem dX3_moveShips_36 : decode cX3_moveShips 36 = .ok (.invokevirtual 200, 3) := by decide +kernel
theorem dX3_moveShips_39 : decode cX3_moveShips 39 = .ok (.ifCond .eq 6, 3) := by decide +kernel
theorem dX3_moveShips_42 : decode cX3_moveShips 42 = .ok (.iinc 1 1, 3) := by decide +kernel
theorem dX3_moveShips_45 : decode cX3_moveShips 45 = .ok (.iinc 2 1, 3) := by decide +kernel
theorem dX3_moveShips_48 : decode cX3_moveShips 48 = .ok (.goto (-44), 3) := by decide +kernel
theorem dX3_moveShips_51 : decode cX3_moveShips 51 = .ok (.iload_n 1, 1) := by decide +kernel
theorem dX3_moveShips_52 : decode cX3_moveShips 52 = .ok (.ireturn, 1) := by decide +kernel
theorem dX3_isWithin_0 : decode cX3_isWithin 0 = .ok (.iload_n 0, 1) := by decide +kernel
theorem dX3_isWithin_1 : decode cX3_isWithin 1 = .ok (.iload_n 1, 1) := by decide +kernel
theorem dX3_isWithin_2 : decode cX3_isWithin 2 = .ok (.if_icmp .lt 12, 3) := by decide +kernel
theorem dX3_isWithin_5 : decode cX3_isWithin 5 = .ok (.iload_n 0, 1) := by decide +kernel
theorem dX3_isWithin_6 : decode cX3_isWithin 6 = .ok (.iload_n 2, 1) := by decide +kernel
theorem dX3_isWithin_7 : decode cX3_isWithin 7 = .ok (.if_icmp .gt 7, 3) := by decide +kernel
theorem dX3_isWithin_10 : decode cX3_isWithin 10 = .ok (.iconst 1, 1) := by decide +kernel
theorem dX3_isWithin_11 : decode cX3_isWithin 11 = .ok (.goto 4, 3) := by decide +kernel
theorem dX3_isWithin_14 : decode cX3_isWithin 14 = .ok (.iconst 0, 1) := by decide +kernel
theorem dX3_isWithin_15 : decode cX3_isWithin 15 = .ok (.ireturn, 1) := by decide +kernel
theorem dX3_isKind_0 : decode cX3_isKind 0 = .ok (.iload_n 0, 1) := by decide +kernel
theorem dX3_isKind_1 : decode cX3_isKind 1 = .ok (.ifCond .lt 13, 3) := by decide +kernel
theorem dX3_isKind_4 : decode cX3_isKind 4 = .ok (.iload_n 0, 1) := by decide +kernel
theorem dX3_isKind_5 : decode cX3_isKind 5 = .ok (.bipush 8, 2) := by decide +kernel
theorem dX3_isKind_7 : decode cX3_isKind 7 = .ok (.if_icmp .ge 7, 3) := by decide +kernel
theorem dX3_isKind_10 : decode cX3_isKind 10 = .ok (.iconst 1, 1) := by decide +kernel
theorem dX3_isKind_11 : decode cX3_isKind 11 = .ok (.goto 4, 3) := by decide +kernel
theorem dX3_isKind_14 : decode cX3_isKind 14 = .ok (.iconst 0, 1) := by decide +kernel
theorem dX3_isKind_15 : decode cX3_isKind 15 = .ok (.ireturn, 1) := by decide +kernel
theorem dX3_hasBit_0 : decode cX3_hasBit 0 = .ok (.iload_n 0, 1) := by decide +kernel
theorem dX3_hasBit_1 : decode cX3_hasBit 1 = .ok (.iload_n 1, 1) := by decide +kernel
theorem dX3_hasBit_2 : decode cX3_hasBit 2 = .ok (.ishr, 1) := by decide +kernel
theorem dX3_hasBit_3 : decode cX3_hasBit 3 = .ok (.iconst 1, 1) := by decide +kernel
theorem dX3_hasBit_4 : decode cX3_hasBit 4 = .ok (.iand, 1) := by decide +kernel
theorem dX3_hasBit_5 : decode cX3_hasBit 5 = .ok (.ifCond .eq 7, 3) := by decide +kernel
theorem dX3_hasBit_8 : decode cX3_hasBit 8 = .ok (.iconst 1, 1) := by decide +kernel
theorem dX3_hasBit_9 : decode cX3_hasBit 9 = .ok (.goto 4, 3) := by decide +kernel
theorem dX3_hasBit_12 : decode cX3_hasBit 12 = .ok (.iconst 0, 1) := by decide +kernel
theorem dX3_hasBit_13 : decode cX3_hasBit 13 = .ok (.ireturn, 1) := by decide +kernel
theorem dX3_isSpanAt_0 : decode cX3_isSpanAt 0 = .ok (.iload_n 2, 1) := by decide +kernel
theorem dX3_isSpanAt_1 : decode cX3_isSpanAt 1 = .ok (.iload_n 0, 1) := by decide +kernel
theorem dX3_isSpanAt_2 : decode cX3_isSpanAt 2 = .ok (.if_icmp .lt 14, 3) := by decide +kernel
theorem dX3_isSpanAt_5 : decode cX3_isSpanAt 5 = .ok (.iload_n 2, 1) := by decide +kernel
theorem dX3_isSpanAt_6 : decode cX3_isSpanAt 6 = .ok (.iload_n 0, 1) := by decide +kernel
theorem dX3_isSpanAt_7 : decode cX3_isSpanAt 7 = .ok (.iload_n 1, 1) := by decide +kernel
theorem dX3_isSpanAt_8 : decode cX3_isSpanAt 8 = .ok (.iadd, 1) := by decide +kernel
theorem dX3_isSpanAt_9 : decode cX3_isSpanAt 9 = .ok (.if_icmp .ge 7, 3) := by decide +kernel
theorem dX3_isSpanAt_12 : decode cX3_isSpanAt 12 = .ok (.iconst 1, 1) := by decide +kernel
theorem dX3_isSpanAt_13 : decode cX3_isSpanAt 13 = .ok (.goto 4, 3) := by decide +kernel
theorem dX3_isSpanAt_16 : decode cX3_isSpanAt 16 = .ok (.iconst 0, 1) := by decide +kernel
theorem dX3_isSpanAt_17 : decode cX3_isSpanAt 17 = .ok (.ireturn, 1) := by decide +kernel
theorem dX3_spansMeet_0 : decode cX3_spansMeet 0 = .ok (.iload_n 0, 1) := by decide +kernel
theorem dX3_spansMeet_1 : decode cX3_spansMeet 1 = .ok (.iload_n 2, 1) := by decide +kernel
theorem dX3_spansMeet_2 : decode cX3_spansMeet 2 = .ok (.iload_n 3, 1) := by decide +kernel
theorem dX3_spansMeet_3 : decode cX3_spansMeet 3 = .ok (.iadd, 1) := by decide +kernel
theorem dX3_spansMeet_4 : decode cX3_spansMeet 4 = .ok (.if_icmp .ge 14, 3) := by decide +kernel
theorem dX3_spansMeet_7 : decode cX3_spansMeet 7 = .ok (.iload_n 2, 1) := by decide +kernel
theorem dX3_spansMeet_8 : decode cX3_spansMeet 8 = .ok (.iload_n 0, 1) := by decide +kernel
theorem dX3_spansMeet_9 : decode cX3_spansMeet 9 = .ok (.iload_n 1, 1) := by decide +kernel
theorem dX3_spansMeet_10 : decode cX3_spansMeet 10 = .ok (.iadd, 1) := by decide +kernel
theorem dX3_spansMeet_11 : decode cX3_spansMeet 11 = .ok (.if_icmp .ge 7, 3) := by decide +kernel
theorem dX3_spansMeet_14 : decode cX3_spansMeet 14 = .ok (.iconst 1, 1) := by decide +kernel
theorem dX3_spansMeet_15 : decode cX3_spansMeet 15 = .ok (.goto 4, 3) := by decide +kernel
theorem dX3_spansMeet_18 : decode cX3_spansMeet 18 = .ok (.iconst 0, 1) := by decide +kernel
theorem dX3_spansMeet_19 : decode cX3_spansMeet 19 = .ok (.ireturn, 1) := by decide +kernel
theorem dX3_beginsBetween_0 : decode cX3_beginsBetween 0 = .ok (.iload_n 0, 1) := by decide +kernel
theorem dX3_beginsBetween_1 : decode cX3_beginsBetween 1 = .ok (.ifCond .le 7, 3) := by decide +kernel
theorem dX3_beginsBetween_4 : decode cX3_beginsBetween 4 = .ok (.iload_n 0, 1) := by decide +kernel
theorem dX3_beginsBetween_5 : decode cX3_beginsBetween 5 = .ok (.goto 4, 3) := by decide +kernel
theorem dX3_beginsBetween_8 : decode cX3_beginsBetween 8 = .ok (.iconst 0, 1) := by decide +kernel
theorem dX3_beginsBetween_9 : decode cX3_beginsBetween 9 = .ok (.istore_n 2, 1) := by decide +kernel
theorem dX3_beginsBetween_10 : decode cX3_beginsBetween 10 = .ok (.iload_n 1, 1) := by decide +kernel
theorem dX3_beginsBetween_11 : decode cX3_beginsBetween 11 = .ok (.bipush 15, 2) := by decide +kernel
theorem dX3_beginsBetween_13 : decode cX3_beginsBetween 13 = .ok (.if_icmp .ge 7, 3) := by decide +kernel
theorem dX3_beginsBetween_16 : decode cX3_beginsBetween 16 = .ok (.iload_n 1, 1) := by decide +kernel
theorem dX3_beginsBetween_17 : decode cX3_beginsBetween 17 = .ok (.goto 5, 3) := by decide +kernel
theorem dX3_beginsBetween_20 : decode cX3_beginsBetween 20 = .ok (.bipush 15, 2) := by decide +kernel
theorem dX3_beginsBetween_22 : decode cX3_beginsBetween 22 = .ok (.istore_n 3, 1) := by decide +kernel
theorem dX3_beginsBetween_23 : decode cX3_beginsBetween 23 = .ok (.iload_n 2, 1) := by decide +kernel
theorem dX3_beginsBetween_24 : decode cX3_beginsBetween 24 = .ok (.iload_n 3, 1) := by decide +kernel
theorem dX3_beginsBetween_25 : decode cX3_beginsBetween 25 = .ok (.if_icmp .le 7, 3) := by decide +kernel
theorem dX3_beginsBetween_28 : decode cX3_beginsBetween 28 = .ok (.iconst 0, 1) := by decide +kernel
theorem dX3_beginsBetween_29 : decode cX3_beginsBetween 29 = .ok (.goto 14, 3) := by decide +kernel
theorem dX3_beginsBetween_32 : decode cX3_beginsBetween 32 = .ok (.iconst 1, 1) := by decide +kernel
theorem dX3_beginsBetween_33 : decode cX3_beginsBetween 33 = .ok (.iload_n 3, 1) := by decide +kernel
theorem dX3_beginsBetween_34 : decode cX3_beginsBetween 34 = .ok (.iload_n 2, 1) := by decide +kernel
theorem dX3_beginsBetween_35 : decode cX3_beginsBetween 35 = .ok (.isub, 1) := by decide +kernel
theorem dX3_beginsBetween_36 : decode cX3_beginsBetween 36 = .ok (.iconst 1, 1) := by decide +kernel
theorem dX3_beginsBetween_37 : decode cX3_beginsBetween 37 = .ok (.iadd, 1) := by decide +kernel
theorem dX3_beginsBetween_38 : decode cX3_beginsBetween 38 = .ok (.ishl, 1) := by decide +kernel
theorem dX3_beginsBetween_39 : decode cX3_beginsBetween 39 = .ok (.iconst 1, 1) := by decide +kernel
theorem dX3_beginsBetween_40 : decode cX3_beginsBetween 40 = .ok (.isub, 1) := by decide +kernel
theorem dX3_beginsBetween_41 : decode cX3_beginsBetween 41 = .ok (.iload_n 2, 1) := by decide +kernel
theorem dX3_beginsBetween_42 : decode cX3_beginsBetween 42 = .ok (.ishl, 1) := by decide +kernel
theorem dX3_beginsBetween_43 : decode cX3_beginsBetween 43 = .ok (.ireturn, 1) := by decide +kernel
end
section
theorem dX4_init_0 : decode cX4_init 0 = .ok (.aload_n 0, 1) := by decide +kernel
theorem dX4_init_1 : decode cX4_init 1 = .ok (.invokespecial 1, 3) := by decide +kernel
theorem dX4_init_4 : decode cX4_init 4 = .ok (.aload_n 0, 1) := by decide +kernel
theorem dX4_init_5 : decode cX4_init 5 = .ok (.bipush 6, 2) := by decide +kernel
theorem dX4_init_7 : decode cX4_init 7 = .ok (.newarray .int, 2) := by decide +kernel
theorem dX4_init_9 : decode cX4_init 9 = .ok (.dup, 1) := by decide +kernel
theorem dX4_init_10 : decode cX4_init 10 = .ok (.iconst 0, 1) := by decide +kernel
theorem dX4_init_11 : decode cX4_init 11 = .ok (.bipush 20, 2) := by decide +kernel
theorem dX4_init_13 : decode cX4_init 13 = .ok (.iastore, 1) := by decide +kernel
theorem dX4_init_14 : decode cX4_init 14 = .ok (.dup, 1) := by decide +kernel
theorem dX4_init_15 : decode cX4_init 15 = .ok (.iconst 1, 1) := by decide +kernel
theorem dX4_init_16 : decode cX4_init 16 = .ok (.bipush 20, 2) := by decide +kernel
theorem dX4_init_18 : decode cX4_init 18 = .ok (.iastore, 1) := by decide +kernel
theorem dX4_init_19 : decode cX4_init 19 = .ok (.dup, 1) := by decide +kernel
theorem dX4_init_20 : decode cX4_init 20 = .ok (.iconst 2, 1) := by decide +kernel
theorem dX4_init_21 : decode cX4_init 21 = .ok (.bipush 20, 2) := by decide +kernel
theorem dX4_init_23 : decode cX4_init 23 = .ok (.iastore, 1) := by decide +kernel
theorem dX4_init_24 : decode cX4_init 24 = .ok (.dup, 1) := by decide +kernel
theorem dX4_init_25 : decode cX4_init 25 = .ok (.iconst 3, 1) := by decide +kernel
theorem dX4_init_26 : decode cX4_init 26 = .ok (.bipush 20, 2) := by decide +kernel
theorem dX4_init_28 : decode cX4_init 28 = .ok (.iastore, 1) := by decide +kernel
theorem dX4_init_29 : decode cX4_init 29 = .ok (.dup, 1) := by decide +kernel
theorem dX4_init_30 : decode cX4_init 30 = .ok (.iconst 4, 1) := by decide +kernel
theorem dX4_init_31 : decode cX4_init 31 = .ok (.bipush 20, 2) := by decide +kernel
theorem dX4_init_33 : decode cX4_init 33 = .ok (.iastore, 1) := by decide +kernel
theorem dX4_init_34 : decode cX4_init 34 = .ok (.dup, 1) := by decide +kernel
theorem dX4_init_35 : decode cX4_init 35 = .ok (.iconst 5, 1) := by decide +kernel
theorem dX4_init_36 : decode cX4_init 36 = .ok (.bipush 20, 2) := by decide +kernel
theorem dX4_init_38 : decode cX4_init 38 = .ok (.iastore, 1) := by decide +kernel
theorem dX4_init_39 : decode cX4_init 39 = .ok (.putfield 7, 3) := by decide +kernel
theorem dX4_init_42 : decode cX4_init 42 = .ok (.aload_n 0, 1) := by decide +kernel
theorem dX4_init_43 : decode cX4_init 43 = .ok (.bipush 6, 2) := by decide +kernel
theorem dX4_init_45 : decode cX4_init 45 = .ok (.newarray .int, 2) := by decide +kernel
theorem dX4_init_47 : decode cX4_init 47 = .ok (.putfield 13, 3) := by decide +kernel
theorem dX4_init_50 : decode cX4_init 50 = .ok (.aload_n 0, 1) := by decide +kernel
theorem dX4_init_51 : decode cX4_init 51 = .ok (.bipush 8, 2) := by decide +kernel
theorem dX4_init_53 : decode cX4_init 53 = .ok (.newarray .int, 2) := by decide +kernel
theorem dX4_init_55 : decode cX4_init 55 = .ok (.putfield 16, 3) := by decide +kernel
theorem dX4_init_58 : decode cX4_init 58 = .ok (.aload_n 0, 1) := by decide +kernel
theorem dX4_init_59 : decode cX4_init 59 = .ok (.bipush 8, 2) := by decide +kernel
theorem dX4_init_61 : decode cX4_init 61 = .ok (.newarray .int, 2) := by decide +kernel
theorem dX4_init_63 : decode cX4_init 63 = .ok (.putfield 19, 3) := by decide +kernel
theorem dX4_init_66 : decode cX4_init 66 = .ok (.aload_n 0, 1) := by decide +kernel
theorem dX4_init_67 : decode cX4_init 67 = .ok (.iconst 4, 1) := by decide +kernel
theorem dX4_init_68 : decode cX4_init 68 = .ok (.newarray .int, 2) := by decide +kernel
theorem dX4_init_70 : decode cX4_init 70 = .ok (.putfield 22, 3) := by decide +kernel
theorem dX4_init_73 : decode cX4_init 73 = .ok (.aload_n 0, 1) := by decide +kernel
theorem dX4_init_74 : decode cX4_init 74 = .ok (.iconst 4, 1) := by decide +kernel
theorem dX4_init_75 : decode cX4_init 75 = .ok (.newarray .int, 2) := by decide +kernel
theorem dX4_init_77 : decode cX4_init 77 = .ok (.putfield 25, 3) := by decide +kernel
theorem dX4_init_80 : decode cX4_init 80 = .ok (.aload_n 0, 1) := by decide +kernel
theorem dX4_init_81 : decode cX4_init 81 = .ok (.iconst 4, 1) := by decide +kernel
theorem dX4_init_82 : decode cX4_init 82 = .ok (.newarray .int, 2) := by decide +kernel
theorem dX4_init_84 : decode cX4_init 84 = .ok (.putfield 28, 3) := by decide +kernel
theorem dX4_init_87 : decode cX4_init 87 = .ok (.aload_n 0, 1) := by decide +kernel
theorem dX4_init_88 : decode cX4_init 88 = .ok (.iconst 4, 1) := by decide +kernel
theorem dX4_init_89 : decode cX4_init 89 = .ok (.newarray .int, 2) := by decide +kernel
theorem dX4_init_91 : decode cX4_init 91 = .ok (.putfield 31, 3) := by decide +kernel
theorem dX4_init_94 : decode cX4_init 94 = .ok (.aload_n 0, 1) := by decide +kernel
theorem dX4_init_95 : decode cX4_init 95 = .ok (.iconst 4, 1) := by decide +kernel
theorem dX4_init_96 : decode cX4_init 96 = .ok (.newarray .int, 2) := by decide +kernel
theorem dX4_init_98 : decode cX4_init 98 = .ok (.putfield 34, 3) := by decide +kernel
theorem dX4_init_101 : decode cX4_init 101 = .ok (.aload_n 0, 1) := by decide +kernel
theorem dX4_init_102 : decode cX4_init 102 = .ok (.iconst 4, 1) := by decide +kernel
theorem dX4_init_103 : decode cX4_init 103 = .ok (.newarray .int, 2) := by decide +kernel
theorem dX4_init_105 : decode cX4_init 105 = .ok (.putfield 37, 3) := by decide +kernel
theorem dX4_init_108 : decode cX4_init 108 = .ok (.aload_n 0, 1) := by decide +kernel
theorem dX4_init_109 : decode cX4_init 109 = .ok (.iconst 4, 1) := by decide +kernel
theorem dX4_init_110 : decode cX4_init 110 = .ok (.newarray .int, 2) := by decide +kernel
theorem dX4_init_112 : decode cX4_init 112 = .ok (.dup, 1) := by decide +kernel
theorem dX4_init_113 : decode cX4_init 113 = .ok (.iconst 0, 1) := by decide +kernel
theorem dX4_init_114 : decode cX4_init 114 = .ok (.iconst (-1), 1) := by decide +kernel
theorem dX4_init_115 : decode cX4_init 115 = .ok (.iastore, 1) := by decide +kernel
theorem dX4_init_116 : decode cX4_init 116 = .ok (.dup, 1) := by decide +kernel
theorem dX4_init_117 : decode cX4_init 117 = .ok (.iconst 1, 1) := by decide +kernel
theorem dX4_init_118 : decode cX4_init 118 = .ok (.iconst (-1), 1) := by decide +kernel
theorem dX4_init_119 : decode cX4_init 119 = .ok (.iastore, 1) := by decide +kernel
theorem dX4_init_120 : decode cX4_init 120 = .ok (.dup, 1) := by decide +kernel
theorem dX4_init_121 : decode cX4_init 121 = .ok (.iconst 2, 1) := by decide +kernel
theorem dX4_init_122 : decode cX4_init 122 = .ok (.iconst (-1), 1) := by decide +kernel
theorem dX4_init_123 : decode cX4_init 123 = .ok (.iastore, 1) := by decide +kernel
theorem dX4_init_124 : decode cX4_init 124 = .ok (.dup, 1) := by decide +kernel
theorem dX4_init_125 : decode cX4_init 125 = .ok (.iconst 3, 1) := by decide +kernel
theorem dX4_init_126 : decode cX4_init 126 = .ok (.iconst (-1), 1) := by decide +kernel
theorem dX4_init_127 : decode cX4_init 127 = .ok (.iastore, 1) := by decide +kernel
theorem dX4_init_128 : decode cX4_init 128 = .ok (.putfield 40, 3) := by decide +kernel
theorem dX4_init_131 : decode cX4_init 131 = .ok (.aload_n 0, 1) := by decide +kernel
theorem dX4_init_132 : decode cX4_init 132 = .ok (.iconst 4, 1) := by decide +kernel
theorem dX4_init_133 : decode cX4_init 133 = .ok (.newarray .int, 2) := by decide +kernel
theorem dX4_init_135 : decode cX4_init 135 = .ok (.putfield 43, 3) := by decide +kernel
theorem dX4_init_138 : decode cX4_init 138 = .ok (.aload_n 0, 1) := by decide +kernel
theorem dX4_init_139 : decode cX4_init 139 = .ok (.iconst 4, 1) := by decide +kernel
theorem dX4_init_140 : decode cX4_init 140 = .ok (.newarray .int, 2) := by decide +kernel
theorem dX4_init_142 : decode cX4_init 142 = .ok (.putfield 46, 3) := by decide +kernel
theorem dX4_init_145 : decode cX4_init 145 = .ok (.aload_n 0, 1) := by decide +kernel
theorem dX4_init_146 : decode cX4_init 146 = .ok (.iconst 5, 1) := by decide +kernel
theorem dX4_init_147 : decode cX4_init 147 = .ok (.newarray .int, 2) := by decide +kernel
theorem dX4_init_149 : decode cX4_init 149 = .ok (.putfield 49, 3) := by decide +kernel
theorem dX4_init_152 : decode cX4_init 152 = .ok (.aload_n 0, 1) := by decide +kernel
theorem dX4_init_153 : decode cX4_init 153 = .ok (.iload_n 1, 1) := by decide +kernel
theorem dX4_init_154 : decode cX4_init 154 = .ok (.iconst 1, 1) := by decide +kernel
theorem dX4_init_155 : decode cX4_init 155 = .ok (.if_icmp .ge 7, 3) := by decide +kernel
theorem dX4_init_158 : decode cX4_init 158 = .ok (.iconst 1, 1) := by decide +kernel
theorem dX4_init_159 : decode cX4_init 159 = .ok (.goto 15, 3) := by decide +kernel
theorem dX4_init_162 : decode cX4_init 162 = .ok (.iload_n 1, 1) := by decide +kernel
theorem dX4_init_163 : decode cX4_init 163 = .ok (.bipush 6, 2) := by decide +kernel
theorem dX4_init_165 : decode cX4_init 165 = .ok (.if_icmp .le 8, 3) := by decide +kernel
theorem dX4_init_168 : decode cX4_init 168 = .ok (.bipush 6, 2) := by decide +kernel
theorem dX4_init_170 : decode cX4_init 170 = .ok (.goto 4, 3) := by decide +kernel
theorem dX4_init_173 : decode cX4_init 173 = .ok (.iload_n 1, 1) := by decide +kernel
theorem dX4_init_174 : decode cX4_init 174 = .ok (.putfield 52, 3) := by decide +kernel
theorem dX4_init_177 : decode cX4_init 177 = .ok (.return_, 1) := by decide +kernel
theorem dX4_thrown_0 : decode cX4_thrown 0 = .ok (.aload_n 0, 1) := by decide +kernel
theorem dX4_thrown_1 : decode cX4_thrown 1 = .ok (.getfield 56, 3) := by decide +kernel
theorem dX4_thrown_4 : decode cX4_thrown 4 = .ok (.ireturn, 1) := by decide +kernel
theorem dX4_in_0 : decode cX4_in 0 = .ok (.iload_n 0, 1) := by decide +kernel
theorem dX4_in_1 : decode cX4_in 1 = .ok (.iload_n 1, 1) := by decide +kernel
theorem dX4_in_2 : decode cX4_in 2 = .ok (.if_icmp .lt 12, 3) := by decide +kernel
theorem dX4_in_5 : decode cX4_in 5 = .ok (.iload_n 0, 1) := by decide +kernel
theorem dX4_in_6 : decode cX4_in 6 = .ok (.iload_n 2, 1) := by decide +kernel
theorem dX4_in_7 : decode cX4_in 7 = .ok (.if_icmp .gt 7, 3) := by decide +kernel
theorem dX4_in_10 : decode cX4_in 10 = .ok (.iconst 1, 1) := by decide +kernel
theorem dX4_in_11 : decode cX4_in 11 = .ok (.goto 4, 3) := by decide +kernel
theorem dX4_in_14 : decode cX4_in 14 = .ok (.iconst 0, 1) := by decide +kernel
theorem dX4_in_15 : decode cX4_in 15 = .ok (.ireturn, 1) := by decide +kernel
theorem dX4_isPlace_0 : decode cX4_isPlace 0 = .ok (.iload_n 1, 1) := by decide +kernel
theorem dX4_isPlace_1 : decode cX4_isPlace 1 = .ok (.ifCond .lt 15, 3) := by decide +kernel
theorem dX4_isPlace_4 : decode cX4_isPlace 4 = .ok (.iload_n 1, 1) := by decide +kernel
theorem dX4_isPlace_5 : decode cX4_isPlace 5 = .ok (.aload_n 0, 1) := by decide +kernel
theorem dX4_isPlace_6 : decode cX4_isPlace 6 = .ok (.getfield 52, 3) := by decide +kernel
theorem dX4_isPlace_9 : decode cX4_isPlace 9 = .ok (.if_icmp .ge 7, 3) := by decide +kernel
theorem dX4_isPlace_12 : decode cX4_isPlace 12 = .ok (.iconst 1, 1) := by decide +kernel
theorem dX4_isPlace_13 : decode cX4_isPlace 13 = .ok (.goto 4, 3) := by decide +kernel
theorem dX4_isPlace_16 : decode cX4_isPlace 16 = .ok (.iconst 0, 1) := by decide +kernel
theorem dX4_isPlace_17 : decode cX4_isPlace 17 = .ok (.ireturn, 1) := by decide +kernel
theorem dX4_isShip_0 : decode cX4_isShip 0 = .ok (.iload_n 1, 1) := by decide +kernel
theorem dX4_isShip_1 : decode cX4_isShip 1 = .ok (.ifCond .lt 15, 3) := by decide +kernel
theorem dX4_isShip_4 : decode cX4_isShip 4 = .ok (.iload_n 1, 1) := by decide +kernel
theorem dX4_isShip_5 : decode cX4_isShip 5 = .ok (.aload_n 0, 1) := by decide +kernel
theorem dX4_isShip_6 : decode cX4_isShip 6 = .ok (.getfield 59, 3) := by decide +kernel
theorem dX4_isShip_9 : decode cX4_isShip 9 = .ok (.if_icmp .ge 7, 3) := by decide +kernel
theorem dX4_isShip_12 : decode cX4_isShip 12 = .ok (.iconst 1, 1) := by decide +kernel
theorem dX4_isShip_13 : decode cX4_isShip 13 = .ok (.goto 4, 3) := by decide +kernel
theorem dX4_isShip_16 : decode cX4_isShip 16 = .ok (.iconst 0, 1) := by decide +kernel
theorem dX4_isShip_17 : decode cX4_isShip 17 = .ok (.ireturn, 1) := by decide +kernel
set_option maxRecDepth 20000 in
theorem ggX4_ship_X4_in : GoodIn wsX4_ship wsX4_in := goodIn_r _ [12] (by decide +kernel) (by decide +kernel)
set_option maxRecDepth 20000 in
theorem gX4_ship_X4_in : GoodIn wsX4_ship (va_wsS RX4 62 yX4_in wsX4_in) := goodIn_app (goodIn_of _ (by decide +kernel)) ggX4_ship_X4_in
theorem dX4_ship_0 : decode cX4_ship 0 = .ok (.iload_n 1, 1) := by decide +kernel
theorem dX4_ship_1 : decode cX4_ship 1 = .ok (.iconst 1, 1) := by decide +kernel
theorem dX4_ship_2 : decode cX4_ship 2 = .ok (.bipush 6, 2) := by decide +kernel
theorem dX4_ship_4 : decode cX4_ship 4 = .ok (.invokestatic 62, 3) := by decide +kernel
theorem dX4_ship_7 : decode cX4_ship 7 = .ok (.ifCond .eq 49, 3) := by decide +kernel
theorem dX4_ship_10 : decode cX4_ship 10 = .ok (.iload_n 2, 1) := by decide +kernel
theorem dX4_ship_11 : decode cX4_ship 11 = .ok (.iconst 0, 1) := by decide +kernel
theorem dX4_ship_12 : decode cX4_ship 12 = .ok (.bipush 100, 2) := by decide +kernel
theorem dX4_ship_14 : decode cX4_ship 14 = .ok (.invokestatic 62, 3) := by decide +kernel
theorem dX4_ship_17 : decode cX4_ship 17 = .ok (.ifCond .eq 39, 3) := by decide +kernel
theorem dX4_ship_20 : decode cX4_ship 20 = .ok (.iload_n 3, 1) := by decide +kernel
theorem dX4_ship_21 : decode cX4_ship 21 = .ok (.iconst 1, 1) := by decide +kernel
theorem dX4_ship_22 : decode cX4_ship 22 = .ok (.bipush 24, 2) := by decide +kernel
theorem dX4_ship_24 : decode cX4_ship 24 = .ok (.invokestatic 62, 3) := by decide +kernel
theorem dX4_ship_27 : decode cX4_ship 27 = .ok (.ifCond .eq 29, 3) := by decide +kernel
theorem dX4_ship_30 : decode cX4_ship 30 = .ok (.iload 4, 2) := by decide +kernel
theorem dX4_ship_32 : decode cX4_ship 32 = .ok (.iconst 0, 1) := by decide +kernel
theorem dX4_ship_33 : decode cX4_ship 33 = .ok (.bipush 15, 2) := by decide +kernel
theorem dX4_ship_35 : decode cX4_ship 35 = .ok (.invokestatic 62, 3) := by decide +kernel
theorem dX4_ship_38 : decode cX4_ship 38 = .ok (.ifCond .eq 18, 3) := by decide +kernel
theorem dX4_ship_41 : decode cX4_ship 41 = .ok (.iload 5, 2) := by decide +kernel
theorem dX4_ship_43 : decode cX4_ship 43 = .ok (.iconst 1, 1) := by decide +kernel
theorem dX4_ship_44 : decode cX4_ship 44 = .ok (.bipush 100, 2) := by decide +kernel
theorem dX4_ship_46 : decode cX4_ship 46 = .ok (.invokestatic 62, 3) := by decide +kernel
theorem dX4_ship_49 : decode cX4_ship 49 = .ok (.ifCond .eq 7, 3) := by decide +kernel
theorem dX4_ship_52 : decode cX4_ship 52 = .ok (.iconst 1, 1) := by decide +kernel
theorem dX4_ship_53 : decode cX4_ship 53 = .ok (.goto 4, 3) := by decide +kernel
theorem dX4_ship_56 : decode cX4_ship 56 = .ok (.iconst 0, 1) := by decide +kernel
theorem dX4_ship_57 : decode cX4_ship 57 = .ok (.istore 6, 2) := by decide +kernel
theorem dX4_ship_59 : decode cX4_ship 59 = .ok (.aload_n 0, 1) := by decide +kernel
theorem dX4_ship_60 : decode cX4_ship 60 = .ok (.iload 6, 2) := by decide +kernel
theorem dX4_ship_62 : decode cX4_ship 62 = .ok (.ifCond .ne 7, 3) := by decide +kernel
theorem dX4_ship_65 : decode cX4_ship 65 = .ok (.iconst 1, 1) := by decide +kernel
theorem dX4_ship_66 : decode cX4_ship 66 = .ok (.goto 16, 3) := by decide +kernel
theorem dX4_ship_69 : decode cX4_ship 69 = .ok (.aload_n 0, 1) := by decide +kernel
theorem dX4_ship_70 : decode cX4_ship 70 = .ok (.getfield 59, 3) := by decide +kernel
theorem dX4_ship_73 : decode cX4_ship 73 = .ok (.iconst 4, 1) := by decide +kernel
theorem dX4_ship_74 : decode cX4_ship 74 = .ok (.if_icmp .ne 7, 3) := by decide +kernel
theorem dX4_ship_77 : decode cX4_ship 77 = .ok (.iconst 2, 1) := by decide +kernel
theorem dX4_ship_78 : decode cX4_ship 78 = .ok (.goto 4, 3) := by decide +kernel
theorem dX4_ship_81 : decode cX4_ship 81 = .ok (.iconst 0, 1) := by decide +kernel
theorem dX4_ship_82 : decode cX4_ship 82 = .ok (.putfield 56, 3) := by decide +kernel
theorem dX4_ship_85 : decode cX4_ship 85 = .ok (.aload_n 0, 1) := by decide +kernel
theorem dX4_ship_86 : decode cX4_ship 86 = .ok (.getfield 56, 3) := by decide +kernel
theorem dX4_ship_89 : decode cX4_ship 89 = .ok (.ifCond .le 5, 3) := by decide +kernel
theorem dX4_ship_92 : decode cX4_ship 92 = .ok (.iconst 0, 1) := by decide +kernel
theorem dX4_ship_93 : decode cX4_ship 93 = .ok (.ireturn, 1) := by decide +kernel
theorem dX4_ship_94 : decode cX4_ship 94 = .ok (.aload_n 0, 1) := by decide +kernel
theorem dX4_ship_95 : decode cX4_ship 95 = .ok (.getfield 22, 3) := by decide +kernel
theorem dX4_ship_98 : decode cX4_ship 98 = .ok (.aload_n 0, 1) := by decide +kernel
theorem dX4_ship_99 : decode cX4_ship 99 = .ok (.getfield 59, 3) := by decide +kernel
theorem dX4_ship_102 : decode cX4_ship 102 = .ok (.iload_n 1, 1) := by decide +kernel
theorem dX4_ship_103 : decode cX4_ship 103 = .ok (.iastore, 1) := by decide +kernel
theorem dX4_ship_104 : decode cX4_ship 104 = .ok (.aload_n 0, 1) := by decide +kernel
theorem dX4_ship_105 : decode cX4_ship 105 = .ok (.getfield 25, 3) := by decide +kernel
theorem dX4_ship_108 : decode cX4_ship 108 = .ok (.aload_n 0, 1) := by decide +kernel
theorem dX4_ship_109 : decode cX4_ship 109 = .ok (.getfield 59, 3) := by decide +kernel
theorem dX4_ship_112 : decode cX4_ship 112 = .ok (.iload_n 2, 1) := by decide +kernel
theorem dX4_ship_113 : decode cX4_ship 113 = .ok (.iastore, 1) := by decide +kernel
theorem dX4_ship_114 : decode cX4_ship 114 = .ok (.aload_n 0, 1) := by decide +kernel
theorem dX4_ship_115 : decode cX4_ship 115 = .ok (.getfield 28, 3) := by decide +kernel
theorem dX4_ship_118 : decode cX4_ship 118 = .ok (.aload_n 0, 1) := by decide +kernel
theorem dX4_ship_119 : decode cX4_ship 119 = .ok (.getfield 59, 3) := by decide +kernel
theorem dX4_ship_122 : decode cX4_ship 122 = .ok (.iload_n 3, 1) := by decide +kernel
theorem dX4_ship_123 : decode cX4_ship 123 = .ok (.iastore, 1) := by decide +kernel
theorem dX4_ship_124 : decode cX4_ship 124 = .ok (.aload_n 0, 1) := by decide +kernel
theorem dX4_ship_125 : decode cX4_ship 125 = .ok (.getfield 31, 3) := by decide +kernel
theorem dX4_ship_128 : decode cX4_ship 128 = .ok (.aload_n 0, 1) := by decide +kernel
theorem dX4_ship_129 : decode cX4_ship 129 = .ok (.getfield 59, 3) := by decide +kernel
theorem dX4_ship_132 : decode cX4_ship 132 = .ok (.iload 4, 2) := by decide +kernel
theorem dX4_ship_134 : decode cX4_ship 134 = .ok (.iastore, 1) := by decide +kernel
theorem dX4_ship_135 : decode cX4_ship 135 = .ok (.aload_n 0, 1) := by decide +kernel
theorem dX4_ship_136 : decode cX4_ship 136 = .ok (.getfield 34, 3) := by decide +kernel
theorem dX4_ship_139 : decode cX4_ship 139 = .ok (.aload_n 0, 1) := by decide +kernel
theorem dX4_ship_140 : decode cX4_ship 140 = .ok (.getfield 59, 3) := by decide +kernel
theorem dX4_ship_143 : decode cX4_ship 143 = .ok (.iload 5, 2) := by decide +kernel
theorem dX4_ship_145 : decode cX4_ship 145 = .ok (.iastore, 1) := by decide +kernel
theorem dX4_ship_146 : decode cX4_ship 146 = .ok (.aload_n 0, 1) := by decide +kernel
theorem dX4_ship_147 : decode cX4_ship 147 = .ok (.dup, 1) := by decide +kernel
theorem dX4_ship_148 : decode cX4_ship 148 = .ok (.getfield 59, 3) := by decide +kernel
theorem dX4_ship_151 : decode cX4_ship 151 = .ok (.iconst 1, 1) := by decide +kernel
theorem dX4_ship_152 : decode cX4_ship 152 = .ok (.iadd, 1) := by decide +kernel
theorem dX4_ship_153 : decode cX4_ship 153 = .ok (.putfield 59, 3) := by decide +kernel
theorem dX4_ship_156 : decode cX4_ship 156 = .ok (.aload_n 0, 1) := by decide +kernel
theorem dX4_ship_157 : decode cX4_ship 157 = .ok (.iconst 0, 1) := by decide +kernel
theorem dX4_ship_158 : decode cX4_ship 158 = .ok (.putfield 66, 3) := by decide +kernel
theorem dX4_ship_161 : decode cX4_ship 161 = .ok (.aload_n 0, 1) := by decide +kernel
theorem dX4_ship_162 : decode cX4_ship 162 = .ok (.getfield 59, 3) := by decide +kernel
theorem dX4_ship_165 : decode cX4_ship 165 = .ok (.iconst 1, 1) := by decide +kernel
theorem dX4_ship_166 : decode cX4_ship 166 = .ok (.isub, 1) := by decide +kernel
theorem dX4_ship_167 : decode cX4_ship 167 = .ok (.ireturn, 1) := by decide +kernel
set_option maxRecDepth 20000 in
theorem ggX4_depth_X4_isPlace : GoodIn wsX4_depth wsX4_isPlace := goodIn_r _ [8, 9, 13, 14, 15, 16, 17, 18, 19, 20, 21, 22, 23, 24, 25, 26, 27, 28, 29, 30, 31] (by decide +kernel) (by decide +kernel)
set_option maxRecDepth 20000 in
theorem gX4_depth_X4_isPlace : GoodIn wsX4_depth (wsV RX4 70 RX4 yX4_isPlace wsX4_isPlace) := goodIn_app (goodIn_of _ (by decide +kernel)) ggX4_depth_X4_isPlace
set_option maxRecDepth 20000 in
theorem ggX4_depth_X4_in : GoodIn wsX4_depth wsX4_in := goodIn_r _ [12] (by decide +kernel) (by decide +kernel)
set_option maxRecDepth 20000 in
theorem gX4_depth_X4_in : GoodIn wsX4_depth (va_wsS RX4 62 yX4_in wsX4_in) := goodIn_app (goodIn_of _ (by decide +kernel)) ggX4_depth_X4_in
theorem dX4_depth_0 : decode cX4_depth 0 = .ok (.aload_n 0, 1) := by decide +kernel
theorem dX4_depth_1 : decode cX4_depth 1 = .ok (.iconst 0, 1) := by decide +kernel
theorem dX4_depth_2 : decode cX4_depth 2 = .ok (.putfield 56, 3) := by decide +kernel
theorem dX4_depth_5 : decode cX4_depth 5 = .ok (.aload_n 0, 1) := by decide +kernel
theorem dX4_depth_6 : decode cX4_depth 6 = .ok (.iload_n 1, 1) := by decide +kernel
theorem dX4_depth_7 : decode cX4_depth 7 = .ok (.invokevirtual 70, 3) := by decide +kernel
theorem dX4_depth_10 : decode cX4_depth 10 = .ok (.ifCond .eq 26, 3) := by decide +kernel
theorem dX4_depth_13 : decode cX4_depth 13 = .ok (.aload_n 0, 1) := by decide +kernel
theorem dX4_depth_14 : decode cX4_depth 14 = .ok (.iload_n 2, 1) := by decide +kernel
theorem dX4_depth_15 : decode cX4_depth 15 = .ok (.invokevirtual 70, 3) := by decide +kernel
theorem dX4_depth_18 : decode cX4_depth 18 = .ok (.ifCond .eq 18, 3) := by decide +kernel
theorem dX4_depth_21 : decode cX4_depth 21 = .ok (.iload_n 1, 1) := by decide +kernel
theorem dX4_depth_22 : decode cX4_depth 22 = .ok (.iload_n 2, 1) := by decide +kernel
theorem dX4_depth_23 : decode cX4_depth 23 = .ok (.if_icmp .gt 13, 3) := by decide +kernel
theorem dX4_depth_26 : decode cX4_depth 26 = .ok (.iload_n 3, 1) := by decide +kernel
theorem dX4_depth_27 : decode cX4_depth 27 = .ok (.iconst 0, 1) := by decide +kernel
theorem dX4_depth_28 : decode cX4_depth 28 = .ok (.bipush 100, 2) := by decide +kernel
theorem dX4_depth_30 : decode cX4_depth 30 = .ok (.invokestatic 62, 3) := by decide +kernel
theorem dX4_depth_33 : decode cX4_depth 33 = .ok (.ifCond .ne 5, 3) := by decide +kernel
theorem dX4_depth_36 : decode cX4_depth 36 = .ok (.iconst 0, 1) := by decide +kernel
theorem dX4_depth_37 : decode cX4_depth 37 = .ok (.ireturn, 1) := by decide +kernel
theorem dX4_depth_38 : decode cX4_depth 38 = .ok (.iload_n 1, 1) := by decide +kernel
theorem dX4_depth_39 : decode cX4_depth 39 = .ok (.istore 4, 2) := by decide +kernel
theorem dX4_depth_41 : decode cX4_depth 41 = .ok (.iload 4, 2) := by decide +kernel
theorem dX4_depth_43 : decode cX4_depth 43 = .ok (.iload_n 2, 1) := by decide +kernel
theorem dX4_depth_44 : decode cX4_depth 44 = .ok (.if_icmp .gt 17, 3) := by decide +kernel
theorem dX4_depth_47 : decode cX4_depth 47 = .ok (.aload_n 0, 1) := by decide +kernel
theorem dX4_depth_48 : decode cX4_depth 48 = .ok (.getfield 7, 3) := by decide +kernel
theorem dX4_depth_51 : decode cX4_depth 51 = .ok (.iload 4, 2) := by decide +kernel
theorem dX4_depth_53 : decode cX4_depth 53 = .ok (.iload_n 3, 1) := by decide +kernel
theorem dX4_depth_54 : decode cX4_depth 54 = .ok (.iastore, 1) := by decide +kernel
theorem dX4_depth_55 : decode cX4_depth 55 = .ok (.iinc 4 1, 3) := by decide +kernel
theorem dX4_depth_58 : decode cX4_depth 58 = .ok (.goto (-17), 3) := by decide +kernel
theorem dX4_depth_61 : decode cX4_depth 61 = .ok (.aload_n 0, 1) := by decide +kernel
theorem dX4_depth_62 : decode cX4_depth 62 = .ok (.iconst 0, 1) := by decide +kernel
theorem dX4_depth_63 : decode cX4_depth 63 = .ok (.putfield 66, 3) := by decide +kernel
theorem dX4_depth_66 : decode cX4_depth 66 = .ok (.iconst 1, 1) := by decide +kernel
theorem dX4_depth_67 : decode cX4_depth 67 = .ok (.ireturn, 1) := by decide +kernel
theorem dX4_bit_0 : decode cX4_bit 0 = .ok (.iload_n 0, 1) := by decide +kernel
theorem dX4_bit_1 : decode cX4_bit 1 = .ok (.iload_n 1, 1) := by decide +kernel
theorem dX4_bit_2 : decode cX4_bit 2 = .ok (.ishr, 1) := by decide +kernel
theorem dX4_bit_3 : decode cX4_bit 3 = .ok (.iconst 1, 1) := by decide +kernel
theorem dX4_bit_4 : decode cX4_bit 4 = .ok (.iand, 1) := by decide +kernel
theorem dX4_bit_5 : decode cX4_bit 5 = .ok (.iconst 1, 1) := by decide +kernel
theorem dX4_bit_6 : decode cX4_bit 6 = .ok (.if_icmp .ne 7, 3) := by decide +kernel
theorem dX4_bit_9 : decode cX4_bit 9 = .ok (.iconst 1, 1) := by decide +kernel
theorem dX4_bit_10 : decode cX4_bit 10 = .ok (.goto 4, 3) := by decide +kernel
theorem dX4_bit_13 : decode cX4_bit 13 = .ok (.iconst 0, 1) := by decide +kernel
theorem dX4_bit_14 : decode cX4_bit 14 = .ok (.ireturn, 1) := by decide +kernel
set_option maxRecDepth 20000 in
theorem ggX4_gear_X4_isPlace : GoodIn wsX4_gear wsX4_isPlace := goodIn_r _ [8, 9, 16, 17, 18, 19, 20, 21, 22, 23, 24, 25, 26, 27, 28, 29, 30, 31, 32, 33, 34] (by decide +kernel) (by decide +kernel)
set_option maxRecDepth 20000 in
theorem gX4_gear_X4_isPlace : GoodIn wsX4_gear (wsV RX4 70 RX4 yX4_isPlace wsX4_isPlace) := goodIn_app (goodIn_of _ (by decide +kernel)) ggX4_gear_X4_isPlace
set_option maxRecDepth 20000 in
theorem ggX4_gear_X4_in : GoodIn wsX4_gear wsX4_in := goodIn_r _ [12] (by decide +kernel) (by decide +kernel)
set_option maxRecDepth 20000 in
theorem gX4_gear_X4_in : GoodIn wsX4_gear (va_wsS RX4 62 yX4_in wsX4_in) := goodIn_app (goodIn_of _ (by decide +kernel)) ggX4_gear_X4_in
set_option maxRecDepth 20000 in
theorem ggX4_gear_X4_bit : GoodIn wsX4_gear wsX4_bit := goodIn_r _ [15] (by decide +kernel) (by decide +kernel)
set_option maxRecDepth 20000 in
theorem gX4_gear_X4_bit : GoodIn wsX4_gear (va_wsS RX4 74 yX4_bit wsX4_bit) := goodIn_app (goodIn_of _ (by decide +kernel)) ggX4_gear_X4_bit
theorem dX4_gear_0 : decode cX4_gear 0 = .ok (.aload_n 0, 1) := by decide +kernel
theorem dX4_gear_1 : decode cX4_gear 1 = .ok (.iconst 0, 1) := by decide +kernel
theorem dX4_gear_2 : decode cX4_gear 2 = .ok (.putfield 56, 3) := by decide +kernel
theorem dX4_gear_5 : decode cX4_gear 5 = .ok (.aload_n 0, 1) := by decide +kernel
theorem dX4_gear_6 : decode cX4_gear 6 = .ok (.iload_n 1, 1) := by decide +kernel
theorem dX4_gear_7 : decode cX4_gear 7 = .ok (.invokevirtual 70, 3) := by decide +kernel
theorem dX4_gear_10 : decode cX4_gear 10 = .ok (.ifCond .eq 27, 3) := by decide +kernel
theorem dX4_gear_13 : decode cX4_gear 13 = .ok (.iload_n 2, 1) := by decide +kernel
theorem dX4_gear_14 : decode cX4_gear 14 = .ok (.iconst 0, 1) := by decide +kernel
theorem dX4_gear_15 : decode cX4_gear 15 = .ok (.bipush 7, 2) := by decide +kernel
theorem dX4_gear_17 : decode cX4_gear 17 = .ok (.invokestatic 62, 3) := by decide +kernel
theorem dX4_gear_20 : decode cX4_gear 20 = .ok (.ifCond .eq 17, 3) := by decide +kernel
theorem dX4_gear_23 : decode cX4_gear 23 = .ok (.aload_n 0, 1) := by decide +kernel
theorem dX4_gear_24 : decode cX4_gear 24 = .ok (.getfield 13, 3) := by decide +kernel
theorem dX4_gear_27 : decode cX4_gear 27 = .ok (.iload_n 1, 1) := by decide +kernel
theorem dX4_gear_28 : decode cX4_gear 28 = .ok (.iaload, 1) := by decide +kernel
theorem dX4_gear_29 : decode cX4_gear 29 = .ok (.iload_n 2, 1) := by decide +kernel
theorem dX4_gear_30 : decode cX4_gear 30 = .ok (.invokestatic 74, 3) := by decide +kernel
theorem dX4_gear_33 : decode cX4_gear 33 = .ok (.iload_n 3, 1) := by decide +kernel
theorem dX4_gear_34 : decode cX4_gear 34 = .ok (.if_icmp .ne 5, 3) := by decide +kernel
theorem dX4_gear_37 : decode cX4_gear 37 = .ok (.iconst 0, 1) := by decide +kernel
theorem dX4_gear_38 : decode cX4_gear 38 = .ok (.ireturn, 1) := by decide +kernel
theorem dX4_gear_39 : decode cX4_gear 39 = .ok (.aload_n 0, 1) := by decide +kernel
theorem dX4_gear_40 : decode cX4_gear 40 = .ok (.getfield 13, 3) := by decide +kernel
theorem dX4_gear_43 : decode cX4_gear 43 = .ok (.iload_n 1, 1) := by decide +kernel
theorem dX4_gear_44 : decode cX4_gear 44 = .ok (.dup2, 1) := by decide +kernel
theorem dX4_gear_45 : decode cX4_gear 45 = .ok (.iaload, 1) := by decide +kernel
theorem dX4_gear_46 : decode cX4_gear 46 = .ok (.iload_n 3, 1) := by decide +kernel
theorem dX4_gear_47 : decode cX4_gear 47 = .ok (.ifCond .eq 9, 3) := by decide +kernel
theorem dX4_gear_50 : decode cX4_gear 50 = .ok (.iconst 1, 1) := by decide +kernel
theorem dX4_gear_51 : decode cX4_gear 51 = .ok (.iload_n 2, 1) := by decide +kernel
theorem dX4_gear_52 : decode cX4_gear 52 = .ok (.ishl, 1) := by decide +kernel
theorem dX4_gear_53 : decode cX4_gear 53 = .ok (.goto 7, 3) := by decide +kernel
theorem dX4_gear_56 : decode cX4_gear 56 = .ok (.iconst 1, 1) := by decide +kernel
theorem dX4_gear_57 : decode cX4_gear 57 = .ok (.iload_n 2, 1) := by decide +kernel
theorem dX4_gear_58 : decode cX4_gear 58 = .ok (.ishl, 1) := by decide +kernel
theorem dX4_gear_59 : decode cX4_gear 59 = .ok (.ineg, 1) := by decide +kernel
theorem dX4_gear_60 : decode cX4_gear 60 = .ok (.iadd, 1) := by decide +kernel
theorem dX4_gear_61 : decode cX4_gear 61 = .ok (.iastore, 1) := by decide +kernel
theorem dX4_gear_62 : decode cX4_gear 62 = .ok (.aload_n 0, 1) := by decide +kernel
theorem dX4_gear_63 : decode cX4_gear 63 = .ok (.iconst 0, 1) := by decide +kernel
theorem dX4_gear_64 : decode cX4_gear 64 = .ok (.putfield 66, 3) := by decide +kernel
theorem dX4_gear_67 : decode cX4_gear 67 = .ok (.iconst 1, 1) := by decide +kernel
theorem dX4_gear_68 : decode cX4_gear 68 = .ok (.ireturn, 1) := by decide +kernel
set_option maxRecDepth 20000 in
theorem ggX4_wants_X4_isShip : GoodIn wsX4_wants wsX4_isShip := goodIn_r _ [8, 9, 16, 17, 18, 19, 20, 21, 22, 23, 24, 25, 26, 27, 28, 29, 30, 31, 32, 33, 34] (by decide +kernel) (by decide +kernel)
set_option maxRecDepth 20000 in
theorem gX4_wants_X4_isShip : GoodIn wsX4_wants (wsV RX4 78 RX4 yX4_isShip wsX4_isShip) := goodIn_app (goodIn_of _ (by decide +kernel)) ggX4_wants_X4_isShip
set_option maxRecDepth 20000 in
theorem ggX4_wants_X4_in : GoodIn wsX4_wants wsX4_in := goodIn_r _ [12] (by decide +kernel) (by decide +kernel)
set_option maxRecDepth 20000 in
theorem gX4_wants_X4_in : GoodIn wsX4_wants (va_wsS RX4 62 yX4_in wsX4_in) := goodIn_app (goodIn_of _ (by decide +kernel)) ggX4_wants_X4_in
set_option maxRecDepth 20000 in
theorem ggX4_wants_X4_bit : GoodIn wsX4_wants wsX4_bit := goodIn_r _ [15] (by decide +kernel) (by decide +kernel)
set_option maxRecDepth 20000 in
theorem gX4_wants_X4_bit : GoodIn wsX4_wants (va_wsS RX4 74 yX4_bit wsX4_bit) := goodIn_app (goodIn_of _ (by decide +kernel)) ggX4_wants_X4_bit
theorem dX4_wants_0 : decode cX4_wants 0 = .ok (.aload_n 0, 1) := by decide +kernel
theorem dX4_wants_1 : decode cX4_wants 1 = .ok (.iconst 0, 1) := by decide +kernel
theorem dX4_wants_2 : decode cX4_wants 2 = .ok (.putfield 56, 3) := by decide +kernel
theorem dX4_wants_5 : decode cX4_wants 5 = .ok (.aload_n 0, 1) := by decide +kernel
theorem dX4_wants_6 : decode cX4_wants 6 = .ok (.iload_n 1, 1) := by decide +kernel
theorem dX4_wants_7 : decode cX4_wants 7 = .ok (.invokevirtual 78, 3) := by decide +kernel
theorem dX4_wants_10 : decode cX4_wants 10 = .ok (.ifCond .eq 27, 3) := by decide +kernel
theorem dX4_wants_13 : decode cX4_wants 13 = .ok (.iload_n 2, 1) := by decide +kernel
theorem dX4_wants_14 : decode cX4_wants 14 = .ok (.iconst 0, 1) := by decide +kernel
theorem dX4_wants_15 : decode cX4_wants 15 = .ok (.bipush 7, 2) := by decide +kernel
theorem dX4_wants_17 : decode cX4_wants 17 = .ok (.invokestatic 62, 3) := by decide +kernel
theorem dX4_wants_20 : decode cX4_wants 20 = .ok (.ifCond .eq 17, 3) := by decide +kernel
theorem dX4_wants_23 : decode cX4_wants 23 = .ok (.aload_n 0, 1) := by decide +kernel
theorem dX4_wants_24 : decode cX4_wants 24 = .ok (.getfield 37, 3) := by decide +kernel
theorem dX4_wants_27 : decode cX4_wants 27 = .ok (.iload_n 1, 1) := by decide +kernel
theorem dX4_wants_28 : decode cX4_wants 28 = .ok (.iaload, 1) := by decide +kernel
theorem dX4_wants_29 : decode cX4_wants 29 = .ok (.iload_n 2, 1) := by decide +kernel
theorem dX4_wants_30 : decode cX4_wants 30 = .ok (.invokestatic 74, 3) := by decide +kernel
theorem dX4_wants_33 : decode cX4_wants 33 = .ok (.iload_n 3, 1) := by decide +kernel
theorem dX4_wants_34 : decode cX4_wants 34 = .ok (.if_icmp .ne 5, 3) := by decide +kernel
theorem dX4_wants_37 : decode cX4_wants 37 = .ok (.iconst 0, 1) := by decide +kernel
theorem dX4_wants_38 : decode cX4_wants 38 = .ok (.ireturn, 1) := by decide +kernel
theorem dX4_wants_39 : decode cX4_wants 39 = .ok (.aload_n 0, 1) := by decide +kernel
theorem dX4_wants_40 : decode cX4_wants 40 = .ok (.getfield 37, 3) := by decide +kernel
theorem dX4_wants_43 : decode cX4_wants 43 = .ok (.iload_n 1, 1) := by decide +kernel
theorem dX4_wants_44 : decode cX4_wants 44 = .ok (.dup2, 1) := by decide +kernel
theorem dX4_wants_45 : decode cX4_wants 45 = .ok (.iaload, 1) := by decide +kernel
theorem dX4_wants_46 : decode cX4_wants 46 = .ok (.iload_n 3, 1) := by decide +kernel
theorem dX4_wants_47 : decode cX4_wants 47 = .ok (.ifCond .eq 9, 3) := by decide +kernel
theorem dX4_wants_50 : decode cX4_wants 50 = .ok (.iconst 1, 1) := by decide +kernel
theorem dX4_wants_51 : decode cX4_wants 51 = .ok (.iload_n 2, 1) := by decide +kernel
theorem dX4_wants_52 : decode cX4_wants 52 = .ok (.ishl, 1) := by decide +kernel
theorem dX4_wants_53 : decode cX4_wants 53 = .ok (.goto 7, 3) := by decide +kernel
theorem dX4_wants_56 : decode cX4_wants 56 = .ok (.iconst 1, 1) := by decide +kernel
theorem dX4_wants_57 : decode cX4_wants 57 = .ok (.iload_n 2, 1) := by decide +kernel
theorem dX4_wants_58 : decode cX4_wants 58 = .ok (.ishl, 1) := by decide +kernel
theorem dX4_wants_59 : decode cX4_wants 59 = .ok (.ineg, 1) := by decide +kernel
theorem dX4_wants_60 : decode cX4_wants 60 = .ok (.iadd, 1) := by decide +kernel
theorem dX4_wants_61 : decode cX4_wants 61 = .ok (.iastore, 1) := by decide +kernel
theorem dX4_wants_62 : decode cX4_wants 62 = .ok (.aload_n 0, 1) := by decide +kernel
theorem dX4_wants_63 : decode cX4_wants 63 = .ok (.iconst 0, 1) := by decide +kernel
theorem dX4_wants_64 : decode cX4_wants 64 = .ok (.putfield 66, 3) := by decide +kernel
theorem dX4_wants_67 : decode cX4_wants 67 = .ok (.iconst 1, 1) := by decide +kernel
theorem dX4_wants_68 : decode cX4_wants 68 = .ok (.ireturn, 1) := by decide +kernel
set_option maxRecDepth 20000 in
theorem ggX4_tide_X4_in : GoodIn wsX4_tide wsX4_in := goodIn_r _ [9] (by decide +kernel) (by decide +kernel)
set_option maxRecDepth 20000 in
theorem gX4_tide_X4_in : GoodIn wsX4_tide (va_wsS RX4 62 yX4_in wsX4_in) := goodIn_app (goodIn_of _ (by decide +kernel)) ggX4_tide_X4_in
theorem dX4_tide_0 : decode cX4_tide 0 = .ok (.aload_n 0, 1) := by decide +kernel
theorem dX4_tide_1 : decode cX4_tide 1 = .ok (.iconst 0, 1) := by decide +kernel
theorem dX4_tide_2 : decode cX4_tide 2 = .ok (.putfield 56, 3) := by decide +kernel
theorem dX4_tide_5 : decode cX4_tide 5 = .ok (.iload_n 1, 1) := by decide +kernel
theorem dX4_tide_6 : decode cX4_tide 6 = .ok (.iconst 0, 1) := by decide +kernel
theorem dX4_tide_7 : decode cX4_tide 7 = .ok (.bipush 39, 2) := by decide +kernel
theorem dX4_tide_9 : decode cX4_tide 9 = .ok (.invokestatic 62, 3) := by decide +kernel
theorem dX4_tide_12 : decode cX4_tide 12 = .ok (.ifCond .eq 22, 3) := by decide +kernel
theorem dX4_tide_15 : decode cX4_tide 15 = .ok (.iload_n 2, 1) := by decide +kernel
theorem dX4_tide_16 : decode cX4_tide 16 = .ok (.iload_n 1, 1) := by decide +kernel
theorem dX4_tide_17 : decode cX4_tide 17 = .ok (.bipush 39, 2) := by decide +kernel
theorem dX4_tide_19 : decode cX4_tide 19 = .ok (.invokestatic 62, 3) := by decide +kernel
theorem dX4_tide_22 : decode cX4_tide 22 = .ok (.ifCond .eq 12, 3) := by decide +kernel
theorem dX4_tide_25 : decode cX4_tide 25 = .ok (.aload_n 0, 1) := by decide +kernel
theorem dX4_tide_26 : decode cX4_tide 26 = .ok (.getfield 81, 3) := by decide +kernel
theorem dX4_tide_29 : decode cX4_tide 29 = .ok (.bipush 8, 2) := by decide +kernel
theorem dX4_tide_31 : decode cX4_tide 31 = .ok (.if_icmp .ne 5, 3) := by decide +kernel
theorem dX4_tide_34 : decode cX4_tide 34 = .ok (.iconst 0, 1) := by decide +kernel
theorem dX4_tide_35 : decode cX4_tide 35 = .ok (.ireturn, 1) := by decide +kernel
theorem dX4_tide_36 : decode cX4_tide 36 = .ok (.aload_n 0, 1) := by decide +kernel
theorem dX4_tide_37 : decode cX4_tide 37 = .ok (.getfield 16, 3) := by decide +kernel
theorem dX4_tide_40 : decode cX4_tide 40 = .ok (.aload_n 0, 1) := by decide +kernel
theorem dX4_tide_41 : decode cX4_tide 41 = .ok (.getfield 81, 3) := by decide +kernel
theorem dX4_tide_44 : decode cX4_tide 44 = .ok (.iload_n 1, 1) := by decide +kernel
theorem dX4_tide_45 : decode cX4_tide 45 = .ok (.iastore, 1) := by decide +kernel
theorem dX4_tide_46 : decode cX4_tide 46 = .ok (.aload_n 0, 1) := by decide +kernel
theorem dX4_tide_47 : decode cX4_tide 47 = .ok (.getfield 19, 3) := by decide +kernel
theorem dX4_tide_50 : decode cX4_tide 50 = .ok (.aload_n 0, 1) := by decide +kernel
theorem dX4_tide_51 : decode cX4_tide 51 = .ok (.getfield 81, 3) := by decide +kernel
theorem dX4_tide_54 : decode cX4_tide 54 = .ok (.iload_n 2, 1) := by decide +kernel
theorem dX4_tide_55 : decode cX4_tide 55 = .ok (.iastore, 1) := by decide +kernel
theorem dX4_tide_56 : decode cX4_tide 56 = .ok (.aload_n 0, 1) := by decide +kernel
theorem dX4_tide_57 : decode cX4_tide 57 = .ok (.dup, 1) := by decide +kernel
theorem dX4_tide_58 : decode cX4_tide 58 = .ok (.getfield 81, 3) := by decide +kernel
theorem dX4_tide_61 : decode cX4_tide 61 = .ok (.iconst 1, 1) := by decide +kernel
theorem dX4_tide_62 : decode cX4_tide 62 = .ok (.iadd, 1) := by decide +kernel
theorem dX4_tide_63 : decode cX4_tide 63 = .ok (.putfield 81, 3) := by decide +kernel
theorem dX4_tide_66 : decode cX4_tide 66 = .ok (.aload_n 0, 1) := by decide +kernel
theorem dX4_tide_67 : decode cX4_tide 67 = .ok (.iconst 0, 1) := by decide +kernel
theorem dX4_tide_68 : decode cX4_tide 68 = .ok (.putfield 66, 3) := by decide +kernel
theorem dX4_tide_71 : decode cX4_tide 71 = .ok (.iconst 1, 1) := by decide +kernel
theorem dX4_tide_72 : decode cX4_tide 72 = .ok (.ireturn, 1) := by decide +kernel
theorem dX4_meet_0 : decode cX4_meet 0 = .ok (.iload_n 2, 1) := by decide +kernel
theorem dX4_meet_1 : decode cX4_meet 1 = .ok (.bipush 6, 2) := by decide +kernel
theorem dX4_meet_3 : decode cX4_meet 3 = .ok (.irem, 1) := by decide +kernel
theorem dX4_meet_4 : decode cX4_meet 4 = .ok (.iload 4, 2) := by decide +kernel
theorem dX4_meet_6 : decode cX4_meet 6 = .ok (.bipush 6, 2) := by decide +kernel
theorem dX4_meet_8 : decode cX4_meet 8 = .ok (.irem, 1) := by decide +kernel
theorem dX4_meet_9 : decode cX4_meet 9 = .ok (.aload_n 0, 1) := by decide +kernel
theorem dX4_meet_10 : decode cX4_meet 10 = .ok (.getfield 22, 3) := by decide +kernel
theorem dX4_meet_13 : decode cX4_meet 13 = .ok (.iload_n 3, 1) := by decide +kernel
theorem dX4_meet_14 : decode cX4_meet 14 = .ok (.iaload, 1) := by decide +kernel
theorem dX4_meet_15 : decode cX4_meet 15 = .ok (.iadd, 1) := by decide +kernel
theorem dX4_meet_16 : decode cX4_meet 16 = .ok (.if_icmp .ge 26, 3) := by decide +kernel
theorem dX4_meet_19 : decode cX4_meet 19 = .ok (.iload 4, 2) := by decide +kernel
theorem dX4_meet_21 : decode cX4_meet 21 = .ok (.bipush 6, 2) := by decide +kernel
theorem dX4_meet_23 : decode cX4_meet 23 = .ok (.irem, 1) := by decide +kernel
theorem dX4_meet_24 : decode cX4_meet 24 = .ok (.iload_n 2, 1) := by decide +kernel
theorem dX4_meet_25 : decode cX4_meet 25 = .ok (.bipush 6, 2) := by decide +kernel
theorem dX4_meet_27 : decode cX4_meet 27 = .ok (.irem, 1) := by decide +kernel
theorem dX4_meet_28 : decode cX4_meet 28 = .ok (.aload_n 0, 1) := by decide +kernel
theorem dX4_meet_29 : decode cX4_meet 29 = .ok (.getfield 22, 3) := by decide +kernel
theorem dX4_meet_32 : decode cX4_meet 32 = .ok (.iload_n 1, 1) := by decide +kernel
theorem dX4_meet_33 : decode cX4_meet 33 = .ok (.iaload, 1) := by decide +kernel
theorem dX4_meet_34 : decode cX4_meet 34 = .ok (.iadd, 1) := by decide +kernel
theorem dX4_meet_35 : decode cX4_meet 35 = .ok (.if_icmp .ge 7, 3) := by decide +kernel
theorem dX4_meet_38 : decode cX4_meet 38 = .ok (.iconst 1, 1) := by decide +kernel
theorem dX4_meet_39 : decode cX4_meet 39 = .ok (.goto 4, 3) := by decide +kernel
theorem dX4_meet_42 : decode cX4_meet 42 = .ok (.iconst 0, 1) := by decide +kernel
theorem dX4_meet_43 : decode cX4_meet 43 = .ok (.istore 5, 2) := by decide +kernel
theorem dX4_meet_45 : decode cX4_meet 45 = .ok (.iload 5, 2) := by decide +kernel
theorem dX4_meet_47 : decode cX4_meet 47 = .ok (.ifCond .eq 45, 3) := by decide +kernel
theorem dX4_meet_50 : decode cX4_meet 50 = .ok (.iload_n 2, 1) := by decide +kernel
theorem dX4_meet_51 : decode cX4_meet 51 = .ok (.bipush 6, 2) := by decide +kernel
theorem dX4_meet_53 : decode cX4_meet 53 = .ok (.idiv, 1) := by decide +kernel
theorem dX4_meet_54 : decode cX4_meet 54 = .ok (.iload 4, 2) := by decide +kernel
theorem dX4_meet_56 : decode cX4_meet 56 = .ok (.bipush 6, 2) := by decide +kernel
theorem dX4_meet_58 : decode cX4_meet 58 = .ok (.idiv, 1) := by decide +kernel
theorem dX4_meet_59 : decode cX4_meet 59 = .ok (.aload_n 0, 1) := by decide +kernel
theorem dX4_meet_60 : decode cX4_meet 60 = .ok (.getfield 28, 3) := by decide +kernel
theorem dX4_meet_63 : decode cX4_meet 63 = .ok (.iload_n 3, 1) := by decide +kernel
theorem dX4_meet_64 : decode cX4_meet 64 = .ok (.iaload, 1) := by decide +kernel
theorem dX4_meet_65 : decode cX4_meet 65 = .ok (.iadd, 1) := by decide +kernel
theorem dX4_meet_66 : decode cX4_meet 66 = .ok (.if_icmp .ge 26, 3) := by decide +kernel
theorem dX4_meet_69 : decode cX4_meet 69 = .ok (.iload 4, 2) := by decide +kernel
theorem dX4_meet_71 : decode cX4_meet 71 = .ok (.bipush 6, 2) := by decide +kernel
theorem dX4_meet_73 : decode cX4_meet 73 = .ok (.idiv, 1) := by decide +kernel
theorem dX4_meet_74 : decode cX4_meet 74 = .ok (.iload_n 2, 1) := by decide +kernel
theorem dX4_meet_75 : decode cX4_meet 75 = .ok (.bipush 6, 2) := by decide +kernel
theorem dX4_meet_77 : decode cX4_meet 77 = .ok (.idiv, 1) := by decide +kernel
theorem dX4_meet_78 : decode cX4_meet 78 = .ok (.aload_n 0, 1) := by decide +kernel
theorem dX4_meet_79 : decode cX4_meet 79 = .ok (.getfield 28, 3) := by decide +kernel
theorem dX4_meet_82 : decode cX4_meet 82 = .ok (.iload_n 1, 1) := by decide +kernel
theorem dX4_meet_83 : decode cX4_meet 83 = .ok (.iaload, 1) := by decide +kernel
theorem dX4_meet_84 : decode cX4_meet 84 = .ok (.iadd, 1) := by decide +kernel
theorem dX4_meet_85 : decode cX4_meet 85 = .ok (.if_icmp .ge 7, 3) := by decide +kernel
theorem dX4_meet_88 : decode cX4_meet 88 = .ok (.iconst 1, 1) := by decide +kernel
theorem dX4_meet_89 : decode cX4_meet 89 = .ok (.goto 4, 3) := by decide +kernel
theorem dX4_meet_92 : decode cX4_meet 92 = .ok (.iconst 0, 1) := by decide +kernel
theorem dX4_meet_93 : decode cX4_meet 93 = .ok (.ireturn, 1) := by decide +kernel
set_option maxRecDepth 20000 in
theorem ggX4_fix_X4_isShip : GoodIn wsX4_fix wsX4_isShip := goodIn_r _ [11, 4, 24, 25, 26, 27, 28, 29, 30, 31, 32, 33, 34, 35, 36, 37, 38, 39, 40, 41, 42] (by decide +kernel) (by decide +kernel)
set_option maxRecDepth 20000 in
theorem gX4_fix_X4_isShip : GoodIn wsX4_fix (wsV RX4 78 RX4 yX4_isShip wsX4_isShip) := goodIn_app (goodIn_of _ (by decide +kernel)) ggX4_fix_X4_isShip
set_option maxRecDepth 20000 in
theorem ggX4_fix_X4_isPlace : GoodIn wsX4_fix wsX4_isPlace := goodIn_r _ [15, 3, 24, 25, 26, 27, 28, 29, 30, 31, 32, 33, 34, 35, 36, 37, 38, 39, 40, 41, 42] (by decide +kernel) (by decide +kernel)
set_option maxRecDepth 20000 in
theorem gX4_fix_X4_isPlace : GoodIn wsX4_fix (wsV RX4 70 RX4 yX4_isPlace wsX4_isPlace) := goodIn_app (goodIn_of _ (by decide +kernel)) ggX4_fix_X4_isPlace
set_option maxRecDepth 20000 in
theorem ggX4_fix_X4_in : GoodIn wsX4_fix wsX4_in := goodIn_r _ [18] (by decide +kernel) (by decide +kernel)
set_option maxRecDepth 20000 in
theorem gX4_fix_X4_in : GoodIn wsX4_fix (va_wsS RX4 62 yX4_in wsX4_in) := goodIn_app (goodIn_of _ (by decide +kernel)) ggX4_fix_X4_in
set_option maxRecDepth 20000 in
theorem ggX4_fix_X4_meet : GoodIn wsX4_fix wsX4_meet := goodIn_r _ [22, 2, 23, 24, 25, 26, 27, 28, 29, 30, 31, 32, 33, 34, 35, 36, 37, 38, 39, 40, 41, 42] (by decide +kernel) (by decide +kernel)
set_option maxRecDepth 20000 in
theorem gX4_fix_X4_meet : GoodIn wsX4_fix (wsV RX4 84 RX4 yX4_meet wsX4_meet) := goodIn_app (goodIn_of _ (by decide +kernel)) ggX4_fix_X4_meet
theorem dX4_fix_0 : decode cX4_fix 0 = .ok (.aload_n 0, 1) := by decide +kernel
theorem dX4_fix_1 : decode cX4_fix 1 = .ok (.iconst 0, 1) := by decide +kernel
theorem dX4_fix_2 : decode cX4_fix 2 = .ok (.putfield 56, 3) := by decide +kernel
theorem dX4_fix_5 : decode cX4_fix 5 = .ok (.aload_n 0, 1) := by decide +kernel
theorem dX4_fix_6 : decode cX4_fix 6 = .ok (.iload_n 1, 1) := by decide +kernel
theorem dX4_fix_7 : decode cX4_fix 7 = .ok (.invokevirtual 78, 3) := by decide +kernel
theorem dX4_fix_10 : decode cX4_fix 10 = .ok (.ifCond .eq 36, 3) := by decide +kernel
theorem dX4_fix_13 : decode cX4_fix 13 = .ok (.aload_n 0, 1) := by decide +kernel
theorem dX4_fix_14 : decode cX4_fix 14 = .ok (.iload_n 2, 1) := by decide +kernel
theorem dX4_fix_15 : decode cX4_fix 15 = .ok (.invokevirtual 70, 3) := by decide +kernel
theorem dX4_fix_18 : decode cX4_fix 18 = .ok (.ifCond .eq 28, 3) := by decide +kernel
theorem dX4_fix_21 : decode cX4_fix 21 = .ok (.iload_n 3, 1) := by decide +kernel
theorem dX4_fix_22 : decode cX4_fix 22 = .ok (.iconst 0, 1) := by decide +kernel
theorem dX4_fix_23 : decode cX4_fix 23 = .ok (.bipush 15, 2) := by decide +kernel
theorem dX4_fix_25 : decode cX4_fix 25 = .ok (.invokestatic 62, 3) := by decide +kernel
theorem dX4_fix_28 : decode cX4_fix 28 = .ok (.ifCond .eq 18, 3) := by decide +kernel
theorem dX4_fix_31 : decode cX4_fix 31 = .ok (.iload_n 2, 1) := by decide +kernel
theorem dX4_fix_32 : decode cX4_fix 32 = .ok (.aload_n 0, 1) := by decide +kernel
theorem dX4_fix_33 : decode cX4_fix 33 = .ok (.getfield 22, 3) := by decide +kernel
theorem dX4_fix_36 : decode cX4_fix 36 = .ok (.iload_n 1, 1) := by decide +kernel
theorem dX4_fix_37 : decode cX4_fix 37 = .ok (.iaload, 1) := by decide +kernel
theorem dX4_fix_38 : decode cX4_fix 38 = .ok (.iadd, 1) := by decide +kernel
theorem dX4_fix_39 : decode cX4_fix 39 = .ok (.aload_n 0, 1) := by decide +kernel
theorem dX4_fix_40 : decode cX4_fix 40 = .ok (.getfield 52, 3) := by decide +kernel
theorem dX4_fix_43 : decode cX4_fix 43 = .ok (.if_icmp .le 5, 3) := by decide +kernel
theorem dX4_fix_46 : decode cX4_fix 46 = .ok (.iconst 0, 1) := by decide +kernel
theorem dX4_fix_47 : decode cX4_fix 47 = .ok (.ireturn, 1) := by decide +kernel
theorem dX4_fix_48 : decode cX4_fix 48 = .ok (.iconst 0, 1) := by decide +kernel
theorem dX4_fix_49 : decode cX4_fix 49 = .ok (.istore 4, 2) := by decide +kernel
theorem dX4_fix_51 : decode cX4_fix 51 = .ok (.iload 4, 2) := by decide +kernel
theorem dX4_fix_53 : decode cX4_fix 53 = .ok (.aload_n 0, 1) := by decide +kernel
theorem dX4_fix_54 : decode cX4_fix 54 = .ok (.getfield 59, 3) := by decide +kernel
theorem dX4_fix_57 : decode cX4_fix 57 = .ok (.if_icmp .ge 50, 3) := by decide +kernel
theorem dX4_fix_60 : decode cX4_fix 60 = .ok (.iload 4, 2) := by decide +kernel
theorem dX4_fix_62 : decode cX4_fix 62 = .ok (.iload_n 1, 1) := by decide +kernel
theorem dX4_fix_63 : decode cX4_fix 63 = .ok (.if_icmp .eq 38, 3) := by decide +kernel
theorem dX4_fix_66 : decode cX4_fix 66 = .ok (.aload_n 0, 1) := by decide +kernel
theorem dX4_fix_67 : decode cX4_fix 67 = .ok (.getfield 40, 3) := by decide +kernel
theorem dX4_fix_70 : decode cX4_fix 70 = .ok (.iload 4, 2) := by decide +kernel
theorem dX4_fix_72 : decode cX4_fix 72 = .ok (.iaload, 1) := by decide +kernel
theorem dX4_fix_73 : decode cX4_fix 73 = .ok (.ifCond .lt 28, 3) := by decide +kernel
theorem dX4_fix_76 : decode cX4_fix 76 = .ok (.aload_n 0, 1) := by decide +kernel
theorem dX4_fix_77 : decode cX4_fix 77 = .ok (.iload_n 1, 1) := by decide +kernel
theorem dX4_fix_78 : decode cX4_fix 78 = .ok (.bipush 6, 2) := by decide +kernel
theorem dX4_fix_80 : decode cX4_fix 80 = .ok (.iload_n 3, 1) := by decide +kernel
theorem dX4_fix_81 : decode cX4_fix 81 = .ok (.imul, 1) := by decide +kernel
theorem dX4_fix_82 : decode cX4_fix 82 = .ok (.iload_n 2, 1) := by decide +kernel
theorem dX4_fix_83 : decode cX4_fix 83 = .ok (.iadd, 1) := by decide +kernel
theorem dX4_fix_84 : decode cX4_fix 84 = .ok (.iload 4, 2) := by decide +kernel
theorem dX4_fix_86 : decode cX4_fix 86 = .ok (.aload_n 0, 1) := by decide +kernel
theorem dX4_fix_87 : decode cX4_fix 87 = .ok (.getfield 40, 3) := by decide +kernel
theorem dX4_fix_90 : decode cX4_fix 90 = .ok (.iload 4, 2) := by decide +kernel
theorem dX4_fix_92 : decode cX4_fix 92 = .ok (.iaload, 1) := by decide +kernel
theorem dX4_fix_93 : decode cX4_fix 93 = .ok (.invokevirtual 84, 3) := by decide +kernel
theorem dX4_fix_96 : decode cX4_fix 96 = .ok (.ifCond .eq 5, 3) := by decide +kernel
theorem dX4_fix_99 : decode cX4_fix 99 = .ok (.iconst 0, 1) := by decide +kernel
theorem dX4_fix_100 : decode cX4_fix 100 = .ok (.ireturn, 1) := by decide +kernel
theorem dX4_fix_101 : decode cX4_fix 101 = .ok (.iinc 4 1, 3) := by decide +kernel
theorem dX4_fix_104 : decode cX4_fix 104 = .ok (.goto (-53), 3) := by decide +kernel
theorem dX4_fix_107 : decode cX4_fix 107 = .ok (.aload_n 0, 1) := by decide +kernel
theorem dX4_fix_108 : decode cX4_fix 108 = .ok (.getfield 40, 3) := by decide +kernel
theorem dX4_fix_111 : decode cX4_fix 111 = .ok (.iload_n 1, 1) := by decide +kernel
theorem dX4_fix_112 : decode cX4_fix 112 = .ok (.bipush 6, 2) := by decide +kernel
theorem dX4_fix_114 : decode cX4_fix 114 = .ok (.iload_n 3, 1) := by decide +kernel
theorem dX4_fix_115 : decode cX4_fix 115 = .ok (.imul, 1) := by decide +kernel
theorem dX4_fix_116 : decode cX4_fix 116 = .ok (.iload_n 2, 1) := by decide +kernel
theorem dX4_fix_117 : decode cX4_fix 117 = .ok (.iadd, 1) := by decide +kernel
theorem dX4_fix_118 : decode cX4_fix 118 = .ok (.iastore, 1) := by decide +kernel
theorem dX4_fix_119 : decode cX4_fix 119 = .ok (.aload_n 0, 1) := by decide +kernel
theorem dX4_fix_120 : decode cX4_fix 120 = .ok (.iconst 0, 1) := by decide +kernel
theorem dX4_fix_121 : decode cX4_fix 121 = .ok (.putfield 66, 3) := by decide +kernel
theorem dX4_fix_124 : decode cX4_fix 124 = .ok (.iconst 1, 1) := by decide +kernel
theorem dX4_fix_125 : decode cX4_fix 125 = .ok (.ireturn, 1) := by decide +kernel
set_option maxRecDepth 20000 in
theorem ggX4_free_X4_isShip : GoodIn wsX4_free wsX4_isShip := goodIn_r _ [8, 9, 10, 11, 12, 13, 14, 15, 16, 17, 18, 19, 20, 21, 22, 23, 24, 25, 26, 27, 28] (by decide +kernel) (by decide +kernel)
set_option maxRecDepth 20000 in
theorem gX4_free_X4_isShip : GoodIn wsX4_free (wsV RX4 78 RX4 yX4_isShip wsX4_isShip) := goodIn_app (goodIn_of _ (by decide +kernel)) ggX4_free_X4_isShip
theorem dX4_free_0 : decode cX4_free 0 = .ok (.aload_n 0, 1) := by decide +kernel
theorem dX4_free_1 : decode cX4_free 1 = .ok (.iconst 0, 1) := by decide +kernel
theorem dX4_free_2 : decode cX4_free 2 = .ok (.putfield 56, 3) := by decide +kernel
theorem dX4_free_5 : decode cX4_free 5 = .ok (.aload_n 0, 1) := by decide +kernel
theorem dX4_free_6 : decode cX4_free 6 = .ok (.iload_n 1, 1) := by decide +kernel
theorem dX4_free_7 : decode cX4_free 7 = .ok (.invokevirtual 78, 3) := by decide +kernel
theorem dX4_free_10 : decode cX4_free 10 = .ok (.ifCond .eq 12, 3) := by decide +kernel
theorem dX4_free_13 : decode cX4_free 13 = .ok (.aload_n 0, 1) := by decide +kernel
theorem dX4_free_14 : decode cX4_free 14 = .ok (.getfield 40, 3) := by decide +kernel
theorem dX4_free_17 : decode cX4_free 17 = .ok (.iload_n 1, 1) := by decide +kernel
theorem dX4_free_18 : decode cX4_free 18 = .ok (.iaload, 1) := by decide +kernel
theorem dX4_free_19 : decode cX4_free 19 = .ok (.ifCond .ge 5, 3) := by decide +kernel
theorem dX4_free_22 : decode cX4_free 22 = .ok (.iconst 0, 1) := by decide +kernel
theorem dX4_free_23 : decode cX4_free 23 = .ok (.ireturn, 1) := by decide +kernel
theorem dX4_free_24 : decode cX4_free 24 = .ok (.aload_n 0, 1) := by decide +kernel
theorem dX4_free_25 : decode cX4_free 25 = .ok (.getfield 40, 3) := by decide +kernel
theorem dX4_free_28 : decode cX4_free 28 = .ok (.iload_n 1, 1) := by decide +kernel
theorem dX4_free_29 : decode cX4_free 29 = .ok (.iconst (-1), 1) := by decide +kernel
theorem dX4_free_30 : decode cX4_free 30 = .ok (.iastore, 1) := by decide +kernel
theorem dX4_free_31 : decode cX4_free 31 = .ok (.aload_n 0, 1) := by decide +kernel
theorem dX4_free_32 : decode cX4_free 32 = .ok (.iconst 0, 1) := by decide +kernel
theorem dX4_free_33 : decode cX4_free 33 = .ok (.putfield 66, 3) := by decide +kernel
theorem dX4_free_36 : decode cX4_free 36 = .ok (.iconst 1, 1) := by decide +kernel
theorem dX4_free_37 : decode cX4_free 37 = .ok (.ireturn, 1) := by decide +kernel
theorem dX4_isDeep_0 : decode cX4_isDeep 0 = .ok (.iload_n 2, 1) := by decide +kernel
theorem dX4_isDeep_1 : decode cX4_isDeep 1 = .ok (.aload_n 0, 1) := by decide +kernel
theorem dX4_isDeep_2 : decode cX4_isDeep 2 = .ok (.getfield 22, 3) := by decide +kernel
theorem dX4_isDeep_5 : decode cX4_isDeep 5 = .ok (.iload_n 1, 1) := by decide +kernel
theorem dX4_isDeep_6 : decode cX4_isDeep 6 = .ok (.iaload, 1) := by decide +kernel
theorem dX4_isDeep_7 : decode cX4_isDeep 7 = .ok (.iadd, 1) := by decide +kernel
theorem dX4_isDeep_8 : decode cX4_isDeep 8 = .ok (.aload_n 0, 1) := by decide +kernel
theorem dX4_isDeep_9 : decode cX4_isDeep 9 = .ok (.getfield 52, 3) := by decide +kernel
theorem dX4_isDeep_12 : decode cX4_isDeep 12 = .ok (.if_icmp .gt 7, 3) := by decide +kernel
theorem dX4_isDeep_15 : decode cX4_isDeep 15 = .ok (.iconst 1, 1) := by decide +kernel
theorem dX4_isDeep_16 : decode cX4_isDeep 16 = .ok (.goto 4, 3) := by decide +kernel
theorem dX4_isDeep_19 : decode cX4_isDeep 19 = .ok (.iconst 0, 1) := by decide +kernel
theorem dX4_isDeep_20 : decode cX4_isDeep 20 = .ok (.istore_n 3, 1) := by decide +kernel
theorem dX4_isDeep_21 : decode cX4_isDeep 21 = .ok (.iload_n 2, 1) := by decide +kernel
theorem dX4_isDeep_22 : decode cX4_isDeep 22 = .ok (.istore 4, 2) := by decide +kernel
theorem dX4_isDeep_24 : decode cX4_isDeep 24 = .ok (.iload 4, 2) := by decide +kernel
theorem dX4_isDeep_26 : decode cX4_isDeep 26 = .ok (.iload_n 2, 1) := by decide +kernel
theorem dX4_isDeep_27 : decode cX4_isDeep 27 = .ok (.aload_n 0, 1) := by decide +kernel
theorem dX4_isDeep_28 : decode cX4_isDeep 28 = .ok (.getfield 22, 3) := by decide +kernel
theorem dX4_isDeep_31 : decode cX4_isDeep 31 = .ok (.iload_n 1, 1) := by decide +kernel
theorem dX4_isDeep_32 : decode cX4_isDeep 32 = .ok (.iaload, 1) := by decide +kernel
theorem dX4_isDeep_33 : decode cX4_isDeep 33 = .ok (.iadd, 1) := by decide +kernel
theorem dX4_isDeep_34 : decode cX4_isDeep 34 = .ok (.if_icmp .ge 35, 3) := by decide +kernel
theorem dX4_isDeep_37 : decode cX4_isDeep 37 = .ok (.iload_n 3, 1) := by decide +kernel
theorem dX4_isDeep_38 : decode cX4_isDeep 38 = .ok (.ifCond .eq 31, 3) := by decide +kernel
theorem dX4_isDeep_41 : decode cX4_isDeep 41 = .ok (.aload_n 0, 1) := by decide +kernel
theorem dX4_isDeep_42 : decode cX4_isDeep 42 = .ok (.getfield 7, 3) := by decide +kernel
theorem dX4_isDeep_45 : decode cX4_isDeep 45 = .ok (.iload 4, 2) := by decide +kernel
theorem dX4_isDeep_47 : decode cX4_isDeep 47 = .ok (.iaload, 1) := by decide +kernel
theorem dX4_isDeep_48 : decode cX4_isDeep 48 = .ok (.aload_n 0, 1) := by decide +kernel
theorem dX4_isDeep_49 : decode cX4_isDeep 49 = .ok (.getfield 25, 3) := by decide +kernel
theorem dX4_isDeep_52 : decode cX4_isDeep 52 = .ok (.iload_n 1, 1) := by decide +kernel
theorem dX4_isDeep_53 : decode cX4_isDeep 53 = .ok (.iaload, 1) := by decide +kernel
theorem dX4_isDeep_54 : decode cX4_isDeep 54 = .ok (.if_icmp .lt 7, 3) := by decide +kernel
theorem dX4_isDeep_57 : decode cX4_isDeep 57 = .ok (.iconst 1, 1) := by decide +kernel
theorem dX4_isDeep_58 : decode cX4_isDeep 58 = .ok (.goto 4, 3) := by decide +kernel
theorem dX4_isDeep_61 : decode cX4_isDeep 61 = .ok (.iconst 0, 1) := by decide +kernel
theorem dX4_isDeep_62 : decode cX4_isDeep 62 = .ok (.istore_n 3, 1) := by decide +kernel
theorem dX4_isDeep_63 : decode cX4_isDeep 63 = .ok (.iinc 4 1, 3) := by decide +kernel
theorem dX4_isDeep_66 : decode cX4_isDeep 66 = .ok (.goto (-42), 3) := by decide +kernel
theorem dX4_isDeep_69 : decode cX4_isDeep 69 = .ok (.iload_n 3, 1) := by decide +kernel
theorem dX4_isDeep_70 : decode cX4_isDeep 70 = .ok (.ireturn, 1) := by decide +kernel
theorem dX4_hasGear_0 : decode cX4_hasGear 0 = .ok (.iconst 0, 1) := by decide +kernel
theorem dX4_hasGear_1 : decode cX4_hasGear 1 = .ok (.istore_n 3, 1) := by decide +kernel
theorem dX4_hasGear_2 : decode cX4_hasGear 2 = .ok (.iload_n 2, 1) := by decide +kernel
theorem dX4_hasGear_3 : decode cX4_hasGear 3 = .ok (.istore 4, 2) := by decide +kernel
theorem dX4_hasGear_5 : decode cX4_hasGear 5 = .ok (.iload 4, 2) := by decide +kernel
theorem dX4_hasGear_7 : decode cX4_hasGear 7 = .ok (.iload_n 2, 1) := by decide +kernel
theorem dX4_hasGear_8 : decode cX4_hasGear 8 = .ok (.aload_n 0, 1) := by decide +kernel
theorem dX4_hasGear_9 : decode cX4_hasGear 9 = .ok (.getfield 22, 3) := by decide +kernel
theorem dX4_hasGear_12 : decode cX4_hasGear 12 = .ok (.iload_n 1, 1) := by decide +kernel
theorem dX4_hasGear_13 : decode cX4_hasGear 13 = .ok (.iaload, 1) := by decide +kernel
theorem dX4_hasGear_14 : decode cX4_hasGear 14 = .ok (.iadd, 1) := by decide +kernel
theorem dX4_hasGear_15 : decode cX4_hasGear 15 = .ok (.if_icmp .ge 28, 3) := by decide +kernel
theorem dX4_hasGear_18 : decode cX4_hasGear 18 = .ok (.iload 4, 2) := by decide +kernel
theorem dX4_hasGear_20 : decode cX4_hasGear 20 = .ok (.aload_n 0, 1) := by decide +kernel
theorem dX4_hasGear_21 : decode cX4_hasGear 21 = .ok (.getfield 52, 3) := by decide +kernel
theorem dX4_hasGear_24 : decode cX4_hasGear 24 = .ok (.if_icmp .ge 19, 3) := by decide +kernel
theorem dX4_hasGear_27 : decode cX4_hasGear 27 = .ok (.iload_n 3, 1) := by decide +kernel
theorem dX4_hasGear_28 : decode cX4_hasGear 28 = .ok (.aload_n 0, 1) := by decide +kernel
theorem dX4_hasGear_29 : decode cX4_hasGear 29 = .ok (.getfield 13, 3) := by decide +kernel
theorem dX4_hasGear_32 : decode cX4_hasGear 32 = .ok (.iload 4, 2) := by decide +kernel
theorem dX4_hasGear_34 : decode cX4_hasGear 34 = .ok (.iaload, 1) := by decide +kernel
theorem dX4_hasGear_35 : decode cX4_hasGear 35 = .ok (.ior, 1) := by decide +kernel
theorem dX4_hasGear_36 : decode cX4_hasGear 36 = .ok (.istore_n 3, 1) := by decide +kernel
theorem dX4_hasGear_37 : decode cX4_hasGear 37 = .ok (.iinc 4 1, 3) := by decide +kernel
theorem dX4_hasGear_40 : decode cX4_hasGear 40 = .ok (.goto (-35), 3) := by decide +kernel
theorem dX4_hasGear_43 : decode cX4_hasGear 43 = .ok (.aload_n 0, 1) := by decide +kernel
theorem dX4_hasGear_44 : decode cX4_hasGear 44 = .ok (.getfield 37, 3) := by decide +kernel
theorem dX4_hasGear_47 : decode cX4_hasGear 47 = .ok (.iload_n 1, 1) := by decide +kernel
theorem dX4_hasGear_48 : decode cX4_hasGear 48 = .ok (.iaload, 1) := by decide +kernel
theorem dX4_hasGear_49 : decode cX4_hasGear 49 = .ok (.iload_n 3, 1) := by decide +kernel
theorem dX4_hasGear_50 : decode cX4_hasGear 50 = .ok (.iand, 1) := by decide +kernel
theorem dX4_hasGear_51 : decode cX4_hasGear 51 = .ok (.aload_n 0, 1) := by decide +kernel
theorem dX4_hasGear_52 : decode cX4_hasGear 52 = .ok (.getfield 37, 3) := by decide +kernel
theorem dX4_hasGear_55 : decode cX4_hasGear 55 = .ok (.iload_n 1, 1) := by decide +kernel
theorem dX4_hasGear_56 : decode cX4_hasGear 56 = .ok (.iaload, 1) := by decide +kernel
theorem dX4_hasGear_57 : decode cX4_hasGear 57 = .ok (.if_icmp .ne 7, 3) := by decide +kernel
theorem dX4_hasGear_60 : decode cX4_hasGear 60 = .ok (.iconst 1, 1) := by decide +kernel
theorem dX4_hasGear_61 : decode cX4_hasGear 61 = .ok (.goto 4, 3) := by decide +kernel
theorem dX4_hasGear_64 : decode cX4_hasGear 64 = .ok (.iconst 0, 1) := by decide +kernel
theorem dX4_hasGear_65 : decode cX4_hasGear 65 = .ok (.ireturn, 1) := by decide +kernel
set_option maxRecDepth 20000 in
theorem ggX4_isTide_X4_in : GoodIn wsX4_isTide wsX4_in := goodIn_r _ [7] (by decide +kernel) (by decide +kernel)
set_option maxRecDepth 20000 in
theorem gX4_isTide_X4_in : GoodIn wsX4_isTide (va_wsS RX4 62 yX4_in wsX4_in) := goodIn_app (goodIn_of _ (by decide +kernel)) ggX4_isTide_X4_in
theorem dX4_isTide_0 : decode cX4_isTide 0 = .ok (.aload_n 0, 1) := by decide +kernel
theorem dX4_isTide_1 : decode cX4_isTide 1 = .ok (.getfield 81, 3) := by decide +kernel
theorem dX4_isTide_4 : decode cX4_isTide 4 = .ok (.ifCond .ne 7, 3) := by decide +kernel
theorem dX4_isTide_7 : decode cX4_isTide 7 = .ok (.iconst 1, 1) := by decide +kernel
theorem dX4_isTide_8 : decode cX4_isTide 8 = .ok (.goto 4, 3) := by decide +kernel
theorem dX4_isTide_11 : decode cX4_isTide 11 = .ok (.iconst 0, 1) := by decide +kernel
theorem dX4_isTide_12 : decode cX4_isTide 12 = .ok (.istore_n 2, 1) := by decide +kernel
theorem dX4_isTide_13 : decode cX4_isTide 13 = .ok (.iconst 0, 1) := by decide +kernel
theorem dX4_isTide_14 : decode cX4_isTide 14 = .ok (.istore_n 3, 1) := by decide +kernel
theorem dX4_isTide_15 : decode cX4_isTide 15 = .ok (.iload_n 3, 1) := by decide +kernel
theorem dX4_isTide_16 : decode cX4_isTide 16 = .ok (.aload_n 0, 1) := by decide +kernel
theorem dX4_isTide_17 : decode cX4_isTide 17 = .ok (.getfield 81, 3) := by decide +kernel
theorem dX4_isTide_20 : decode cX4_isTide 20 = .ok (.if_icmp .ge 38, 3) := by decide +kernel
theorem dX4_isTide_23 : decode cX4_isTide 23 = .ok (.iload_n 2, 1) := by decide +kernel
theorem dX4_isTide_24 : decode cX4_isTide 24 = .ok (.ifCond .ne 22, 3) := by decide +kernel
theorem dX4_isTide_27 : decode cX4_isTide 27 = .ok (.iload_n 1, 1) := by decide +kernel
theorem dX4_isTide_28 : decode cX4_isTide 28 = .ok (.aload_n 0, 1) := by decide +kernel
theorem dX4_isTide_29 : decode cX4_isTide 29 = .ok (.getfield 16, 3) := by decide +kernel
theorem dX4_isTide_32 : decode cX4_isTide 32 = .ok (.iload_n 3, 1) := by decide +kernel
theorem dX4_isTide_33 : decode cX4_isTide 33 = .ok (.iaload, 1) := by decide +kernel
theorem dX4_isTide_34 : decode cX4_isTide 34 = .ok (.aload_n 0, 1) := by decide +kernel
theorem dX4_isTide_35 : decode cX4_isTide 35 = .ok (.getfield 19, 3) := by decide +kernel
theorem dX4_isTide_38 : decode cX4_isTide 38 = .ok (.iload_n 3, 1) := by decide +kernel
theorem dX4_isTide_39 : decode cX4_isTide 39 = .ok (.iaload, 1) := by decide +kernel
theorem dX4_isTide_40 : decode cX4_isTide 40 = .ok (.invokestatic 62, 3) := by decide +kernel
theorem dX4_isTide_43 : decode cX4_isTide 43 = .ok (.ifCond .eq 7, 3) := by decide +kernel
theorem dX4_isTide_46 : decode cX4_isTide 46 = .ok (.iconst 1, 1) := by decide +kernel
theorem dX4_isTide_47 : decode cX4_isTide 47 = .ok (.goto 4, 3) := by decide +kernel
theorem dX4_isTide_50 : decode cX4_isTide 50 = .ok (.iconst 0, 1) := by decide +kernel
theorem dX4_isTide_51 : decode cX4_isTide 51 = .ok (.istore_n 2, 1) := by decide +kernel
theorem dX4_isTide_52 : decode cX4_isTide 52 = .ok (.iinc 3 1, 3) := by decide +kernel
theorem dX4_isTide_55 : decode cX4_isTide 55 = .ok (.goto (-40), 3) := by decide +kernel
theorem dX4_isTide_58 : decode cX4_isTide 58 = .ok (.iload_n 2, 1) := by decide +kernel
theorem dX4_isTide_59 : decode cX4_isTide 59 = .ok (.ireturn, 1) := by decide +kernel
set_option maxRecDepth 20000 in
theorem ggX4_mayBe_X4_isTide : GoodIn wsX4_mayBe wsX4_isTide := goodIn_r _ [8, 9, 10, 11, 12, 13, 7, 14, 28, 29, 30, 31, 32, 33, 34, 35, 36, 37, 38, 39, 40, 41, 42, 43, 44, 45, 46] (by decide +kernel) (by decide +kernel)
set_option maxRecDepth 20000 in
theorem gX4_mayBe_X4_isTide : GoodIn wsX4_mayBe (wsV RX4 88 RX4 yX4_isTide wsX4_isTide) := goodIn_app (goodIn_of _ (by decide +kernel)) ggX4_mayBe_X4_isTide
set_option maxRecDepth 20000 in
theorem ggX4_mayBe_X4_isDeep : GoodIn wsX4_mayBe wsX4_isDeep := goodIn_r _ [18, 19, 2, 20, 21, 28, 29, 30, 31, 32, 33, 34, 35, 36, 37, 38, 39, 40, 41, 42, 43, 44, 45, 46] (by decide +kernel) (by decide +kernel)
set_option maxRecDepth 20000 in
theorem gX4_mayBe_X4_isDeep : GoodIn wsX4_mayBe (wsV RX4 91 RX4 yX4_isDeep wsX4_isDeep) := goodIn_app (goodIn_of _ (by decide +kernel)) ggX4_mayBe_X4_isDeep
set_option maxRecDepth 20000 in
theorem ggX4_mayBe_X4_hasGear : GoodIn wsX4_mayBe wsX4_hasGear := goodIn_r _ [25, 19, 2, 26, 27, 28, 29, 30, 31, 32, 33, 34, 35, 36, 37, 38, 39, 40, 41, 42, 43, 44, 45, 46] (by decide +kernel) (by decide +kernel)
set_option maxRecDepth 20000 in
theorem gX4_mayBe_X4_hasGear : GoodIn wsX4_mayBe (wsV RX4 94 RX4 yX4_hasGear wsX4_hasGear) := goodIn_app (goodIn_of _ (by decide +kernel)) ggX4_mayBe_X4_hasGear
theorem dX4_mayBe_0 : decode cX4_mayBe 0 = .ok (.aload_n 0, 1) := by decide +kernel
theorem dX4_mayBe_1 : decode cX4_mayBe 1 = .ok (.getfield 40, 3) := by decide +kernel
theorem dX4_mayBe_4 : decode cX4_mayBe 4 = .ok (.iload_n 1, 1) := by decide +kernel
theorem dX4_mayBe_5 : decode cX4_mayBe 5 = .ok (.iaload, 1) := by decide +kernel
theorem dX4_mayBe_6 : decode cX4_mayBe 6 = .ok (.ifCond .lt 19, 3) := by decide +kernel
theorem dX4_mayBe_9 : decode cX4_mayBe 9 = .ok (.iload_n 2, 1) := by decide +kernel
theorem dX4_mayBe_10 : decode cX4_mayBe 10 = .ok (.aload_n 0, 1) := by decide +kernel
theorem dX4_mayBe_11 : decode cX4_mayBe 11 = .ok (.getfield 40, 3) := by decide +kernel
theorem dX4_mayBe_14 : decode cX4_mayBe 14 = .ok (.iload_n 1, 1) := by decide +kernel
theorem dX4_mayBe_15 : decode cX4_mayBe 15 = .ok (.iaload, 1) := by decide +kernel
theorem dX4_mayBe_16 : decode cX4_mayBe 16 = .ok (.if_icmp .ne 7, 3) := by decide +kernel
theorem dX4_mayBe_19 : decode cX4_mayBe 19 = .ok (.iconst 1, 1) := by decide +kernel
theorem dX4_mayBe_20 : decode cX4_mayBe 20 = .ok (.goto 4, 3) := by decide +kernel
theorem dX4_mayBe_23 : decode cX4_mayBe 23 = .ok (.iconst 0, 1) := by decide +kernel
theorem dX4_mayBe_24 : decode cX4_mayBe 24 = .ok (.ireturn, 1) := by decide +kernel
theorem dX4_mayBe_25 : decode cX4_mayBe 25 = .ok (.iload_n 2, 1) := by decide +kernel
theorem dX4_mayBe_26 : decode cX4_mayBe 26 = .ok (.bipush 6, 2) := by decide +kernel
theorem dX4_mayBe_28 : decode cX4_mayBe 28 = .ok (.irem, 1) := by decide +kernel
theorem dX4_mayBe_29 : decode cX4_mayBe 29 = .ok (.aload_n 0, 1) := by decide +kernel
theorem dX4_mayBe_30 : decode cX4_mayBe 30 = .ok (.getfield 52, 3) := by decide +kernel
theorem dX4_mayBe_33 : decode cX4_mayBe 33 = .ok (.if_icmp .ge 55, 3) := by decide +kernel
theorem dX4_mayBe_36 : decode cX4_mayBe 36 = .ok (.iload_n 2, 1) := by decide +kernel
theorem dX4_mayBe_37 : decode cX4_mayBe 37 = .ok (.bipush 6, 2) := by decide +kernel
theorem dX4_mayBe_39 : decode cX4_mayBe 39 = .ok (.idiv, 1) := by decide +kernel
theorem dX4_mayBe_40 : decode cX4_mayBe 40 = .ok (.aload_n 0, 1) := by decide +kernel
theorem dX4_mayBe_41 : decode cX4_mayBe 41 = .ok (.getfield 31, 3) := by decide +kernel
theorem dX4_mayBe_44 : decode cX4_mayBe 44 = .ok (.iload_n 1, 1) := by decide +kernel
theorem dX4_mayBe_45 : decode cX4_mayBe 45 = .ok (.iaload, 1) := by decide +kernel
theorem dX4_mayBe_46 : decode cX4_mayBe 46 = .ok (.if_icmp .lt 42, 3) := by decide +kernel
theorem dX4_mayBe_49 : decode cX4_mayBe 49 = .ok (.aload_n 0, 1) := by decide +kernel
theorem dX4_mayBe_50 : decode cX4_mayBe 50 = .ok (.iload_n 2, 1) := by decide +kernel
theorem dX4_mayBe_51 : decode cX4_mayBe 51 = .ok (.bipush 6, 2) := by decide +kernel
theorem dX4_mayBe_53 : decode cX4_mayBe 53 = .ok (.idiv, 1) := by decide +kernel
theorem dX4_mayBe_54 : decode cX4_mayBe 54 = .ok (.invokevirtual 88, 3) := by decide +kernel
theorem dX4_mayBe_57 : decode cX4_mayBe 57 = .ok (.ifCond .eq 31, 3) := by decide +kernel
theorem dX4_mayBe_60 : decode cX4_mayBe 60 = .ok (.aload_n 0, 1) := by decide +kernel
theorem dX4_mayBe_61 : decode cX4_mayBe 61 = .ok (.iload_n 1, 1) := by decide +kernel
theorem dX4_mayBe_62 : decode cX4_mayBe 62 = .ok (.iload_n 2, 1) := by decide +kernel
theorem dX4_mayBe_63 : decode cX4_mayBe 63 = .ok (.bipush 6, 2) := by decide +kernel
theorem dX4_mayBe_65 : decode cX4_mayBe 65 = .ok (.irem, 1) := by decide +kernel
theorem dX4_mayBe_66 : decode cX4_mayBe 66 = .ok (.invokevirtual 91, 3) := by decide +kernel
theorem dX4_mayBe_69 : decode cX4_mayBe 69 = .ok (.ifCond .eq 19, 3) := by decide +kernel
theorem dX4_mayBe_72 : decode cX4_mayBe 72 = .ok (.aload_n 0, 1) := by decide +kernel
theorem dX4_mayBe_73 : decode cX4_mayBe 73 = .ok (.iload_n 1, 1) := by decide +kernel
theorem dX4_mayBe_74 : decode cX4_mayBe 74 = .ok (.iload_n 2, 1) := by decide +kernel
theorem dX4_mayBe_75 : decode cX4_mayBe 75 = .ok (.bipush 6, 2) := by decide +kernel
theorem dX4_mayBe_77 : decode cX4_mayBe 77 = .ok (.irem, 1) := by decide +kernel
theorem dX4_mayBe_78 : decode cX4_mayBe 78 = .ok (.invokevirtual 94, 3) := by decide +kernel
theorem dX4_mayBe_81 : decode cX4_mayBe 81 = .ok (.ifCond .eq 7, 3) := by decide +kernel
theorem dX4_mayBe_84 : decode cX4_mayBe 84 = .ok (.iconst 1, 1) := by decide +kernel
theorem dX4_mayBe_85 : decode cX4_mayBe 85 = .ok (.goto 4, 3) := by decide +kernel
theorem dX4_mayBe_88 : decode cX4_mayBe 88 = .ok (.iconst 0, 1) := by decide +kernel
theorem dX4_mayBe_89 : decode cX4_mayBe 89 = .ok (.ireturn, 1) := by decide +kernel
theorem dX4_cost_0 : decode cX4_cost 0 = .ok (.aload_n 0, 1) := by decide +kernel
theorem dX4_cost_1 : decode cX4_cost 1 = .ok (.getfield 34, 3) := by decide +kernel
theorem dX4_cost_4 : decode cX4_cost 4 = .ok (.iload_n 1, 1) := by decide +kernel
theorem dX4_cost_5 : decode cX4_cost 5 = .ok (.iaload, 1) := by decide +kernel
theorem dX4_cost_6 : decode cX4_cost 6 = .ok (.iload_n 2, 1) := by decide +kernel
theorem dX4_cost_7 : decode cX4_cost 7 = .ok (.bipush 6, 2) := by decide +kernel
theorem dX4_cost_9 : decode cX4_cost 9 = .ok (.idiv, 1) := by decide +kernel
theorem dX4_cost_10 : decode cX4_cost 10 = .ok (.aload_n 0, 1) := by decide +kernel
theorem dX4_cost_11 : decode cX4_cost 11 = .ok (.getfield 31, 3) := by decide +kernel
theorem dX4_cost_14 : decode cX4_cost 14 = .ok (.iload_n 1, 1) := by decide +kernel
theorem dX4_cost_15 : decode cX4_cost 15 = .ok (.iaload, 1) := by decide +kernel
theorem dX4_cost_16 : decode cX4_cost 16 = .ok (.isub, 1) := by decide +kernel
theorem dX4_cost_17 : decode cX4_cost 17 = .ok (.imul, 1) := by decide +kernel
theorem dX4_cost_18 : decode cX4_cost 18 = .ok (.ireturn, 1) := by decide +kernel
set_option maxRecDepth 20000 in
theorem ggX4_leastOf_X4_mayBe : GoodIn wsX4_leastOf wsX4_mayBe := goodIn_r _ [6, 7, 8, 9, 10, 11, 12, 5, 13, 14, 15, 16, 17, 18, 19, 20, 21, 22, 23, 24, 25, 26, 27, 28, 29, 30, 31, 32, 38, 39, 40, 41, 42, 43, 44, 45, 46, 47, 48, 49, 50, 51, 52, 53, 54, 55, 56] (by decide +kernel) (by decide +kernel)
set_option maxRecDepth 20000 in
theorem gX4_leastOf_X4_mayBe : GoodIn wsX4_leastOf (wsV RX4 98 RX4 yX4_mayBe wsX4_mayBe) := goodIn_app (goodIn_of _ (by decide +kernel)) ggX4_leastOf_X4_mayBe
set_option maxRecDepth 20000 in
theorem ggX4_leastOf_X4_cost : GoodIn wsX4_leastOf wsX4_cost := goodIn_r _ [36, 37, 9, 38, 39, 40, 41, 42, 43, 44, 45, 46, 47, 48, 49, 50, 51, 52, 53, 54, 55, 56] (by decide +kernel) (by decide +kernel)
set_option maxRecDepth 20000 in
theorem gX4_leastOf_X4_cost : GoodIn wsX4_leastOf (wsV RX4 101 RX4 yX4_cost wsX4_cost) := goodIn_app (goodIn_of _ (by decide +kernel)) ggX4_leastOf_X4_cost
theorem dX4_leastOf_0 : decode cX4_leastOf 0 = .ok (.ldc 97, 2) := by decide +kernel
theorem dX4_leastOf_2 : decode cX4_leastOf 2 = .ok (.istore_n 2, 1) := by decide +kernel
theorem dX4_leastOf_3 : decode cX4_leastOf 3 = .ok (.iconst 0, 1) := by decide +kernel
theorem dX4_leastOf_4 : decode cX4_leastOf 4 = .ok (.istore_n 3, 1) := by decide +kernel
theorem dX4_leastOf_5 : decode cX4_leastOf 5 = .ok (.iload_n 3, 1) := by decide +kernel
theorem dX4_leastOf_6 : decode cX4_leastOf 6 = .ok (.bipush 96, 2) := by decide +kernel
theorem dX4_leastOf_8 : decode cX4_leastOf 8 = .ok (.if_icmp .ge 39, 3) := by decide +kernel
theorem dX4_leastOf_11 : decode cX4_leastOf 11 = .ok (.aload_n 0, 1) := by decide +kernel
theorem dX4_leastOf_12 : decode cX4_leastOf 12 = .ok (.iload_n 1, 1) := by decide +kernel
theorem dX4_leastOf_13 : decode cX4_leastOf 13 = .ok (.iload_n 3, 1) := by decide +kernel
theorem dX4_leastOf_14 : decode cX4_leastOf 14 = .ok (.invokevirtual 98, 3) := by decide +kernel
theorem dX4_leastOf_17 : decode cX4_leastOf 17 = .ok (.ifCond .eq 22, 3) := by decide +kernel
theorem dX4_leastOf_20 : decode cX4_leastOf 20 = .ok (.aload_n 0, 1) := by decide +kernel
theorem dX4_leastOf_21 : decode cX4_leastOf 21 = .ok (.iload_n 1, 1) := by decide +kernel
theorem dX4_leastOf_22 : decode cX4_leastOf 22 = .ok (.iload_n 3, 1) := by decide +kernel
theorem dX4_leastOf_23 : decode cX4_leastOf 23 = .ok (.invokevirtual 101, 3) := by decide +kernel
theorem dX4_leastOf_26 : decode cX4_leastOf 26 = .ok (.iload_n 2, 1) := by decide +kernel
theorem dX4_leastOf_27 : decode cX4_leastOf 27 = .ok (.if_icmp .ge 12, 3) := by decide +kernel
theorem dX4_leastOf_30 : decode cX4_leastOf 30 = .ok (.aload_n 0, 1) := by decide +kernel
theorem dX4_leastOf_31 : decode cX4_leastOf 31 = .ok (.iload_n 1, 1) := by decide +kernel
theorem dX4_leastOf_32 : decode cX4_leastOf 32 = .ok (.iload_n 3, 1) := by decide +kernel
theorem dX4_leastOf_33 : decode cX4_leastOf 33 = .ok (.invokevirtual 101, 3) := by decide +kernel
theorem dX4_leastOf_36 : decode cX4_leastOf 36 = .ok (.goto 4, 3) := by decide +kernel
theorem dX4_leastOf_39 : decode cX4_leastOf 39 = .ok (.iload_n 2, 1) := by decide +kernel
theorem dX4_leastOf_40 : decode cX4_leastOf 40 = .ok (.istore_n 2, 1) := by decide +kernel
theorem dX4_leastOf_41 : decode cX4_leastOf 41 = .ok (.iinc 3 1, 3) := by decide +kernel
theorem dX4_leastOf_44 : decode cX4_leastOf 44 = .ok (.goto (-39), 3) := by decide +kernel
theorem dX4_leastOf_47 : decode cX4_leastOf 47 = .ok (.iload_n 2, 1) := by decide +kernel
theorem dX4_leastOf_48 : decode cX4_leastOf 48 = .ok (.ireturn, 1) := by decide +kernel
set_option maxRecDepth 20000 in
theorem ggX4_isClear_X4_meet : GoodIn wsX4_isClear wsX4_meet := goodIn_r _ [6, 7, 8, 9, 10, 11, 12, 13, 14, 15, 16, 17, 18, 19, 20, 21, 22, 23, 24, 25, 26, 27] (by decide +kernel) (by decide +kernel)
set_option maxRecDepth 20000 in
theorem gX4_isClear_X4_meet : GoodIn wsX4_isClear (wsV RX4 84 RX4 yX4_meet wsX4_meet) := goodIn_app (goodIn_of _ (by decide +kernel)) ggX4_isClear_X4_meet
theorem dX4_isClear_0 : decode cX4_isClear 0 = .ok (.iconst 1, 1) := by decide +kernel
theorem dX4_isClear_1 : decode cX4_isClear 1 = .ok (.istore_n 3, 1) := by decide +kernel
theorem dX4_isClear_2 : decode cX4_isClear 2 = .ok (.iconst 0, 1) := by decide +kernel
theorem dX4_isClear_3 : decode cX4_isClear 3 = .ok (.istore 4, 2) := by decide +kernel
theorem dX4_isClear_5 : decode cX4_isClear 5 = .ok (.iload 4, 2) := by decide +kernel
theorem dX4_isClear_7 : decode cX4_isClear 7 = .ok (.iload_n 1, 1) := by decide +kernel
theorem dX4_isClear_8 : decode cX4_isClear 8 = .ok (.if_icmp .ge 37, 3) := by decide +kernel
theorem dX4_isClear_11 : decode cX4_isClear 11 = .ok (.iload_n 3, 1) := by decide +kernel
theorem dX4_isClear_12 : decode cX4_isClear 12 = .ok (.ifCond .eq 25, 3) := by decide +kernel
theorem dX4_isClear_15 : decode cX4_isClear 15 = .ok (.aload_n 0, 1) := by decide +kernel
theorem dX4_isClear_16 : decode cX4_isClear 16 = .ok (.iload_n 1, 1) := by decide +kernel
theorem dX4_isClear_17 : decode cX4_isClear 17 = .ok (.iload_n 2, 1) := by decide +kernel
theorem dX4_isClear_18 : decode cX4_isClear 18 = .ok (.iload 4, 2) := by decide +kernel
theorem dX4_isClear_20 : decode cX4_isClear 20 = .ok (.aload_n 0, 1) := by decide +kernel
theorem dX4_isClear_21 : decode cX4_isClear 21 = .ok (.getfield 46, 3) := by decide +kernel
theorem dX4_isClear_24 : decode cX4_isClear 24 = .ok (.iload 4, 2) := by decide +kernel
theorem dX4_isClear_26 : decode cX4_isClear 26 = .ok (.iaload, 1) := by decide +kernel
theorem dX4_isClear_27 : decode cX4_isClear 27 = .ok (.invokevirtual 84, 3) := by decide +kernel
theorem dX4_isClear_30 : decode cX4_isClear 30 = .ok (.ifCond .ne 7, 3) := by decide +kernel
theorem dX4_isClear_33 : decode cX4_isClear 33 = .ok (.iconst 1, 1) := by decide +kernel
theorem dX4_isClear_34 : decode cX4_isClear 34 = .ok (.goto 4, 3) := by decide +kernel
theorem dX4_isClear_37 : decode cX4_isClear 37 = .ok (.iconst 0, 1) := by decide +kernel
theorem dX4_isClear_38 : decode cX4_isClear 38 = .ok (.istore_n 3, 1) := by decide +kernel
theorem dX4_isClear_39 : decode cX4_isClear 39 = .ok (.iinc 4 1, 3) := by decide +kernel
theorem dX4_isClear_42 : decode cX4_isClear 42 = .ok (.goto (-37), 3) := by decide +kernel
theorem dX4_isClear_45 : decode cX4_isClear 45 = .ok (.iload_n 3, 1) := by decide +kernel
theorem dX4_isClear_46 : decode cX4_isClear 46 = .ok (.ireturn, 1) := by decide +kernel
set_option maxRecDepth 20000 in
theorem ggX4_costUpTo_X4_cost : GoodIn wsX4_costUpTo wsX4_cost := goodIn_r _ [6, 7, 8, 9, 10, 11, 12, 13, 14, 15, 16, 17, 18, 19, 20, 21, 22, 23, 24, 25, 26, 27] (by decide +kernel) (by decide +kernel)
set_option maxRecDepth 20000 in
theorem gX4_costUpTo_X4_cost : GoodIn wsX4_costUpTo (wsV RX4 101 RX4 yX4_cost wsX4_cost) := goodIn_app (goodIn_of _ (by decide +kernel)) ggX4_costUpTo_X4_cost
theorem dX4_costUpTo_0 : decode cX4_costUpTo 0 = .ok (.iconst 0, 1) := by decide +kernel
theorem dX4_costUpTo_1 : decode cX4_costUpTo 1 = .ok (.istore_n 2, 1) := by decide +kernel
theorem dX4_costUpTo_2 : decode cX4_costUpTo 2 = .ok (.iconst 0, 1) := by decide +kernel
theorem dX4_costUpTo_3 : decode cX4_costUpTo 3 = .ok (.istore_n 3, 1) := by decide +kernel
theorem dX4_costUpTo_4 : decode cX4_costUpTo 4 = .ok (.iload_n 3, 1) := by decide +kernel
theorem dX4_costUpTo_5 : decode cX4_costUpTo 5 = .ok (.iload_n 1, 1) := by decide +kernel
theorem dX4_costUpTo_6 : decode cX4_costUpTo 6 = .ok (.if_icmp .ge 23, 3) := by decide +kernel
theorem dX4_costUpTo_9 : decode cX4_costUpTo 9 = .ok (.iload_n 2, 1) := by decide +kernel
theorem dX4_costUpTo_10 : decode cX4_costUpTo 10 = .ok (.aload_n 0, 1) := by decide +kernel
theorem dX4_costUpTo_11 : decode cX4_costUpTo 11 = .ok (.iload_n 3, 1) := by decide +kernel
theorem dX4_costUpTo_12 : decode cX4_costUpTo 12 = .ok (.aload_n 0, 1) := by decide +kernel
theorem dX4_costUpTo_13 : decode cX4_costUpTo 13 = .ok (.getfield 46, 3) := by decide +kernel
theorem dX4_costUpTo_16 : decode cX4_costUpTo 16 = .ok (.iload_n 3, 1) := by decide +kernel
theorem dX4_costUpTo_17 : decode cX4_costUpTo 17 = .ok (.iaload, 1) := by decide +kernel
theorem dX4_costUpTo_18 : decode cX4_costUpTo 18 = .ok (.invokevirtual 101, 3) := by decide +kernel
theorem dX4_costUpTo_21 : decode cX4_costUpTo 21 = .ok (.iadd, 1) := by decide +kernel
theorem dX4_costUpTo_22 : decode cX4_costUpTo 22 = .ok (.istore_n 2, 1) := by decide +kernel
theorem dX4_costUpTo_23 : decode cX4_costUpTo 23 = .ok (.iinc 3 1, 3) := by decide +kernel
theorem dX4_costUpTo_26 : decode cX4_costUpTo 26 = .ok (.goto (-22), 3) := by decide +kernel
theorem dX4_costUpTo_29 : decode cX4_costUpTo 29 = .ok (.iload_n 2, 1) := by decide +kernel
theorem dX4_costUpTo_30 : decode cX4_costUpTo 30 = .ok (.ireturn, 1) := by decide +kernel
set_option maxRecDepth 20000 in
theorem ggX4_search_X4_leastOf : GoodIn wsX4_search wsX4_leastOf := goodIn_r _ [10, 3, 11, 12, 13, 9, 14, 15, 16, 17, 18, 19, 20, 21, 22, 23, 24, 25, 26, 27, 28, 29, 30, 31, 32, 33, 34, 35, 36, 37, 38, 39, 40, 41, 42, 43, 44, 45, 59, 60, 61, 62, 63, 64, 65, 66, 67, 68, 69, 70, 71, 72, 73, 74, 75, 76, 77] (by decide +kernel) (by decide +kernel)
set_option maxRecDepth 20000 in
theorem gX4_search_X4_leastOf : GoodIn wsX4_search (wsV RX4 105 RX4 yX4_leastOf wsX4_leastOf) := goodIn_app (goodIn_of _ (by decide +kernel)) ggX4_search_X4_leastOf
set_option maxRecDepth 20000 in
theorem ggX4_search_X4_costUpTo : GoodIn wsX4_search wsX4_costUpTo := goodIn_r _ [49, 4, 41, 42, 43, 9, 44, 45, 17, 59, 60, 61, 62, 63, 64, 65, 66, 67, 68, 69, 70, 71, 72, 73, 74, 75, 76, 77] (by decide +kernel) (by decide +kernel)
set_option maxRecDepth 20000 in
theorem gX4_search_X4_costUpTo : GoodIn wsX4_search (wsV RX4 109 RX4 yX4_costUpTo wsX4_costUpTo) := goodIn_app (goodIn_of _ (by decide +kernel)) ggX4_search_X4_costUpTo
set_option maxRecDepth 20000 in
theorem ggX4_search_X4_mayBe : GoodIn wsX4_search wsX4_mayBe := goodIn_r _ [14, 15, 16, 17, 18, 19, 20, 9, 21, 22, 23, 24, 25, 26, 27, 28, 29, 30, 31, 32, 33, 34, 35, 36, 37, 38, 39, 40, 59, 60, 61, 62, 63, 64, 65, 66, 67, 68, 69, 70, 71, 72, 73, 74, 75, 76, 77] (by decide +kernel) (by decide +kernel)
set_option maxRecDepth 20000 in
theorem gX4_search_X4_mayBe : GoodIn wsX4_search (wsV RX4 98 RX4 yX4_mayBe wsX4_mayBe) := goodIn_app (goodIn_of _ (by decide +kernel)) ggX4_search_X4_mayBe
set_option maxRecDepth 20000 in
theorem ggX4_search_X4_cost : GoodIn wsX4_search wsX4_cost := goodIn_r _ [44, 45, 17, 59, 60, 61, 62, 63, 64, 65, 66, 67, 68, 69, 70, 71, 72, 73, 74, 75, 76, 77] (by decide +kernel) (by decide +kernel)
set_option maxRecDepth 20000 in
theorem gX4_search_X4_cost : GoodIn wsX4_search (wsV RX4 101 RX4 yX4_cost wsX4_cost) := goodIn_app (goodIn_of _ (by decide +kernel)) ggX4_search_X4_cost
set_option maxRecDepth 20000 in
theorem ggX4_search_X4_isClear : GoodIn wsX4_search wsX4_isClear := goodIn_r _ [53, 4, 54, 55, 56, 9, 57, 32, 58, 59, 60, 61, 62, 63, 64, 65, 66, 67, 68, 69, 70, 71, 72, 73, 74, 75, 76, 77] (by decide +kernel) (by decide +kernel)
set_option maxRecDepth 20000 in
theorem gX4_search_X4_isClear : GoodIn wsX4_search (wsV RX4 112 RX4 yX4_isClear wsX4_isClear) := goodIn_app (goodIn_of _ (by decide +kernel)) ggX4_search_X4_isClear
theorem dX4_search_0 : decode cX4_search 0 = .ok (.aload_n 0, 1) := by decide +kernel
theorem dX4_search_1 : decode cX4_search 1 = .ok (.getfield 49, 3) := by decide +kernel
theorem dX4_search_4 : decode cX4_search 4 = .ok (.aload_n 0, 1) := by decide +kernel
theorem dX4_search_5 : decode cX4_search 5 = .ok (.getfield 59, 3) := by decide +kernel
theorem dX4_search_8 : decode cX4_search 8 = .ok (.iconst 0, 1) := by decide +kernel
theorem dX4_search_9 : decode cX4_search 9 = .ok (.iastore, 1) := by decide +kernel
theorem dX4_search_10 : decode cX4_search 10 = .ok (.aload_n 0, 1) := by decide +kernel
theorem dX4_search_11 : decode cX4_search 11 = .ok (.getfield 59, 3) := by decide +kernel
theorem dX4_search_14 : decode cX4_search 14 = .ok (.iconst 1, 1) := by decide +kernel
theorem dX4_search_15 : decode cX4_search 15 = .ok (.isub, 1) := by decide +kernel
theorem dX4_search_16 : decode cX4_search 16 = .ok (.istore_n 1, 1) := by decide +kernel
theorem dX4_search_17 : decode cX4_search 17 = .ok (.iload_n 1, 1) := by decide +kernel
theorem dX4_search_18 : decode cX4_search 18 = .ok (.ifCond .lt 41, 3) := by decide +kernel
theorem dX4_search_21 : decode cX4_search 21 = .ok (.aload_n 0, 1) := by decide +kernel
theorem dX4_search_22 : decode cX4_search 22 = .ok (.iload_n 1, 1) := by decide +kernel
theorem dX4_search_23 : decode cX4_search 23 = .ok (.invokevirtual 105, 3) := by decide +kernel
theorem dX4_search_26 : decode cX4_search 26 = .ok (.ldc 97, 2) := by decide +kernel
theorem dX4_search_28 : decode cX4_search 28 = .ok (.if_icmp .ne 5, 3) := by decide +kernel
theorem dX4_search_31 : decode cX4_search 31 = .ok (.iconst 0, 1) := by decide +kernel
theorem dX4_search_32 : decode cX4_search 32 = .ok (.ireturn, 1) := by decide +kernel
theorem dX4_search_33 : decode cX4_search 33 = .ok (.aload_n 0, 1) := by decide +kernel
theorem dX4_search_34 : decode cX4_search 34 = .ok (.getfield 49, 3) := by decide +kernel
theorem dX4_search_37 : decode cX4_search 37 = .ok (.iload_n 1, 1) := by decide +kernel
theorem dX4_search_38 : decode cX4_search 38 = .ok (.aload_n 0, 1) := by decide +kernel
theorem dX4_search_39 : decode cX4_search 39 = .ok (.getfield 49, 3) := by decide +kernel
theorem dX4_search_42 : decode cX4_search 42 = .ok (.iload_n 1, 1) := by decide +kernel
theorem dX4_search_43 : decode cX4_search 43 = .ok (.iconst 1, 1) := by decide +kernel
theorem dX4_search_44 : decode cX4_search 44 = .ok (.iadd, 1) := by decide +kernel
theorem dX4_search_45 : decode cX4_search 45 = .ok (.iaload, 1) := by decide +kernel
theorem dX4_search_46 : decode cX4_search 46 = .ok (.aload_n 0, 1) := by decide +kernel
theorem dX4_search_47 : decode cX4_search 47 = .ok (.iload_n 1, 1) := by decide +kernel
theorem dX4_search_48 : decode cX4_search 48 = .ok (.invokevirtual 105, 3) := by decide +kernel
theorem dX4_search_51 : decode cX4_search 51 = .ok (.iadd, 1) := by decide +kernel
theorem dX4_search_52 : decode cX4_search 52 = .ok (.iastore, 1) := by decide +kernel
theorem dX4_search_53 : decode cX4_search 53 = .ok (.iinc 1 (-1), 3) := by decide +kernel
theorem dX4_search_56 : decode cX4_search 56 = .ok (.goto (-39), 3) := by decide +kernel
theorem dX4_search_59 : decode cX4_search 59 = .ok (.ldc 97, 2) := by decide +kernel
theorem dX4_search_61 : decode cX4_search 61 = .ok (.istore_n 1, 1) := by decide +kernel
theorem dX4_search_62 : decode cX4_search 62 = .ok (.iconst 0, 1) := by decide +kernel
theorem dX4_search_63 : decode cX4_search 63 = .ok (.istore_n 2, 1) := by decide +kernel
theorem dX4_search_64 : decode cX4_search 64 = .ok (.aload_n 0, 1) := by decide +kernel
theorem dX4_search_65 : decode cX4_search 65 = .ok (.getfield 46, 3) := by decide +kernel
theorem dX4_search_68 : decode cX4_search 68 = .ok (.iconst 0, 1) := by decide +kernel
theorem dX4_search_69 : decode cX4_search 69 = .ok (.iconst (-1), 1) := by decide +kernel
theorem dX4_search_70 : decode cX4_search 70 = .ok (.iastore, 1) := by decide +kernel
theorem dX4_search_71 : decode cX4_search 71 = .ok (.iload_n 2, 1) := by decide +kernel
theorem dX4_search_72 : decode cX4_search 72 = .ok (.ifCond .lt 167, 3) := by decide +kernel
theorem dX4_search_75 : decode cX4_search 75 = .ok (.iload_n 2, 1) := by decide +kernel
theorem dX4_search_76 : decode cX4_search 76 = .ok (.aload_n 0, 1) := by decide +kernel
theorem dX4_search_77 : decode cX4_search 77 = .ok (.getfield 59, 3) := by decide +kernel
theorem dX4_search_80 : decode cX4_search 80 = .ok (.if_icmp .ne 46, 3) := by decide +kernel
theorem dX4_search_83 : decode cX4_search 83 = .ok (.aload_n 0, 1) := by decide +kernel
theorem dX4_search_84 : decode cX4_search 84 = .ok (.aload_n 0, 1) := by decide +kernel
theorem dX4_search_85 : decode cX4_search 85 = .ok (.getfield 59, 3) := by decide +kernel
theorem dX4_search_88 : decode cX4_search 88 = .ok (.invokevirtual 109, 3) := by decide +kernel
theorem dX4_search_91 : decode cX4_search 91 = .ok (.istore_n 1, 1) := by decide +kernel
theorem dX4_search_92 : decode cX4_search 92 = .ok (.iconst 0, 1) := by decide +kernel
theorem dX4_search_93 : decode cX4_search 93 = .ok (.istore_n 3, 1) := by decide +kernel
theorem dX4_search_94 : decode cX4_search 94 = .ok (.iload_n 3, 1) := by decide +kernel
theorem dX4_search_95 : decode cX4_search 95 = .ok (.aload_n 0, 1) := by decide +kernel
theorem dX4_search_96 : decode cX4_search 96 = .ok (.getfield 59, 3) := by decide +kernel
theorem dX4_search_99 : decode cX4_search 99 = .ok (.if_icmp .ge 21, 3) := by decide +kernel
theorem dX4_search_102 : decode cX4_search 102 = .ok (.aload_n 0, 1) := by decide +kernel
theorem dX4_search_103 : decode cX4_search 103 = .ok (.getfield 43, 3) := by decide +kernel
theorem dX4_search_106 : decode cX4_search 106 = .ok (.iload_n 3, 1) := by decide +kernel
theorem dX4_search_107 : decode cX4_search 107 = .ok (.aload_n 0, 1) := by decide +kernel
theorem dX4_search_108 : decode cX4_search 108 = .ok (.getfield 46, 3) := by decide +kernel
theorem dX4_search_111 : decode cX4_search 111 = .ok (.iload_n 3, 1) := by decide +kernel
theorem dX4_search_112 : decode cX4_search 112 = .ok (.iaload, 1) := by decide +kernel
theorem dX4_search_113 : decode cX4_search 113 = .ok (.iastore, 1) := by decide +kernel
theorem dX4_search_114 : decode cX4_search 114 = .ok (.iinc 3 1, 3) := by decide +kernel
theorem dX4_search_117 : decode cX4_search 117 = .ok (.goto (-23), 3) := by decide +kernel
theorem dX4_search_120 : decode cX4_search 120 = .ok (.iinc 2 (-1), 3) := by decide +kernel
theorem dX4_search_123 : decode cX4_search 123 = .ok (.goto (-52), 3) := by decide +kernel
theorem dX4_search_126 : decode cX4_search 126 = .ok (.aload_n 0, 1) := by decide +kernel
theorem dX4_search_127 : decode cX4_search 127 = .ok (.getfield 46, 3) := by decide +kernel
theorem dX4_search_130 : decode cX4_search 130 = .ok (.iload_n 2, 1) := by decide +kernel
theorem dX4_search_131 : decode cX4_search 131 = .ok (.iaload, 1) := by decide +kernel
theorem dX4_search_132 : decode cX4_search 132 = .ok (.iconst 1, 1) := by decide +kernel
theorem dX4_search_133 : decode cX4_search 133 = .ok (.iadd, 1) := by decide +kernel
theorem dX4_search_134 : decode cX4_search 134 = .ok (.istore_n 3, 1) := by decide +kernel
theorem dX4_search_135 : decode cX4_search 135 = .ok (.aload_n 0, 1) := by decide +kernel
theorem dX4_search_136 : decode cX4_search 136 = .ok (.iload_n 2, 1) := by decide +kernel
theorem dX4_search_137 : decode cX4_search 137 = .ok (.invokevirtual 109, 3) := by decide +kernel
theorem dX4_search_140 : decode cX4_search 140 = .ok (.istore 4, 2) := by decide +kernel
theorem dX4_search_142 : decode cX4_search 142 = .ok (.iload_n 3, 1) := by decide +kernel
theorem dX4_search_143 : decode cX4_search 143 = .ok (.bipush 96, 2) := by decide +kernel
theorem dX4_search_145 : decode cX4_search 145 = .ok (.if_icmp .ge 49, 3) := by decide +kernel
theorem dX4_search_148 : decode cX4_search 148 = .ok (.aload_n 0, 1) := by decide +kernel
theorem dX4_search_149 : decode cX4_search 149 = .ok (.iload_n 2, 1) := by decide +kernel
theorem dX4_search_150 : decode cX4_search 150 = .ok (.iload_n 3, 1) := by decide +kernel
theorem dX4_search_151 : decode cX4_search 151 = .ok (.invokevirtual 98, 3) := by decide +kernel
theorem dX4_search_154 : decode cX4_search 154 = .ok (.ifCond .eq 34, 3) := by decide +kernel
theorem dX4_search_157 : decode cX4_search 157 = .ok (.iload 4, 2) := by decide +kernel
theorem dX4_search_159 : decode cX4_search 159 = .ok (.aload_n 0, 1) := by decide +kernel
theorem dX4_search_160 : decode cX4_search 160 = .ok (.iload_n 2, 1) := by decide +kernel
theorem dX4_search_161 : decode cX4_search 161 = .ok (.iload_n 3, 1) := by decide +kernel
theorem dX4_search_162 : decode cX4_search 162 = .ok (.invokevirtual 101, 3) := by decide +kernel
theorem dX4_search_165 : decode cX4_search 165 = .ok (.iadd, 1) := by decide +kernel
theorem dX4_search_166 : decode cX4_search 166 = .ok (.aload_n 0, 1) := by decide +kernel
theorem dX4_search_167 : decode cX4_search 167 = .ok (.getfield 49, 3) := by decide +kernel
theorem dX4_search_170 : decode cX4_search 170 = .ok (.iload_n 2, 1) := by decide +kernel
theorem dX4_search_171 : decode cX4_search 171 = .ok (.iconst 1, 1) := by decide +kernel
theorem dX4_search_172 : decode cX4_search 172 = .ok (.iadd, 1) := by decide +kernel
theorem dX4_search_173 : decode cX4_search 173 = .ok (.iaload, 1) := by decide +kernel
theorem dX4_search_174 : decode cX4_search 174 = .ok (.iadd, 1) := by decide +kernel
theorem dX4_search_175 : decode cX4_search 175 = .ok (.iload_n 1, 1) := by decide +kernel
theorem dX4_search_176 : decode cX4_search 176 = .ok (.if_icmp .ge 12, 3) := by decide +kernel
theorem dX4_search_179 : decode cX4_search 179 = .ok (.aload_n 0, 1) := by decide +kernel
theorem dX4_search_180 : decode cX4_search 180 = .ok (.iload_n 2, 1) := by decide +kernel
theorem dX4_search_181 : decode cX4_search 181 = .ok (.iload_n 3, 1) := by decide +kernel
theorem dX4_search_182 : decode cX4_search 182 = .ok (.invokevirtual 112, 3) := by decide +kernel
theorem dX4_search_185 : decode cX4_search 185 = .ok (.ifCond .ne 9, 3) := by decide +kernel
theorem dX4_search_188 : decode cX4_search 188 = .ok (.iinc 3 1, 3) := by decide +kernel
theorem dX4_search_191 : decode cX4_search 191 = .ok (.goto (-49), 3) := by decide +kernel
theorem dX4_search_194 : decode cX4_search 194 = .ok (.aload_n 0, 1) := by decide +kernel
theorem dX4_search_195 : decode cX4_search 195 = .ok (.getfield 46, 3) := by decide +kernel
theorem dX4_search_198 : decode cX4_search 198 = .ok (.iload_n 2, 1) := by decide +kernel
theorem dX4_search_199 : decode cX4_search 199 = .ok (.iload_n 3, 1) := by decide +kernel
theorem dX4_search_200 : decode cX4_search 200 = .ok (.iastore, 1) := by decide +kernel
theorem dX4_search_201 : decode cX4_search 201 = .ok (.iload_n 2, 1) := by decide +kernel
theorem dX4_search_202 : decode cX4_search 202 = .ok (.iload_n 3, 1) := by decide +kernel
theorem dX4_search_203 : decode cX4_search 203 = .ok (.bipush 96, 2) := by decide +kernel
theorem dX4_search_205 : decode cX4_search 205 = .ok (.if_icmp .ge 7, 3) := by decide +kernel
theorem dX4_search_208 : decode cX4_search 208 = .ok (.iconst 1, 1) := by decide +kernel
theorem dX4_search_209 : decode cX4_search 209 = .ok (.goto 4, 3) := by decide +kernel
theorem dX4_search_212 : decode cX4_search 212 = .ok (.iconst (-1), 1) := by decide +kernel
theorem dX4_search_213 : decode cX4_search 213 = .ok (.iadd, 1) := by decide +kernel
theorem dX4_search_214 : decode cX4_search 214 = .ok (.istore_n 2, 1) := by decide +kernel
theorem dX4_search_215 : decode cX4_search 215 = .ok (.iload_n 3, 1) := by decide +kernel
theorem dX4_search_216 : decode cX4_search 216 = .ok (.bipush 96, 2) := by decide +kernel
theorem dX4_search_218 : decode cX4_search 218 = .ok (.if_icmp .ge 18, 3) := by decide +kernel
theorem dX4_search_221 : decode cX4_search 221 = .ok (.iload_n 2, 1) := by decide +kernel
theorem dX4_search_222 : decode cX4_search 222 = .ok (.aload_n 0, 1) := by decide +kernel
theorem dX4_search_223 : decode cX4_search 223 = .ok (.getfield 59, 3) := by decide +kernel
theorem dX4_search_226 : decode cX4_search 226 = .ok (.if_icmp .ge 10, 3) := by decide +kernel
theorem dX4_search_229 : decode cX4_search 229 = .ok (.aload_n 0, 1) := by decide +kernel
theorem dX4_search_230 : decode cX4_search 230 = .ok (.getfield 46, 3) := by decide +kernel
theorem dX4_search_233 : decode cX4_search 233 = .ok (.iload_n 2, 1) := by decide +kernel
theorem dX4_search_234 : decode cX4_search 234 = .ok (.iconst (-1), 1) := by decide +kernel
theorem dX4_search_235 : decode cX4_search 235 = .ok (.iastore, 1) := by decide +kernel
theorem dX4_search_236 : decode cX4_search 236 = .ok (.goto (-165), 3) := by decide +kernel
theorem dX4_search_239 : decode cX4_search 239 = .ok (.iload_n 1, 1) := by decide +kernel
theorem dX4_search_240 : decode cX4_search 240 = .ok (.ldc 97, 2) := by decide +kernel
theorem dX4_search_242 : decode cX4_search 242 = .ok (.if_icmp .ge 7, 3) := by decide +kernel
theorem dX4_search_245 : decode cX4_search 245 = .ok (.iconst 1, 1) := by decide +kernel
theorem dX4_search_246 : decode cX4_search 246 = .ok (.goto 4, 3) := by decide +kernel
theorem dX4_search_249 : decode cX4_search 249 = .ok (.iconst 0, 1) := by decide +kernel
theorem dX4_search_250 : decode cX4_search 250 = .ok (.ireturn, 1) := by decide +kernel
set_option maxRecDepth 20000 in
theorem ggX4_solve_X4_search : GoodIn wsX4_solve wsX4_search := goodIn_r _ [7, 8, 9, 10, 11, 12, 13, 14, 15, 6, 16, 17, 18, 19, 20, 21, 22, 23, 24, 25, 26, 27, 28, 29, 30, 31, 32, 33, 34, 35, 36, 37, 38, 39, 40, 41, 42, 43, 44, 45, 46, 47, 48, 49, 50, 51, 52, 53, 54, 55, 56, 57, 58, 59, 60, 61, 62, 63, 64, 65, 66, 67, 68, 69, 70, 71, 72, 73, 74, 75, 76, 77, 78, 79, 80, 81, 82, 83] (by decide +kernel) (by decide +kernel)
set_option maxRecDepth 20000 in
theorem gX4_solve_X4_search : GoodIn wsX4_solve (wsV RX4 115 RX4 yX4_search wsX4_search) := goodIn_app (goodIn_of _ (by decide +kernel)) ggX4_solve_X4_search
theorem dX4_solve_0 : decode cX4_solve 0 = .ok (.aload_n 0, 1) := by decide +kernel
theorem dX4_solve_1 : decode cX4_solve 1 = .ok (.iconst 0, 1) := by decide +kernel
theorem dX4_solve_2 : decode cX4_solve 2 = .ok (.putfield 56, 3) := by decide +kernel
theorem dX4_solve_5 : decode cX4_solve 5 = .ok (.aload_n 0, 1) := by decide +kernel
theorem dX4_solve_6 : decode cX4_solve 6 = .ok (.aload_n 0, 1) := by decide +kernel
theorem dX4_solve_7 : decode cX4_solve 7 = .ok (.invokevirtual 115, 3) := by decide +kernel
theorem dX4_solve_10 : decode cX4_solve 10 = .ok (.putfield 66, 3) := by decide +kernel
theorem dX4_solve_13 : decode cX4_solve 13 = .ok (.aload_n 0, 1) := by decide +kernel
theorem dX4_solve_14 : decode cX4_solve 14 = .ok (.getfield 66, 3) := by decide +kernel
theorem dX4_solve_17 : decode cX4_solve 17 = .ok (.ifCond .eq 7, 3) := by decide +kernel
theorem dX4_solve_20 : decode cX4_solve 20 = .ok (.iconst 1, 1) := by decide +kernel
theorem dX4_solve_21 : decode cX4_solve 21 = .ok (.goto 4, 3) := by decide +kernel
theorem dX4_solve_24 : decode cX4_solve 24 = .ok (.iconst 0, 1) := by decide +kernel
theorem dX4_solve_25 : decode cX4_solve 25 = .ok (.ireturn, 1) := by decide +kernel
set_option maxRecDepth 20000 in
theorem ggX4_at_X4_isShip : GoodIn wsX4_at wsX4_isShip := goodIn_r _ [9, 10, 14, 15, 16, 17, 18, 19, 20, 21, 22, 23, 24, 25, 26, 27, 28, 29, 30, 31, 32] (by decide +kernel) (by decide +kernel)
set_option maxRecDepth 20000 in
theorem gX4_at_X4_isShip : GoodIn wsX4_at (wsV RX4 78 RX4 yX4_isShip wsX4_isShip) := goodIn_app (goodIn_of _ (by decide +kernel)) ggX4_at_X4_isShip
set_option maxRecDepth 20000 in
theorem ggX4_at_X4_in : GoodIn wsX4_at wsX4_in := goodIn_r _ [13] (by decide +kernel) (by decide +kernel)
set_option maxRecDepth 20000 in
theorem gX4_at_X4_in : GoodIn wsX4_at (va_wsS RX4 62 yX4_in wsX4_in) := goodIn_app (goodIn_of _ (by decide +kernel)) ggX4_at_X4_in
theorem dX4_at_0 : decode cX4_at 0 = .ok (.aload_n 0, 1) := by decide +kernel
theorem dX4_at_1 : decode cX4_at 1 = .ok (.aload_n 0, 1) := by decide +kernel
theorem dX4_at_2 : decode cX4_at 2 = .ok (.iload_n 1, 1) := by decide +kernel
theorem dX4_at_3 : decode cX4_at 3 = .ok (.invokevirtual 78, 3) := by decide +kernel
theorem dX4_at_6 : decode cX4_at 6 = .ok (.ifCond .eq 12, 3) := by decide +kernel
theorem dX4_at_9 : decode cX4_at 9 = .ok (.iload_n 2, 1) := by decide +kernel
theorem dX4_at_10 : decode cX4_at 10 = .ok (.iconst 0, 1) := by decide +kernel
theorem dX4_at_11 : decode cX4_at 11 = .ok (.iconst 2, 1) := by decide +kernel
theorem dX4_at_12 : decode cX4_at 12 = .ok (.invokestatic 62, 3) := by decide +kernel
theorem dX4_at_15 : decode cX4_at 15 = .ok (.ifCond .ne 7, 3) := by decide +kernel
theorem dX4_at_18 : decode cX4_at 18 = .ok (.iconst 1, 1) := by decide +kernel
theorem dX4_at_19 : decode cX4_at 19 = .ok (.goto 15, 3) := by decide +kernel
theorem dX4_at_22 : decode cX4_at 22 = .ok (.aload_n 0, 1) := by decide +kernel
theorem dX4_at_23 : decode cX4_at 23 = .ok (.getfield 66, 3) := by decide +kernel
theorem dX4_at_26 : decode cX4_at 26 = .ok (.ifCond .eq 7, 3) := by decide +kernel
theorem dX4_at_29 : decode cX4_at 29 = .ok (.iconst 0, 1) := by decide +kernel
theorem dX4_at_30 : decode cX4_at 30 = .ok (.goto 4, 3) := by decide +kernel
theorem dX4_at_33 : decode cX4_at 33 = .ok (.iconst 2, 1) := by decide +kernel
theorem dX4_at_34 : decode cX4_at 34 = .ok (.putfield 56, 3) := by decide +kernel
theorem dX4_at_37 : decode cX4_at 37 = .ok (.aload_n 0, 1) := by decide +kernel
theorem dX4_at_38 : decode cX4_at 38 = .ok (.getfield 56, 3) := by decide +kernel
theorem dX4_at_41 : decode cX4_at 41 = .ok (.ifCond .le 5, 3) := by decide +kernel
theorem dX4_at_44 : decode cX4_at 44 = .ok (.iconst 0, 1) := by decide +kernel
theorem dX4_at_45 : decode cX4_at 45 = .ok (.ireturn, 1) := by decide +kernel
theorem dX4_at_46 : decode cX4_at 46 = .ok (.iload_n 2, 1) := by decide +kernel
theorem dX4_at_47 : decode cX4_at 47 = .ok (.ifCond .ne 15, 3) := by decide +kernel
theorem dX4_at_50 : decode cX4_at 50 = .ok (.aload_n 0, 1) := by decide +kernel
theorem dX4_at_51 : decode cX4_at 51 = .ok (.getfield 43, 3) := by decide +kernel
theorem dX4_at_54 : decode cX4_at 54 = .ok (.iload_n 1, 1) := by decide +kernel
theorem dX4_at_55 : decode cX4_at 55 = .ok (.iaload, 1) := by decide +kernel
theorem dX4_at_56 : decode cX4_at 56 = .ok (.bipush 6, 2) := by decide +kernel
theorem dX4_at_58 : decode cX4_at 58 = .ok (.irem, 1) := by decide +kernel
theorem dX4_at_59 : decode cX4_at 59 = .ok (.goto 36, 3) := by decide +kernel
theorem dX4_at_62 : decode cX4_at 62 = .ok (.iload_n 2, 1) := by decide +kernel
theorem dX4_at_63 : decode cX4_at 63 = .ok (.iconst 1, 1) := by decide +kernel
theorem dX4_at_64 : decode cX4_at 64 = .ok (.if_icmp .ne 15, 3) := by decide +kernel
theorem dX4_at_67 : decode cX4_at 67 = .ok (.aload_n 0, 1) := by decide +kernel
theorem dX4_at_68 : decode cX4_at 68 = .ok (.getfield 43, 3) := by decide +kernel
theorem dX4_at_71 : decode cX4_at 71 = .ok (.iload_n 1, 1) := by decide +kernel
theorem dX4_at_72 : decode cX4_at 72 = .ok (.iaload, 1) := by decide +kernel
theorem dX4_at_73 : decode cX4_at 73 = .ok (.bipush 6, 2) := by decide +kernel
theorem dX4_at_75 : decode cX4_at 75 = .ok (.idiv, 1) := by decide +kernel
theorem dX4_at_76 : decode cX4_at 76 = .ok (.goto 19, 3) := by decide +kernel
theorem dX4_at_79 : decode cX4_at 79 = .ok (.aload_n 0, 1) := by decide +kernel
theorem dX4_at_80 : decode cX4_at 80 = .ok (.getfield 43, 3) := by decide +kernel
theorem dX4_at_83 : decode cX4_at 83 = .ok (.iload_n 1, 1) := by decide +kernel
theorem dX4_at_84 : decode cX4_at 84 = .ok (.iaload, 1) := by decide +kernel
theorem dX4_at_85 : decode cX4_at 85 = .ok (.bipush 6, 2) := by decide +kernel
theorem dX4_at_87 : decode cX4_at 87 = .ok (.idiv, 1) := by decide +kernel
theorem dX4_at_88 : decode cX4_at 88 = .ok (.aload_n 0, 1) := by decide +kernel
theorem dX4_at_89 : decode cX4_at 89 = .ok (.getfield 31, 3) := by decide +kernel
theorem dX4_at_92 : decode cX4_at 92 = .ok (.iload_n 1, 1) := by decide +kernel
theorem dX4_at_93 : decode cX4_at 93 = .ok (.iaload, 1) := by decide +kernel
theorem dX4_at_94 : decode cX4_at 94 = .ok (.isub, 1) := by decide +kernel
theorem dX4_at_95 : decode cX4_at 95 = .ok (.ireturn, 1) := by decide +kernel
set_option maxRecDepth 20000 in
theorem ggX4_lateness_X4_cost : GoodIn wsX4_lateness wsX4_cost := goodIn_r _ [9, 10, 11, 12, 13, 14, 15, 16, 17, 18, 19, 20, 21, 22, 23, 24, 25, 26, 27, 28, 29, 30] (by decide +kernel) (by decide +kernel)
set_option maxRecDepth 20000 in
theorem gX4_lateness_X4_cost : GoodIn wsX4_lateness (wsV RX4 101 RX4 yX4_cost wsX4_cost) := goodIn_app (goodIn_of _ (by decide +kernel)) ggX4_lateness_X4_cost
theorem dX4_lateness_0 : decode cX4_lateness 0 = .ok (.aload_n 0, 1) := by decide +kernel
theorem dX4_lateness_1 : decode cX4_lateness 1 = .ok (.aload_n 0, 1) := by decide +kernel
theorem dX4_lateness_2 : decode cX4_lateness 2 = .ok (.getfield 66, 3) := by decide +kernel
theorem dX4_lateness_5 : decode cX4_lateness 5 = .ok (.ifCond .eq 7, 3) := by decide +kernel
theorem dX4_lateness_8 : decode cX4_lateness 8 = .ok (.iconst 0, 1) := by decide +kernel
theorem dX4_lateness_9 : decode cX4_lateness 9 = .ok (.goto 4, 3) := by decide +kernel
theorem dX4_lateness_12 : decode cX4_lateness 12 = .ok (.iconst 1, 1) := by decide +kernel
theorem dX4_lateness_13 : decode cX4_lateness 13 = .ok (.putfield 56, 3) := by decide +kernel
theorem dX4_lateness_16 : decode cX4_lateness 16 = .ok (.aload_n 0, 1) := by decide +kernel
theorem dX4_lateness_17 : decode cX4_lateness 17 = .ok (.getfield 56, 3) := by decide +kernel
theorem dX4_lateness_20 : decode cX4_lateness 20 = .ok (.ifCond .le 5, 3) := by decide +kernel
theorem dX4_lateness_23 : decode cX4_lateness 23 = .ok (.iconst 0, 1) := by decide +kernel
theorem dX4_lateness_24 : decode cX4_lateness 24 = .ok (.ireturn, 1) := by decide +kernel
theorem dX4_lateness_25 : decode cX4_lateness 25 = .ok (.iconst 0, 1) := by decide +kernel
theorem dX4_lateness_26 : decode cX4_lateness 26 = .ok (.istore_n 1, 1) := by decide +kernel
theorem dX4_lateness_27 : decode cX4_lateness 27 = .ok (.iconst 0, 1) := by decide +kernel
theorem dX4_lateness_28 : decode cX4_lateness 28 = .ok (.istore_n 2, 1) := by decide +kernel
theorem dX4_lateness_29 : decode cX4_lateness 29 = .ok (.iload_n 2, 1) := by decide +kernel
theorem dX4_lateness_30 : decode cX4_lateness 30 = .ok (.aload_n 0, 1) := by decide +kernel
theorem dX4_lateness_31 : decode cX4_lateness 31 = .ok (.getfield 59, 3) := by decide +kernel
theorem dX4_lateness_34 : decode cX4_lateness 34 = .ok (.if_icmp .ge 23, 3) := by decide +kernel
theorem dX4_lateness_37 : decode cX4_lateness 37 = .ok (.iload_n 1, 1) := by decide +kernel
theorem dX4_lateness_38 : decode cX4_lateness 38 = .ok (.aload_n 0, 1) := by decide +kernel
theorem dX4_lateness_39 : decode cX4_lateness 39 = .ok (.iload_n 2, 1) := by decide +kernel
theorem dX4_lateness_40 : decode cX4_lateness 40 = .ok (.aload_n 0, 1) := by decide +kernel
theorem dX4_lateness_41 : decode cX4_lateness 41 = .ok (.getfield 43, 3) := by decide +kernel
theorem dX4_lateness_44 : decode cX4_lateness 44 = .ok (.iload_n 2, 1) := by decide +kernel
theorem dX4_lateness_45 : decode cX4_lateness 45 = .ok (.iaload, 1) := by decide +kernel
theorem dX4_lateness_46 : decode cX4_lateness 46 = .ok (.invokevirtual 101, 3) := by decide +kernel
theorem dX4_lateness_49 : decode cX4_lateness 49 = .ok (.iadd, 1) := by decide +kernel
theorem dX4_lateness_50 : decode cX4_lateness 50 = .ok (.istore_n 1, 1) := by decide +kernel
theorem dX4_lateness_51 : decode cX4_lateness 51 = .ok (.iinc 2 1, 3) := by decide +kernel
theorem dX4_lateness_54 : decode cX4_lateness 54 = .ok (.goto (-25), 3) := by decide +kernel
theorem dX4_lateness_57 : decode cX4_lateness 57 = .ok (.iload_n 1, 1) := by decide +kernel
theorem dX4_lateness_58 : decode cX4_lateness 58 = .ok (.ireturn, 1) := by decide +kernel
set_option maxRecDepth 20000 in
theorem ggX4_bound_X4_leastOf : GoodIn wsX4_bound wsX4_leastOf := goodIn_r _ [8, 3, 9, 10, 11, 7, 12, 13, 14, 15, 16, 17, 18, 19, 20, 21, 22, 23, 24, 25, 26, 27, 28, 29, 30, 31, 32, 33, 34, 35, 36, 37, 38, 39, 40, 41, 42, 43, 44, 45, 46, 47, 48, 49, 50, 51, 52, 53, 54, 55, 56, 57, 58, 59, 60, 61, 62] (by decide +kernel) (by decide +kernel)
set_option maxRecDepth 20000 in
theorem gX4_bound_X4_leastOf : GoodIn wsX4_bound (wsV RX4 105 RX4 yX4_leastOf wsX4_leastOf) := goodIn_app (goodIn_of _ (by decide +kernel)) ggX4_bound_X4_leastOf
theorem dX4_bound_0 : decode cX4_bound 0 = .ok (.aload_n 0, 1) := by decide +kernel
theorem dX4_bound_1 : decode cX4_bound 1 = .ok (.iconst 0, 1) := by decide +kernel
theorem dX4_bound_2 : decode cX4_bound 2 = .ok (.putfield 56, 3) := by decide +kernel
theorem dX4_bound_5 : decode cX4_bound 5 = .ok (.iconst 0, 1) := by decide +kernel
theorem dX4_bound_6 : decode cX4_bound 6 = .ok (.istore_n 1, 1) := by decide +kernel
theorem dX4_bound_7 : decode cX4_bound 7 = .ok (.iconst 0, 1) := by decide +kernel
theorem dX4_bound_8 : decode cX4_bound 8 = .ok (.istore_n 2, 1) := by decide +kernel
theorem dX4_bound_9 : decode cX4_bound 9 = .ok (.iload_n 2, 1) := by decide +kernel
theorem dX4_bound_10 : decode cX4_bound 10 = .ok (.aload_n 0, 1) := by decide +kernel
theorem dX4_bound_11 : decode cX4_bound 11 = .ok (.getfield 59, 3) := by decide +kernel
theorem dX4_bound_14 : decode cX4_bound 14 = .ok (.if_icmp .ge 29, 3) := by decide +kernel
theorem dX4_bound_17 : decode cX4_bound 17 = .ok (.aload_n 0, 1) := by decide +kernel
theorem dX4_bound_18 : decode cX4_bound 18 = .ok (.iload_n 2, 1) := by decide +kernel
theorem dX4_bound_19 : decode cX4_bound 19 = .ok (.invokevirtual 105, 3) := by decide +kernel
theorem dX4_bound_22 : decode cX4_bound 22 = .ok (.ldc 97, 2) := by decide +kernel
theorem dX4_bound_24 : decode cX4_bound 24 = .ok (.if_icmp .ne 5, 3) := by decide +kernel
theorem dX4_bound_27 : decode cX4_bound 27 = .ok (.iconst (-1), 1) := by decide +kernel
theorem dX4_bound_28 : decode cX4_bound 28 = .ok (.ireturn, 1) := by decide +kernel
theorem dX4_bound_29 : decode cX4_bound 29 = .ok (.iload_n 1, 1) := by decide +kernel
theorem dX4_bound_30 : decode cX4_bound 30 = .ok (.aload_n 0, 1) := by decide +kernel
theorem dX4_bound_31 : decode cX4_bound 31 = .ok (.iload_n 2, 1) := by decide +kernel
theorem dX4_bound_32 : decode cX4_bound 32 = .ok (.invokevirtual 105, 3) := by decide +kernel
theorem dX4_bound_35 : decode cX4_bound 35 = .ok (.iadd, 1) := by decide +kernel
theorem dX4_bound_36 : decode cX4_bound 36 = .ok (.istore_n 1, 1) := by decide +kernel
theorem dX4_bound_37 : decode cX4_bound 37 = .ok (.iinc 2 1, 3) := by decide +kernel
theorem dX4_bound_40 : decode cX4_bound 40 = .ok (.goto (-31), 3) := by decide +kernel
theorem dX4_bound_43 : decode cX4_bound 43 = .ok (.iload_n 1, 1) := by decide +kernel
theorem dX4_bound_44 : decode cX4_bound 44 = .ok (.ireturn, 1) := by decide +kernel
set_option maxRecDepth 20000 in
theorem ggX4_why_X4_isShip : GoodIn wsX4_why wsX4_isShip := goodIn_r _ [9, 10, 48, 49, 50, 51, 52, 53, 54, 55, 56, 57, 58, 59, 60, 61, 62, 63, 64, 65, 66] (by decide +kernel) (by decide +kernel)
set_option maxRecDepth 20000 in
theorem gX4_why_X4_isShip : GoodIn wsX4_why (wsV RX4 78 RX4 yX4_isShip wsX4_isShip) := goodIn_app (goodIn_of _ (by decide +kernel)) ggX4_why_X4_isShip
set_option maxRecDepth 20000 in
theorem ggX4_why_X4_isDeep : GoodIn wsX4_why wsX4_isDeep := goodIn_r _ [14, 4, 2, 15, 16, 48, 49, 50, 51, 52, 53, 54, 55, 56, 57, 58, 59, 60, 61, 62, 63, 64, 65, 66] (by decide +kernel) (by decide +kernel)
set_option maxRecDepth 20000 in
theorem gX4_why_X4_isDeep : GoodIn wsX4_why (wsV RX4 91 RX4 yX4_isDeep wsX4_isDeep) := goodIn_app (goodIn_of _ (by decide +kernel)) ggX4_why_X4_isDeep
set_option maxRecDepth 20000 in
theorem ggX4_why_X4_hasGear : GoodIn wsX4_why wsX4_hasGear := goodIn_r _ [20, 4, 2, 21, 22, 48, 49, 50, 51, 52, 53, 54, 55, 56, 57, 58, 59, 60, 61, 62, 63, 64, 65, 66] (by decide +kernel) (by decide +kernel)
set_option maxRecDepth 20000 in
theorem gX4_why_X4_hasGear : GoodIn wsX4_why (wsV RX4 94 RX4 yX4_hasGear wsX4_hasGear) := goodIn_app (goodIn_of _ (by decide +kernel)) ggX4_why_X4_hasGear
set_option maxRecDepth 20000 in
theorem ggX4_why_X4_leastOf : GoodIn wsX4_why wsX4_leastOf := goodIn_r _ [26, 3, 27, 28, 29, 8, 30, 31, 2, 32, 33, 34, 35, 36, 37, 38, 39, 40, 41, 42, 11, 12, 13, 14, 4, 15, 16, 17, 18, 19, 20, 21, 22, 43, 44, 45, 46, 47, 48, 49, 50, 51, 52, 53, 54, 55, 56, 57, 58, 59, 60, 61, 62, 63, 64, 65, 66] (by decide +kernel) (by decide +kernel)
set_option maxRecDepth 20000 in
theorem gX4_why_X4_leastOf : GoodIn wsX4_why (wsV RX4 105 RX4 yX4_leastOf wsX4_leastOf) := goodIn_app (goodIn_of _ (by decide +kernel)) ggX4_why_X4_leastOf
theorem dX4_why_0 : decode cX4_why 0 = .ok (.aload_n 0, 1) := by decide +kernel
theorem dX4_why_1 : decode cX4_why 1 = .ok (.aload_n 0, 1) := by decide +kernel
theorem dX4_why_2 : decode cX4_why 2 = .ok (.iload_n 1, 1) := by decide +kernel
theorem dX4_why_3 : decode cX4_why 3 = .ok (.invokevirtual 78, 3) := by decide +kernel
theorem dX4_why_6 : decode cX4_why 6 = .ok (.ifCond .eq 7, 3) := by decide +kernel
theorem dX4_why_9 : decode cX4_why 9 = .ok (.iconst 0, 1) := by decide +kernel
theorem dX4_why_10 : decode cX4_why 10 = .ok (.goto 4, 3) := by decide +kernel
theorem dX4_why_13 : decode cX4_why 13 = .ok (.iconst 1, 1) := by decide +kernel
theorem dX4_why_14 : decode cX4_why 14 = .ok (.putfield 56, 3) := by decide +kernel
theorem dX4_why_17 : decode cX4_why 17 = .ok (.aload_n 0, 1) := by decide +kernel
theorem dX4_why_18 : decode cX4_why 18 = .ok (.getfield 56, 3) := by decide +kernel
theorem dX4_why_21 : decode cX4_why 21 = .ok (.ifCond .le 5, 3) := by decide +kernel
theorem dX4_why_24 : decode cX4_why 24 = .ok (.iconst 0, 1) := by decide +kernel
theorem dX4_why_25 : decode cX4_why 25 = .ok (.ireturn, 1) := by decide +kernel
theorem dX4_why_26 : decode cX4_why 26 = .ok (.iconst 0, 1) := by decide +kernel
theorem dX4_why_27 : decode cX4_why 27 = .ok (.istore_n 2, 1) := by decide +kernel
theorem dX4_why_28 : decode cX4_why 28 = .ok (.iconst 0, 1) := by decide +kernel
theorem dX4_why_29 : decode cX4_why 29 = .ok (.istore_n 3, 1) := by decide +kernel
theorem dX4_why_30 : decode cX4_why 30 = .ok (.iconst 0, 1) := by decide +kernel
theorem dX4_why_31 : decode cX4_why 31 = .ok (.istore 4, 2) := by decide +kernel
theorem dX4_why_33 : decode cX4_why 33 = .ok (.iload 4, 2) := by decide +kernel
theorem dX4_why_35 : decode cX4_why 35 = .ok (.aload_n 0, 1) := by decide +kernel
theorem dX4_why_36 : decode cX4_why 36 = .ok (.getfield 52, 3) := by decide +kernel
theorem dX4_why_39 : decode cX4_why 39 = .ok (.if_icmp .ge 59, 3) := by decide +kernel
theorem dX4_why_42 : decode cX4_why 42 = .ok (.iload_n 2, 1) := by decide +kernel
theorem dX4_why_43 : decode cX4_why 43 = .ok (.ifCond .ne 13, 3) := by decide +kernel
theorem dX4_why_46 : decode cX4_why 46 = .ok (.aload_n 0, 1) := by decide +kernel
theorem dX4_why_47 : decode cX4_why 47 = .ok (.iload_n 1, 1) := by decide +kernel
theorem dX4_why_48 : decode cX4_why 48 = .ok (.iload 4, 2) := by decide +kernel
theorem dX4_why_50 : decode cX4_why 50 = .ok (.invokevirtual 91, 3) := by decide +kernel
theorem dX4_why_53 : decode cX4_why 53 = .ok (.ifCond .eq 7, 3) := by decide +kernel
theorem dX4_why_56 : decode cX4_why 56 = .ok (.iconst 1, 1) := by decide +kernel
theorem dX4_why_57 : decode cX4_why 57 = .ok (.goto 4, 3) := by decide +kernel
theorem dX4_why_60 : decode cX4_why 60 = .ok (.iconst 0, 1) := by decide +kernel
theorem dX4_why_61 : decode cX4_why 61 = .ok (.istore_n 2, 1) := by decide +kernel
theorem dX4_why_62 : decode cX4_why 62 = .ok (.iload_n 3, 1) := by decide +kernel
theorem dX4_why_63 : decode cX4_why 63 = .ok (.ifCond .ne 23, 3) := by decide +kernel
theorem dX4_why_66 : decode cX4_why 66 = .ok (.aload_n 0, 1) := by decide +kernel
theorem dX4_why_67 : decode cX4_why 67 = .ok (.iload_n 1, 1) := by decide +kernel
theorem dX4_why_68 : decode cX4_why 68 = .ok (.iload 4, 2) := by decide +kernel
theorem dX4_why_70 : decode cX4_why 70 = .ok (.invokevirtual 91, 3) := by decide +kernel
theorem dX4_why_73 : decode cX4_why 73 = .ok (.ifCond .eq 17, 3) := by decide +kernel
theorem dX4_why_76 : decode cX4_why 76 = .ok (.aload_n 0, 1) := by decide +kernel
theorem dX4_why_77 : decode cX4_why 77 = .ok (.iload_n 1, 1) := by decide +kernel
theorem dX4_why_78 : decode cX4_why 78 = .ok (.iload 4, 2) := by decide +kernel
theorem dX4_why_80 : decode cX4_why 80 = .ok (.invokevirtual 94, 3) := by decide +kernel
theorem dX4_why_83 : decode cX4_why 83 = .ok (.ifCond .eq 7, 3) := by decide +kernel
theorem dX4_why_86 : decode cX4_why 86 = .ok (.iconst 1, 1) := by decide +kernel
theorem dX4_why_87 : decode cX4_why 87 = .ok (.goto 4, 3) := by decide +kernel
theorem dX4_why_90 : decode cX4_why 90 = .ok (.iconst 0, 1) := by decide +kernel
theorem dX4_why_91 : decode cX4_why 91 = .ok (.istore_n 3, 1) := by decide +kernel
theorem dX4_why_92 : decode cX4_why 92 = .ok (.iinc 4 1, 3) := by decide +kernel
theorem dX4_why_95 : decode cX4_why 95 = .ok (.goto (-62), 3) := by decide +kernel
theorem dX4_why_98 : decode cX4_why 98 = .ok (.aload_n 0, 1) := by decide +kernel
theorem dX4_why_99 : decode cX4_why 99 = .ok (.iload_n 1, 1) := by decide +kernel
theorem dX4_why_100 : decode cX4_why 100 = .ok (.invokevirtual 105, 3) := by decide +kernel
theorem dX4_why_103 : decode cX4_why 103 = .ok (.ldc 97, 2) := by decide +kernel
theorem dX4_why_105 : decode cX4_why 105 = .ok (.if_icmp .ge 7, 3) := by decide +kernel
theorem dX4_why_108 : decode cX4_why 108 = .ok (.iconst 0, 1) := by decide +kernel
theorem dX4_why_109 : decode cX4_why 109 = .ok (.goto 37, 3) := by decide +kernel
theorem dX4_why_112 : decode cX4_why 112 = .ok (.aload_n 0, 1) := by decide +kernel
theorem dX4_why_113 : decode cX4_why 113 = .ok (.getfield 22, 3) := by decide +kernel
theorem dX4_why_116 : decode cX4_why 116 = .ok (.iload_n 1, 1) := by decide +kernel
theorem dX4_why_117 : decode cX4_why 117 = .ok (.iaload, 1) := by decide +kernel
theorem dX4_why_118 : decode cX4_why 118 = .ok (.aload_n 0, 1) := by decide +kernel
theorem dX4_why_119 : decode cX4_why 119 = .ok (.getfield 52, 3) := by decide +kernel
theorem dX4_why_122 : decode cX4_why 122 = .ok (.if_icmp .le 7, 3) := by decide +kernel
theorem dX4_why_125 : decode cX4_why 125 = .ok (.iconst 1, 1) := by decide +kernel
theorem dX4_why_126 : decode cX4_why 126 = .ok (.goto 20, 3) := by decide +kernel
theorem dX4_why_129 : decode cX4_why 129 = .ok (.iload_n 2, 1) := by decide +kernel
theorem dX4_why_130 : decode cX4_why 130 = .ok (.ifCond .ne 7, 3) := by decide +kernel
theorem dX4_why_133 : decode cX4_why 133 = .ok (.iconst 2, 1) := by decide +kernel
theorem dX4_why_134 : decode cX4_why 134 = .ok (.goto 12, 3) := by decide +kernel
theorem dX4_why_137 : decode cX4_why 137 = .ok (.iload_n 3, 1) := by decide +kernel
theorem dX4_why_138 : decode cX4_why 138 = .ok (.ifCond .ne 7, 3) := by decide +kernel
theorem dX4_why_141 : decode cX4_why 141 = .ok (.iconst 3, 1) := by decide +kernel
theorem dX4_why_142 : decode cX4_why 142 = .ok (.goto 4, 3) := by decide +kernel
theorem dX4_why_145 : decode cX4_why 145 = .ok (.iconst 4, 1) := by decide +kernel
theorem dX4_why_146 : decode cX4_why 146 = .ok (.ireturn, 1) := by decide +kernel
set_option maxRecDepth 20000 in
theorem ggX4_change_X4_isShip : GoodIn wsX4_change wsX4_isShip := goodIn_r _ [11, 3, 70, 71, 72, 73, 74, 75, 76, 77, 78, 79, 80, 81, 82, 83, 84, 85, 86, 87, 88] (by decide +kernel) (by decide +kernel)
set_option maxRecDepth 20000 in
theorem gX4_change_X4_isShip : GoodIn wsX4_change (wsV RX4 78 RX4 yX4_isShip wsX4_isShip) := goodIn_app (goodIn_of _ (by decide +kernel)) ggX4_change_X4_isShip
set_option maxRecDepth 20000 in
theorem ggX4_change_X4_in : GoodIn wsX4_change wsX4_in := goodIn_r _ [14] (by decide +kernel) (by decide +kernel)
set_option maxRecDepth 20000 in
theorem gX4_change_X4_in : GoodIn wsX4_change (va_wsS RX4 62 yX4_in wsX4_in) := goodIn_app (goodIn_of _ (by decide +kernel)) ggX4_change_X4_in
set_option maxRecDepth 20000 in
theorem ggX4_change_X4_search : GoodIn wsX4_change wsX4_search := goodIn_r _ [18, 19, 3, 20, 21, 5, 22, 23, 24, 10, 25, 26, 27, 28, 29, 30, 31, 6, 32, 33, 34, 35, 36, 37, 38, 12, 13, 14, 39, 40, 41, 42, 43, 44, 45, 46, 47, 48, 49, 50, 51, 52, 53, 54, 55, 56, 57, 58, 59, 60, 61, 62, 63, 64, 65, 66, 67, 68, 69, 70, 71, 72, 73, 74, 75, 76, 77, 78, 79, 80, 81, 82, 83, 84, 85, 86, 87, 88] (by decide +kernel) (by decide +kernel)
set_option maxRecDepth 20000 in
theorem gX4_change_X4_search : GoodIn wsX4_change (wsV RX4 115 RX4 yX4_search wsX4_search) := goodIn_app (goodIn_of _ (by decide +kernel)) ggX4_change_X4_search
theorem dX4_change_0 : decode cX4_change 0 = .ok (.aload_n 0, 1) := by decide +kernel
theorem dX4_change_1 : decode cX4_change 1 = .ok (.aload_n 0, 1) := by decide +kernel
theorem dX4_change_2 : decode cX4_change 2 = .ok (.iload_n 1, 1) := by decide +kernel
theorem dX4_change_3 : decode cX4_change 3 = .ok (.invokevirtual 78, 3) := by decide +kernel
theorem dX4_change_6 : decode cX4_change 6 = .ok (.ifCond .ne 7, 3) := by decide +kernel
theorem dX4_change_9 : decode cX4_change 9 = .ok (.iconst 1, 1) := by decide +kernel
theorem dX4_change_10 : decode cX4_change 10 = .ok (.goto 29, 3) := by decide +kernel
theorem dX4_change_13 : decode cX4_change 13 = .ok (.iload_n 2, 1) := by decide +kernel
theorem dX4_change_14 : decode cX4_change 14 = .ok (.iconst 0, 1) := by decide +kernel
theorem dX4_change_15 : decode cX4_change 15 = .ok (.bipush 15, 2) := by decide +kernel
theorem dX4_change_17 : decode cX4_change 17 = .ok (.invokestatic 62, 3) := by decide +kernel
theorem dX4_change_20 : decode cX4_change 20 = .ok (.ifCond .ne 7, 3) := by decide +kernel
theorem dX4_change_23 : decode cX4_change 23 = .ok (.iconst 2, 1) := by decide +kernel
theorem dX4_change_24 : decode cX4_change 24 = .ok (.goto 15, 3) := by decide +kernel
theorem dX4_change_27 : decode cX4_change 27 = .ok (.aload_n 0, 1) := by decide +kernel
theorem dX4_change_28 : decode cX4_change 28 = .ok (.getfield 66, 3) := by decide +kernel
theorem dX4_change_31 : decode cX4_change 31 = .ok (.ifCond .ne 7, 3) := by decide +kernel
theorem dX4_change_34 : decode cX4_change 34 = .ok (.iconst 3, 1) := by decide +kernel
theorem dX4_change_35 : decode cX4_change 35 = .ok (.goto 4, 3) := by decide +kernel
theorem dX4_change_38 : decode cX4_change 38 = .ok (.iconst 0, 1) := by decide +kernel
theorem dX4_change_39 : decode cX4_change 39 = .ok (.putfield 56, 3) := by decide +kernel
theorem dX4_change_42 : decode cX4_change 42 = .ok (.aload_n 0, 1) := by decide +kernel
theorem dX4_change_43 : decode cX4_change 43 = .ok (.getfield 56, 3) := by decide +kernel
theorem dX4_change_46 : decode cX4_change 46 = .ok (.ifCond .le 5, 3) := by decide +kernel
theorem dX4_change_49 : decode cX4_change 49 = .ok (.iconst 0, 1) := by decide +kernel
theorem dX4_change_50 : decode cX4_change 50 = .ok (.ireturn, 1) := by decide +kernel
theorem dX4_change_51 : decode cX4_change 51 = .ok (.lconst 0, 1) := by decide +kernel
theorem dX4_change_52 : decode cX4_change 52 = .ok (.lstore_n 3, 1) := by decide +kernel
theorem dX4_change_53 : decode cX4_change 53 = .ok (.iconst 0, 1) := by decide +kernel
theorem dX4_change_54 : decode cX4_change 54 = .ok (.istore 5, 2) := by decide +kernel
theorem dX4_change_56 : decode cX4_change 56 = .ok (.iload 5, 2) := by decide +kernel
theorem dX4_change_58 : decode cX4_change 58 = .ok (.aload_n 0, 1) := by decide +kernel
theorem dX4_change_59 : decode cX4_change 59 = .ok (.getfield 59, 3) := by decide +kernel
theorem dX4_change_62 : decode cX4_change 62 = .ok (.if_icmp .ge 24, 3) := by decide +kernel
theorem dX4_change_65 : decode cX4_change 65 = .ok (.ldc2_w 119, 3) := by decide +kernel
theorem dX4_change_68 : decode cX4_change 68 = .ok (.lload_n 3, 1) := by decide +kernel
theorem dX4_change_69 : decode cX4_change 69 = .ok (.lmul, 1) := by decide +kernel
theorem dX4_change_70 : decode cX4_change 70 = .ok (.aload_n 0, 1) := by decide +kernel
theorem dX4_change_71 : decode cX4_change 71 = .ok (.getfield 43, 3) := by decide +kernel
theorem dX4_change_74 : decode cX4_change 74 = .ok (.iload 5, 2) := by decide +kernel
theorem dX4_change_76 : decode cX4_change 76 = .ok (.iaload, 1) := by decide +kernel
theorem dX4_change_77 : decode cX4_change 77 = .ok (.i2l, 1) := by decide +kernel
theorem dX4_change_78 : decode cX4_change 78 = .ok (.ladd, 1) := by decide +kernel
theorem dX4_change_79 : decode cX4_change 79 = .ok (.lstore_n 3, 1) := by decide +kernel
theorem dX4_change_80 : decode cX4_change 80 = .ok (.iinc 5 1, 3) := by decide +kernel
theorem dX4_change_83 : decode cX4_change 83 = .ok (.goto (-27), 3) := by decide +kernel
theorem dX4_change_86 : decode cX4_change 86 = .ok (.aload_n 0, 1) := by decide +kernel
theorem dX4_change_87 : decode cX4_change 87 = .ok (.getfield 31, 3) := by decide +kernel
theorem dX4_change_90 : decode cX4_change 90 = .ok (.iload_n 1, 1) := by decide +kernel
theorem dX4_change_91 : decode cX4_change 91 = .ok (.iload_n 2, 1) := by decide +kernel
theorem dX4_change_92 : decode cX4_change 92 = .ok (.iastore, 1) := by decide +kernel
theorem dX4_change_93 : decode cX4_change 93 = .ok (.aload_n 0, 1) := by decide +kernel
theorem dX4_change_94 : decode cX4_change 94 = .ok (.aload_n 0, 1) := by decide +kernel
theorem dX4_change_95 : decode cX4_change 95 = .ok (.invokevirtual 115, 3) := by decide +kernel
theorem dX4_change_98 : decode cX4_change 98 = .ok (.putfield 66, 3) := by decide +kernel
theorem dX4_change_101 : decode cX4_change 101 = .ok (.aload_n 0, 1) := by decide +kernel
theorem dX4_change_102 : decode cX4_change 102 = .ok (.getfield 66, 3) := by decide +kernel
theorem dX4_change_105 : decode cX4_change 105 = .ok (.ifCond .ne 5, 3) := by decide +kernel
theorem dX4_change_108 : decode cX4_change 108 = .ok (.iconst (-1), 1) := by decide +kernel
theorem dX4_change_109 : decode cX4_change 109 = .ok (.ireturn, 1) := by decide +kernel
theorem dX4_change_110 : decode cX4_change 110 = .ok (.iconst 0, 1) := by decide +kernel
theorem dX4_change_111 : decode cX4_change 111 = .ok (.istore 5, 2) := by decide +kernel
theorem dX4_change_113 : decode cX4_change 113 = .ok (.aload_n 0, 1) := by decide +kernel
theorem dX4_change_114 : decode cX4_change 114 = .ok (.getfield 59, 3) := by decide +kernel
theorem dX4_change_117 : decode cX4_change 117 = .ok (.iconst 1, 1) := by decide +kernel
theorem dX4_change_118 : decode cX4_change 118 = .ok (.isub, 1) := by decide +kernel
theorem dX4_change_119 : decode cX4_change 119 = .ok (.istore 6, 2) := by decide +kernel
theorem dX4_change_121 : decode cX4_change 121 = .ok (.iload 6, 2) := by decide +kernel
theorem dX4_change_123 : decode cX4_change 123 = .ok (.ifCond .lt 42, 3) := by decide +kernel
theorem dX4_change_126 : decode cX4_change 126 = .ok (.iload 5, 2) := by decide +kernel
theorem dX4_change_128 : decode cX4_change 128 = .ok (.lload_n 3, 1) := by decide +kernel
theorem dX4_change_129 : decode cX4_change 129 = .ok (.ldc2_w 119, 3) := by decide +kernel
theorem dX4_change_132 : decode cX4_change 132 = .ok (.lrem, 1) := by decide +kernel
theorem dX4_change_133 : decode cX4_change 133 = .ok (.aload_n 0, 1) := by decide +kernel
theorem dX4_change_134 : decode cX4_change 134 = .ok (.getfield 43, 3) := by decide +kernel
theorem dX4_change_137 : decode cX4_change 137 = .ok (.iload 6, 2) := by decide +kernel
theorem dX4_change_139 : decode cX4_change 139 = .ok (.iaload, 1) := by decide +kernel
theorem dX4_change_140 : decode cX4_change 140 = .ok (.i2l, 1) := by decide +kernel
theorem dX4_change_141 : decode cX4_change 141 = .ok (.lcmp, 1) := by decide +kernel
theorem dX4_change_142 : decode cX4_change 142 = .ok (.ifCond .eq 7, 3) := by decide +kernel
theorem dX4_change_145 : decode cX4_change 145 = .ok (.iconst 1, 1) := by decide +kernel
theorem dX4_change_146 : decode cX4_change 146 = .ok (.goto 4, 3) := by decide +kernel
theorem dX4_change_149 : decode cX4_change 149 = .ok (.iconst 0, 1) := by decide +kernel
theorem dX4_change_150 : decode cX4_change 150 = .ok (.iadd, 1) := by decide +kernel
theorem dX4_change_151 : decode cX4_change 151 = .ok (.istore 5, 2) := by decide +kernel
theorem dX4_change_153 : decode cX4_change 153 = .ok (.lload_n 3, 1) := by decide +kernel
theorem dX4_change_154 : decode cX4_change 154 = .ok (.ldc2_w 119, 3) := by decide +kernel
theorem dX4_change_157 : decode cX4_change 157 = .ok (.ldiv, 1) := by decide +kernel
theorem dX4_change_158 : decode cX4_change 158 = .ok (.lstore_n 3, 1) := by decide +kernel
theorem dX4_change_159 : decode cX4_change 159 = .ok (.iinc 6 (-1), 3) := by decide +kernel
theorem dX4_change_162 : decode cX4_change 162 = .ok (.goto (-41), 3) := by decide +kernel
theorem dX4_change_165 : decode cX4_change 165 = .ok (.iload 5, 2) := by decide +kernel
theorem dX4_change_167 : decode cX4_change 167 = .ok (.ireturn, 1) := by decide +kernel
theorem dX4_lies_0 : decode cX4_lies 0 = .ok (.aload_n 0, 1) := by decide +kernel
theorem dX4_lies_1 : decode cX4_lies 1 = .ok (.aload_n 0, 1) := by decide +kernel
theorem dX4_lies_2 : decode cX4_lies 2 = .ok (.getfield 66, 3) := by decide +kernel
theorem dX4_lies_5 : decode cX4_lies 5 = .ok (.ifCond .eq 7, 3) := by decide +kernel
theorem dX4_lies_8 : decode cX4_lies 8 = .ok (.iconst 0, 1) := by decide +kernel
theorem dX4_lies_9 : decode cX4_lies 9 = .ok (.goto 4, 3) := by decide +kernel
theorem dX4_lies_12 : decode cX4_lies 12 = .ok (.iconst 1, 1) := by decide +kernel
theorem dX4_lies_13 : decode cX4_lies 13 = .ok (.putfield 56, 3) := by decide +kernel
theorem dX4_lies_16 : decode cX4_lies 16 = .ok (.iconst (-1), 1) := by decide +kernel
theorem dX4_lies_17 : decode cX4_lies 17 = .ok (.istore_n 3, 1) := by decide +kernel
theorem dX4_lies_18 : decode cX4_lies 18 = .ok (.iconst 0, 1) := by decide +kernel
theorem dX4_lies_19 : decode cX4_lies 19 = .ok (.istore 4, 2) := by decide +kernel
theorem dX4_lies_21 : decode cX4_lies 21 = .ok (.iload 4, 2) := by decide +kernel
theorem dX4_lies_23 : decode cX4_lies 23 = .ok (.aload_n 0, 1) := by decide +kernel
theorem dX4_lies_24 : decode cX4_lies 24 = .ok (.getfield 59, 3) := by decide +kernel
theorem dX4_lies_27 : decode cX4_lies 27 = .ok (.if_icmp .ge 107, 3) := by decide +kernel
theorem dX4_lies_30 : decode cX4_lies 30 = .ok (.aload_n 0, 1) := by decide +kernel
theorem dX4_lies_31 : decode cX4_lies 31 = .ok (.getfield 66, 3) := by decide +kernel
theorem dX4_lies_34 : decode cX4_lies 34 = .ok (.ifCond .eq 100, 3) := by decide +kernel
theorem dX4_lies_37 : decode cX4_lies 37 = .ok (.iload_n 1, 1) := by decide +kernel
theorem dX4_lies_38 : decode cX4_lies 38 = .ok (.aload_n 0, 1) := by decide +kernel
theorem dX4_lies_39 : decode cX4_lies 39 = .ok (.getfield 43, 3) := by decide +kernel
theorem dX4_lies_42 : decode cX4_lies 42 = .ok (.iload 4, 2) := by decide +kernel
theorem dX4_lies_44 : decode cX4_lies 44 = .ok (.iaload, 1) := by decide +kernel
theorem dX4_lies_45 : decode cX4_lies 45 = .ok (.bipush 6, 2) := by decide +kernel
theorem dX4_lies_47 : decode cX4_lies 47 = .ok (.irem, 1) := by decide +kernel
theorem dX4_lies_48 : decode cX4_lies 48 = .ok (.if_icmp .lt 65, 3) := by decide +kernel
theorem dX4_lies_51 : decode cX4_lies 51 = .ok (.iload_n 1, 1) := by decide +kernel
theorem dX4_lies_52 : decode cX4_lies 52 = .ok (.aload_n 0, 1) := by decide +kernel
theorem dX4_lies_53 : decode cX4_lies 53 = .ok (.getfield 43, 3) := by decide +kernel
theorem dX4_lies_56 : decode cX4_lies 56 = .ok (.iload 4, 2) := by decide +kernel
theorem dX4_lies_58 : decode cX4_lies 58 = .ok (.iaload, 1) := by decide +kernel
theorem dX4_lies_59 : decode cX4_lies 59 = .ok (.bipush 6, 2) := by decide +kernel
theorem dX4_lies_61 : decode cX4_lies 61 = .ok (.irem, 1) := by decide +kernel
theorem dX4_lies_62 : decode cX4_lies 62 = .ok (.aload_n 0, 1) := by decide +kernel
theorem dX4_lies_63 : decode cX4_lies 63 = .ok (.getfield 22, 3) := by decide +kernel
theorem dX4_lies_66 : decode cX4_lies 66 = .ok (.iload 4, 2) := by decide +kernel
theorem dX4_lies_68 : decode cX4_lies 68 = .ok (.iaload, 1) := by decide +kernel
theorem dX4_lies_69 : decode cX4_lies 69 = .ok (.iadd, 1) := by decide +kernel
theorem dX4_lies_70 : decode cX4_lies 70 = .ok (.if_icmp .ge 43, 3) := by decide +kernel
theorem dX4_lies_73 : decode cX4_lies 73 = .ok (.iload_n 2, 1) := by decide +kernel
theorem dX4_lies_74 : decode cX4_lies 74 = .ok (.aload_n 0, 1) := by decide +kernel
theorem dX4_lies_75 : decode cX4_lies 75 = .ok (.getfield 43, 3) := by decide +kernel
theorem dX4_lies_78 : decode cX4_lies 78 = .ok (.iload 4, 2) := by decide +kernel
theorem dX4_lies_80 : decode cX4_lies 80 = .ok (.iaload, 1) := by decide +kernel
theorem dX4_lies_81 : decode cX4_lies 81 = .ok (.bipush 6, 2) := by decide +kernel
theorem dX4_lies_83 : decode cX4_lies 83 = .ok (.idiv, 1) := by decide +kernel
theorem dX4_lies_84 : decode cX4_lies 84 = .ok (.if_icmp .lt 29, 3) := by decide +kernel
theorem dX4_lies_87 : decode cX4_lies 87 = .ok (.iload_n 2, 1) := by decide +kernel
theorem dX4_lies_88 : decode cX4_lies 88 = .ok (.aload_n 0, 1) := by decide +kernel
theorem dX4_lies_89 : decode cX4_lies 89 = .ok (.getfield 43, 3) := by decide +kernel
theorem dX4_lies_92 : decode cX4_lies 92 = .ok (.iload 4, 2) := by decide +kernel
theorem dX4_lies_94 : decode cX4_lies 94 = .ok (.iaload, 1) := by decide +kernel
theorem dX4_lies_95 : decode cX4_lies 95 = .ok (.bipush 6, 2) := by decide +kernel
theorem dX4_lies_97 : decode cX4_lies 97 = .ok (.idiv, 1) := by decide +kernel
theorem dX4_lies_98 : decode cX4_lies 98 = .ok (.aload_n 0, 1) := by decide +kernel
theorem dX4_lies_99 : decode cX4_lies 99 = .ok (.getfield 28, 3) := by decide +kernel
theorem dX4_lies_102 : decode cX4_lies 102 = .ok (.iload 4, 2) := by decide +kernel
theorem dX4_lies_104 : decode cX4_lies 104 = .ok (.iaload, 1) := by decide +kernel
theorem dX4_lies_105 : decode cX4_lies 105 = .ok (.iadd, 1) := by decide +kernel
theorem dX4_lies_106 : decode cX4_lies 106 = .ok (.if_icmp .ge 7, 3) := by decide +kernel
theorem dX4_lies_109 : decode cX4_lies 109 = .ok (.iconst 1, 1) := by decide +kernel
theorem dX4_lies_110 : decode cX4_lies 110 = .ok (.goto 4, 3) := by decide +kernel
theorem dX4_lies_113 : decode cX4_lies 113 = .ok (.iconst 0, 1) := by decide +kernel
theorem dX4_lies_114 : decode cX4_lies 114 = .ok (.istore 5, 2) := by decide +kernel
theorem dX4_lies_116 : decode cX4_lies 116 = .ok (.iload 5, 2) := by decide +kernel
theorem dX4_lies_118 : decode cX4_lies 118 = .ok (.ifCond .eq 8, 3) := by decide +kernel
theorem dX4_lies_121 : decode cX4_lies 121 = .ok (.iload 4, 2) := by decide +kernel
theorem dX4_lies_123 : decode cX4_lies 123 = .ok (.goto 4, 3) := by decide +kernel
theorem dX4_lies_126 : decode cX4_lies 126 = .ok (.iload_n 3, 1) := by decide +kernel
theorem dX4_lies_127 : decode cX4_lies 127 = .ok (.istore_n 3, 1) := by decide +kernel
theorem dX4_lies_128 : decode cX4_lies 128 = .ok (.iinc 4 1, 3) := by decide +kernel
theorem dX4_lies_131 : decode cX4_lies 131 = .ok (.goto (-110), 3) := by decide +kernel
theorem dX4_lies_134 : decode cX4_lies 134 = .ok (.aload_n 0, 1) := by decide +kernel
theorem dX4_lies_135 : decode cX4_lies 135 = .ok (.getfield 56, 3) := by decide +kernel
theorem dX4_lies_138 : decode cX4_lies 138 = .ok (.ifCond .le 7, 3) := by decide +kernel
theorem dX4_lies_141 : decode cX4_lies 141 = .ok (.iconst 0, 1) := by decide +kernel
theorem dX4_lies_142 : decode cX4_lies 142 = .ok (.goto 4, 3) := by decide +kernel
theorem dX4_lies_145 : decode cX4_lies 145 = .ok (.iload_n 3, 1) := by decide +kernel
theorem dX4_lies_146 : decode cX4_lies 146 = .ok (.ireturn, 1) := by decide +kernel
set_option maxRecDepth 20000 in
theorem ggX4_share_X4_in : GoodIn wsX4_share wsX4_in := goodIn_r _ [8] (by decide +kernel) (by decide +kernel)
set_option maxRecDepth 20000 in
theorem gX4_share_X4_in : GoodIn wsX4_share (va_wsS RX4 62 yX4_in wsX4_in) := goodIn_app (goodIn_of _ (by decide +kernel)) ggX4_share_X4_in
theorem dX4_share_0 : decode cX4_share 0 = .ok (.iconst 0, 1) := by decide +kernel
theorem dX4_share_1 : decode cX4_share 1 = .ok (.istore 4, 2) := by decide +kernel
theorem dX4_share_3 : decode cX4_share 3 = .ok (.iconst 0, 1) := by decide +kernel
theorem dX4_share_4 : decode cX4_share 4 = .ok (.istore 5, 2) := by decide +kernel
theorem dX4_share_6 : decode cX4_share 6 = .ok (.iload 5, 2) := by decide +kernel
theorem dX4_share_8 : decode cX4_share 8 = .ok (.aload_n 0, 1) := by decide +kernel
theorem dX4_share_9 : decode cX4_share 9 = .ok (.getfield 52, 3) := by decide +kernel
theorem dX4_share_12 : decode cX4_share 12 = .ok (.if_icmp .ge 30, 3) := by decide +kernel
theorem dX4_share_15 : decode cX4_share 15 = .ok (.iload 4, 2) := by decide +kernel
theorem dX4_share_17 : decode cX4_share 17 = .ok (.aload_n 0, 1) := by decide +kernel
theorem dX4_share_18 : decode cX4_share 18 = .ok (.getfield 7, 3) := by decide +kernel
theorem dX4_share_21 : decode cX4_share 21 = .ok (.iload 5, 2) := by decide +kernel
theorem dX4_share_23 : decode cX4_share 23 = .ok (.iaload, 1) := by decide +kernel
theorem dX4_share_24 : decode cX4_share 24 = .ok (.iload_n 3, 1) := by decide +kernel
theorem dX4_share_25 : decode cX4_share 25 = .ok (.if_icmp .lt 7, 3) := by decide +kernel
theorem dX4_share_28 : decode cX4_share 28 = .ok (.iconst 1, 1) := by decide +kernel
theorem dX4_share_29 : decode cX4_share 29 = .ok (.goto 4, 3) := by decide +kernel
theorem dX4_share_32 : decode cX4_share 32 = .ok (.iconst 0, 1) := by decide +kernel
theorem dX4_share_33 : decode cX4_share 33 = .ok (.iadd, 1) := by decide +kernel
theorem dX4_share_34 : decode cX4_share 34 = .ok (.istore 4, 2) := by decide +kernel
theorem dX4_share_36 : decode cX4_share 36 = .ok (.iinc 5 1, 3) := by decide +kernel
theorem dX4_share_39 : decode cX4_share 39 = .ok (.goto (-33), 3) := by decide +kernel
theorem dX4_share_42 : decode cX4_share 42 = .ok (.aload_n 0, 1) := by decide +kernel
theorem dX4_share_43 : decode cX4_share 43 = .ok (.iload_n 1, 1) := by decide +kernel
theorem dX4_share_44 : decode cX4_share 44 = .ok (.iconst 0, 1) := by decide +kernel
theorem dX4_share_45 : decode cX4_share 45 = .ok (.ldc 121, 2) := by decide +kernel
theorem dX4_share_47 : decode cX4_share 47 = .ok (.invokestatic 62, 3) := by decide +kernel
theorem dX4_share_50 : decode cX4_share 50 = .ok (.ifCond .eq 13, 3) := by decide +kernel
theorem dX4_share_53 : decode cX4_share 53 = .ok (.iload_n 2, 1) := by decide +kernel
theorem dX4_share_54 : decode cX4_share 54 = .ok (.iconst 0, 1) := by decide +kernel
theorem dX4_share_55 : decode cX4_share 55 = .ok (.ldc 121, 2) := by decide +kernel
theorem dX4_share_57 : decode cX4_share 57 = .ok (.invokestatic 62, 3) := by decide +kernel
theorem dX4_share_60 : decode cX4_share 60 = .ok (.ifCond .ne 7, 3) := by decide +kernel
theorem dX4_share_63 : decode cX4_share 63 = .ok (.iconst 1, 1) := by decide +kernel
theorem dX4_share_64 : decode cX4_share 64 = .ok (.goto 13, 3) := by decide +kernel
theorem dX4_share_67 : decode cX4_share 67 = .ok (.iload 4, 2) := by decide +kernel
theorem dX4_share_69 : decode cX4_share 69 = .ok (.ifCond .ne 7, 3) := by decide +kernel
theorem dX4_share_72 : decode cX4_share 72 = .ok (.iconst 2, 1) := by decide +kernel
theorem dX4_share_73 : decode cX4_share 73 = .ok (.goto 4, 3) := by decide +kernel
theorem dX4_share_76 : decode cX4_share 76 = .ok (.iconst 0, 1) := by decide +kernel
theorem dX4_share_77 : decode cX4_share 77 = .ok (.putfield 56, 3) := by decide +kernel
theorem dX4_share_80 : decode cX4_share 80 = .ok (.aload_n 0, 1) := by decide +kernel
theorem dX4_share_81 : decode cX4_share 81 = .ok (.getfield 56, 3) := by decide +kernel
theorem dX4_share_84 : decode cX4_share 84 = .ok (.ifCond .le 7, 3) := by decide +kernel
theorem dX4_share_87 : decode cX4_share 87 = .ok (.lconst 0, 1) := by decide +kernel
theorem dX4_share_88 : decode cX4_share 88 = .ok (.goto 12, 3) := by decide +kernel
theorem dX4_share_91 : decode cX4_share 91 = .ok (.iload_n 1, 1) := by decide +kernel
theorem dX4_share_92 : decode cX4_share 92 = .ok (.i2l, 1) := by decide +kernel
theorem dX4_share_93 : decode cX4_share 93 = .ok (.iload_n 2, 1) := by decide +kernel
theorem dX4_share_94 : decode cX4_share 94 = .ok (.i2l, 1) := by decide +kernel
theorem dX4_share_95 : decode cX4_share 95 = .ok (.lmul, 1) := by decide +kernel
theorem dX4_share_96 : decode cX4_share 96 = .ok (.iload 4, 2) := by decide +kernel
theorem dX4_share_98 : decode cX4_share 98 = .ok (.i2l, 1) := by decide +kernel
theorem dX4_share_99 : decode cX4_share 99 = .ok (.ldiv, 1) := by decide +kernel
theorem dX4_share_100 : decode cX4_share 100 = .ok (.lreturn, 1) := by decide +kernel
set_option maxRecDepth 20000 in
theorem ggX4_count_X4_isPlace : GoodIn wsX4_count wsX4_isPlace := goodIn_r _ [13, 6, 14, 15, 16, 17, 18, 19, 20, 21, 22, 23, 24, 25, 26, 27, 28, 29, 30, 31, 32] (by decide +kernel) (by decide +kernel)
set_option maxRecDepth 20000 in
theorem gX4_count_X4_isPlace : GoodIn wsX4_count (wsV RX4 70 RX4 yX4_isPlace wsX4_isPlace) := goodIn_app (goodIn_of _ (by decide +kernel)) ggX4_count_X4_isPlace
theorem dX4_count_0 : decode cX4_count 0 = .ok (.aload_n 0, 1) := by decide +kernel
theorem dX4_count_1 : decode cX4_count 1 = .ok (.iconst 0, 1) := by decide +kernel
theorem dX4_count_2 : decode cX4_count 2 = .ok (.putfield 56, 3) := by decide +kernel
theorem dX4_count_5 : decode cX4_count 5 = .ok (.iload_n 1, 1) := by decide +kernel
theorem dX4_count_6 : decode cX4_count 6 = .ok (.bipush 10, 2) := by decide +kernel
theorem dX4_count_8 : decode cX4_count 8 = .ok (.if_icmp .lt 52, 3) := by decide +kernel
theorem dX4_count_11 : decode cX4_count 11 = .ok (.aload_n 0, 1) := by decide +kernel
theorem dX4_count_12 : decode cX4_count 12 = .ok (.iload_n 1, 1) := by decide +kernel
theorem dX4_count_13 : decode cX4_count 13 = .ok (.bipush 10, 2) := by decide +kernel
theorem dX4_count_15 : decode cX4_count 15 = .ok (.irem, 1) := by decide +kernel
theorem dX4_count_16 : decode cX4_count 16 = .ok (.invokevirtual 70, 3) := by decide +kernel
theorem dX4_count_19 : decode cX4_count 19 = .ok (.ifCond .eq 9, 3) := by decide +kernel
theorem dX4_count_22 : decode cX4_count 22 = .ok (.iload_n 1, 1) := by decide +kernel
theorem dX4_count_23 : decode cX4_count 23 = .ok (.bipush 29, 2) := by decide +kernel
theorem dX4_count_25 : decode cX4_count 25 = .ok (.if_icmp .le 7, 3) := by decide +kernel
theorem dX4_count_28 : decode cX4_count 28 = .ok (.iconst (-1), 1) := by decide +kernel
theorem dX4_count_29 : decode cX4_count 29 = .ok (.goto 30, 3) := by decide +kernel
theorem dX4_count_32 : decode cX4_count 32 = .ok (.iload_n 1, 1) := by decide +kernel
theorem dX4_count_33 : decode cX4_count 33 = .ok (.bipush 20, 2) := by decide +kernel
theorem dX4_count_35 : decode cX4_count 35 = .ok (.if_icmp .ge 15, 3) := by decide +kernel
theorem dX4_count_38 : decode cX4_count 38 = .ok (.aload_n 0, 1) := by decide +kernel
theorem dX4_count_39 : decode cX4_count 39 = .ok (.getfield 7, 3) := by decide +kernel
theorem dX4_count_42 : decode cX4_count 42 = .ok (.iload_n 1, 1) := by decide +kernel
theorem dX4_count_43 : decode cX4_count 43 = .ok (.bipush 10, 2) := by decide +kernel
theorem dX4_count_45 : decode cX4_count 45 = .ok (.isub, 1) := by decide +kernel
theorem dX4_count_46 : decode cX4_count 46 = .ok (.iaload, 1) := by decide +kernel
theorem dX4_count_47 : decode cX4_count 47 = .ok (.goto 12, 3) := by decide +kernel
theorem dX4_count_50 : decode cX4_count 50 = .ok (.aload_n 0, 1) := by decide +kernel
theorem dX4_count_51 : decode cX4_count 51 = .ok (.getfield 13, 3) := by decide +kernel
theorem dX4_count_54 : decode cX4_count 54 = .ok (.iload_n 1, 1) := by decide +kernel
theorem dX4_count_55 : decode cX4_count 55 = .ok (.bipush 20, 2) := by decide +kernel
theorem dX4_count_57 : decode cX4_count 57 = .ok (.isub, 1) := by decide +kernel
theorem dX4_count_58 : decode cX4_count 58 = .ok (.iaload, 1) := by decide +kernel
theorem dX4_count_59 : decode cX4_count 59 = .ok (.ireturn, 1) := by decide +kernel
theorem dX4_count_60 : decode cX4_count 60 = .ok (.iconst 0, 1) := by decide +kernel
theorem dX4_count_61 : decode cX4_count 61 = .ok (.istore_n 2, 1) := by decide +kernel
theorem dX4_count_62 : decode cX4_count 62 = .ok (.iconst 0, 1) := by decide +kernel
theorem dX4_count_63 : decode cX4_count 63 = .ok (.istore_n 3, 1) := by decide +kernel
theorem dX4_count_64 : decode cX4_count 64 = .ok (.iload_n 3, 1) := by decide +kernel
theorem dX4_count_65 : decode cX4_count 65 = .ok (.aload_n 0, 1) := by decide +kernel
theorem dX4_count_66 : decode cX4_count 66 = .ok (.getfield 59, 3) := by decide +kernel
theorem dX4_count_69 : decode cX4_count 69 = .ok (.if_icmp .ge 26, 3) := by decide +kernel
theorem dX4_count_72 : decode cX4_count 72 = .ok (.iload_n 2, 1) := by decide +kernel
theorem dX4_count_73 : decode cX4_count 73 = .ok (.aload_n 0, 1) := by decide +kernel
theorem dX4_count_74 : decode cX4_count 74 = .ok (.getfield 40, 3) := by decide +kernel
theorem dX4_count_77 : decode cX4_count 77 = .ok (.iload_n 3, 1) := by decide +kernel
theorem dX4_count_78 : decode cX4_count 78 = .ok (.iaload, 1) := by decide +kernel
theorem dX4_count_79 : decode cX4_count 79 = .ok (.ifCond .lt 7, 3) := by decide +kernel
theorem dX4_count_82 : decode cX4_count 82 = .ok (.iconst 1, 1) := by decide +kernel
theorem dX4_count_83 : decode cX4_count 83 = .ok (.goto 4, 3) := by decide +kernel
theorem dX4_count_86 : decode cX4_count 86 = .ok (.iconst 0, 1) := by decide +kernel
theorem dX4_count_87 : decode cX4_count 87 = .ok (.iadd, 1) := by decide +kernel
theorem dX4_count_88 : decode cX4_count 88 = .ok (.istore_n 2, 1) := by decide +kernel
theorem dX4_count_89 : decode cX4_count 89 = .ok (.iinc 3 1, 3) := by decide +kernel
theorem dX4_count_92 : decode cX4_count 92 = .ok (.goto (-28), 3) := by decide +kernel
theorem dX4_count_95 : decode cX4_count 95 = .ok (.iload_n 1, 1) := by decide +kernel
theorem dX4_count_96 : decode cX4_count 96 = .ok (.tableswitch 66 0 4 #[36, 41, 46, 51, 64], 36) := by decide +kernel
theorem dX4_count_132 : decode cX4_count 132 = .ok (.aload_n 0, 1) := by decide +kernel
theorem dX4_count_133 : decode cX4_count 133 = .ok (.getfield 52, 3) := by decide +kernel
theorem dX4_count_136 : decode cX4_count 136 = .ok (.ireturn, 1) := by decide +kernel
theorem dX4_count_137 : decode cX4_count 137 = .ok (.aload_n 0, 1) := by decide +kernel
theorem dX4_count_138 : decode cX4_count 138 = .ok (.getfield 59, 3) := by decide +kernel
theorem dX4_count_141 : decode cX4_count 141 = .ok (.ireturn, 1) := by decide +kernel
theorem dX4_count_142 : decode cX4_count 142 = .ok (.aload_n 0, 1) := by decide +kernel
theorem dX4_count_143 : decode cX4_count 143 = .ok (.getfield 81, 3) := by decide +kernel
theorem dX4_count_146 : decode cX4_count 146 = .ok (.ireturn, 1) := by decide +kernel
theorem dX4_count_147 : decode cX4_count 147 = .ok (.aload_n 0, 1) := by decide +kernel
theorem dX4_count_148 : decode cX4_count 148 = .ok (.getfield 66, 3) := by decide +kernel
theorem dX4_count_151 : decode cX4_count 151 = .ok (.ifCond .eq 7, 3) := by decide +kernel
theorem dX4_count_154 : decode cX4_count 154 = .ok (.iconst 1, 1) := by decide +kernel
theorem dX4_count_155 : decode cX4_count 155 = .ok (.goto 4, 3) := by decide +kernel
theorem dX4_count_158 : decode cX4_count 158 = .ok (.iconst 0, 1) := by decide +kernel
theorem dX4_count_159 : decode cX4_count 159 = .ok (.ireturn, 1) := by decide +kernel
theorem dX4_count_160 : decode cX4_count 160 = .ok (.iload_n 2, 1) := by decide +kernel
theorem dX4_count_161 : decode cX4_count 161 = .ok (.ireturn, 1) := by decide +kernel
theorem dX4_count_162 : decode cX4_count 162 = .ok (.iconst (-1), 1) := by decide +kernel
theorem dX4_count_163 : decode cX4_count 163 = .ok (.ireturn, 1) := by decide +kernel
theorem dJ6_bitCount_0f7a4_0 : decode cJ6_bitCount_0f7a4 0 = .ok (.iload_n 0, 1) := by decide +kernel
theorem dJ6_bitCount_0f7a4_1 : decode cJ6_bitCount_0f7a4 1 = .ok (.iload_n 0, 1) := by decide +kernel
theorem dJ6_bitCount_0f7a4_2 : decode cJ6_bitCount_0f7a4 2 = .ok (.iconst 1, 1) := by decide +kernel
theorem dJ6_bitCount_0f7a4_3 : decode cJ6_bitCount_0f7a4 3 = .ok (.iushr, 1) := by decide +kernel
theorem dJ6_bitCount_0f7a4_4 : decode cJ6_bitCount_0f7a4 4 = .ok (.ldc_w 265, 3) := by decide +kernel
theorem dJ6_bitCount_0f7a4_7 : decode cJ6_bitCount_0f7a4 7 = .ok (.iand, 1) := by decide +kernel
theorem dJ6_bitCount_0f7a4_8 : decode cJ6_bitCount_0f7a4 8 = .ok (.isub, 1) := by decide +kernel
theorem dJ6_bitCount_0f7a4_9 : decode cJ6_bitCount_0f7a4 9 = .ok (.istore_n 0, 1) := by decide +kernel
theorem dJ6_bitCount_0f7a4_10 : decode cJ6_bitCount_0f7a4 10 = .ok (.iload_n 0, 1) := by decide +kernel
theorem dJ6_bitCount_0f7a4_11 : decode cJ6_bitCount_0f7a4 11 = .ok (.ldc_w 266, 3) := by decide +kernel
theorem dJ6_bitCount_0f7a4_14 : decode cJ6_bitCount_0f7a4 14 = .ok (.iand, 1) := by decide +kernel
theorem dJ6_bitCount_0f7a4_15 : decode cJ6_bitCount_0f7a4 15 = .ok (.iload_n 0, 1) := by decide +kernel
theorem dJ6_bitCount_0f7a4_16 : decode cJ6_bitCount_0f7a4 16 = .ok (.iconst 2, 1) := by decide +kernel
theorem dJ6_bitCount_0f7a4_17 : decode cJ6_bitCount_0f7a4 17 = .ok (.iushr, 1) := by decide +kernel
theorem dJ6_bitCount_0f7a4_18 : decode cJ6_bitCount_0f7a4 18 = .ok (.ldc_w 266, 3) := by decide +kernel
theorem dJ6_bitCount_0f7a4_21 : decode cJ6_bitCount_0f7a4 21 = .ok (.iand, 1) := by decide +kernel
theorem dJ6_bitCount_0f7a4_22 : decode cJ6_bitCount_0f7a4 22 = .ok (.iadd, 1) := by decide +kernel
theorem dJ6_bitCount_0f7a4_23 : decode cJ6_bitCount_0f7a4 23 = .ok (.istore_n 0, 1) := by decide +kernel
theorem dJ6_bitCount_0f7a4_24 : decode cJ6_bitCount_0f7a4 24 = .ok (.iload_n 0, 1) := by decide +kernel
theorem dJ6_bitCount_0f7a4_25 : decode cJ6_bitCount_0f7a4 25 = .ok (.iload_n 0, 1) := by decide +kernel
theorem dJ6_bitCount_0f7a4_26 : decode cJ6_bitCount_0f7a4 26 = .ok (.iconst 4, 1) := by decide +kernel
theorem dJ6_bitCount_0f7a4_27 : decode cJ6_bitCount_0f7a4 27 = .ok (.iushr, 1) := by decide +kernel
theorem dJ6_bitCount_0f7a4_28 : decode cJ6_bitCount_0f7a4 28 = .ok (.iadd, 1) := by decide +kernel
theorem dJ6_bitCount_0f7a4_29 : decode cJ6_bitCount_0f7a4 29 = .ok (.ldc_w 267, 3) := by decide +kernel
theorem dJ6_bitCount_0f7a4_32 : decode cJ6_bitCount_0f7a4 32 = .ok (.iand, 1) := by decide +kernel
theorem dJ6_bitCount_0f7a4_33 : decode cJ6_bitCount_0f7a4 33 = .ok (.istore_n 0, 1) := by decide +kernel
theorem dJ6_bitCount_0f7a4_34 : decode cJ6_bitCount_0f7a4 34 = .ok (.iload_n 0, 1) := by decide +kernel
theorem dJ6_bitCount_0f7a4_35 : decode cJ6_bitCount_0f7a4 35 = .ok (.iload_n 0, 1) := by decide +kernel
theorem dJ6_bitCount_0f7a4_36 : decode cJ6_bitCount_0f7a4 36 = .ok (.bipush 8, 2) := by decide +kernel
theorem dJ6_bitCount_0f7a4_38 : decode cJ6_bitCount_0f7a4 38 = .ok (.iushr, 1) := by decide +kernel
theorem dJ6_bitCount_0f7a4_39 : decode cJ6_bitCount_0f7a4 39 = .ok (.iadd, 1) := by decide +kernel
theorem dJ6_bitCount_0f7a4_40 : decode cJ6_bitCount_0f7a4 40 = .ok (.istore_n 0, 1) := by decide +kernel
theorem dJ6_bitCount_0f7a4_41 : decode cJ6_bitCount_0f7a4 41 = .ok (.iload_n 0, 1) := by decide +kernel
theorem dJ6_bitCount_0f7a4_42 : decode cJ6_bitCount_0f7a4 42 = .ok (.iload_n 0, 1) := by decide +kernel
theorem dJ6_bitCount_0f7a4_43 : decode cJ6_bitCount_0f7a4 43 = .ok (.bipush 16, 2) := by decide +kernel
theorem dJ6_bitCount_0f7a4_45 : decode cJ6_bitCount_0f7a4 45 = .ok (.iushr, 1) := by decide +kernel
theorem dJ6_bitCount_0f7a4_46 : decode cJ6_bitCount_0f7a4 46 = .ok (.iadd, 1) := by decide +kernel
theorem dJ6_bitCount_0f7a4_47 : decode cJ6_bitCount_0f7a4 47 = .ok (.istore_n 0, 1) := by decide +kernel
theorem dJ6_bitCount_0f7a4_48 : decode cJ6_bitCount_0f7a4 48 = .ok (.iload_n 0, 1) := by decide +kernel
theorem dJ6_bitCount_0f7a4_49 : decode cJ6_bitCount_0f7a4 49 = .ok (.bipush 63, 2) := by decide +kernel
theorem dJ6_bitCount_0f7a4_51 : decode cJ6_bitCount_0f7a4 51 = .ok (.iand, 1) := by decide +kernel
theorem dJ6_bitCount_0f7a4_52 : decode cJ6_bitCount_0f7a4 52 = .ok (.ireturn, 1) := by decide +kernel
theorem dJ9_max_7cf53_0 : decode cJ9_max_7cf53 0 = .ok (.iload_n 0, 1) := by decide +kernel
theorem dJ9_max_7cf53_1 : decode cJ9_max_7cf53 1 = .ok (.iload_n 1, 1) := by decide +kernel
theorem dJ9_max_7cf53_2 : decode cJ9_max_7cf53 2 = .ok (.if_icmp .lt 7, 3) := by decide +kernel
theorem dJ9_max_7cf53_5 : decode cJ9_max_7cf53 5 = .ok (.iload_n 0, 1) := by decide +kernel
theorem dJ9_max_7cf53_6 : decode cJ9_max_7cf53 6 = .ok (.goto 4, 3) := by decide +kernel
theorem dJ9_max_7cf53_9 : decode cJ9_max_7cf53 9 = .ok (.iload_n 1, 1) := by decide +kernel
theorem dJ9_max_7cf53_10 : decode cJ9_max_7cf53 10 = .ok (.ireturn, 1) := by decide +kernel
theorem dJ9_min_7cf53_0 : decode cJ9_min_7cf53 0 = .ok (.iload_n 0, 1) := by decide +kernel
theorem dJ9_min_7cf53_1 : decode cJ9_min_7cf53 1 = .ok (.iload_n 1, 1) := by decide +kernel
theorem dJ9_min_7cf53_2 : decode cJ9_min_7cf53 2 = .ok (.if_icmp .gt 7, 3) := by decide +kernel
theorem dJ9_min_7cf53_5 : decode cJ9_min_7cf53 5 = .ok (.iload_n 0, 1) := by decide +kernel
theorem dJ9_min_7cf53_6 : decode cJ9_min_7cf53 6 = .ok (.goto 4, 3) := by decide +kernel
theorem dJ9_min_7cf53_9 : decode cJ9_min_7cf53 9 = .ok (.iload_n 1, 1) := by decide +kernel
theorem dJ9_min_7cf53_10 : decode cJ9_min_7cf53 10 = .ok (.ireturn, 1) := by decide +kernel
end
section
theorem dL_cell_0 : decode cL_cell 0 = .ok (.iload_n 1, 1) := by decide +kernel
theorem dL_cell_1 : decode cL_cell 1 = .ok (.aload_n 0, 1) := by decide +kernel
theorem dL_cell_2 : decode cL_cell 2 = .ok (.arraylength, 1) := by decide +kernel
theorem dL_cell_3 : decode cL_cell 3 = .ok (.if_icmp .ge 9, 3) := by decide +kernel
theorem dL_cell_6 : decode cL_cell 6 = .ok (.aload_n 0, 1) := by decide +kernel
theorem dL_cell_7 : decode cL_cell 7 = .ok (.iload_n 1, 1) := by decide +kernel
theorem dL_cell_8 : decode cL_cell 8 = .ok (.iaload, 1) := by decide +kernel
theorem dL_cell_9 : decode cL_cell 9 = .ok (.goto 4, 3) := by decide +kernel
theorem dL_cell_12 : decode cL_cell 12 = .ok (.iconst 0, 1) := by decide +kernel
theorem dL_cell_13 : decode cL_cell 13 = .ok (.ireturn, 1) := by decide +kernel
set_option maxRecDepth 20000 in
theorem ggL_ship_X3_ship : GoodIn wsL_ship wsX3_ship := goodIn_ca (goodIn_ca (goodIn_r _ [7, 8, 9, 10, 11, 12, 13, 14, 15, 16, 17, 18, 19, 20, 21, 6, 22, 23, 24, 25, 26, 27, 28, 29, 30, 31, 32, 33, 34, 35, 36, 37, 38] (by decide +kernel) (by decide +kernel)) (goodIn_sub (fun _ h => List.mem_cons_of_mem _ (List.mem_append_left _ (List.mem_append_right _ h))) (by decide +kernel))) (goodIn_sub (fun _ h => List.mem_cons_of_mem _ (List.mem_append_right _ h)) (by decide +kernel))
set_option maxRecDepth 20000 in
theorem gL_ship_X3_ship : GoodIn wsL_ship (wsV RL 7 RX3 yX3_ship wsX3_ship) := goodIn_app (goodIn_of _ (by decide +kernel)) ggL_ship_X3_ship
theorem dL_ship_0 : decode cL_ship 0 = .ok (.aload 6, 2) := by decide +kernel
theorem dL_ship_2 : decode cL_ship 2 = .ok (.iconst 0, 1) := by decide +kernel
theorem dL_ship_3 : decode cL_ship 3 = .ok (.aload_n 0, 1) := by decide +kernel
theorem dL_ship_4 : decode cL_ship 4 = .ok (.iload_n 1, 1) := by decide +kernel
theorem dL_ship_5 : decode cL_ship 5 = .ok (.iload_n 2, 1) := by decide +kernel
theorem dL_ship_6 : decode cL_ship 6 = .ok (.iload_n 3, 1) := by decide +kernel
theorem dL_ship_7 : decode cL_ship 7 = .ok (.iload 4, 2) := by decide +kernel
theorem dL_ship_9 : decode cL_ship 9 = .ok (.iload 5, 2) := by decide +kernel
theorem dL_ship_11 : decode cL_ship 11 = .ok (.invokevirtual 7, 3) := by decide +kernel
theorem dL_ship_14 : decode cL_ship 14 = .ok (.i2l, 1) := by decide +kernel
theorem dL_ship_15 : decode cL_ship 15 = .ok (.lastore, 1) := by decide +kernel
theorem dL_ship_16 : decode cL_ship 16 = .ok (.goto 11, 3) := by decide +kernel
theorem dL_ship_19 : decode cL_ship 19 = .ok (.astore 7, 2) := by decide +kernel
theorem dL_ship_21 : decode cL_ship 21 = .ok (.iconst 1, 1) := by decide +kernel
theorem dL_ship_22 : decode cL_ship 22 = .ok (.ireturn, 1) := by decide +kernel
theorem dL_ship_23 : decode cL_ship 23 = .ok (.astore 7, 2) := by decide +kernel
theorem dL_ship_25 : decode cL_ship 25 = .ok (.iconst 2, 1) := by decide +kernel
theorem dL_ship_26 : decode cL_ship 26 = .ok (.ireturn, 1) := by decide +kernel
theorem dL_ship_27 : decode cL_ship 27 = .ok (.iconst 0, 1) := by decide +kernel
theorem dL_ship_28 : decode cL_ship 28 = .ok (.ireturn, 1) := by decide +kernel
set_option maxRecDepth 20000 in
theorem ggL_at_X3_at : GoodIn wsL_at wsX3_at := goodIn_ca (goodIn_ca (goodIn_r _ [7, 8, 9, 10, 11, 12, 13, 14, 15, 16, 17, 18, 19, 6, 20, 21, 22, 23, 24, 25, 26, 27, 28, 29, 30, 31, 32, 33, 34, 35, 36, 37, 38, 39, 40] (by decide +kernel) (by decide +kernel)) (goodIn_sub (fun _ h => List.mem_cons_of_mem _ (List.mem_append_left _ (List.mem_append_right _ h))) (by decide +kernel))) (goodIn_sub (fun _ h => List.mem_cons_of_mem _ (List.mem_append_right _ h)) (by decide +kernel))
set_option maxRecDepth 20000 in
theorem gL_at_X3_at : GoodIn wsL_at (wsV RL 17 RX3 yX3_at wsX3_at) := goodIn_app (goodIn_of _ (by decide +kernel)) ggL_at_X3_at
theorem dL_at_0 : decode cL_at 0 = .ok (.aload_n 3, 1) := by decide +kernel
theorem dL_at_1 : decode cL_at 1 = .ok (.iconst 0, 1) := by decide +kernel
theorem dL_at_2 : decode cL_at 2 = .ok (.aload_n 0, 1) := by decide +kernel
theorem dL_at_3 : decode cL_at 3 = .ok (.iload_n 1, 1) := by decide +kernel
theorem dL_at_4 : decode cL_at 4 = .ok (.iload_n 2, 1) := by decide +kernel
theorem dL_at_5 : decode cL_at 5 = .ok (.invokevirtual 17, 3) := by decide +kernel
theorem dL_at_8 : decode cL_at 8 = .ok (.i2l, 1) := by decide +kernel
theorem dL_at_9 : decode cL_at 9 = .ok (.lastore, 1) := by decide +kernel
theorem dL_at_10 : decode cL_at 10 = .ok (.goto 11, 3) := by decide +kernel
theorem dL_at_13 : decode cL_at 13 = .ok (.astore 4, 2) := by decide +kernel
theorem dL_at_15 : decode cL_at 15 = .ok (.iconst 1, 1) := by decide +kernel
theorem dL_at_16 : decode cL_at 16 = .ok (.ireturn, 1) := by decide +kernel
theorem dL_at_17 : decode cL_at 17 = .ok (.astore 4, 2) := by decide +kernel
theorem dL_at_19 : decode cL_at 19 = .ok (.iconst 2, 1) := by decide +kernel
theorem dL_at_20 : decode cL_at 20 = .ok (.ireturn, 1) := by decide +kernel
theorem dL_at_21 : decode cL_at 21 = .ok (.iconst 0, 1) := by decide +kernel
theorem dL_at_22 : decode cL_at 22 = .ok (.ireturn, 1) := by decide +kernel
set_option maxRecDepth 20000 in
theorem ggL_lateness_X3_lateness : GoodIn wsL_lateness wsX3_lateness := goodIn_ca (goodIn_r _ [6, 7, 8, 9, 10, 11, 12, 13, 14, 15, 16, 17, 18, 19, 20, 21, 22, 23, 24, 25, 26, 27, 28, 29, 30, 31, 32, 33, 34, 35] (by decide +kernel) (by decide +kernel)) (goodIn_sub (fun _ h => List.mem_cons_of_mem _ (List.mem_append_right _ h)) (by decide +kernel))
set_option maxRecDepth 20000 in
theorem gL_lateness_X3_lateness : GoodIn wsL_lateness (wsV RL 23 RX3 yX3_lateness wsX3_lateness) := goodIn_app (goodIn_of _ (by decide +kernel)) ggL_lateness_X3_lateness
theorem dL_lateness_0 : decode cL_lateness 0 = .ok (.aload_n 1, 1) := by decide +kernel
theorem dL_lateness_1 : decode cL_lateness 1 = .ok (.iconst 0, 1) := by decide +kernel
theorem dL_lateness_2 : decode cL_lateness 2 = .ok (.aload_n 0, 1) := by decide +kernel
theorem dL_lateness_3 : decode cL_lateness 3 = .ok (.invokevirtual 23, 3) := by decide +kernel
theorem dL_lateness_6 : decode cL_lateness 6 = .ok (.i2l, 1) := by decide +kernel
theorem dL_lateness_7 : decode cL_lateness 7 = .ok (.lastore, 1) := by decide +kernel
theorem dL_lateness_8 : decode cL_lateness 8 = .ok (.goto 6, 3) := by decide +kernel
theorem dL_lateness_11 : decode cL_lateness 11 = .ok (.astore_n 2, 1) := by decide +kernel
theorem dL_lateness_12 : decode cL_lateness 12 = .ok (.iconst 1, 1) := by decide +kernel
theorem dL_lateness_13 : decode cL_lateness 13 = .ok (.ireturn, 1) := by decide +kernel
theorem dL_lateness_14 : decode cL_lateness 14 = .ok (.iconst 0, 1) := by decide +kernel
theorem dL_lateness_15 : decode cL_lateness 15 = .ok (.ireturn, 1) := by decide +kernel
set_option maxRecDepth 20000 in
theorem ggL_why_X3_why : GoodIn wsL_why wsX3_why := goodIn_ca (goodIn_r _ [6, 7, 8, 9, 10, 11, 12, 13, 14, 15, 16, 17, 18, 19, 5, 20, 21, 22, 23, 24, 25, 26, 27, 28, 29, 30, 31, 32, 33, 34, 35, 36, 37, 38, 39, 40, 41, 42, 43, 44, 45, 46, 47, 48, 49, 50, 51, 52, 53, 54, 55, 56, 57, 58, 59, 60, 61, 62, 63, 64, 65, 66] (by decide +kernel) (by decide +kernel)) (goodIn_sub (fun _ h => List.mem_cons_of_mem _ (List.mem_append_right _ h)) (by decide +kernel))
set_option maxRecDepth 20000 in
theorem gL_why_X3_why : GoodIn wsL_why (wsV RL 27 RX3 yX3_why wsX3_why) := goodIn_app (goodIn_of _ (by decide +kernel)) ggL_why_X3_why
theorem dL_why_0 : decode cL_why 0 = .ok (.aload_n 2, 1) := by decide +kernel
theorem dL_why_1 : decode cL_why 1 = .ok (.iconst 0, 1) := by decide +kernel
theorem dL_why_2 : decode cL_why 2 = .ok (.aload_n 0, 1) := by decide +kernel
theorem dL_why_3 : decode cL_why 3 = .ok (.iload_n 1, 1) := by decide +kernel
theorem dL_why_4 : decode cL_why 4 = .ok (.invokevirtual 27, 3) := by decide +kernel
theorem dL_why_7 : decode cL_why 7 = .ok (.i2l, 1) := by decide +kernel
theorem dL_why_8 : decode cL_why 8 = .ok (.lastore, 1) := by decide +kernel
theorem dL_why_9 : decode cL_why 9 = .ok (.goto 6, 3) := by decide +kernel
theorem dL_why_12 : decode cL_why 12 = .ok (.astore_n 3, 1) := by decide +kernel
theorem dL_why_13 : decode cL_why 13 = .ok (.iconst 1, 1) := by decide +kernel
theorem dL_why_14 : decode cL_why 14 = .ok (.ireturn, 1) := by decide +kernel
theorem dL_why_15 : decode cL_why 15 = .ok (.iconst 0, 1) := by decide +kernel
theorem dL_why_16 : decode cL_why 16 = .ok (.ireturn, 1) := by decide +kernel
set_option maxRecDepth 20000 in
theorem ggL_change_X3_change : GoodIn wsL_change wsX3_change := goodIn_ca (goodIn_ca (goodIn_ca (goodIn_r _ [8, 9, 10, 11, 12, 13, 14, 15, 16, 17, 18, 19, 20, 21, 22, 23, 7, 24, 25, 26, 27, 28, 29, 30, 31, 32, 33, 34, 35, 36, 37, 38, 39, 40, 41, 42, 43, 44, 45, 46, 47, 48, 49, 50, 51, 52, 53, 54, 55, 56, 57, 58, 59, 60, 61, 62, 63, 64, 65, 66, 67, 68, 69, 70, 71, 72, 73, 74, 75, 76, 77, 78, 79, 80, 81, 82, 83, 84, 85, 86, 87, 88, 89, 90, 91, 92, 93, 94, 95, 96, 97, 98, 99, 100, 101, 102, 103, 104, 105, 106, 107, 108, 109, 110, 111, 112, 113, 114, 115, 116, 117, 118, 119, 120, 121, 122, 123, 124, 125, 126, 127, 128, 129, 130, 131, 132, 133, 134, 135, 136, 137, 138, 139, 140, 141, 142, 143, 144, 145, 146, 147, 148, 149, 150, 151, 152, 153, 154, 155, 156, 157, 158, 159, 160, 161, 162, 163, 164, 165, 166, 167, 168, 169, 170, 171, 172, 173, 174, 175, 176, 177, 178, 179, 180, 181, 182, 183, 184, 185, 186] (by decide +kernel) (by decide +kernel)) (goodIn_sub (fun _ h => List.mem_cons_of_mem _ (List.mem_append_left _ (List.mem_append_left _ (List.mem_append_right _ h)))) (by decide +kernel))) (goodIn_sub (fun _ h => List.mem_cons_of_mem _ (List.mem_append_left _ (List.mem_append_right _ h))) (by decide +kernel))) (goodIn_sub (fun _ h => List.mem_cons_of_mem _ (List.mem_append_right _ h)) (by decide +kernel))
set_option maxRecDepth 20000 in
theorem gL_change_X3_change : GoodIn wsL_change (wsV RL 31 RX3 yX3_change wsX3_change) := goodIn_app (goodIn_of _ (by decide +kernel)) ggL_change_X3_change
theorem dL_change_0 : decode cL_change 0 = .ok (.aload_n 3, 1) := by decide +kernel
theorem dL_change_1 : decode cL_change 1 = .ok (.iconst 0, 1) := by decide +kernel
theorem dL_change_2 : decode cL_change 2 = .ok (.aload_n 0, 1) := by decide +kernel
theorem dL_change_3 : decode cL_change 3 = .ok (.iload_n 1, 1) := by decide +kernel
theorem dL_change_4 : decode cL_change 4 = .ok (.iload_n 2, 1) := by decide +kernel
theorem dL_change_5 : decode cL_change 5 = .ok (.invokevirtual 31, 3) := by decide +kernel
theorem dL_change_8 : decode cL_change 8 = .ok (.i2l, 1) := by decide +kernel
theorem dL_change_9 : decode cL_change 9 = .ok (.lastore, 1) := by decide +kernel
theorem dL_change_10 : decode cL_change 10 = .ok (.goto 15, 3) := by decide +kernel
theorem dL_change_13 : decode cL_change 13 = .ok (.astore 4, 2) := by decide +kernel
theorem dL_change_15 : decode cL_change 15 = .ok (.iconst 1, 1) := by decide +kernel
theorem dL_change_16 : decode cL_change 16 = .ok (.ireturn, 1) := by decide +kernel
theorem dL_change_17 : decode cL_change 17 = .ok (.astore 4, 2) := by decide +kernel
theorem dL_change_19 : decode cL_change 19 = .ok (.iconst 2, 1) := by decide +kernel
theorem dL_change_20 : decode cL_change 20 = .ok (.ireturn, 1) := by decide +kernel
theorem dL_change_21 : decode cL_change 21 = .ok (.astore 4, 2) := by decide +kernel
theorem dL_change_23 : decode cL_change 23 = .ok (.iconst 3, 1) := by decide +kernel
theorem dL_change_24 : decode cL_change 24 = .ok (.ireturn, 1) := by decide +kernel
theorem dL_change_25 : decode cL_change 25 = .ok (.iconst 0, 1) := by decide +kernel
theorem dL_change_26 : decode cL_change 26 = .ok (.ireturn, 1) := by decide +kernel
set_option maxRecDepth 20000 in
theorem ggL_lies_X3_lies : GoodIn wsL_lies wsX3_lies := goodIn_ca (goodIn_r _ [6, 7, 8, 9, 10, 11, 12, 13, 14, 15, 16, 17, 5, 18, 19, 20, 21, 22, 23, 24, 25, 26, 27, 28, 29, 30, 31, 32, 33, 34] (by decide +kernel) (by decide +kernel)) (goodIn_sub (fun _ h => List.mem_cons_of_mem _ (List.mem_append_right _ h)) (by decide +kernel))
set_option maxRecDepth 20000 in
theorem gL_lies_X3_lies : GoodIn wsL_lies (wsV RL 34 RX3 yX3_lies wsX3_lies) := goodIn_app (goodIn_of _ (by decide +kernel)) ggL_lies_X3_lies
theorem dL_lies_0 : decode cL_lies 0 = .ok (.aload_n 3, 1) := by decide +kernel
theorem dL_lies_1 : decode cL_lies 1 = .ok (.iconst 0, 1) := by decide +kernel
theorem dL_lies_2 : decode cL_lies 2 = .ok (.aload_n 0, 1) := by decide +kernel
theorem dL_lies_3 : decode cL_lies 3 = .ok (.iload_n 1, 1) := by decide +kernel
theorem dL_lies_4 : decode cL_lies 4 = .ok (.iload_n 2, 1) := by decide +kernel
theorem dL_lies_5 : decode cL_lies 5 = .ok (.invokevirtual 34, 3) := by decide +kernel
theorem dL_lies_8 : decode cL_lies 8 = .ok (.i2l, 1) := by decide +kernel
theorem dL_lies_9 : decode cL_lies 9 = .ok (.lastore, 1) := by decide +kernel
theorem dL_lies_10 : decode cL_lies 10 = .ok (.goto 7, 3) := by decide +kernel
theorem dL_lies_13 : decode cL_lies 13 = .ok (.astore 4, 2) := by decide +kernel
theorem dL_lies_15 : decode cL_lies 15 = .ok (.iconst 1, 1) := by decide +kernel
theorem dL_lies_16 : decode cL_lies 16 = .ok (.ireturn, 1) := by decide +kernel
theorem dL_lies_17 : decode cL_lies 17 = .ok (.iconst 0, 1) := by decide +kernel
theorem dL_lies_18 : decode cL_lies 18 = .ok (.ireturn, 1) := by decide +kernel
set_option maxRecDepth 20000 in
theorem ggL_share_X3_share : GoodIn wsL_share wsX3_share := goodIn_ca (goodIn_ca (goodIn_r _ [7, 8, 9, 10, 11, 12, 13, 14, 15, 6, 16, 17, 18, 19, 20, 21, 22, 23, 24, 25, 26, 27, 28, 29, 30, 31, 32, 33] (by decide +kernel) (by decide +kernel)) (goodIn_sub (fun _ h => List.mem_cons_of_mem _ (List.mem_append_left _ (List.mem_append_right _ h))) (by decide +kernel))) (goodIn_sub (fun _ h => List.mem_cons_of_mem _ (List.mem_append_right _ h)) (by decide +kernel))
set_option maxRecDepth 20000 in
theorem gL_share_X3_share : GoodIn wsL_share (wsV RL 37 RX3 yX3_share wsX3_share) := goodIn_app (goodIn_of _ (by decide +kernel)) ggL_share_X3_share
theorem dL_share_0 : decode cL_share 0 = .ok (.aload 4, 2) := by decide +kernel
theorem dL_share_2 : decode cL_share 2 = .ok (.iconst 0, 1) := by decide +kernel
theorem dL_share_3 : decode cL_share 3 = .ok (.aload_n 0, 1) := by decide +kernel
theorem dL_share_4 : decode cL_share 4 = .ok (.iload_n 1, 1) := by decide +kernel
theorem dL_share_5 : decode cL_share 5 = .ok (.iload_n 2, 1) := by decide +kernel
theorem dL_share_6 : decode cL_share 6 = .ok (.iload_n 3, 1) := by decide +kernel
theorem dL_share_7 : decode cL_share 7 = .ok (.invokevirtual 37, 3) := by decide +kernel
theorem dL_share_10 : decode cL_share 10 = .ok (.lastore, 1) := by decide +kernel
theorem dL_share_11 : decode cL_share 11 = .ok (.goto 11, 3) := by decide +kernel
theorem dL_share_14 : decode cL_share 14 = .ok (.astore 5, 2) := by decide +kernel
theorem dL_share_16 : decode cL_share 16 = .ok (.iconst 1, 1) := by decide +kernel
theorem dL_share_17 : decode cL_share 17 = .ok (.ireturn, 1) := by decide +kernel
theorem dL_share_18 : decode cL_share 18 = .ok (.astore 5, 2) := by decide +kernel
theorem dL_share_20 : decode cL_share 20 = .ok (.iconst 2, 1) := by decide +kernel
theorem dL_share_21 : decode cL_share 21 = .ok (.ireturn, 1) := by decide +kernel
theorem dL_share_22 : decode cL_share 22 = .ok (.iconst 0, 1) := by decide +kernel
theorem dL_share_23 : decode cL_share 23 = .ok (.ireturn, 1) := by decide +kernel
set_option maxRecDepth 20000 in
theorem ggL_law_L_cell : GoodIn wsL_law wsL_cell := goodIn_r _ [10] (by decide +kernel) (by decide +kernel)
set_option maxRecDepth 20000 in
theorem gL_law_L_cell : GoodIn wsL_law (va_wsS RL 43 yL_cell wsL_cell) := goodIn_app (goodIn_of _ (by decide +kernel)) ggL_law_L_cell
set_option maxRecDepth 20000 in
theorem ggL_law_X3_init : GoodIn wsL_law wsX3_init := goodIn_r _ [13, 14, 15, 16, 17, 18, 19, 20, 21, 22, 23, 24, 25, 26, 27, 28, 29, 30, 31, 32, 33, 34, 35, 36, 37, 38, 39, 40, 41, 42, 43, 44, 45, 46, 47, 48, 49, 50, 51, 52, 53, 54, 55, 56, 507, 508, 509, 510, 511, 483, 484, 485, 486, 487, 512, 513, 514, 515, 516, 517, 518, 519, 520, 521, 522, 523, 524, 525, 526, 527, 528, 529, 530, 531] (by decide +kernel) (by decide +kernel)
set_option maxRecDepth 20000 in
theorem gL_law_X3_init : GoodIn wsL_law (wsX3_init) := ggL_law_X3_init
set_option maxRecDepth 20000 in
theorem ggL_law_X4_init : GoodIn wsL_law wsX4_init := goodIn_r _ [59, 60, 15, 16, 41, 61, 62, 63, 64, 65, 66, 67, 68, 69, 70, 71, 72, 73, 74, 75, 488, 489, 490, 491, 492, 493, 494, 495, 496, 497, 498, 499, 500, 501, 502, 503, 504, 505, 506] (by decide +kernel) (by decide +kernel)
set_option maxRecDepth 20000 in
theorem gL_law_X4_init : GoodIn wsL_law (wsX4_init) := ggL_law_X4_init
set_option maxRecDepth 20000 in
theorem ggL_law_L_ship : GoodIn wsL_law wsL_ship := goodIn_ca (goodIn_ca (goodIn_r _ [78, 79, 80, 81, 82, 83, 2, 84, 85, 86, 87, 88, 89, 29, 90, 91, 92, 93, 94, 95, 96, 97, 98, 483, 484, 485, 486, 487, 512, 513, 514, 515, 516, 517, 518, 519, 520, 521, 522] (by decide +kernel) (by decide +kernel)) (goodIn_sub (fun _ h => List.mem_append_left _ (List.mem_append_left _ (List.mem_append_left _ (List.mem_append_right _ h)))) (by decide +kernel))) (goodIn_sub (fun _ h => List.mem_append_left _ (List.mem_append_left _ (List.mem_append_right _ h))) (by decide +kernel))
set_option maxRecDepth 20000 in
theorem gL_law_L_ship : GoodIn wsL_law (va_wsS RL 55 yL_ship wsL_ship) := goodIn_app (goodIn_of _ (by decide +kernel)) ggL_law_L_ship
set_option maxRecDepth 20000 in
theorem ggL_law_X4_ship : GoodIn wsL_law wsX4_ship := goodIn_r _ [102, 103, 104, 65, 66, 67, 68, 69, 105, 106, 107, 5, 108, 488, 489, 490, 491, 492, 493, 494, 495, 496, 497, 498, 499, 500, 501, 502, 503, 504, 505, 506] (by decide +kernel) (by decide +kernel)
set_option maxRecDepth 20000 in
theorem gL_law_X4_ship : GoodIn wsL_law (wsV RL 58 RX4 yX4_ship wsX4_ship) := goodIn_app (goodIn_of _ (by decide +kernel)) ggL_law_X4_ship
set_option maxRecDepth 20000 in
theorem ggL_law_X4_thrown : GoodIn wsL_law wsX4_thrown := goodIn_r _ [112, 104, 488, 489, 490, 491, 492, 493, 494, 495, 496, 497, 498, 499, 500, 501, 502, 503, 504, 505, 506] (by decide +kernel) (by decide +kernel)
set_option maxRecDepth 20000 in
theorem gL_law_X4_thrown : GoodIn wsL_law (wsV RL 59 RX4 yX4_thrown wsX4_thrown) := goodIn_app (goodIn_of _ (by decide +kernel)) ggL_law_X4_thrown
set_option maxRecDepth 20000 in
theorem ggL_law_X3_depth : GoodIn wsL_law wsX3_depth := goodIn_r _ [116, 27, 117, 95, 118, 119, 120, 19, 121, 40, 96, 97, 2, 98, 483, 484, 485, 486, 487, 507, 508, 509, 510, 511] (by decide +kernel) (by decide +kernel)
set_option maxRecDepth 20000 in
theorem gL_law_X3_depth : GoodIn wsL_law (wsV RL 62 RX3 yX3_depth wsX3_depth) := goodIn_app (goodIn_of _ (by decide +kernel)) ggL_law_X3_depth
set_option maxRecDepth 20000 in
theorem ggL_law_X4_depth : GoodIn wsL_law wsX4_depth := goodIn_r _ [125, 104, 61, 105, 126, 127, 128, 5, 129, 75, 106, 107, 108, 488, 489, 490, 491, 492, 493, 494, 495, 496, 497, 498, 499, 500, 501, 502, 503, 504, 505, 506] (by decide +kernel) (by decide +kernel)
set_option maxRecDepth 20000 in
theorem gL_law_X4_depth : GoodIn wsL_law (wsV RL 66 RX4 yX4_depth wsX4_depth) := goodIn_app (goodIn_of _ (by decide +kernel)) ggL_law_X4_depth
set_option maxRecDepth 20000 in
theorem ggL_law_X3_gear : GoodIn wsL_law wsX3_gear := goodIn_r _ [133, 27, 134, 95, 118, 119, 120, 19, 121, 40, 135, 136, 2, 137, 138, 139, 140, 483, 484, 485, 486, 487, 507, 508, 509, 510, 511] (by decide +kernel) (by decide +kernel)
set_option maxRecDepth 20000 in
theorem gL_law_X3_gear : GoodIn wsL_law (wsV RL 67 RX3 yX3_gear wsX3_gear) := goodIn_app (goodIn_of _ (by decide +kernel)) ggL_law_X3_gear
set_option maxRecDepth 20000 in
theorem ggL_law_X4_gear : GoodIn wsL_law wsX4_gear := goodIn_r _ [144, 104, 62, 105, 126, 127, 128, 5, 129, 75, 106, 107, 108, 145, 146, 147, 488, 489, 490, 491, 492, 493, 494, 495, 496, 497, 498, 499, 500, 501, 502, 503, 504, 505, 506] (by decide +kernel) (by decide +kernel)
set_option maxRecDepth 20000 in
theorem gL_law_X4_gear : GoodIn wsL_law (wsV RL 71 RX4 yX4_gear wsX4_gear) := goodIn_app (goodIn_of _ (by decide +kernel)) ggL_law_X4_gear
set_option maxRecDepth 20000 in
theorem ggL_law_X3_wants : GoodIn wsL_law wsX3_wants := goodIn_r _ [151, 29, 152, 95, 153, 154, 155, 2, 156, 89, 135, 136, 137, 138, 139, 140, 483, 484, 485, 486, 487, 512, 513, 514, 515, 516, 517, 518, 519, 520, 521, 522] (by decide +kernel) (by decide +kernel)
set_option maxRecDepth 20000 in
theorem gL_law_X3_wants : GoodIn wsL_law (wsV RL 72 RX3 yX3_wants wsX3_wants) := goodIn_app (goodIn_of _ (by decide +kernel)) ggL_law_X3_wants
set_option maxRecDepth 20000 in
theorem ggL_law_X4_wants : GoodIn wsL_law wsX4_wants := goodIn_r _ [160, 104, 70, 105, 161, 162, 163, 5, 164, 103, 106, 107, 108, 145, 146, 147, 488, 489, 490, 491, 492, 493, 494, 495, 496, 497, 498, 499, 500, 501, 502, 503, 504, 505, 506] (by decide +kernel) (by decide +kernel)
set_option maxRecDepth 20000 in
theorem gL_law_X4_wants : GoodIn wsL_law (wsV RL 75 RX4 yX4_wants wsX4_wants) := goodIn_app (goodIn_of _ (by decide +kernel)) ggL_law_X4_wants
set_option maxRecDepth 20000 in
theorem ggL_law_X3_tide : GoodIn wsL_law wsX3_tide := goodIn_r _ [168, 27, 169, 170, 95, 96, 97, 2, 98, 171, 172, 173, 483, 484, 485, 486, 487, 507, 508, 509, 510, 511] (by decide +kernel) (by decide +kernel)
set_option maxRecDepth 20000 in
theorem gL_law_X3_tide : GoodIn wsL_law (wsV RL 76 RX3 yX3_tide wsX3_tide) := goodIn_app (goodIn_of _ (by decide +kernel)) ggL_law_X3_tide
set_option maxRecDepth 20000 in
theorem ggL_law_X4_tide : GoodIn wsL_law wsX4_tide := goodIn_r _ [177, 104, 178, 63, 64, 105, 106, 107, 5, 108, 488, 489, 490, 491, 492, 493, 494, 495, 496, 497, 498, 499, 500, 501, 502, 503, 504, 505, 506] (by decide +kernel) (by decide +kernel)
set_option maxRecDepth 20000 in
theorem gL_law_X4_tide : GoodIn wsL_law (wsV RL 80 RX4 yX4_tide wsX4_tide) := goodIn_app (goodIn_of _ (by decide +kernel)) ggL_law_X4_tide
set_option maxRecDepth 20000 in
theorem ggL_law_X3_fix : GoodIn wsL_law wsX3_fix := goodIn_r _ [182, 29, 27, 90, 183, 184, 185, 95, 153, 154, 155, 2, 156, 89, 96, 97, 98, 186, 187, 188, 19, 189, 40, 190, 191, 192, 193, 92, 194, 195, 196, 483, 484, 485, 486, 487, 512, 513, 514, 515, 516, 517, 518, 519, 520, 521, 522, 507, 508, 509, 510, 511] (by decide +kernel) (by decide +kernel)
set_option maxRecDepth 20000 in
theorem gL_law_X3_fix : GoodIn wsL_law (wsV RL 81 RX3 yX3_fix wsX3_fix) := goodIn_app (goodIn_of _ (by decide +kernel)) ggL_law_X3_fix
set_option maxRecDepth 20000 in
theorem ggL_law_X4_fix : GoodIn wsL_law wsX4_fix := goodIn_r _ [200, 104, 65, 75, 103, 71, 105, 161, 162, 163, 5, 164, 126, 127, 128, 129, 106, 107, 108, 201, 202, 203, 204, 67, 488, 489, 490, 491, 492, 493, 494, 495, 496, 497, 498, 499, 500, 501, 502, 503, 504, 505, 506] (by decide +kernel) (by decide +kernel)
set_option maxRecDepth 20000 in
theorem gL_law_X4_fix : GoodIn wsL_law (wsV RL 84 RX4 yX4_fix wsX4_fix) := goodIn_app (goodIn_of _ (by decide +kernel)) ggL_law_X4_fix
set_option maxRecDepth 20000 in
theorem ggL_law_X3_free : GoodIn wsL_law wsX3_free := goodIn_r _ [208, 29, 183, 95, 153, 154, 155, 2, 156, 89, 483, 484, 485, 486, 487, 512, 513, 514, 515, 516, 517, 518, 519, 520, 521, 522] (by decide +kernel) (by decide +kernel)
set_option maxRecDepth 20000 in
theorem gL_law_X3_free : GoodIn wsL_law (wsV RL 85 RX3 yX3_free wsX3_free) := goodIn_app (goodIn_of _ (by decide +kernel)) ggL_law_X3_free
set_option maxRecDepth 20000 in
theorem ggL_law_X4_free : GoodIn wsL_law wsX4_free := goodIn_r _ [212, 104, 71, 105, 161, 162, 163, 5, 164, 103, 488, 489, 490, 491, 492, 493, 494, 495, 496, 497, 498, 499, 500, 501, 502, 503, 504, 505, 506] (by decide +kernel) (by decide +kernel)
set_option maxRecDepth 20000 in
theorem gL_law_X4_free : GoodIn wsL_law (wsV RL 89 RX4 yX4_free wsX4_free) := goodIn_app (goodIn_of _ (by decide +kernel)) ggL_law_X4_free
set_option maxRecDepth 20000 in
theorem ggL_law_X3_solve : GoodIn wsL_law wsX3_solve := goodIn_r _ [216, 35, 27, 29, 89, 95, 217, 218, 219, 34, 220, 221, 222, 223, 224, 225, 226, 227, 56, 228, 21, 22, 23, 229, 230, 231, 50, 232, 233, 234, 235, 236, 237, 31, 238, 239, 240, 241, 242, 243, 244, 245, 246, 247, 248, 19, 249, 42, 43, 250, 187, 188, 189, 40, 251, 252, 253, 254, 255, 256, 172, 2, 173, 257, 258, 259, 260, 261, 262, 263, 264, 265, 266, 267, 268, 269, 270, 271, 272, 273, 274, 275, 139, 140, 276, 277, 278, 279, 280, 281, 282, 283, 284, 285, 286, 287, 288, 289, 290, 291, 53, 51, 54, 52, 292, 293, 294, 295, 296, 297, 298, 299, 300, 301, 302, 303, 304, 305, 306, 307, 308, 309, 195, 196, 310, 311, 312, 313, 314, 315, 316, 317, 318, 319, 320, 321, 483, 484, 485, 486, 487, 523, 524, 525, 526, 527, 528, 529, 530, 531, 507, 508, 509, 510, 511, 512, 513, 514, 515, 516, 517, 518, 519, 520, 521, 522] (by decide +kernel) (by decide +kernel)
set_option maxRecDepth 20000 in
theorem gL_law_X3_solve : GoodIn wsL_law (wsV RL 90 RX3 yX3_solve wsX3_solve) := goodIn_app (goodIn_of _ (by decide +kernel)) ggL_law_X3_solve
set_option maxRecDepth 20000 in
theorem ggL_law_X4_solve : GoodIn wsL_law wsX4_solve := goodIn_r _ [325, 104, 105, 326, 327, 328, 5, 329, 74, 103, 330, 73, 72, 331, 332, 333, 334, 335, 336, 337, 338, 71, 75, 68, 339, 340, 341, 342, 178, 63, 64, 106, 107, 108, 343, 344, 345, 346, 65, 61, 66, 347, 348, 349, 350, 62, 70, 351, 352, 353, 354, 69, 355, 356, 357, 358, 359, 360, 361, 362, 201, 202, 203, 204, 67, 488, 489, 490, 491, 492, 493, 494, 495, 496, 497, 498, 499, 500, 501, 502, 503, 504, 505, 506] (by decide +kernel) (by decide +kernel)
set_option maxRecDepth 20000 in
theorem gL_law_X4_solve : GoodIn wsL_law (wsV RL 93 RX4 yX4_solve wsX4_solve) := goodIn_app (goodIn_of _ (by decide +kernel)) ggL_law_X4_solve
set_option maxRecDepth 20000 in
theorem ggL_law_L_at : GoodIn wsL_law wsL_at := goodIn_ca (goodIn_ca (goodIn_r _ [365, 366, 80, 367, 368, 369, 2, 370, 371, 372, 87, 88, 95, 29, 373, 374, 93, 153, 154, 155, 156, 89, 96, 97, 98, 483, 484, 485, 486, 487, 512, 513, 514, 515, 516, 517, 518, 519, 520, 521, 522] (by decide +kernel) (by decide +kernel)) (goodIn_sub (fun _ h => List.mem_append_left _ (List.mem_append_right _ h)) (by decide +kernel))) (goodIn_sub (fun _ h => List.mem_append_left _ (List.mem_append_left _ (List.mem_append_right _ h))) (by decide +kernel))
set_option maxRecDepth 20000 in
theorem gL_law_L_at : GoodIn wsL_law (va_wsS RL 94 yL_at wsL_at) := goodIn_app (goodIn_of _ (by decide +kernel)) ggL_law_L_at
set_option maxRecDepth 20000 in
theorem ggL_law_X4_at : GoodIn wsL_law wsX4_at := goodIn_r _ [378, 105, 104, 72, 68, 161, 162, 163, 5, 164, 103, 106, 107, 108, 488, 489, 490, 491, 492, 493, 494, 495, 496, 497, 498, 499, 500, 501, 502, 503, 504, 505, 506] (by decide +kernel) (by decide +kernel)
set_option maxRecDepth 20000 in
theorem gL_law_X4_at : GoodIn wsL_law (wsV RL 97 RX4 yX4_at wsX4_at) := goodIn_app (goodIn_of _ (by decide +kernel)) ggL_law_X4_at
set_option maxRecDepth 20000 in
theorem ggL_law_L_lateness : GoodIn wsL_law wsL_lateness := goodIn_ca (goodIn_r _ [381, 80, 382, 383, 384, 2, 385, 87, 88, 95, 89, 29, 374, 386, 280, 281, 31, 282, 283, 245, 483, 484, 485, 486, 487, 512, 513, 514, 515, 516, 517, 518, 519, 520, 521, 522] (by decide +kernel) (by decide +kernel)) (goodIn_sub (fun _ h => List.mem_append_left _ (List.mem_append_left _ (List.mem_append_right _ h))) (by decide +kernel))
set_option maxRecDepth 20000 in
theorem gL_law_L_lateness : GoodIn wsL_law (va_wsS RL 98 yL_lateness wsL_lateness) := goodIn_app (goodIn_of _ (by decide +kernel)) ggL_law_L_lateness
set_option maxRecDepth 20000 in
theorem ggL_law_X4_lateness : GoodIn wsL_law wsX4_lateness := goodIn_r _ [390, 105, 104, 103, 72, 351, 352, 353, 5, 354, 69, 68, 488, 489, 490, 491, 492, 493, 494, 495, 496, 497, 498, 499, 500, 501, 502, 503, 504, 505, 506] (by decide +kernel) (by decide +kernel)
set_option maxRecDepth 20000 in
theorem gL_law_X4_lateness : GoodIn wsL_law (wsV RL 101 RX4 yX4_lateness wsX4_lateness) := goodIn_app (goodIn_of _ (by decide +kernel)) ggL_law_X4_lateness
set_option maxRecDepth 20000 in
theorem ggL_law_X3_bound : GoodIn wsL_law wsX3_bound := goodIn_r _ [394, 35, 27, 29, 89, 395, 396, 397, 398, 34, 399, 224, 225, 226, 227, 56, 228, 21, 22, 23, 229, 230, 231, 50, 232, 233, 234, 235, 236, 237, 31, 238, 239, 240, 241, 242, 243, 244, 245, 246, 247, 248, 19, 249, 42, 43, 250, 187, 188, 189, 40, 251, 252, 253, 254, 255, 256, 172, 2, 173, 257, 258, 259, 260, 261, 262, 263, 264, 223, 265, 266, 267, 268, 269, 270, 271, 272, 273, 274, 275, 139, 140, 276, 277, 278, 279, 280, 281, 282, 283, 483, 484, 485, 486, 487, 523, 524, 525, 526, 527, 528, 529, 530, 531, 507, 508, 509, 510, 511, 512, 513, 514, 515, 516, 517, 518, 519, 520, 521, 522] (by decide +kernel) (by decide +kernel)
set_option maxRecDepth 20000 in
theorem gL_law_X3_bound : GoodIn wsL_law (wsV RL 102 RX3 yX3_bound wsX3_bound) := goodIn_app (goodIn_of _ (by decide +kernel)) ggL_law_X3_bound
set_option maxRecDepth 20000 in
theorem ggL_law_X4_bound : GoodIn wsL_law wsX4_bound := goodIn_r _ [403, 104, 103, 330, 331, 332, 333, 5, 334, 335, 336, 337, 338, 71, 75, 68, 339, 340, 341, 342, 178, 63, 64, 106, 107, 108, 343, 344, 345, 346, 65, 61, 66, 347, 348, 349, 350, 62, 70, 351, 352, 353, 354, 69, 488, 489, 490, 491, 492, 493, 494, 495, 496, 497, 498, 499, 500, 501, 502, 503, 504, 505, 506] (by decide +kernel) (by decide +kernel)
set_option maxRecDepth 20000 in
theorem gL_law_X4_bound : GoodIn wsL_law (wsV RL 105 RX4 yX4_bound wsX4_bound) := goodIn_app (goodIn_of _ (by decide +kernel)) ggL_law_X4_bound
set_option maxRecDepth 20000 in
theorem ggL_law_L_why : GoodIn wsL_law wsL_why := goodIn_ca (goodIn_r _ [406, 366, 407, 408, 409, 2, 410, 371, 372, 29, 183, 90, 27, 411, 91, 152, 93, 153, 154, 155, 156, 89, 412, 413, 414, 19, 415, 40, 416, 247, 248, 249, 42, 43, 250, 187, 188, 189, 417, 252, 253, 254, 255, 256, 172, 173, 483, 484, 485, 486, 487, 512, 513, 514, 515, 516, 517, 518, 519, 520, 521, 522, 507, 508, 509, 510, 511] (by decide +kernel) (by decide +kernel)) (goodIn_sub (fun _ h => List.mem_append_left _ (List.mem_append_right _ h)) (by decide +kernel))
set_option maxRecDepth 20000 in
theorem gL_law_L_why : GoodIn wsL_law (va_wsS RL 106 yL_why wsL_why) := goodIn_app (goodIn_of _ (by decide +kernel)) ggL_law_L_why
set_option maxRecDepth 20000 in
theorem ggL_law_X4_why : GoodIn wsL_law wsX4_why := goodIn_r _ [421, 104, 75, 330, 65, 161, 162, 163, 5, 164, 103, 343, 344, 345, 346, 61, 66, 347, 348, 349, 350, 62, 70, 331, 332, 333, 334, 335, 336, 337, 338, 71, 68, 339, 340, 341, 342, 178, 63, 64, 106, 107, 108, 351, 352, 353, 354, 69, 488, 489, 490, 491, 492, 493, 494, 495, 496, 497, 498, 499, 500, 501, 502, 503, 504, 505, 506] (by decide +kernel) (by decide +kernel)
set_option maxRecDepth 20000 in
theorem gL_law_X4_why : GoodIn wsL_law (wsV RL 109 RX4 yX4_why wsX4_why) := goodIn_app (goodIn_of _ (by decide +kernel)) ggL_law_X4_why
set_option maxRecDepth 20000 in
theorem ggL_law_L_change : GoodIn wsL_law wsL_change := goodIn_ca (goodIn_ca (goodIn_ca (goodIn_r _ [424, 366, 79, 80, 425, 426, 427, 2, 428, 371, 372, 85, 86, 87, 88, 95, 29, 93, 35, 27, 89, 153, 154, 155, 156, 96, 97, 98, 217, 218, 219, 34, 220, 221, 222, 223, 224, 225, 226, 227, 56, 228, 21, 22, 23, 229, 230, 231, 50, 232, 233, 234, 235, 236, 237, 31, 238, 239, 240, 241, 242, 243, 244, 245, 246, 247, 248, 19, 249, 42, 43, 250, 187, 188, 189, 40, 251, 252, 253, 254, 255, 256, 172, 173, 257, 258, 259, 260, 261, 262, 263, 264, 265, 266, 267, 268, 269, 270, 271, 272, 273, 274, 275, 139, 140, 276, 277, 278, 279, 280, 281, 282, 283, 284, 285, 286, 287, 288, 289, 290, 291, 53, 51, 54, 52, 292, 293, 294, 295, 296, 297, 298, 299, 300, 301, 302, 303, 304, 305, 306, 307, 308, 309, 195, 196, 310, 311, 312, 313, 314, 315, 316, 317, 318, 319, 320, 321, 483, 484, 485, 486, 487, 512, 513, 514, 515, 516, 517, 518, 519, 520, 521, 522, 523, 524, 525, 526, 527, 528, 529, 530, 531, 507, 508, 509, 510, 511] (by decide +kernel) (by decide +kernel)) (goodIn_sub (fun _ h => List.mem_append_left _ (List.mem_append_right _ h)) (by decide +kernel))) (goodIn_sub (fun _ h => List.mem_append_left _ (List.mem_append_left _ (List.mem_append_left _ (List.mem_append_right _ h)))) (by decide +kernel))) (goodIn_sub (fun _ h => List.mem_append_left _ (List.mem_append_left _ (List.mem_append_right _ h))) (by decide +kernel))
set_option maxRecDepth 20000 in
theorem gL_law_L_change : GoodIn wsL_law (va_wsS RL 110 yL_change wsL_change) := goodIn_app (goodIn_of _ (by decide +kernel)) ggL_law_L_change
set_option maxRecDepth 20000 in
theorem ggL_law_X4_change : GoodIn wsL_law wsX4_change := goodIn_r _ [432, 105, 104, 103, 433, 72, 68, 161, 162, 163, 5, 164, 106, 107, 108, 326, 327, 328, 329, 74, 330, 73, 331, 332, 333, 334, 335, 336, 337, 338, 71, 75, 339, 340, 341, 342, 178, 63, 64, 343, 344, 345, 346, 65, 61, 66, 347, 348, 349, 350, 62, 70, 351, 352, 353, 354, 69, 355, 356, 357, 358, 359, 360, 361, 362, 201, 202, 203, 204, 67, 488, 489, 490, 491, 492, 493, 494, 495, 496, 497, 498, 499, 500, 501, 502, 503, 504, 505, 506] (by decide +kernel) (by decide +kernel)
set_option maxRecDepth 20000 in
theorem gL_law_X4_change : GoodIn wsL_law (wsV RL 112 RX4 yX4_change wsX4_change) := goodIn_app (goodIn_of _ (by decide +kernel)) ggL_law_X4_change
set_option maxRecDepth 20000 in
theorem ggL_law_L_lies : GoodIn wsL_law wsL_lies := goodIn_ca (goodIn_r _ [436, 80, 437, 438, 439, 2, 440, 87, 88, 95, 89, 29, 373, 90, 374, 92, 441, 442, 443, 483, 484, 485, 486, 487, 512, 513, 514, 515, 516, 517, 518, 519, 520, 521, 522] (by decide +kernel) (by decide +kernel)) (goodIn_sub (fun _ h => List.mem_append_left _ (List.mem_append_left _ (List.mem_append_right _ h))) (by decide +kernel))
set_option maxRecDepth 20000 in
theorem gL_law_L_lies : GoodIn wsL_law (va_wsS RL 113 yL_lies wsL_lies) := goodIn_app (goodIn_of _ (by decide +kernel)) ggL_law_L_lies
set_option maxRecDepth 20000 in
theorem ggL_law_X4_lies : GoodIn wsL_law wsX4_lies := goodIn_r _ [447, 105, 104, 103, 72, 65, 67, 488, 489, 490, 491, 492, 493, 494, 495, 496, 497, 498, 499, 500, 501, 502, 503, 504, 505, 506] (by decide +kernel) (by decide +kernel)
set_option maxRecDepth 20000 in
theorem gL_law_X4_lies : GoodIn wsL_law (wsV RL 115 RX4 yX4_lies wsX4_lies) := goodIn_app (goodIn_of _ (by decide +kernel)) ggL_law_X4_lies
set_option maxRecDepth 20000 in
theorem ggL_law_L_share : GoodIn wsL_law wsL_share := goodIn_ca (goodIn_ca (goodIn_r _ [450, 79, 451, 452, 453, 454, 2, 455, 85, 86, 456, 457, 395, 27, 96, 97, 98, 458, 459, 460, 19, 461, 40, 42, 483, 484, 485, 486, 487, 507, 508, 509, 510, 511] (by decide +kernel) (by decide +kernel)) (goodIn_sub (fun _ h => List.mem_append_left _ (List.mem_append_left _ (List.mem_append_left _ (List.mem_append_right _ h)))) (by decide +kernel))) (goodIn_sub (fun _ h => List.mem_append_right _ h) (by decide +kernel))
set_option maxRecDepth 20000 in
theorem gL_law_L_share : GoodIn wsL_law (va_wsS RL 116 yL_share wsL_share) := goodIn_app (goodIn_of _ (by decide +kernel)) ggL_law_L_share
set_option maxRecDepth 20000 in
theorem ggL_law_X4_share : GoodIn wsL_law wsX4_share := goodIn_r _ [465, 75, 61, 466, 104, 106, 107, 5, 108, 488, 489, 490, 491, 492, 493, 494, 495, 496, 497, 498, 499, 500, 501, 502, 503, 504, 505, 506] (by decide +kernel) (by decide +kernel)
set_option maxRecDepth 20000 in
theorem gL_law_X4_share : GoodIn wsL_law (wsV RL 119 RX4 yX4_share wsX4_share) := goodIn_app (goodIn_of _ (by decide +kernel)) ggL_law_X4_share
set_option maxRecDepth 20000 in
theorem ggL_law_X3_count : GoodIn wsL_law wsX3_count := goodIn_r _ [470, 27, 411, 89, 169, 95, 471, 472, 473, 2, 474, 29, 183, 475, 476, 477, 478, 117, 134, 96, 97, 98, 483, 484, 485, 486, 487, 507, 508, 509, 510, 511, 512, 513, 514, 515, 516, 517, 518, 519, 520, 521, 522] (by decide +kernel) (by decide +kernel)
set_option maxRecDepth 20000 in
theorem gL_law_X3_count : GoodIn wsL_law (wsV RL 120 RX3 yX3_count wsX3_count) := goodIn_app (goodIn_of _ (by decide +kernel)) ggL_law_X3_count
set_option maxRecDepth 20000 in
theorem ggL_law_X4_count : GoodIn wsL_law wsX4_count := goodIn_r _ [482, 104, 61, 62, 103, 71, 75, 178, 105, 126, 127, 128, 5, 129, 488, 489, 490, 491, 492, 493, 494, 495, 496, 497, 498, 499, 500, 501, 502, 503, 504, 505, 506] (by decide +kernel) (by decide +kernel)
set_option maxRecDepth 20000 in
theorem gL_law_X4_count : GoodIn wsL_law (wsV RL 123 RX4 yX4_count wsX4_count) := goodIn_app (goodIn_of _ (by decide +kernel)) ggL_law_X4_count
theorem dL_law_0 : decode cL_law 0 = .ok (.new 8, 3) := by decide +kernel
theorem dL_law_3 : decode cL_law 3 = .ok (.dup, 1) := by decide +kernel
theorem dL_law_4 : decode cL_law 4 = .ok (.aload_n 0, 1) := by decide +kernel
theorem dL_law_5 : decode cL_law 5 = .ok (.iconst 0, 1) := by decide +kernel
theorem dL_law_6 : decode cL_law 6 = .ok (.invokestatic 43, 3) := by decide +kernel
theorem dL_law_9 : decode cL_law 9 = .ok (.invokespecial 49, 3) := by decide +kernel
theorem dL_law_12 : decode cL_law 12 = .ok (.astore_n 1, 1) := by decide +kernel
theorem dL_law_13 : decode cL_law 13 = .ok (.new 52, 3) := by decide +kernel
theorem dL_law_16 : decode cL_law 16 = .ok (.dup, 1) := by decide +kernel
theorem dL_law_17 : decode cL_law 17 = .ok (.aload_n 0, 1) := by decide +kernel
theorem dL_law_18 : decode cL_law 18 = .ok (.iconst 0, 1) := by decide +kernel
theorem dL_law_19 : decode cL_law 19 = .ok (.invokestatic 43, 3) := by decide +kernel
theorem dL_law_22 : decode cL_law 22 = .ok (.invokespecial 54, 3) := by decide +kernel
theorem dL_law_25 : decode cL_law 25 = .ok (.astore_n 2, 1) := by decide +kernel
theorem dL_law_26 : decode cL_law 26 = .ok (.iconst 1, 1) := by decide +kernel
theorem dL_law_27 : decode cL_law 27 = .ok (.newarray .long, 2) := by decide +kernel
theorem dL_law_29 : decode cL_law 29 = .ok (.astore_n 3, 1) := by decide +kernel
theorem dL_law_30 : decode cL_law 30 = .ok (.iconst 1, 1) := by decide +kernel
theorem dL_law_31 : decode cL_law 31 = .ok (.istore 4, 2) := by decide +kernel
theorem dL_law_33 : decode cL_law 33 = .ok (.iload 4, 2) := by decide +kernel
theorem dL_law_35 : decode cL_law 35 = .ok (.aload_n 0, 1) := by decide +kernel
theorem dL_law_36 : decode cL_law 36 = .ok (.arraylength, 1) := by decide +kernel
theorem dL_law_37 : decode cL_law 37 = .ok (.bipush 6, 2) := by decide +kernel
theorem dL_law_39 : decode cL_law 39 = .ok (.isub, 1) := by decide +kernel
theorem dL_law_40 : decode cL_law 40 = .ok (.if_icmp .gt 922, 3) := by decide +kernel
theorem dL_law_43 : decode cL_law 43 = .ok (.aload_n 0, 1) := by decide +kernel
theorem dL_law_44 : decode cL_law 44 = .ok (.iload 4, 2) := by decide +kernel
theorem dL_law_46 : decode cL_law 46 = .ok (.iaload, 1) := by decide +kernel
theorem dL_law_47 : decode cL_law 47 = .ok (.bipush 15, 2) := by decide +kernel
theorem dL_law_49 : decode cL_law 49 = .ok (.iand, 1) := by decide +kernel
theorem dL_law_50 : decode cL_law 50 = .ok (.tableswitch 906 0 15 #[78, 182, 231, 296, 361, 398, 447, 472, 485, 553, 597, 610, 666, 734, 802, 881], 78) := by decide +kernel
theorem dL_law_128 : decode cL_law 128 = .ok (.aload_n 1, 1) := by decide +kernel
theorem dL_law_129 : decode cL_law 129 = .ok (.aload_n 0, 1) := by decide +kernel
theorem dL_law_130 : decode cL_law 130 = .ok (.iload 4, 2) := by decide +kernel
theorem dL_law_132 : decode cL_law 132 = .ok (.iconst 1, 1) := by decide +kernel
theorem dL_law_133 : decode cL_law 133 = .ok (.iadd, 1) := by decide +kernel
theorem dL_law_134 : decode cL_law 134 = .ok (.iaload, 1) := by decide +kernel
theorem dL_law_135 : decode cL_law 135 = .ok (.aload_n 0, 1) := by decide +kernel
theorem dL_law_136 : decode cL_law 136 = .ok (.iload 4, 2) := by decide +kernel
theorem dL_law_138 : decode cL_law 138 = .ok (.iconst 2, 1) := by decide +kernel
theorem dL_law_139 : decode cL_law 139 = .ok (.iadd, 1) := by decide +kernel
theorem dL_law_140 : decode cL_law 140 = .ok (.iaload, 1) := by decide +kernel
theorem dL_law_141 : decode cL_law 141 = .ok (.aload_n 0, 1) := by decide +kernel
theorem dL_law_142 : decode cL_law 142 = .ok (.iload 4, 2) := by decide +kernel
theorem dL_law_144 : decode cL_law 144 = .ok (.iconst 3, 1) := by decide +kernel
theorem dL_law_145 : decode cL_law 145 = .ok (.iadd, 1) := by decide +kernel
theorem dL_law_146 : decode cL_law 146 = .ok (.iaload, 1) := by decide +kernel
theorem dL_law_147 : decode cL_law 147 = .ok (.aload_n 0, 1) := by decide +kernel
theorem dL_law_148 : decode cL_law 148 = .ok (.iload 4, 2) := by decide +kernel
theorem dL_law_150 : decode cL_law 150 = .ok (.iconst 4, 1) := by decide +kernel
theorem dL_law_151 : decode cL_law 151 = .ok (.iadd, 1) := by decide +kernel
theorem dL_law_152 : decode cL_law 152 = .ok (.iaload, 1) := by decide +kernel
theorem dL_law_153 : decode cL_law 153 = .ok (.aload_n 0, 1) := by decide +kernel
theorem dL_law_154 : decode cL_law 154 = .ok (.iload 4, 2) := by decide +kernel
theorem dL_law_156 : decode cL_law 156 = .ok (.iconst 5, 1) := by decide +kernel
theorem dL_law_157 : decode cL_law 157 = .ok (.iadd, 1) := by decide +kernel
theorem dL_law_158 : decode cL_law 158 = .ok (.iaload, 1) := by decide +kernel
theorem dL_law_159 : decode cL_law 159 = .ok (.aload_n 3, 1) := by decide +kernel
theorem dL_law_160 : decode cL_law 160 = .ok (.invokestatic 55, 3) := by decide +kernel
theorem dL_law_163 : decode cL_law 163 = .ok (.istore 5, 2) := by decide +kernel
theorem dL_law_165 : decode cL_law 165 = .ok (.aload_n 2, 1) := by decide +kernel
theorem dL_law_166 : decode cL_law 166 = .ok (.aload_n 0, 1) := by decide +kernel
theorem dL_law_167 : decode cL_law 167 = .ok (.iload 4, 2) := by decide +kernel
theorem dL_law_169 : decode cL_law 169 = .ok (.iconst 1, 1) := by decide +kernel
theorem dL_law_170 : decode cL_law 170 = .ok (.iadd, 1) := by decide +kernel
theorem dL_law_171 : decode cL_law 171 = .ok (.iaload, 1) := by decide +kernel
theorem dL_law_172 : decode cL_law 172 = .ok (.aload_n 0, 1) := by decide +kernel
theorem dL_law_173 : decode cL_law 173 = .ok (.iload 4, 2) := by decide +kernel
theorem dL_law_175 : decode cL_law 175 = .ok (.iconst 2, 1) := by decide +kernel
theorem dL_law_176 : decode cL_law 176 = .ok (.iadd, 1) := by decide +kernel
theorem dL_law_177 : decode cL_law 177 = .ok (.iaload, 1) := by decide +kernel
theorem dL_law_178 : decode cL_law 178 = .ok (.aload_n 0, 1) := by decide +kernel
theorem dL_law_179 : decode cL_law 179 = .ok (.iload 4, 2) := by decide +kernel
theorem dL_law_181 : decode cL_law 181 = .ok (.iconst 3, 1) := by decide +kernel
theorem dL_law_182 : decode cL_law 182 = .ok (.iadd, 1) := by decide +kernel
theorem dL_law_183 : decode cL_law 183 = .ok (.iaload, 1) := by decide +kernel
theorem dL_law_184 : decode cL_law 184 = .ok (.aload_n 0, 1) := by decide +kernel
theorem dL_law_185 : decode cL_law 185 = .ok (.iload 4, 2) := by decide +kernel
theorem dL_law_187 : decode cL_law 187 = .ok (.iconst 4, 1) := by decide +kernel
theorem dL_law_188 : decode cL_law 188 = .ok (.iadd, 1) := by decide +kernel
theorem dL_law_189 : decode cL_law 189 = .ok (.iaload, 1) := by decide +kernel
theorem dL_law_190 : decode cL_law 190 = .ok (.aload_n 0, 1) := by decide +kernel
theorem dL_law_191 : decode cL_law 191 = .ok (.iload 4, 2) := by decide +kernel
theorem dL_law_193 : decode cL_law 193 = .ok (.iconst 5, 1) := by decide +kernel
theorem dL_law_194 : decode cL_law 194 = .ok (.iadd, 1) := by decide +kernel
theorem dL_law_195 : decode cL_law 195 = .ok (.iaload, 1) := by decide +kernel
theorem dL_law_196 : decode cL_law 196 = .ok (.invokevirtual 58, 3) := by decide +kernel
theorem dL_law_199 : decode cL_law 199 = .ok (.istore 6, 2) := by decide +kernel
theorem dL_law_201 : decode cL_law 201 = .ok (.aload_n 2, 1) := by decide +kernel
theorem dL_law_202 : decode cL_law 202 = .ok (.invokevirtual 59, 3) := by decide +kernel
theorem dL_law_205 : decode cL_law 205 = .ok (.iload 5, 2) := by decide +kernel
theorem dL_law_207 : decode cL_law 207 = .ok (.if_icmp .eq 5, 3) := by decide +kernel
theorem dL_law_210 : decode cL_law 210 = .ok (.iconst 0, 1) := by decide +kernel
theorem dL_law_211 : decode cL_law 211 = .ok (.ireturn, 1) := by decide +kernel
theorem dL_law_212 : decode cL_law 212 = .ok (.iload 5, 2) := by decide +kernel
theorem dL_law_214 : decode cL_law 214 = .ok (.ifCond .ne 15, 3) := by decide +kernel
theorem dL_law_217 : decode cL_law 217 = .ok (.aload_n 3, 1) := by decide +kernel
theorem dL_law_218 : decode cL_law 218 = .ok (.iconst 0, 1) := by decide +kernel
theorem dL_law_219 : decode cL_law 219 = .ok (.laload, 1) := by decide +kernel
theorem dL_law_220 : decode cL_law 220 = .ok (.iload 6, 2) := by decide +kernel
theorem dL_law_222 : decode cL_law 222 = .ok (.i2l, 1) := by decide +kernel
theorem dL_law_223 : decode cL_law 223 = .ok (.lcmp, 1) := by decide +kernel
theorem dL_law_224 : decode cL_law 224 = .ok (.ifCond .eq 5, 3) := by decide +kernel
theorem dL_law_227 : decode cL_law 227 = .ok (.iconst 0, 1) := by decide +kernel
theorem dL_law_228 : decode cL_law 228 = .ok (.ireturn, 1) := by decide +kernel
theorem dL_law_229 : decode cL_law 229 = .ok (.goto 727, 3) := by decide +kernel
theorem dL_law_232 : decode cL_law 232 = .ok (.aload_n 1, 1) := by decide +kernel
theorem dL_law_233 : decode cL_law 233 = .ok (.aload_n 0, 1) := by decide +kernel
theorem dL_law_234 : decode cL_law 234 = .ok (.iload 4, 2) := by decide +kernel
theorem dL_law_236 : decode cL_law 236 = .ok (.iconst 1, 1) := by decide +kernel
theorem dL_law_237 : decode cL_law 237 = .ok (.iadd, 1) := by decide +kernel
theorem dL_law_238 : decode cL_law 238 = .ok (.iaload, 1) := by decide +kernel
theorem dL_law_239 : decode cL_law 239 = .ok (.aload_n 0, 1) := by decide +kernel
theorem dL_law_240 : decode cL_law 240 = .ok (.iload 4, 2) := by decide +kernel
theorem dL_law_242 : decode cL_law 242 = .ok (.iconst 2, 1) := by decide +kernel
theorem dL_law_243 : decode cL_law 243 = .ok (.iadd, 1) := by decide +kernel
theorem dL_law_244 : decode cL_law 244 = .ok (.iaload, 1) := by decide +kernel
theorem dL_law_245 : decode cL_law 245 = .ok (.aload_n 0, 1) := by decide +kernel
theorem dL_law_246 : decode cL_law 246 = .ok (.iload 4, 2) := by decide +kernel
theorem dL_law_248 : decode cL_law 248 = .ok (.iconst 3, 1) := by decide +kernel
theorem dL_law_249 : decode cL_law 249 = .ok (.iadd, 1) := by decide +kernel
theorem dL_law_250 : decode cL_law 250 = .ok (.iaload, 1) := by decide +kernel
theorem dL_law_251 : decode cL_law 251 = .ok (.invokevirtual 62, 3) := by decide +kernel
theorem dL_law_254 : decode cL_law 254 = .ok (.aload_n 2, 1) := by decide +kernel
theorem dL_law_255 : decode cL_law 255 = .ok (.aload_n 0, 1) := by decide +kernel
theorem dL_law_256 : decode cL_law 256 = .ok (.iload 4, 2) := by decide +kernel
theorem dL_law_258 : decode cL_law 258 = .ok (.iconst 1, 1) := by decide +kernel
theorem dL_law_259 : decode cL_law 259 = .ok (.iadd, 1) := by decide +kernel
theorem dL_law_260 : decode cL_law 260 = .ok (.iaload, 1) := by decide +kernel
theorem dL_law_261 : decode cL_law 261 = .ok (.aload_n 0, 1) := by decide +kernel
theorem dL_law_262 : decode cL_law 262 = .ok (.iload 4, 2) := by decide +kernel
theorem dL_law_264 : decode cL_law 264 = .ok (.iconst 2, 1) := by decide +kernel
theorem dL_law_265 : decode cL_law 265 = .ok (.iadd, 1) := by decide +kernel
theorem dL_law_266 : decode cL_law 266 = .ok (.iaload, 1) := by decide +kernel
theorem dL_law_267 : decode cL_law 267 = .ok (.aload_n 0, 1) := by decide +kernel
theorem dL_law_268 : decode cL_law 268 = .ok (.iload 4, 2) := by decide +kernel
theorem dL_law_270 : decode cL_law 270 = .ok (.iconst 3, 1) := by decide +kernel
theorem dL_law_271 : decode cL_law 271 = .ok (.iadd, 1) := by decide +kernel
theorem dL_law_272 : decode cL_law 272 = .ok (.iaload, 1) := by decide +kernel
theorem dL_law_273 : decode cL_law 273 = .ok (.invokevirtual 66, 3) := by decide +kernel
theorem dL_law_276 : decode cL_law 276 = .ok (.if_icmp .eq 680, 3) := by decide +kernel
theorem dL_law_279 : decode cL_law 279 = .ok (.iconst 0, 1) := by decide +kernel
theorem dL_law_280 : decode cL_law 280 = .ok (.ireturn, 1) := by decide +kernel
theorem dL_law_281 : decode cL_law 281 = .ok (.aload_n 1, 1) := by decide +kernel
theorem dL_law_282 : decode cL_law 282 = .ok (.aload_n 0, 1) := by decide +kernel
theorem dL_law_283 : decode cL_law 283 = .ok (.iload 4, 2) := by decide +kernel
theorem dL_law_285 : decode cL_law 285 = .ok (.iconst 1, 1) := by decide +kernel
theorem dL_law_286 : decode cL_law 286 = .ok (.iadd, 1) := by decide +kernel
theorem dL_law_287 : decode cL_law 287 = .ok (.iaload, 1) := by decide +kernel
theorem dL_law_288 : decode cL_law 288 = .ok (.aload_n 0, 1) := by decide +kernel
theorem dL_law_289 : decode cL_law 289 = .ok (.iload 4, 2) := by decide +kernel
theorem dL_law_291 : decode cL_law 291 = .ok (.iconst 2, 1) := by decide +kernel
theorem dL_law_292 : decode cL_law 292 = .ok (.iadd, 1) := by decide +kernel
theorem dL_law_293 : decode cL_law 293 = .ok (.iaload, 1) := by decide +kernel
theorem dL_law_294 : decode cL_law 294 = .ok (.aload_n 0, 1) := by decide +kernel
theorem dL_law_295 : decode cL_law 295 = .ok (.iload 4, 2) := by decide +kernel
theorem dL_law_297 : decode cL_law 297 = .ok (.iconst 3, 1) := by decide +kernel
theorem dL_law_298 : decode cL_law 298 = .ok (.iadd, 1) := by decide +kernel
theorem dL_law_299 : decode cL_law 299 = .ok (.iaload, 1) := by decide +kernel
theorem dL_law_300 : decode cL_law 300 = .ok (.ifCond .eq 7, 3) := by decide +kernel
theorem dL_law_303 : decode cL_law 303 = .ok (.iconst 1, 1) := by decide +kernel
theorem dL_law_304 : decode cL_law 304 = .ok (.goto 4, 3) := by decide +kernel
theorem dL_law_307 : decode cL_law 307 = .ok (.iconst 0, 1) := by decide +kernel
theorem dL_law_308 : decode cL_law 308 = .ok (.invokevirtual 67, 3) := by decide +kernel
theorem dL_law_311 : decode cL_law 311 = .ok (.aload_n 2, 1) := by decide +kernel
theorem dL_law_312 : decode cL_law 312 = .ok (.aload_n 0, 1) := by decide +kernel
theorem dL_law_313 : decode cL_law 313 = .ok (.iload 4, 2) := by decide +kernel
theorem dL_law_315 : decode cL_law 315 = .ok (.iconst 1, 1) := by decide +kernel
theorem dL_law_316 : decode cL_law 316 = .ok (.iadd, 1) := by decide +kernel
theorem dL_law_317 : decode cL_law 317 = .ok (.iaload, 1) := by decide +kernel
theorem dL_law_318 : decode cL_law 318 = .ok (.aload_n 0, 1) := by decide +kernel
theorem dL_law_319 : decode cL_law 319 = .ok (.iload 4, 2) := by decide +kernel
theorem dL_law_321 : decode cL_law 321 = .ok (.iconst 2, 1) := by decide +kernel
theorem dL_law_322 : decode cL_law 322 = .ok (.iadd, 1) := by decide +kernel
theorem dL_law_323 : decode cL_law 323 = .ok (.iaload, 1) := by decide +kernel
theorem dL_law_324 : decode cL_law 324 = .ok (.aload_n 0, 1) := by decide +kernel
theorem dL_law_325 : decode cL_law 325 = .ok (.iload 4, 2) := by decide +kernel
theorem dL_law_327 : decode cL_law 327 = .ok (.iconst 3, 1) := by decide +kernel
theorem dL_law_328 : decode cL_law 328 = .ok (.iadd, 1) := by decide +kernel
theorem dL_law_329 : decode cL_law 329 = .ok (.iaload, 1) := by decide +kernel
theorem dL_law_330 : decode cL_law 330 = .ok (.ifCond .eq 7, 3) := by decide +kernel
theorem dL_law_333 : decode cL_law 333 = .ok (.iconst 1, 1) := by decide +kernel
theorem dL_law_334 : decode cL_law 334 = .ok (.goto 4, 3) := by decide +kernel
theorem dL_law_337 : decode cL_law 337 = .ok (.iconst 0, 1) := by decide +kernel
theorem dL_law_338 : decode cL_law 338 = .ok (.invokevirtual 71, 3) := by decide +kernel
theorem dL_law_341 : decode cL_law 341 = .ok (.if_icmp .eq 615, 3) := by decide +kernel
theorem dL_law_344 : decode cL_law 344 = .ok (.iconst 0, 1) := by decide +kernel
theorem dL_law_345 : decode cL_law 345 = .ok (.ireturn, 1) := by decide +kernel
theorem dL_law_346 : decode cL_law 346 = .ok (.aload_n 1, 1) := by decide +kernel
theorem dL_law_347 : decode cL_law 347 = .ok (.aload_n 0, 1) := by decide +kernel
theorem dL_law_348 : decode cL_law 348 = .ok (.iload 4, 2) := by decide +kernel
theorem dL_law_350 : decode cL_law 350 = .ok (.iconst 1, 1) := by decide +kernel
theorem dL_law_351 : decode cL_law 351 = .ok (.iadd, 1) := by decide +kernel
theorem dL_law_352 : decode cL_law 352 = .ok (.iaload, 1) := by decide +kernel
theorem dL_law_353 : decode cL_law 353 = .ok (.aload_n 0, 1) := by decide +kernel
theorem dL_law_354 : decode cL_law 354 = .ok (.iload 4, 2) := by decide +kernel
theorem dL_law_356 : decode cL_law 356 = .ok (.iconst 2, 1) := by decide +kernel
theorem dL_law_357 : decode cL_law 357 = .ok (.iadd, 1) := by decide +kernel
theorem dL_law_358 : decode cL_law 358 = .ok (.iaload, 1) := by decide +kernel
theorem dL_law_359 : decode cL_law 359 = .ok (.aload_n 0, 1) := by decide +kernel
theorem dL_law_360 : decode cL_law 360 = .ok (.iload 4, 2) := by decide +kernel
theorem dL_law_362 : decode cL_law 362 = .ok (.iconst 3, 1) := by decide +kernel
theorem dL_law_363 : decode cL_law 363 = .ok (.iadd, 1) := by decide +kernel
theorem dL_law_364 : decode cL_law 364 = .ok (.iaload, 1) := by decide +kernel
theorem dL_law_365 : decode cL_law 365 = .ok (.ifCond .eq 7, 3) := by decide +kernel
theorem dL_law_368 : decode cL_law 368 = .ok (.iconst 1, 1) := by decide +kernel
theorem dL_law_369 : decode cL_law 369 = .ok (.goto 4, 3) := by decide +kernel
theorem dL_law_372 : decode cL_law 372 = .ok (.iconst 0, 1) := by decide +kernel
theorem dL_law_373 : decode cL_law 373 = .ok (.invokevirtual 72, 3) := by decide +kernel
theorem dL_law_376 : decode cL_law 376 = .ok (.aload_n 2, 1) := by decide +kernel
theorem dL_law_377 : decode cL_law 377 = .ok (.aload_n 0, 1) := by decide +kernel
theorem dL_law_378 : decode cL_law 378 = .ok (.iload 4, 2) := by decide +kernel
theorem dL_law_380 : decode cL_law 380 = .ok (.iconst 1, 1) := by decide +kernel
theorem dL_law_381 : decode cL_law 381 = .ok (.iadd, 1) := by decide +kernel
theorem dL_law_382 : decode cL_law 382 = .ok (.iaload, 1) := by decide +kernel
theorem dL_law_383 : decode cL_law 383 = .ok (.aload_n 0, 1) := by decide +kernel
theorem dL_law_384 : decode cL_law 384 = .ok (.iload 4, 2) := by decide +kernel
theorem dL_law_386 : decode cL_law 386 = .ok (.iconst 2, 1) := by decide +kernel
theorem dL_law_387 : decode cL_law 387 = .ok (.iadd, 1) := by decide +kernel
theorem dL_law_388 : decode cL_law 388 = .ok (.iaload, 1) := by decide +kernel
theorem dL_law_389 : decode cL_law 389 = .ok (.aload_n 0, 1) := by decide +kernel
theorem dL_law_390 : decode cL_law 390 = .ok (.iload 4, 2) := by decide +kernel
theorem dL_law_392 : decode cL_law 392 = .ok (.iconst 3, 1) := by decide +kernel
theorem dL_law_393 : decode cL_law 393 = .ok (.iadd, 1) := by decide +kernel
theorem dL_law_394 : decode cL_law 394 = .ok (.iaload, 1) := by decide +kernel
theorem dL_law_395 : decode cL_law 395 = .ok (.ifCond .eq 7, 3) := by decide +kernel
theorem dL_law_398 : decode cL_law 398 = .ok (.iconst 1, 1) := by decide +kernel
theorem dL_law_399 : decode cL_law 399 = .ok (.goto 4, 3) := by decide +kernel
theorem dL_law_402 : decode cL_law 402 = .ok (.iconst 0, 1) := by decide +kernel
theorem dL_law_403 : decode cL_law 403 = .ok (.invokevirtual 75, 3) := by decide +kernel
theorem dL_law_406 : decode cL_law 406 = .ok (.if_icmp .eq 550, 3) := by decide +kernel
theorem dL_law_409 : decode cL_law 409 = .ok (.iconst 0, 1) := by decide +kernel
theorem dL_law_410 : decode cL_law 410 = .ok (.ireturn, 1) := by decide +kernel
theorem dL_law_411 : decode cL_law 411 = .ok (.aload_n 1, 1) := by decide +kernel
theorem dL_law_412 : decode cL_law 412 = .ok (.aload_n 0, 1) := by decide +kernel
theorem dL_law_413 : decode cL_law 413 = .ok (.iload 4, 2) := by decide +kernel
theorem dL_law_415 : decode cL_law 415 = .ok (.iconst 1, 1) := by decide +kernel
theorem dL_law_416 : decode cL_law 416 = .ok (.iadd, 1) := by decide +kernel
theorem dL_law_417 : decode cL_law 417 = .ok (.iaload, 1) := by decide +kernel
theorem dL_law_418 : decode cL_law 418 = .ok (.aload_n 0, 1) := by decide +kernel
theorem dL_law_419 : decode cL_law 419 = .ok (.iload 4, 2) := by decide +kernel
theorem dL_law_421 : decode cL_law 421 = .ok (.iconst 2, 1) := by decide +kernel
theorem dL_law_422 : decode cL_law 422 = .ok (.iadd, 1) := by decide +kernel
theorem dL_law_423 : decode cL_law 423 = .ok (.iaload, 1) := by decide +kernel
theorem dL_law_424 : decode cL_law 424 = .ok (.invokevirtual 76, 3) := by decide +kernel
theorem dL_law_427 : decode cL_law 427 = .ok (.aload_n 2, 1) := by decide +kernel
theorem dL_law_428 : decode cL_law 428 = .ok (.aload_n 0, 1) := by decide +kernel
theorem dL_law_429 : decode cL_law 429 = .ok (.iload 4, 2) := by decide +kernel
theorem dL_law_431 : decode cL_law 431 = .ok (.iconst 1, 1) := by decide +kernel
theorem dL_law_432 : decode cL_law 432 = .ok (.iadd, 1) := by decide +kernel
theorem dL_law_433 : decode cL_law 433 = .ok (.iaload, 1) := by decide +kernel
theorem dL_law_434 : decode cL_law 434 = .ok (.aload_n 0, 1) := by decide +kernel
theorem dL_law_435 : decode cL_law 435 = .ok (.iload 4, 2) := by decide +kernel
theorem dL_law_437 : decode cL_law 437 = .ok (.iconst 2, 1) := by decide +kernel
theorem dL_law_438 : decode cL_law 438 = .ok (.iadd, 1) := by decide +kernel
theorem dL_law_439 : decode cL_law 439 = .ok (.iaload, 1) := by decide +kernel
theorem dL_law_440 : decode cL_law 440 = .ok (.invokevirtual 80, 3) := by decide +kernel
theorem dL_law_443 : decode cL_law 443 = .ok (.if_icmp .eq 513, 3) := by decide +kernel
theorem dL_law_446 : decode cL_law 446 = .ok (.iconst 0, 1) := by decide +kernel
theorem dL_law_447 : decode cL_law 447 = .ok (.ireturn, 1) := by decide +kernel
theorem dL_law_448 : decode cL_law 448 = .ok (.aload_n 1, 1) := by decide +kernel
theorem dL_law_449 : decode cL_law 449 = .ok (.aload_n 0, 1) := by decide +kernel
theorem dL_law_450 : decode cL_law 450 = .ok (.iload 4, 2) := by decide +kernel
theorem dL_law_452 : decode cL_law 452 = .ok (.iconst 1, 1) := by decide +kernel
theorem dL_law_453 : decode cL_law 453 = .ok (.iadd, 1) := by decide +kernel
theorem dL_law_454 : decode cL_law 454 = .ok (.iaload, 1) := by decide +kernel
theorem dL_law_455 : decode cL_law 455 = .ok (.aload_n 0, 1) := by decide +kernel
theorem dL_law_456 : decode cL_law 456 = .ok (.iload 4, 2) := by decide +kernel
theorem dL_law_458 : decode cL_law 458 = .ok (.iconst 2, 1) := by decide +kernel
theorem dL_law_459 : decode cL_law 459 = .ok (.iadd, 1) := by decide +kernel
theorem dL_law_460 : decode cL_law 460 = .ok (.iaload, 1) := by decide +kernel
theorem dL_law_461 : decode cL_law 461 = .ok (.aload_n 0, 1) := by decide +kernel
theorem dL_law_462 : decode cL_law 462 = .ok (.iload 4, 2) := by decide +kernel
theorem dL_law_464 : decode cL_law 464 = .ok (.iconst 3, 1) := by decide +kernel
theorem dL_law_465 : decode cL_law 465 = .ok (.iadd, 1) := by decide +kernel
theorem dL_law_466 : decode cL_law 466 = .ok (.iaload, 1) := by decide +kernel
theorem dL_law_467 : decode cL_law 467 = .ok (.invokevirtual 81, 3) := by decide +kernel
theorem dL_law_470 : decode cL_law 470 = .ok (.aload_n 2, 1) := by decide +kernel
theorem dL_law_471 : decode cL_law 471 = .ok (.aload_n 0, 1) := by decide +kernel
theorem dL_law_472 : decode cL_law 472 = .ok (.iload 4, 2) := by decide +kernel
theorem dL_law_474 : decode cL_law 474 = .ok (.iconst 1, 1) := by decide +kernel
theorem dL_law_475 : decode cL_law 475 = .ok (.iadd, 1) := by decide +kernel
theorem dL_law_476 : decode cL_law 476 = .ok (.iaload, 1) := by decide +kernel
theorem dL_law_477 : decode cL_law 477 = .ok (.aload_n 0, 1) := by decide +kernel
theorem dL_law_478 : decode cL_law 478 = .ok (.iload 4, 2) := by decide +kernel
theorem dL_law_480 : decode cL_law 480 = .ok (.iconst 2, 1) := by decide +kernel
theorem dL_law_481 : decode cL_law 481 = .ok (.iadd, 1) := by decide +kernel
theorem dL_law_482 : decode cL_law 482 = .ok (.iaload, 1) := by decide +kernel
theorem dL_law_483 : decode cL_law 483 = .ok (.aload_n 0, 1) := by decide +kernel
theorem dL_law_484 : decode cL_law 484 = .ok (.iload 4, 2) := by decide +kernel
theorem dL_law_486 : decode cL_law 486 = .ok (.iconst 3, 1) := by decide +kernel
theorem dL_law_487 : decode cL_law 487 = .ok (.iadd, 1) := by decide +kernel
theorem dL_law_488 : decode cL_law 488 = .ok (.iaload, 1) := by decide +kernel
theorem dL_law_489 : decode cL_law 489 = .ok (.invokevirtual 84, 3) := by decide +kernel
theorem dL_law_492 : decode cL_law 492 = .ok (.if_icmp .eq 464, 3) := by decide +kernel
theorem dL_law_495 : decode cL_law 495 = .ok (.iconst 0, 1) := by decide +kernel
theorem dL_law_496 : decode cL_law 496 = .ok (.ireturn, 1) := by decide +kernel
theorem dL_law_497 : decode cL_law 497 = .ok (.aload_n 1, 1) := by decide +kernel
theorem dL_law_498 : decode cL_law 498 = .ok (.aload_n 0, 1) := by decide +kernel
theorem dL_law_499 : decode cL_law 499 = .ok (.iload 4, 2) := by decide +kernel
theorem dL_law_501 : decode cL_law 501 = .ok (.iconst 1, 1) := by decide +kernel
theorem dL_law_502 : decode cL_law 502 = .ok (.iadd, 1) := by decide +kernel
theorem dL_law_503 : decode cL_law 503 = .ok (.iaload, 1) := by decide +kernel
theorem dL_law_504 : decode cL_law 504 = .ok (.invokevirtual 85, 3) := by decide +kernel
theorem dL_law_507 : decode cL_law 507 = .ok (.aload_n 2, 1) := by decide +kernel
theorem dL_law_508 : decode cL_law 508 = .ok (.aload_n 0, 1) := by decide +kernel
theorem dL_law_509 : decode cL_law 509 = .ok (.iload 4, 2) := by decide +kernel
theorem dL_law_511 : decode cL_law 511 = .ok (.iconst 1, 1) := by decide +kernel
theorem dL_law_512 : decode cL_law 512 = .ok (.iadd, 1) := by decide +kernel
theorem dL_law_513 : decode cL_law 513 = .ok (.iaload, 1) := by decide +kernel
theorem dL_law_514 : decode cL_law 514 = .ok (.invokevirtual 89, 3) := by decide +kernel
theorem dL_law_517 : decode cL_law 517 = .ok (.if_icmp .eq 439, 3) := by decide +kernel
theorem dL_law_520 : decode cL_law 520 = .ok (.iconst 0, 1) := by decide +kernel
theorem dL_law_521 : decode cL_law 521 = .ok (.ireturn, 1) := by decide +kernel
theorem dL_law_522 : decode cL_law 522 = .ok (.aload_n 1, 1) := by decide +kernel
theorem dL_law_523 : decode cL_law 523 = .ok (.invokevirtual 90, 3) := by decide +kernel
theorem dL_law_526 : decode cL_law 526 = .ok (.aload_n 2, 1) := by decide +kernel
theorem dL_law_527 : decode cL_law 527 = .ok (.invokevirtual 93, 3) := by decide +kernel
theorem dL_law_530 : decode cL_law 530 = .ok (.if_icmp .eq 426, 3) := by decide +kernel
theorem dL_law_533 : decode cL_law 533 = .ok (.iconst 0, 1) := by decide +kernel
theorem dL_law_534 : decode cL_law 534 = .ok (.ireturn, 1) := by decide +kernel
theorem dL_law_535 : decode cL_law 535 = .ok (.aload_n 1, 1) := by decide +kernel
theorem dL_law_536 : decode cL_law 536 = .ok (.aload_n 0, 1) := by decide +kernel
theorem dL_law_537 : decode cL_law 537 = .ok (.iload 4, 2) := by decide +kernel
theorem dL_law_539 : decode cL_law 539 = .ok (.iconst 1, 1) := by decide +kernel
theorem dL_law_540 : decode cL_law 540 = .ok (.iadd, 1) := by decide +kernel
theorem dL_law_541 : decode cL_law 541 = .ok (.iaload, 1) := by decide +kernel
theorem dL_law_542 : decode cL_law 542 = .ok (.aload_n 0, 1) := by decide +kernel
theorem dL_law_543 : decode cL_law 543 = .ok (.iload 4, 2) := by decide +kernel
theorem dL_law_545 : decode cL_law 545 = .ok (.iconst 2, 1) := by decide +kernel
theorem dL_law_546 : decode cL_law 546 = .ok (.iadd, 1) := by decide +kernel
theorem dL_law_547 : decode cL_law 547 = .ok (.iaload, 1) := by decide +kernel
theorem dL_law_548 : decode cL_law 548 = .ok (.aload_n 3, 1) := by decide +kernel
theorem dL_law_549 : decode cL_law 549 = .ok (.invokestatic 94, 3) := by decide +kernel
theorem dL_law_552 : decode cL_law 552 = .ok (.istore 5, 2) := by decide +kernel
theorem dL_law_554 : decode cL_law 554 = .ok (.aload_n 2, 1) := by decide +kernel
theorem dL_law_555 : decode cL_law 555 = .ok (.aload_n 0, 1) := by decide +kernel
theorem dL_law_556 : decode cL_law 556 = .ok (.iload 4, 2) := by decide +kernel
theorem dL_law_558 : decode cL_law 558 = .ok (.iconst 1, 1) := by decide +kernel
theorem dL_law_559 : decode cL_law 559 = .ok (.iadd, 1) := by decide +kernel
theorem dL_law_560 : decode cL_law 560 = .ok (.iaload, 1) := by decide +kernel
theorem dL_law_561 : decode cL_law 561 = .ok (.aload_n 0, 1) := by decide +kernel
theorem dL_law_562 : decode cL_law 562 = .ok (.iload 4, 2) := by decide +kernel
theorem dL_law_564 : decode cL_law 564 = .ok (.iconst 2, 1) := by decide +kernel
theorem dL_law_565 : decode cL_law 565 = .ok (.iadd, 1) := by decide +kernel
theorem dL_law_566 : decode cL_law 566 = .ok (.iaload, 1) := by decide +kernel
theorem dL_law_567 : decode cL_law 567 = .ok (.invokevirtual 97, 3) := by decide +kernel
theorem dL_law_570 : decode cL_law 570 = .ok (.istore 6, 2) := by decide +kernel
theorem dL_law_572 : decode cL_law 572 = .ok (.aload_n 2, 1) := by decide +kernel
theorem dL_law_573 : decode cL_law 573 = .ok (.invokevirtual 59, 3) := by decide +kernel
theorem dL_law_576 : decode cL_law 576 = .ok (.iload 5, 2) := by decide +kernel
theorem dL_law_578 : decode cL_law 578 = .ok (.if_icmp .eq 5, 3) := by decide +kernel
theorem dL_law_581 : decode cL_law 581 = .ok (.iconst 0, 1) := by decide +kernel
theorem dL_law_582 : decode cL_law 582 = .ok (.ireturn, 1) := by decide +kernel
theorem dL_law_583 : decode cL_law 583 = .ok (.iload 5, 2) := by decide +kernel
theorem dL_law_585 : decode cL_law 585 = .ok (.ifCond .ne 15, 3) := by decide +kernel
theorem dL_law_588 : decode cL_law 588 = .ok (.aload_n 3, 1) := by decide +kernel
theorem dL_law_589 : decode cL_law 589 = .ok (.iconst 0, 1) := by decide +kernel
theorem dL_law_590 : decode cL_law 590 = .ok (.laload, 1) := by decide +kernel
theorem dL_law_591 : decode cL_law 591 = .ok (.iload 6, 2) := by decide +kernel
theorem dL_law_593 : decode cL_law 593 = .ok (.i2l, 1) := by decide +kernel
theorem dL_law_594 : decode cL_law 594 = .ok (.lcmp, 1) := by decide +kernel
theorem dL_law_595 : decode cL_law 595 = .ok (.ifCond .eq 5, 3) := by decide +kernel
theorem dL_law_598 : decode cL_law 598 = .ok (.iconst 0, 1) := by decide +kernel
theorem dL_law_599 : decode cL_law 599 = .ok (.ireturn, 1) := by decide +kernel
theorem dL_law_600 : decode cL_law 600 = .ok (.goto 356, 3) := by decide +kernel
theorem dL_law_603 : decode cL_law 603 = .ok (.aload_n 1, 1) := by decide +kernel
theorem dL_law_604 : decode cL_law 604 = .ok (.aload_n 3, 1) := by decide +kernel
theorem dL_law_605 : decode cL_law 605 = .ok (.invokestatic 98, 3) := by decide +kernel
theorem dL_law_608 : decode cL_law 608 = .ok (.istore 5, 2) := by decide +kernel
theorem dL_law_610 : decode cL_law 610 = .ok (.aload_n 2, 1) := by decide +kernel
theorem dL_law_611 : decode cL_law 611 = .ok (.invokevirtual 101, 3) := by decide +kernel
theorem dL_law_614 : decode cL_law 614 = .ok (.istore 6, 2) := by decide +kernel
theorem dL_law_616 : decode cL_law 616 = .ok (.aload_n 2, 1) := by decide +kernel
theorem dL_law_617 : decode cL_law 617 = .ok (.invokevirtual 59, 3) := by decide +kernel
theorem dL_law_620 : decode cL_law 620 = .ok (.iload 5, 2) := by decide +kernel
theorem dL_law_622 : decode cL_law 622 = .ok (.if_icmp .eq 5, 3) := by decide +kernel
theorem dL_law_625 : decode cL_law 625 = .ok (.iconst 0, 1) := by decide +kernel
theorem dL_law_626 : decode cL_law 626 = .ok (.ireturn, 1) := by decide +kernel
theorem dL_law_627 : decode cL_law 627 = .ok (.iload 5, 2) := by decide +kernel
theorem dL_law_629 : decode cL_law 629 = .ok (.ifCond .ne 15, 3) := by decide +kernel
theorem dL_law_632 : decode cL_law 632 = .ok (.aload_n 3, 1) := by decide +kernel
theorem dL_law_633 : decode cL_law 633 = .ok (.iconst 0, 1) := by decide +kernel
theorem dL_law_634 : decode cL_law 634 = .ok (.laload, 1) := by decide +kernel
theorem dL_law_635 : decode cL_law 635 = .ok (.iload 6, 2) := by decide +kernel
theorem dL_law_637 : decode cL_law 637 = .ok (.i2l, 1) := by decide +kernel
theorem dL_law_638 : decode cL_law 638 = .ok (.lcmp, 1) := by decide +kernel
theorem dL_law_639 : decode cL_law 639 = .ok (.ifCond .eq 5, 3) := by decide +kernel
theorem dL_law_642 : decode cL_law 642 = .ok (.iconst 0, 1) := by decide +kernel
theorem dL_law_643 : decode cL_law 643 = .ok (.ireturn, 1) := by decide +kernel
theorem dL_law_644 : decode cL_law 644 = .ok (.goto 312, 3) := by decide +kernel
theorem dL_law_647 : decode cL_law 647 = .ok (.aload_n 1, 1) := by decide +kernel
theorem dL_law_648 : decode cL_law 648 = .ok (.invokevirtual 102, 3) := by decide +kernel
theorem dL_law_651 : decode cL_law 651 = .ok (.aload_n 2, 1) := by decide +kernel
theorem dL_law_652 : decode cL_law 652 = .ok (.invokevirtual 105, 3) := by decide +kernel
theorem dL_law_655 : decode cL_law 655 = .ok (.if_icmp .eq 301, 3) := by decide +kernel
theorem dL_law_658 : decode cL_law 658 = .ok (.iconst 0, 1) := by decide +kernel
theorem dL_law_659 : decode cL_law 659 = .ok (.ireturn, 1) := by decide +kernel
theorem dL_law_660 : decode cL_law 660 = .ok (.aload_n 1, 1) := by decide +kernel
theorem dL_law_661 : decode cL_law 661 = .ok (.aload_n 0, 1) := by decide +kernel
theorem dL_law_662 : decode cL_law 662 = .ok (.iload 4, 2) := by decide +kernel
theorem dL_law_664 : decode cL_law 664 = .ok (.iconst 1, 1) := by decide +kernel
theorem dL_law_665 : decode cL_law 665 = .ok (.iadd, 1) := by decide +kernel
theorem dL_law_666 : decode cL_law 666 = .ok (.iaload, 1) := by decide +kernel
theorem dL_law_667 : decode cL_law 667 = .ok (.aload_n 3, 1) := by decide +kernel
theorem dL_law_668 : decode cL_law 668 = .ok (.invokestatic 106, 3) := by decide +kernel
theorem dL_law_671 : decode cL_law 671 = .ok (.istore 5, 2) := by decide +kernel
theorem dL_law_673 : decode cL_law 673 = .ok (.aload_n 2, 1) := by decide +kernel
theorem dL_law_674 : decode cL_law 674 = .ok (.aload_n 0, 1) := by decide +kernel
theorem dL_law_675 : decode cL_law 675 = .ok (.iload 4, 2) := by decide +kernel
theorem dL_law_677 : decode cL_law 677 = .ok (.iconst 1, 1) := by decide +kernel
theorem dL_law_678 : decode cL_law 678 = .ok (.iadd, 1) := by decide +kernel
theorem dL_law_679 : decode cL_law 679 = .ok (.iaload, 1) := by decide +kernel
theorem dL_law_680 : decode cL_law 680 = .ok (.invokevirtual 109, 3) := by decide +kernel
theorem dL_law_683 : decode cL_law 683 = .ok (.istore 6, 2) := by decide +kernel
theorem dL_law_685 : decode cL_law 685 = .ok (.aload_n 2, 1) := by decide +kernel
theorem dL_law_686 : decode cL_law 686 = .ok (.invokevirtual 59, 3) := by decide +kernel
theorem dL_law_689 : decode cL_law 689 = .ok (.iload 5, 2) := by decide +kernel
theorem dL_law_691 : decode cL_law 691 = .ok (.if_icmp .eq 5, 3) := by decide +kernel
theorem dL_law_694 : decode cL_law 694 = .ok (.iconst 0, 1) := by decide +kernel
theorem dL_law_695 : decode cL_law 695 = .ok (.ireturn, 1) := by decide +kernel
theorem dL_law_696 : decode cL_law 696 = .ok (.iload 5, 2) := by decide +kernel
theorem dL_law_698 : decode cL_law 698 = .ok (.ifCond .ne 15, 3) := by decide +kernel
theorem dL_law_701 : decode cL_law 701 = .ok (.aload_n 3, 1) := by decide +kernel
theorem dL_law_702 : decode cL_law 702 = .ok (.iconst 0, 1) := by decide +kernel
theorem dL_law_703 : decode cL_law 703 = .ok (.laload, 1) := by decide +kernel
theorem dL_law_704 : decode cL_law 704 = .ok (.iload 6, 2) := by decide +kernel
theorem dL_law_706 : decode cL_law 706 = .ok (.i2l, 1) := by decide +kernel
theorem dL_law_707 : decode cL_law 707 = .ok (.lcmp, 1) := by decide +kernel
theorem dL_law_708 : decode cL_law 708 = .ok (.ifCond .eq 5, 3) := by decide +kernel
theorem dL_law_711 : decode cL_law 711 = .ok (.iconst 0, 1) := by decide +kernel
theorem dL_law_712 : decode cL_law 712 = .ok (.ireturn, 1) := by decide +kernel
theorem dL_law_713 : decode cL_law 713 = .ok (.goto 243, 3) := by decide +kernel
theorem dL_law_716 : decode cL_law 716 = .ok (.aload_n 1, 1) := by decide +kernel
theorem dL_law_717 : decode cL_law 717 = .ok (.aload_n 0, 1) := by decide +kernel
theorem dL_law_718 : decode cL_law 718 = .ok (.iload 4, 2) := by decide +kernel
theorem dL_law_720 : decode cL_law 720 = .ok (.iconst 1, 1) := by decide +kernel
theorem dL_law_721 : decode cL_law 721 = .ok (.iadd, 1) := by decide +kernel
theorem dL_law_722 : decode cL_law 722 = .ok (.iaload, 1) := by decide +kernel
theorem dL_law_723 : decode cL_law 723 = .ok (.aload_n 0, 1) := by decide +kernel
theorem dL_law_724 : decode cL_law 724 = .ok (.iload 4, 2) := by decide +kernel
theorem dL_law_726 : decode cL_law 726 = .ok (.iconst 2, 1) := by decide +kernel
theorem dL_law_727 : decode cL_law 727 = .ok (.iadd, 1) := by decide +kernel
theorem dL_law_728 : decode cL_law 728 = .ok (.iaload, 1) := by decide +kernel
theorem dL_law_729 : decode cL_law 729 = .ok (.aload_n 3, 1) := by decide +kernel
theorem dL_law_730 : decode cL_law 730 = .ok (.invokestatic 110, 3) := by decide +kernel
theorem dL_law_733 : decode cL_law 733 = .ok (.istore 5, 2) := by decide +kernel
theorem dL_law_735 : decode cL_law 735 = .ok (.aload_n 2, 1) := by decide +kernel
theorem dL_law_736 : decode cL_law 736 = .ok (.aload_n 0, 1) := by decide +kernel
theorem dL_law_737 : decode cL_law 737 = .ok (.iload 4, 2) := by decide +kernel
theorem dL_law_739 : decode cL_law 739 = .ok (.iconst 1, 1) := by decide +kernel
theorem dL_law_740 : decode cL_law 740 = .ok (.iadd, 1) := by decide +kernel
theorem dL_law_741 : decode cL_law 741 = .ok (.iaload, 1) := by decide +kernel
theorem dL_law_742 : decode cL_law 742 = .ok (.aload_n 0, 1) := by decide +kernel
theorem dL_law_743 : decode cL_law 743 = .ok (.iload 4, 2) := by decide +kernel
theorem dL_law_745 : decode cL_law 745 = .ok (.iconst 2, 1) := by decide +kernel
theorem dL_law_746 : decode cL_law 746 = .ok (.iadd, 1) := by decide +kernel
theorem dL_law_747 : decode cL_law 747 = .ok (.iaload, 1) := by decide +kernel
theorem dL_law_748 : decode cL_law 748 = .ok (.invokevirtual 112, 3) := by decide +kernel
theorem dL_law_751 : decode cL_law 751 = .ok (.istore 6, 2) := by decide +kernel
theorem dL_law_753 : decode cL_law 753 = .ok (.aload_n 2, 1) := by decide +kernel
theorem dL_law_754 : decode cL_law 754 = .ok (.invokevirtual 59, 3) := by decide +kernel
theorem dL_law_757 : decode cL_law 757 = .ok (.iload 5, 2) := by decide +kernel
theorem dL_law_759 : decode cL_law 759 = .ok (.if_icmp .eq 5, 3) := by decide +kernel
theorem dL_law_762 : decode cL_law 762 = .ok (.iconst 0, 1) := by decide +kernel
theorem dL_law_763 : decode cL_law 763 = .ok (.ireturn, 1) := by decide +kernel
theorem dL_law_764 : decode cL_law 764 = .ok (.iload 5, 2) := by decide +kernel
theorem dL_law_766 : decode cL_law 766 = .ok (.ifCond .ne 15, 3) := by decide +kernel
theorem dL_law_769 : decode cL_law 769 = .ok (.aload_n 3, 1) := by decide +kernel
theorem dL_law_770 : decode cL_law 770 = .ok (.iconst 0, 1) := by decide +kernel
theorem dL_law_771 : decode cL_law 771 = .ok (.laload, 1) := by decide +kernel
theorem dL_law_772 : decode cL_law 772 = .ok (.iload 6, 2) := by decide +kernel
theorem dL_law_774 : decode cL_law 774 = .ok (.i2l, 1) := by decide +kernel
theorem dL_law_775 : decode cL_law 775 = .ok (.lcmp, 1) := by decide +kernel
theorem dL_law_776 : decode cL_law 776 = .ok (.ifCond .eq 5, 3) := by decide +kernel
theorem dL_law_779 : decode cL_law 779 = .ok (.iconst 0, 1) := by decide +kernel
theorem dL_law_780 : decode cL_law 780 = .ok (.ireturn, 1) := by decide +kernel
theorem dL_law_781 : decode cL_law 781 = .ok (.goto 175, 3) := by decide +kernel
theorem dL_law_784 : decode cL_law 784 = .ok (.aload_n 1, 1) := by decide +kernel
theorem dL_law_785 : decode cL_law 785 = .ok (.aload_n 0, 1) := by decide +kernel
theorem dL_law_786 : decode cL_law 786 = .ok (.iload 4, 2) := by decide +kernel
theorem dL_law_788 : decode cL_law 788 = .ok (.iconst 1, 1) := by decide +kernel
theorem dL_law_789 : decode cL_law 789 = .ok (.iadd, 1) := by decide +kernel
theorem dL_law_790 : decode cL_law 790 = .ok (.iaload, 1) := by decide +kernel
theorem dL_law_791 : decode cL_law 791 = .ok (.aload_n 0, 1) := by decide +kernel
theorem dL_law_792 : decode cL_law 792 = .ok (.iload 4, 2) := by decide +kernel
theorem dL_law_794 : decode cL_law 794 = .ok (.iconst 2, 1) := by decide +kernel
theorem dL_law_795 : decode cL_law 795 = .ok (.iadd, 1) := by decide +kernel
theorem dL_law_796 : decode cL_law 796 = .ok (.iaload, 1) := by decide +kernel
theorem dL_law_797 : decode cL_law 797 = .ok (.aload_n 3, 1) := by decide +kernel
theorem dL_law_798 : decode cL_law 798 = .ok (.invokestatic 113, 3) := by decide +kernel
theorem dL_law_801 : decode cL_law 801 = .ok (.istore 5, 2) := by decide +kernel
theorem dL_law_803 : decode cL_law 803 = .ok (.aload_n 2, 1) := by decide +kernel
theorem dL_law_804 : decode cL_law 804 = .ok (.aload_n 0, 1) := by decide +kernel
theorem dL_law_805 : decode cL_law 805 = .ok (.iload 4, 2) := by decide +kernel
theorem dL_law_807 : decode cL_law 807 = .ok (.iconst 1, 1) := by decide +kernel
theorem dL_law_808 : decode cL_law 808 = .ok (.iadd, 1) := by decide +kernel
theorem dL_law_809 : decode cL_law 809 = .ok (.iaload, 1) := by decide +kernel
theorem dL_law_810 : decode cL_law 810 = .ok (.aload_n 0, 1) := by decide +kernel
theorem dL_law_811 : decode cL_law 811 = .ok (.iload 4, 2) := by decide +kernel
theorem dL_law_813 : decode cL_law 813 = .ok (.iconst 2, 1) := by decide +kernel
theorem dL_law_814 : decode cL_law 814 = .ok (.iadd, 1) := by decide +kernel
theorem dL_law_815 : decode cL_law 815 = .ok (.iaload, 1) := by decide +kernel
theorem dL_law_816 : decode cL_law 816 = .ok (.invokevirtual 115, 3) := by decide +kernel
theorem dL_law_819 : decode cL_law 819 = .ok (.istore 6, 2) := by decide +kernel
theorem dL_law_821 : decode cL_law 821 = .ok (.aload_n 2, 1) := by decide +kernel
theorem dL_law_822 : decode cL_law 822 = .ok (.invokevirtual 59, 3) := by decide +kernel
theorem dL_law_825 : decode cL_law 825 = .ok (.iload 5, 2) := by decide +kernel
theorem dL_law_827 : decode cL_law 827 = .ok (.if_icmp .eq 5, 3) := by decide +kernel
theorem dL_law_830 : decode cL_law 830 = .ok (.iconst 0, 1) := by decide +kernel
theorem dL_law_831 : decode cL_law 831 = .ok (.ireturn, 1) := by decide +kernel
theorem dL_law_832 : decode cL_law 832 = .ok (.iload 5, 2) := by decide +kernel
theorem dL_law_834 : decode cL_law 834 = .ok (.ifCond .ne 15, 3) := by decide +kernel
theorem dL_law_837 : decode cL_law 837 = .ok (.aload_n 3, 1) := by decide +kernel
theorem dL_law_838 : decode cL_law 838 = .ok (.iconst 0, 1) := by decide +kernel
theorem dL_law_839 : decode cL_law 839 = .ok (.laload, 1) := by decide +kernel
theorem dL_law_840 : decode cL_law 840 = .ok (.iload 6, 2) := by decide +kernel
theorem dL_law_842 : decode cL_law 842 = .ok (.i2l, 1) := by decide +kernel
theorem dL_law_843 : decode cL_law 843 = .ok (.lcmp, 1) := by decide +kernel
theorem dL_law_844 : decode cL_law 844 = .ok (.ifCond .eq 5, 3) := by decide +kernel
theorem dL_law_847 : decode cL_law 847 = .ok (.iconst 0, 1) := by decide +kernel
theorem dL_law_848 : decode cL_law 848 = .ok (.ireturn, 1) := by decide +kernel
theorem dL_law_849 : decode cL_law 849 = .ok (.goto 107, 3) := by decide +kernel
theorem dL_law_852 : decode cL_law 852 = .ok (.aload_n 1, 1) := by decide +kernel
theorem dL_law_853 : decode cL_law 853 = .ok (.aload_n 0, 1) := by decide +kernel
theorem dL_law_854 : decode cL_law 854 = .ok (.iload 4, 2) := by decide +kernel
theorem dL_law_856 : decode cL_law 856 = .ok (.iconst 1, 1) := by decide +kernel
theorem dL_law_857 : decode cL_law 857 = .ok (.iadd, 1) := by decide +kernel
theorem dL_law_858 : decode cL_law 858 = .ok (.iaload, 1) := by decide +kernel
theorem dL_law_859 : decode cL_law 859 = .ok (.aload_n 0, 1) := by decide +kernel
theorem dL_law_860 : decode cL_law 860 = .ok (.iload 4, 2) := by decide +kernel
theorem dL_law_862 : decode cL_law 862 = .ok (.iconst 2, 1) := by decide +kernel
theorem dL_law_863 : decode cL_law 863 = .ok (.iadd, 1) := by decide +kernel
theorem dL_law_864 : decode cL_law 864 = .ok (.iaload, 1) := by decide +kernel
theorem dL_law_865 : decode cL_law 865 = .ok (.aload_n 0, 1) := by decide +kernel
theorem dL_law_866 : decode cL_law 866 = .ok (.iload 4, 2) := by decide +kernel
theorem dL_law_868 : decode cL_law 868 = .ok (.iconst 3, 1) := by decide +kernel
theorem dL_law_869 : decode cL_law 869 = .ok (.iadd, 1) := by decide +kernel
theorem dL_law_870 : decode cL_law 870 = .ok (.iaload, 1) := by decide +kernel
theorem dL_law_871 : decode cL_law 871 = .ok (.aload_n 3, 1) := by decide +kernel
theorem dL_law_872 : decode cL_law 872 = .ok (.invokestatic 116, 3) := by decide +kernel
theorem dL_law_875 : decode cL_law 875 = .ok (.istore 5, 2) := by decide +kernel
theorem dL_law_877 : decode cL_law 877 = .ok (.aload_n 2, 1) := by decide +kernel
theorem dL_law_878 : decode cL_law 878 = .ok (.aload_n 0, 1) := by decide +kernel
theorem dL_law_879 : decode cL_law 879 = .ok (.iload 4, 2) := by decide +kernel
theorem dL_law_881 : decode cL_law 881 = .ok (.iconst 1, 1) := by decide +kernel
theorem dL_law_882 : decode cL_law 882 = .ok (.iadd, 1) := by decide +kernel
theorem dL_law_883 : decode cL_law 883 = .ok (.iaload, 1) := by decide +kernel
theorem dL_law_884 : decode cL_law 884 = .ok (.aload_n 0, 1) := by decide +kernel
theorem dL_law_885 : decode cL_law 885 = .ok (.iload 4, 2) := by decide +kernel
theorem dL_law_887 : decode cL_law 887 = .ok (.iconst 2, 1) := by decide +kernel
theorem dL_law_888 : decode cL_law 888 = .ok (.iadd, 1) := by decide +kernel
theorem dL_law_889 : decode cL_law 889 = .ok (.iaload, 1) := by decide +kernel
theorem dL_law_890 : decode cL_law 890 = .ok (.aload_n 0, 1) := by decide +kernel
theorem dL_law_891 : decode cL_law 891 = .ok (.iload 4, 2) := by decide +kernel
theorem dL_law_893 : decode cL_law 893 = .ok (.iconst 3, 1) := by decide +kernel
theorem dL_law_894 : decode cL_law 894 = .ok (.iadd, 1) := by decide +kernel
theorem dL_law_895 : decode cL_law 895 = .ok (.iaload, 1) := by decide +kernel
theorem dL_law_896 : decode cL_law 896 = .ok (.invokevirtual 119, 3) := by decide +kernel
theorem dL_law_899 : decode cL_law 899 = .ok (.lstore 6, 2) := by decide +kernel
theorem dL_law_901 : decode cL_law 901 = .ok (.aload_n 2, 1) := by decide +kernel
theorem dL_law_902 : decode cL_law 902 = .ok (.invokevirtual 59, 3) := by decide +kernel
theorem dL_law_905 : decode cL_law 905 = .ok (.iload 5, 2) := by decide +kernel
theorem dL_law_907 : decode cL_law 907 = .ok (.if_icmp .eq 5, 3) := by decide +kernel
theorem dL_law_910 : decode cL_law 910 = .ok (.iconst 0, 1) := by decide +kernel
theorem dL_law_911 : decode cL_law 911 = .ok (.ireturn, 1) := by decide +kernel
theorem dL_law_912 : decode cL_law 912 = .ok (.iload 5, 2) := by decide +kernel
theorem dL_law_914 : decode cL_law 914 = .ok (.ifCond .ne 14, 3) := by decide +kernel
theorem dL_law_917 : decode cL_law 917 = .ok (.aload_n 3, 1) := by decide +kernel
theorem dL_law_918 : decode cL_law 918 = .ok (.iconst 0, 1) := by decide +kernel
theorem dL_law_919 : decode cL_law 919 = .ok (.laload, 1) := by decide +kernel
theorem dL_law_920 : decode cL_law 920 = .ok (.lload 6, 2) := by decide +kernel
theorem dL_law_922 : decode cL_law 922 = .ok (.lcmp, 1) := by decide +kernel
theorem dL_law_923 : decode cL_law 923 = .ok (.ifCond .eq 5, 3) := by decide +kernel
theorem dL_law_926 : decode cL_law 926 = .ok (.iconst 0, 1) := by decide +kernel
theorem dL_law_927 : decode cL_law 927 = .ok (.ireturn, 1) := by decide +kernel
theorem dL_law_928 : decode cL_law 928 = .ok (.goto 28, 3) := by decide +kernel
theorem dL_law_931 : decode cL_law 931 = .ok (.aload_n 1, 1) := by decide +kernel
theorem dL_law_932 : decode cL_law 932 = .ok (.aload_n 0, 1) := by decide +kernel
theorem dL_law_933 : decode cL_law 933 = .ok (.iload 4, 2) := by decide +kernel
theorem dL_law_935 : decode cL_law 935 = .ok (.iconst 1, 1) := by decide +kernel
theorem dL_law_936 : decode cL_law 936 = .ok (.iadd, 1) := by decide +kernel
theorem dL_law_937 : decode cL_law 937 = .ok (.iaload, 1) := by decide +kernel
theorem dL_law_938 : decode cL_law 938 = .ok (.invokevirtual 120, 3) := by decide +kernel
theorem dL_law_941 : decode cL_law 941 = .ok (.aload_n 2, 1) := by decide +kernel
theorem dL_law_942 : decode cL_law 942 = .ok (.aload_n 0, 1) := by decide +kernel
theorem dL_law_943 : decode cL_law 943 = .ok (.iload 4, 2) := by decide +kernel
theorem dL_law_945 : decode cL_law 945 = .ok (.iconst 1, 1) := by decide +kernel
theorem dL_law_946 : decode cL_law 946 = .ok (.iadd, 1) := by decide +kernel
theorem dL_law_947 : decode cL_law 947 = .ok (.iaload, 1) := by decide +kernel
theorem dL_law_948 : decode cL_law 948 = .ok (.invokevirtual 123, 3) := by decide +kernel
theorem dL_law_951 : decode cL_law 951 = .ok (.if_icmp .eq 5, 3) := by decide +kernel
theorem dL_law_954 : decode cL_law 954 = .ok (.iconst 0, 1) := by decide +kernel
theorem dL_law_955 : decode cL_law 955 = .ok (.ireturn, 1) := by decide +kernel
theorem dL_law_956 : decode cL_law 956 = .ok (.iinc 4 6, 3) := by decide +kernel
theorem dL_law_959 : decode cL_law 959 = .ok (.goto (-926), 3) := by decide +kernel
theorem dL_law_962 : decode cL_law 962 = .ok (.iconst 1, 1) := by decide +kernel
theorem dL_law_963 : decode cL_law 963 = .ok (.ireturn, 1) := by decide +kernel
abbrev vwCl : List vw_C := [(RX0, TX0, 5), (RX1, TX1, 9), (RX2, TX2, 11), (RX3, TX3, 5), (RX4, TX4, 19)]
end
section
/-! the world of both systems as ONE memory: 32 cells by number (0..15 the planner, 16..30 the reference, 31 the row of one long); ints are rows of the memory, references never change but one, by a flag -/
abbrev Mem : Type := Nat → Nat → Int32
def mw (M : Mem) (c k : Nat) (v : Int32) : Mem := fun c' => if c' = c then upd (M c) k v else M c'
theorem mw_s (M : Mem) (c k : Nat) (v : Int32) : mw M c k v c = upd (M c) k v := if_pos rfl
theorem mw_n (M : Mem) {c k j : Nat} {v : Int32} (h : j ≠ c) : mw M c k v j = M j := if_neg h
def Ab (B : Nat) : Nat → Prop := fun q => B ≤ q
def sfs (f : Nat → Int32) : List Value := [.int (f 0), .int (f 1), .int (f 2), .int (f 3), .int (f 4), .int (f 5), .int (f 6), .int (f 7), .int (f 8), .int (f 9), .int (f 10)]
def iar (c : ClassId) (n : Nat) (f : Nat → Int32) : va_E := .inl (c, n, .inl f)
def rar (c : ClassId) (n : Nat) (f : Nat → Option Nat) : va_E := .inl (c, n, .inr (.inr (.inr (.inr f))))
def cellOf (ad : Nat → Nat) (ca : Nat → ClassId) (ov : Int64) (k : Nat) (f : Nat → Int32) : va_E := match k with
  | 0 => .inr (3, [.ref (ad 1), .ref (ad 4), .ref (ad 9), .int (f 3), .int (f 4)])
  | 1 => .inr (0, [.int (f 0), .ref (ad 2), .ref (ad 3), .int (f 3), .int (f 4)])
  | 2 => .inl (ca 2, 6, .inl f)
  | 3 => .inl (ca 3, 6, .inl f)
  | 4 => .inl (ca 4, 4, .inr (.inr (.inr (.inr (fun j => some (ad (5 + j)))))))
  | 5 => .inr (2, sfs f)
  | 6 => .inr (2, sfs f)
  | 7 => .inr (2, sfs f)
  | 8 => .inr (2, sfs f)
  | 9 => .inr (1, [.ref (ad 10), .ref (ad 11), .ref (ad 12), .ref (ad 13), .ref (ad 14), .ref (ad (if f 5 = 0 then 15 else 4)), .int (f 6), .int (f 7), .int (f 8)])
  | 10 => .inl (ca 10, 96, .inl f)
  | 11 => .inl (ca 11, 4, .inl f)
  | 12 => .inl (ca 12, 4, .inl f)
  | 13 => .inl (ca 13, 4, .inl f)
  | 14 => .inl (ca 14, 4, .inl f)
  | 15 => .inl (ca 15, 0, .inr (.inr (.inr (.inr (fun _ => none)))))
  | 16 => .inr (4, [.int (f 0), .int (f 1), .int (f 2), .int (f 3), .int (f 4), .ref (ad 17), .ref (ad 18), .ref (ad 19), .ref (ad 20), .ref (ad 21), .ref (ad 22), .ref (ad 23), .ref (ad 24), .ref (ad 25), .ref (ad 26), .ref (ad 27), .ref (ad 28), .ref (ad 29), .ref (ad 30)])
  | 17 => .inl (ca 17, 6, .inl f)
  | 18 => .inl (ca 18, 6, .inl f)
  | 19 => .inl (ca 19, 8, .inl f)
  | 20 => .inl (ca 20, 8, .inl f)
  | 21 => .inl (ca 21, 4, .inl f)
  | 22 => .inl (ca 22, 4, .inl f)
  | 23 => .inl (ca 23, 4, .inl f)
  | 24 => .inl (ca 24, 4, .inl f)
  | 25 => .inl (ca 25, 4, .inl f)
  | 26 => .inl (ca 26, 4, .inl f)
  | 27 => .inl (ca 27, 4, .inl f)
  | 28 => .inl (ca 28, 4, .inl f)
  | 29 => .inl (ca 29, 4, .inl f)
  | 30 => .inl (ca 30, 5, .inl f)
  | _ => .inl (ca 31, 1, .inr (.inl (fun _ => ov)))
def wld (ad : Nat → Nat) (ca : Nat → ClassId) (M : Mem) (ov : Int64) : va_W := (List.range 32).map (fun k => (ad k, cellOf ad ca ov k (M k)))
def tysL (ca : Nat → ClassId) : List (ClassId × FieldType) := [(ca 2, .int), (ca 3, .int), (ca 4, .object RX2), (ca 10, .int), (ca 11, .int), (ca 12, .int), (ca 13, .int), (ca 14, .int), (ca 15, .object RX2), (ca 17, .int), (ca 18, .int), (ca 19, .int), (ca 20, .int), (ca 21, .int), (ca 22, .int), (ca 23, .int), (ca 24, .int), (ca 25, .int), (ca 26, .int), (ca 27, .int), (ca 28, .int), (ca 29, .int), (ca 30, .int), (ca 31, .long)]
def sh (c : Nat) : Prop := 5 ≤ c ∧ c < 9
theorem cell_sh {ad : Nat → Nat} {ca : Nat → ClassId} {ov : Int64} {c : Nat} (h : sh c) (f : Nat → Int32) : cellOf ad ca ov c f = .inr (2, sfs f) := by
  obtain ⟨h1, h2⟩ := h
  rcases (show c = 5 ∨ c = 6 ∨ c = 7 ∨ c = 8 by omega) with rfl | rfl | rfl | rfl <;> rfl
theorem sh_lt {c : Nat} (h : sh c) : c < 32 := Nat.lt_of_lt_of_le h.2 (by decide)
theorem sh_in {i : Int32} (h : vp_in i 4) : sh (5 + i.toNatClampNeg) := by
  have hlt : i.toNatClampNeg < 4 := Nat.not_le.mp fun q => h (Or.inr q)
  exact ⟨by omega, by omega⟩
theorem wld_get {ad : Nat → Nat} {ca : Nat → ClassId} {M : Mem} {ov : Int64} {k : Nat} (hk : k < 32) : (wld ad ca M ov)[k]? = some (ad k, cellOf ad ca ov k (M k)) := by
  simp [wld, hk]
theorem wld_at {ad : Nat → Nat} {ca : Nat → ClassId} {M : Mem} {ov : Int64} {k : Nat} {e : va_E} (hk : k < 32) (he : cellOf ad ca ov k (M k) = e) : (wld ad ca M ov)[k]? = some (ad k, e) := by
  rw [wld_get hk, he]
theorem wld_set {ad : Nat → Nat} {ca : Nat → ClassId} {M : Mem} {ov : Int64} {c k : Nat} {v : Int32} {e : va_E} (hc : c < 32) (he : cellOf ad ca ov c (upd (M c) k v) = e) : (wld ad ca M ov).set c (ad c, e) = wld ad ca (mw M c k v) ov := by
  apply List.ext_getElem?
  intro j
  rw [List.getElem?_set]
  have hlen : (wld ad ca M ov).length = 32 := by simp [wld]
  by_cases h : c = j
  · subst h
    rw [if_pos rfl, if_pos (by rw [hlen]; exact hc), wld_get hc, mw_s, he]
  · rw [if_neg h]
    by_cases hj : j < 32
    · rw [wld_get hj, wld_get hj, mw_n M (fun q => h q.symm)]
    · rw [List.getElem?_eq_none (by rw [hlen]; omega), List.getElem?_eq_none (by simp [wld]; omega)]
/-- what the tables say: the classes, the rows, the nest mates' links -/
def Kn (D : va_G) (ca : Nat → ClassId) (U : State) : Prop := va_K D vwCl (tysL ca) U ∧ va_Nw (.methodLinkNest RX0 30 yX3_beginsBetween RX3) U ∧ va_Nw (.methodLinkNest RX1 86 yX3_hasBit RX3) U ∧ va_Nw (.methodLinkNest RX1 114 yX3_beginsBetween RX3) U ∧ va_Nw (.methodLinkNest RX1 120 yX3_spansMeet RX3) U
theorem Kn.warm {D : va_G} {ca : Nat → ClassId} {s U : State} (hW : s.WarmedH U.vm) (h : Kn D ca s) : Kn D ca U := ⟨va_K.moved hW.alike h.1, h.2.1.warmM hW, h.2.2.1.warmM hW, h.2.2.2.1.warmM hW, h.2.2.2.2.warmM hW⟩
theorem Kn.same {D : va_G} {ca : Nat → ClassId} {s U : State} (hW : s.vm = U.vm) (h : Kn D ca s) : Kn D ca U := ⟨va_K.moved (by rw [hW]; exact Vm.Alike.refl _) h.1, h.2.1.same rfl hW, h.2.2.1.same rfl hW, h.2.2.2.1.same rfl hW, h.2.2.2.2.same rfl hW⟩
def Wp (D : va_G) (ad : Nat → Nat) (ca : Nat → ClassId) (B : Nat) (M : Mem) (ov : Int64) (H : Heap) : Prop := va_P D vwCl (wld ad ca M ov) H ∧ va_D (Ab B) (wld ad ca M ov)
def Wd (D : va_G) (ad : Nat → Nat) (ca : Nat → ClassId) (B : Nat) (M : Mem) (ov : Int64) (U : State) : Prop := B ≤ U.heap.size ∧ Wp D ad ca B M ov U.heap ∧ Kn D ca U
def Cu (D : va_G) (ad : Nat → Nat) (ca : Nat → ClassId) (B : Nat) (M : Mem) (ov : Int64) (s : State) (H : Heap) (locs : List Loc) : Prop := va_P D vwCl (wld ad ca M ov) H ∧ va_D (Ab B) (wld ad ca M ov) ∧ Kn D ca s ∧ va_S (Ab B) s.heap H locs ∧ B ≤ s.heap.size
theorem Wd.blind {D : va_G} {ad : Nat → Nat} {ca : Nat → ClassId} {B : Nat} {M : Mem} {ov : Int64} {As : List Value} : FrameBlind (va_Pc As (Wd D ad ca B M ov)) := fun a U g mk q => by
  obtain ⟨q0, q1, q2, q3⟩ := q
  exact ⟨q0, q1, q2, Kn.same (s := U) (U := U.calling g mk a) rfl q3⟩
theorem Cu.wd {D : va_G} {ad : Nat → Nat} {ca : Nat → ClassId} {B : Nat} {M : Mem} {ov : Int64} {s U : State} {H : Heap} {locs : List Loc} (h : Cu D ad ca B M ov s H locs) (hU : U.heap = H) (hW : s.WarmedH U.vm) : Wd D ad ca B M ov U := by
  obtain ⟨h1, h2, h3, h4, h5⟩ := h
  exact ⟨by rw [hU]; exact Nat.le_trans h5 h4.1, by rw [hU]; exact ⟨h1, h2⟩, h3.warm hW⟩
theorem Cu.of {D : va_G} {ad : Nat → Nat} {ca : Nat → ClassId} {B : Nat} {M : Mem} {ov : Int64} {s : State} (h : Wd D ad ca B M ov s) : Cu D ad ca B M ov s s.heap [] := ⟨h.2.1.1, h.2.1.2, h.2.2, va_S.rf, h.1⟩
def MtI (l : Launch) (D : va_G) (ad : Nat → Nat) (ca : Nat → ClassId) (B : Nat) (ov : Int64) (y : MethodName) (ws : List Cond) (rm : Room) (As : List Value) (M : Mem) (r0 : Int32) (M' : Mem) : Prop := Met l y ws rm (va_Pc As (Wd D ad ca B M ov)) (va_Qi (fun (r : Int32) (_ : Unit) => r = r0) (fun _ t => Wp D ad ca B M' ov t.heap) (Ab B)) 0 0 (Ab B)
def MtL (l : Launch) (D : va_G) (ad : Nat → Nat) (ca : Nat → ClassId) (B : Nat) (ov : Int64) (y : MethodName) (ws : List Cond) (rm : Room) (As : List Value) (M : Mem) (r0 : Int64) (M' : Mem) : Prop := Met l y ws rm (va_Pc As (Wd D ad ca B M ov)) (va_Ql (fun (r : Int64) (_ : Unit) => r = r0) (fun _ t => Wp D ad ca B M' ov t.heap) (Ab B)) 0 0 (Ab B)
def MtV (l : Launch) (D : va_G) (ad : Nat → Nat) (ca : Nat → ClassId) (B : Nat) (ov : Int64) (y : MethodName) (ws : List Cond) (rm : Room) (As : List Value) (M : Mem) (M' : Mem) : Prop := Met l y ws rm (va_Pc As (Wd D ad ca B M ov)) (va_Qv (fun (_ : Unit) => True) (fun _ t => Wp D ad ca B M' ov t.heap) (Ab B)) 0 0 (Ab B)
section MG
variable {p : Program} {l : Launch} {e : Env} {R : Room} {s : State} {m : MethodId} {args : Array Value} {below : List Frame} {meth : Method} {c : Code} {H : Heap} {locs : List Loc} {cells slots : Nat} {Q : State → Prop}
variable {cc : ByteArray} {pc : Nat} {ls : Array Slot} {rest : List Value} {D : va_G} {ad : Nat → Nat} {ca : Nat → ClassId} {B : Nat} {M : Mem} {ov : Int64}
theorem mg_get (hexec : p.tables.exec = Jvm.exec) (hb : c.code = cc) {own ref C : String} {T : u_T} {N ci index : Nat} {Ts : List Cond} (hts : ∀ w ∈ Ts, w.before args s = true) (hin : ∀ w ∈ u_ws C T N, w ∈ Ts) (hown : s.vm.findClass own = some m.cls) (hC : Cu D ad ca B M ov s H locs) (cn : Nat) {fs : List Value} (hcn : cn < 32) (he : cellOf ad ca ov cn (M cn) = .inr (ci, fs)) (hc : vwCl[ci]? = some (C, T, N)) (k : Nat) (hk : k < N) (hlink : (Cond.fieldLink own index ref (T k).2.1 (T k).2.2.1).before args s = true) (hsame : (T k).1 = ref) {v : Value} (hv : fs[k]? = some v) (hdg : decode cc pc = .ok (.getfield index, 3))
    (kk : W p l e R s m args below meth c H locs cells slots Q (F0 m (pc + 3) ls (v :: rest))) : W p l e R s m args below meth c H locs cells slots Q (F0 m pc ls (.ref (ad cn) :: rest)) :=
  va_get hexec hb hts hin hown hC.2.2.1.1 hC.1 cn (wld_at hcn he) hc k hk hlink (fun x h => by rw [← hsame]; exact h) hv hdg kk
theorem mg_put (hexec : p.tables.exec = Jvm.exec) (hb : c.code = cc) {own ref C : String} {T : u_T} {N ci index : Nat} {Ts : List Cond} (hts : ∀ w ∈ Ts, w.before args s = true) (hin : ∀ w ∈ u_ws C T N, w ∈ Ts) (ty0 : Nat → FieldType) (hty : ∀ k, k < N → parseFieldDescriptor (T k).2.2.1 = some (ty0 k)) (hnm : ∀ a, a < N → ∀ b, b < N → a ≠ b → (T a).2.1 ≠ (T b).2.1) (hown : s.vm.findClass own = some m.cls) (hC : Cu D ad ca B M ov s H locs) (cn : Nat) {fs : List Value} (hcn : cn < 32) (he : cellOf ad ca ov cn (M cn) = .inr (ci, fs)) (hc : vwCl[ci]? = some (C, T, N)) (k : Nat) (hk : k < N) (hlink : (Cond.fieldLink own index ref (T k).2.1 (T k).2.2.1).before args s = true) (hsame : (T k).1 = ref) (hfin : (T k).2.2.2 = false) {ty : FieldType} {v : Value} (hd : parseFieldDescriptor (T k).2.2.1 = some ty) (hn : narrow ty v = v) (hfit : fits ty v = true) (hl : k < fs.length) {x : Int32} (he2 : cellOf ad ca ov cn (upd (M cn) k x) = .inr (ci, fs.set k v))
    (hdg : decode cc pc = .ok (.putfield index, 3)) (kk : ∀ (H1 : Heap) (locs1 : List Loc), Cu D ad ca B (mw M cn k x) ov s H1 locs1 → W p l e R s m args below meth c H1 locs1 cells slots Q (F0 m (pc + 3) ls rest)) : W p l e R s m args below meth c H locs cells slots Q (F0 m pc ls (v :: .ref (ad cn) :: rest)) :=
  va_put hexec hb hts hin ty0 hty hnm hown hC.2.2.1.1 hC.1 hC.2.1 hC.2.2.2.1 cn (wld_at hcn he) hc k hk hlink (fun x h => by rw [← hsame]; exact h) hfin hd hn hfit hl hdg (fun H1 locs1 hP hD hS => by
    rw [wld_set hcn he2] at hP hD
    exact kk H1 locs1 ⟨hP, hD, hC.2.2.1, hS, hC.2.2.2.2⟩)
theorem mg_iald (hexec : p.tables.exec = Jvm.exec) (hb : c.code = cc) (hC : Cu D ad ca B M ov s H locs) (cn t0 : Nat) {n : Nat} {cA : ClassId} (hcn : cn < 32) (he : cellOf ad ca ov cn (M cn) = .inl (cA, n, .inl (M cn))) (ht : (tysL ca)[t0]? = some (cA, .int)) {i : Int32} (hin : vp_in i n) (hdg : decode cc pc = .ok (.iaload, 1))
    (kk : W p l e R s m args below meth c H locs cells slots Q (F0 m (pc + 1) ls (.int (M cn i.toNatClampNeg) :: rest))) : W p l e R s m args below meth c H locs cells slots Q (F0 m pc ls (.int i :: .ref (ad cn) :: rest)) :=
  va_iald hexec hb hC.2.2.1.1 hC.1 cn t0 (wld_at hcn he) ht hin hdg kk
theorem mg_iast (hexec : p.tables.exec = Jvm.exec) (hb : c.code = cc) (hC : Cu D ad ca B M ov s H locs) (cn t0 : Nat) {n : Nat} {cA : ClassId} (hcn : cn < 32) (he : ∀ f : Nat → Int32, cellOf ad ca ov cn f = .inl (cA, n, .inl f)) (ht : (tysL ca)[t0]? = some (cA, .int)) {i x : Int32} (hin : vp_in i n) (hdg : decode cc pc = .ok (.iastore, 1))
    (kk : ∀ (H1 : Heap) (locs1 : List Loc), Cu D ad ca B (mw M cn i.toNatClampNeg x) ov s H1 locs1 → W p l e R s m args below meth c H1 locs1 cells slots Q (F0 m (pc + 1) ls rest)) : W p l e R s m args below meth c H locs cells slots Q (F0 m pc ls (.int x :: .int i :: .ref (ad cn) :: rest)) :=
  va_iast hexec hb hC.2.2.1.1 hC.1 hC.2.1 hC.2.2.2.1 cn t0 (wld_at hcn (he _)) ht hin hdg (fun H1 locs1 hP hD hS => by
    rw [wld_set hcn (he _)] at hP hD
    exact kk H1 locs1 ⟨hP, hD, hC.2.2.1, hS, hC.2.2.2.2⟩)
theorem mg_aald (hexec : p.tables.exec = Jvm.exec) (hb : c.code = cc) (hC : Cu D ad ca B M ov s H locs) {i : Int32} (hin : vp_in i 4) (hdg : decode cc pc = .ok (.aaload, 1))
    (kk : W p l e R s m args below meth c H locs cells slots Q (F0 m (pc + 1) ls (.ref (ad (5 + i.toNatClampNeg)) :: rest))) : W p l e R s m args below meth c H locs cells slots Q (F0 m pc ls (.int i :: .ref (ad 4) :: rest)) :=
  va_aldq hexec hb hC.2.2.1.1 hC.1 4 2 (wld_at (by decide) rfl) rfl hin hdg kk
theorem mg_alen4 (hexec : p.tables.exec = Jvm.exec) (hb : c.code = cc) (hC : Cu D ad ca B M ov s H locs) (hdg : decode cc pc = .ok (.arraylength, 1))
    (kk : W p l e R s m args below meth c H locs cells slots Q (F0 m (pc + 1) ls (.int 4 :: rest))) : W p l e R s m args below meth c H locs cells slots Q (F0 m pc ls (.ref (ad 4) :: rest)) :=
  va_alen hexec hb hC.2.2.1.1 hC.1 4 2 (wld_at (by decide) rfl) rfl rfl hdg kk
theorem mg_recv (hC : Cu D ad ca B M ov s H locs) (cn : Nat) {ci : Nat} {C : String} {T : u_T} {N : Nat} {fs : List Value} (hcn : cn < 32) (he : cellOf ad ca ov cn (M cn) = .inr (ci, fs)) (hc : vwCl[ci]? = some (C, T, N)) : ∃ cell : Cell, H[ad cn]? = some cell ∧ cell.vm.isStatics = false ∧ s.vm.findClass C = some cell.cls :=
  va_recv hC.2.2.1.1 hC.1 hc (wld_at hcn he)
theorem mg_back {r : Prop} {M' : Mem} {t : State} {H1 : Heap} {locs1 : List Loc} (hC : Cu D ad ca B M ov s H locs) (ht : t.heap = H1) (hB : Wp D ad ca B M' ov t.heap) (hS : va_S (Ab B) s.heap H1 locs1) : Cu D ad ca B M' ov s H1 locs1 := by
  rw [ht] at hB
  exact ⟨hB.1, hB.2, hC.2.2.1, hS, hC.2.2.2.2⟩
variable {y : MethodName} {bytes : ByteArray} {maxL nL n index : Nat} {ret : Option FieldType} {ws : List Cond} {rm : Room} {Ts : List Cond} {own C host : String} {b : Addr} {As st0 : List Value} {M' : Mem} {r0 : Int32} {r1 : Int64}
theorem mc_Vi (S : CallFix p m c cc nL s args Ts own) (hC : Cu D ad ca B M ov s H locs) (hM : MtI l D ad ca B ov y ws rm (.ref b :: As) M r0 M') (cw : CallW R s args own C index y bytes maxL ret ws rm 0 0 n) (hrc : ∃ cellB : Cell, H[b]? = some cellB ∧ cellB.vm.isStatics = false ∧ s.vm.findClass C = some cellB.cls) (hn : As.length = n) (hsize : ls.size = nL) (hstack : st0 = As.reverse ++ .ref b :: rest) (hW : (rest.map fun v => v.category).sum ≤ 8) (hdg : decode cc pc = .ok (.invokevirtual index, 3)) (hf : cells + 0 ≤ R.cells ∧ slots + 0 ≤ R.slots)
    (kk : ∀ (H1 : Heap) (locs1 : List Loc), Cu D ad ca B M' ov s H1 locs1 → W p l e R s m args below meth c H1 locs1 cells slots Q (F0 m (pc + 3) ls (.int r0 :: rest))) : W p l e R s m args below meth c H locs cells slots Q (F0 m pc ls st0) :=
  va_calli (va_runV S hM cw ⟨Wd.blind, hrc, fun U hU hW => ⟨rfl, hC.wd hU hW⟩⟩ rfl hn hsize hstack (lv_room hW) hdg hf) hC.2.2.2.1 (fun _ _ h => h) (fun _ h => h) (fun r u t H1 locs1 ht _ hw hB _ _ hS => by
    subst hw
    exact kk H1 locs1 (mg_back (r := True) hC ht hB hS))
theorem mc_Vv (S : CallFix p m c cc nL s args Ts own) (hC : Cu D ad ca B M ov s H locs) (hM : MtV l D ad ca B ov y ws rm (.ref b :: As) M M') (cw : CallW R s args own C index y bytes maxL ret ws rm 0 0 n) (hrc : ∃ cellB : Cell, H[b]? = some cellB ∧ cellB.vm.isStatics = false ∧ s.vm.findClass C = some cellB.cls) (hn : As.length = n) (hsize : ls.size = nL) (hstack : st0 = As.reverse ++ .ref b :: rest) (hW : (rest.map fun v => v.category).sum ≤ 8) (hdg : decode cc pc = .ok (.invokevirtual index, 3)) (hf : cells + 0 ≤ R.cells ∧ slots + 0 ≤ R.slots)
    (kk : ∀ (H1 : Heap) (locs1 : List Loc), Cu D ad ca B M' ov s H1 locs1 → W p l e R s m args below meth c H1 locs1 cells slots Q (F0 m (pc + 3) ls rest)) : W p l e R s m args below meth c H locs cells slots Q (F0 m pc ls st0) :=
  va_callv (va_runV S hM cw ⟨Wd.blind, hrc, fun U hU hW => ⟨rfl, hC.wd hU hW⟩⟩ rfl hn hsize hstack (lv_room hW) hdg hf) hC.2.2.2.1 (fun _ _ h => h) (fun _ h => h) (fun u t H1 locs1 ht _ _ hB _ _ hS => kk H1 locs1 (mg_back (r := True) hC ht hB hS))
theorem mc_Si (S : CallFix p m c cc nL s args Ts own) (hC : Cu D ad ca B M ov s H locs) (hM : MtI l D ad ca B ov y ws rm As M r0 M') (cw : CallB R s args own index y bytes maxL ret ws rm 0 0 n ∧ (Cond.static y).before args s = true) (hn : As.length = n) (hsize : ls.size = nL) (hstack : st0 = As.reverse ++ rest) (hW : (rest.map fun v => v.category).sum ≤ 8) (hdg : decode cc pc = .ok (.invokestatic index, 3)) (hf : cells + 0 ≤ R.cells ∧ slots + 0 ≤ R.slots)
    (kk : ∀ (H1 : Heap) (locs1 : List Loc), Cu D ad ca B M' ov s H1 locs1 → W p l e R s m args below meth c H1 locs1 cells slots Q (F0 m (pc + 3) ls (.int r0 :: rest))) : W p l e R s m args below meth c H locs cells slots Q (F0 m pc ls st0) :=
  va_calli (va_runS S hM cw ⟨Wd.blind, fun U hU hW => ⟨rfl, hC.wd hU hW⟩⟩ rfl hn hsize hstack (lv_room hW) hdg hf) hC.2.2.2.1 (fun _ _ h => h) (fun _ h => h) (fun r u t H1 locs1 ht _ hw hB _ _ hS => by
    subst hw
    exact kk H1 locs1 (mg_back (r := True) hC ht hB hS))
theorem mc_Ni (S : CallFix p m c cc nL s args Ts own) (hC : Cu D ad ca B M ov s H locs) (hM : MtI l D ad ca B ov y ws rm As M r0 M') (cw : va_CN R s args own index y host bytes maxL ret ws rm 0 0 n ∧ (Cond.static y).before args s = true ∧ True) (hn : As.length = n) (hsize : ls.size = nL) (hstack : st0 = As.reverse ++ rest) (hW : (rest.map fun v => v.category).sum ≤ 8) (hdg : decode cc pc = .ok (.invokestatic index, 3)) (hf : cells + 0 ≤ R.cells ∧ slots + 0 ≤ R.slots)
    (kk : ∀ (H1 : Heap) (locs1 : List Loc), Cu D ad ca B M' ov s H1 locs1 → W p l e R s m args below meth c H1 locs1 cells slots Q (F0 m (pc + 3) ls (.int r0 :: rest))) : W p l e R s m args below meth c H locs cells slots Q (F0 m pc ls st0) :=
  va_calli (va_runSN S hM cw ⟨Wd.blind, fun U hU hW => ⟨rfl, hC.wd hU hW⟩⟩ rfl hn hsize hstack (lv_room hW) hdg hf) hC.2.2.2.1 (fun _ _ h => h) (fun _ h => h) (fun r u t H1 locs1 ht _ hw hB _ _ hS => by
    subst hw
    exact kk H1 locs1 (mg_back (r := True) hC ht hB hS))
/-- the ends -/
theorem mr_I {v : Int32} (hx : p.tables.exec = Jvm.exec) (hb : c.code = cc) (hr : meth.sig.returnType = some .int) (hlk : meth.locks = false) (hC : Cu D ad ca B M ov s H locs) (hf : some (v, M) = some (r0, M')) (hdg : decode cc pc = .ok (.ireturn, 1)) :
    W p l e R s m args below meth c H locs 0 0 (MQ below (va_Qi (fun (r : Int32) (_ : Unit) => r = r0) (fun _ t => Wp D ad ca B M' ov t.heap) (Ab B)) args s 0 0 (Ab B)) (F0 m pc ls [.int v]) := by
  cases hf
  exact W.iret (v := v) hx hb hr (fun t ht hW => ⟨⟨v, (), rfl, rfl, by rw [ht]; exact ⟨hC.1, hC.2.1⟩⟩, hC.2.2.2.1.F ht⟩) hC.2.2.2.1.2.2 hdg
theorem mr_Z {v : Int32} (hx : p.tables.exec = Jvm.exec) (hb : c.code = cc) (hr : meth.sig.returnType = some .boolean) (hlk : meth.locks = false) (hC : Cu D ad ca B M ov s H locs) (hv : v = 0 ∨ v = 1) (hf : some (v, M) = some (r0, M')) (hdg : decode cc pc = .ok (.ireturn, 1)) :
    W p l e R s m args below meth c H locs 0 0 (MQ below (va_Qi (fun (r : Int32) (_ : Unit) => r = r0) (fun _ t => Wp D ad ca B M' ov t.heap) (Ab B)) args s 0 0 (Ab B)) (F0 m pc ls [.int v]) := by
  cases hf
  exact W.zret (v := v) hx hb hr (by rcases hv with rfl | rfl <;> decide) (fun t ht hW => ⟨⟨v, (), rfl, rfl, by rw [ht]; exact ⟨hC.1, hC.2.1⟩⟩, hC.2.2.2.1.F ht⟩) hC.2.2.2.1.2.2 hdg
theorem mr_L {v : Int64} (hx : p.tables.exec = Jvm.exec) (hb : c.code = cc) (hr : meth.sig.returnType = some .long) (hlk : meth.locks = false) (hC : Cu D ad ca B M ov s H locs) (hf : some (v, M) = some (r1, M')) (hdg : decode cc pc = .ok (.lreturn, 1)) :
    W p l e R s m args below meth c H locs 0 0 (MQ below (va_Ql (fun (r : Int64) (_ : Unit) => r = r1) (fun _ t => Wp D ad ca B M' ov t.heap) (Ab B)) args s 0 0 (Ab B)) (F0 m pc ls [.long v]) := by
  cases hf
  exact W.lret (v := v) hx hb hr (fun t ht hW => ⟨⟨v, (), rfl, rfl, by rw [ht]; exact ⟨hC.1, hC.2.1⟩⟩, hC.2.2.2.1.F ht⟩) hC.2.2.2.1.2.2 hdg
theorem mr_V (hx : p.tables.exec = Jvm.exec) (hb : c.code = cc) (hr : meth.sig.returnType = none) (hlk : meth.locks = false) (hC : Cu D ad ca B M ov s H locs) (hf : some ((0 : Int32), M) = some (r0, M')) (hdg : decode cc pc = .ok (.return_, 1)) :
    W p l e R s m args below meth c H locs 0 0 (MQ below (va_Qv (fun (_ : Unit) => True) (fun _ t => Wp D ad ca B M' ov t.heap) (Ab B)) args s 0 0 (Ab B)) (F0 m pc ls []) := by
  cases hf
  exact W.vret hx hb hr (fun t ht hW => ⟨⟨(), rfl, trivial, by rw [ht]; exact ⟨hC.1, hC.2.1⟩⟩, hC.2.2.2.1.F ht⟩) hC.2.2.2.1.2.2 hdg
end MG
/-- the words of the functions that are read off the bytecode -/
def gd {α : Type} (i : Int32) (n : Nat) (k : Option α) : Option α := if i < 0 ∨ n ≤ i.toNatClampNeg then none else k
theorem gd_s {α : Type} {i : Int32} {n : Nat} {k : Option α} {x : α} (h : gd i n k = some x) : vp_in i n ∧ k = some x := by
  unfold gd at h
  by_cases q : i < 0 ∨ n ≤ i.toNatClampNeg
  · rw [if_pos q] at h; cases h
  · rw [if_neg q] at h; exact ⟨q, h⟩
def gp {α : Type} (c : Prop) [Decidable c] (k : Option α) : Option α := if c then k else none
theorem gp_s {α : Type} {c : Prop} [Decidable c] {k : Option α} {x : α} (h : gp c k = some x) : c ∧ k = some x := by
  unfold gp at h
  by_cases q : c
  · rw [if_pos q] at h; exact ⟨q, h⟩
  · rw [if_neg q] at h; cases h
def bd {α β : Type} (o : Option (α × Mem)) (k : α → Mem → Option β) : Option β := match o with
  | none => none
  | some q => k q.1 q.2
theorem bd_s {α β : Type} {o : Option (α × Mem)} {k : α → Mem → Option β} {x : β} (h : bd o k = some x) : ∃ (r : α) (N : Mem), o = some (r, N) ∧ k r N = some x := by
  cases o with
  | none => cases h
  | some q => exact ⟨q.1, q.2, rfl, h⟩
theorem it_t {α : Type} {c : Prop} [Decidable c] {a b x : α} (h : c) (e : (if c then a else b) = x) : a = x := by rw [← e, if_pos h]
theorem it_f {α : Type} {c : Prop} [Decidable c] {a b x : α} (h : ¬ c) (e : (if c then a else b) = x) : b = x := by rw [← e, if_neg h]
end
section
theorem look_ok : True := trivial
end
