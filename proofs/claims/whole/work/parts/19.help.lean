section VXC
variable {p : Program} {l : Launch} {e : Env} {R : Room} {s : State} {m : MethodId} {args : Array Value} {below : List Frame} {meth : Method} {c : Code} {H : Heap} {locs : List Loc} {cells slots : Nat} {Q : State → Prop}
variable {mc ms : Nat} {free : Addr → Prop} {A0 A1 : Nat → Prop} {H0 : Heap} {a : Array Value} {pc : Nat} {ls : Array Slot} {st0 rest : List Value}
/-- caught by the row x of this method's table; the rows ahead don't take it -/
theorem vx_catch {own name : String} {E : String} {ce : Cell} {q : Addr} (hown : s.vm.findClass own = some m.cls) (pre : List ExceptionTableEntry) (x : ExceptionTableEntry) (suf : List ExceptionTableEntry) (hsplit : c.exceptionTable.toList = pre ++ x :: suf)
    (hpass : ∀ z ∈ pre, covers z pc = false ∨ (z.catchType ≠ 0 ∧ ∃ nm : String, (Cond.classLink own z.catchType nm).before args s = true ∧ va_Nc E nm s)) (hx : covers x pc = true) (h0 : x.catchType ≠ 0)
    (hlink : (Cond.classLink own x.catchType name).before args s = true) (hcast : (Cond.castable E name).before args s = true) (hcell : H[q]? = some ce) (hv : ce.vm = .none) (hcl : s.vm.findClass E = some ce.cls)
    (kk : W p l e R s m args below meth c H locs cells slots Q (F0 m x.handlerPc ls [.ref q])) : vx_W p l e R s m args below meth c H locs cells slots Q (F0 m pc ls rest) q := by
  intro T hT X
  have hpl : e.platform.magicAccessors = ({} : Platform).magicAccessors := by rw [X.admits.platform]
  obtain ⟨c3, c4, hc3, hc4, hasg⟩ := Cond.castable_spec hcast
  cases Option.some.inj (hc3.symm.trans hcl)
  obtain ⟨c5, hc5, hcl5⟩ := Cond.classLink_spec hown hlink e.platform hpl
  cases Option.some.inj (hc4.symm.trans hc5)
  obtain ⟨vm', X', st⟩ := Jvm.Stand.thenCaughtThrough X q (g := F0 m pc ls rest) rfl (Steps.refl _) (by rw [hT]; exact hcell) (by rw [hv]; rfl) (by obtain ⟨k9, h9, -⟩ := Vm.findClass_spec hcl; exact ⟨k9, h9⟩) pre x suf hsplit
    (fun z hz => by
      rcases hpass z hz with h | ⟨hz0, nm, hl1, hn1⟩
      · exact Or.inl h
      · obtain ⟨c6, hc6, hcl6⟩ := Cond.classLink_spec hown hl1 e.platform hpl
        obtain ⟨a8, b8, h1, h2, h3⟩ := hn1
        cases Option.some.inj (h1.symm.trans hcl)
        cases Option.some.inj (h2.symm.trans hc6)
        exact Or.inr ⟨hz0, _, hcl6, h3⟩) hx (Or.inr ⟨h0, c4, hcl5, hasg⟩)
  obtain ⟨t, a1, b1⟩ := kk (T.setVm vm') hT X'
  exact ⟨t, st.trans a1, b1⟩

end VXC
theorem WdX.blind {D : va_G} {ad : Nat → Nat} {ca : Nat → ClassId} {B : Nat} {M : Mem} {ov : Int64} {As : List Value} : FrameBlind (va_Pc As (WdX D ad ca B M ov)) := fun a U g mk q => by
  obtain ⟨q0, ⟨q1, q2, q3⟩, q4⟩ := q
  exact ⟨q0, ⟨q1, q2, Kn.same (s := U) (U := U.calling g mk a) rfl q3⟩, Ev.same (s := U) (U := U.calling g mk a) q4 rfl⟩
def MtH (l : Launch) (D : va_G) (ad : Nat → Nat) (ca : Nat → ClassId) (B : Nat) (y : MethodName) (ws : List Cond) (rm : Room) (As : List Value) (M : Mem) (ov : Int64) (r0 : Int32) (M' : Mem) (ov' : Int64) : Prop := Met l y ws rm (va_Pc As (WdX D ad ca B M ov)) (va_Qi (fun (r : Int32) (_ : Unit) => r = r0) (fun _ t => Wp D ad ca B M' ov' t.heap) (Ab B)) 1 6 (Ab B)
section MHR
variable {p : Program} {l : Launch} {e : Env} {R : Room} {s : State} {m : MethodId} {args : Array Value} {below : List Frame} {meth : Method} {c : Code} {H : Heap} {locs : List Loc} {cells slots : Nat} {Q : State → Prop}
variable {cc : ByteArray} {pc : Nat} {ls : Array Slot} {rest : List Value} {D : va_G} {ad : Nat → Nat} {ca : Nat → ClassId} {B : Nat} {M M' : Mem} {ov : Int64} {q0 : Nat} {r0 : Int32} {r1 : Int64}
variable {y : MethodName} {bytes : ByteArray} {maxL nL n index : Nat} {ret : Option FieldType} {ws : List Cond} {rm : Room} {Ts : List Cond} {own C : String} {b : Addr} {As st0 : List Value}
theorem Cu.wdx {U : State} (hC : Cu D ad ca B M ov s H locs) (Ev9 : Ev B s s.heap) (hU : U.heap = H) (hW : s.WarmedH U.vm) : WdX D ad ca B M ov U := ⟨hC.wd hU hW, Ev9.go hW (fun a h1 h2 => by rw [hU]; exact hC.2.2.2.1.2.1 a h1 h2)⟩
theorem mc_Xi (S : CallFix p m c cc nL s args Ts own) (hC : Cu D ad ca B M ov s H locs) (Ev9 : Ev B s s.heap) (hM : XtI l D ad ca B ov y ws rm (.ref b :: As) M q0 r0 M') (cw : CallW R s args own C index y bytes maxL ret ws rm 1 6 n) (hrc : ∃ cellB : Cell, H[b]? = some cellB ∧ cellB.vm.isStatics = false ∧ s.vm.findClass C = some cellB.cls) (hn : As.length = n) (hsize : ls.size = nL) (hstack : st0 = As.reverse ++ .ref b :: rest) (hW : (rest.map fun v => v.category).sum ≤ 8) (hdg : decode cc pc = .ok (.invokevirtual index, 3)) (hf : cells + 1 ≤ R.cells ∧ slots + 6 ≤ R.slots)
    (kx : ∀ (H1 : Heap) (locs1 : List Loc) (q9 : Addr) (ce : Cell), Cu D ad ca B M' ov s H1 locs1 → q0 ≠ 0 → H1[q9]? = some ce → ce.vm = .none → s.vm.findClass (exN q0) = some ce.cls → vx_W p l e R s m args below meth c H1 locs1 (cells + 1) (slots + 6) Q (F0 m pc ls rest) q9)
    (kk : ∀ (H1 : Heap) (locs1 : List Loc), Cu D ad ca B M' ov s H1 locs1 → q0 = 0 → W p l e R s m args below meth c H1 locs1 (cells + 1) (slots + 6) Q (F0 m (pc + 3) ls (.int r0 :: rest))) : W p l e R s m args below meth c H locs cells slots Q (F0 m pc ls st0) :=
  vx_calli (vx_runV S hM cw ⟨WdX.blind, hrc, fun U hU hW => ⟨rfl, hC.wdx Ev9 hU hW⟩⟩ rfl hn hsize hstack (lv_room hW) hdg hf) hC.2.2.2.1 (fun _ _ h => h) (fun _ h => h) (fun _ _ h => h)
    (fun E ce q9 u t H1 locs1 ht _ hp hB _ _ hS hc hv hcl => by
      obtain ⟨hE, hB⟩ := hB
      subst hE
      exact kx H1 locs1 q9 ce (mg_back (r := True) hC ht hB hS) hp hc hv hcl)
    (fun r u t H1 locs1 ht _ hw hB _ _ hS => by
      obtain ⟨h0, h1⟩ := hw
      subst h1
      exact kk H1 locs1 (mg_back (r := True) hC ht hB hS) h0)
theorem mc_Xl (S : CallFix p m c cc nL s args Ts own) (hC : Cu D ad ca B M ov s H locs) (Ev9 : Ev B s s.heap) (hM : XtL l D ad ca B ov y ws rm (.ref b :: As) M q0 r1 M') (cw : CallW R s args own C index y bytes maxL ret ws rm 1 6 n) (hrc : ∃ cellB : Cell, H[b]? = some cellB ∧ cellB.vm.isStatics = false ∧ s.vm.findClass C = some cellB.cls) (hn : As.length = n) (hsize : ls.size = nL) (hstack : st0 = As.reverse ++ .ref b :: rest) (hW : (rest.map fun v => v.category).sum ≤ 8) (hdg : decode cc pc = .ok (.invokevirtual index, 3)) (hf : cells + 1 ≤ R.cells ∧ slots + 6 ≤ R.slots)
    (kx : ∀ (H1 : Heap) (locs1 : List Loc) (q9 : Addr) (ce : Cell), Cu D ad ca B M' ov s H1 locs1 → q0 ≠ 0 → H1[q9]? = some ce → ce.vm = .none → s.vm.findClass (exN q0) = some ce.cls → vx_W p l e R s m args below meth c H1 locs1 (cells + 1) (slots + 6) Q (F0 m pc ls rest) q9)
    (kk : ∀ (H1 : Heap) (locs1 : List Loc), Cu D ad ca B M' ov s H1 locs1 → q0 = 0 → W p l e R s m args below meth c H1 locs1 (cells + 1) (slots + 6) Q (F0 m (pc + 3) ls (.long r1 :: rest))) : W p l e R s m args below meth c H locs cells slots Q (F0 m pc ls st0) :=
  vx_calll (vx_runV S hM cw ⟨WdX.blind, hrc, fun U hU hW => ⟨rfl, hC.wdx Ev9 hU hW⟩⟩ rfl hn hsize hstack (lv_room hW) hdg hf) hC.2.2.2.1 (fun _ _ h => h) (fun _ h => h) (fun _ _ h => h)
    (fun E ce q9 u t H1 locs1 ht _ hp hB _ _ hS hc hv hcl => by
      obtain ⟨hE, hB⟩ := hB
      subst hE
      exact kx H1 locs1 q9 ce (mg_back (r := True) hC ht hB hS) hp hc hv hcl)
    (fun r u t H1 locs1 ht _ hw hB _ _ hS => by
      obtain ⟨h0, h1⟩ := hw
      subst h1
      exact kk H1 locs1 (mg_back (r := True) hC ht hB hS) h0)
theorem mr_H {v : Int32} (hx : p.tables.exec = Jvm.exec) (hb : c.code = cc) (hr : meth.sig.returnType = some .int) (hlk : meth.locks = false) (hC : Cu D ad ca B M ov s H locs) (hv : v = r0) (hdg : decode cc pc = .ok (.ireturn, 1)) :
    W p l e R s m args below meth c H locs 1 6 (MQ below (va_Qi (fun (r : Int32) (_ : Unit) => r = r0) (fun _ t => Wp D ad ca B M ov t.heap) (Ab B)) args s 1 6 (Ab B)) (F0 m pc ls [.int v]) := by
  subst hv
  exact W.iret (v := v) hx hb hr (fun t ht hW => ⟨⟨v, (), rfl, rfl, (show Wp D ad ca B M ov t.heap by rw [ht]; exact ⟨hC.1, hC.2.1⟩)⟩, hC.2.2.2.1.F ht⟩) hC.2.2.2.1.2.2 hdg
theorem mc_H (S : CallFix p m c cc nL s args Ts own) {hh : List (Nat × Nat × Nat × Nat)} {ov' : Int64} (hC : Cu D ad ca B M ov s H locs) (Ev9 : Ev B s s.heap) (hM : MtH l D ad ca B y ws rm As M ov r0 M' ov') (cw : vx_CSW R s args own index y bytes maxL ret hh ws rm 1 6 n) (hn : As.length = n) (hsize : ls.size = nL) (hstack : st0 = As.reverse ++ rest) (hW : (rest.map fun v => v.category).sum ≤ 8) (hdg : decode cc pc = .ok (.invokestatic index, 3)) (hf : cells + 1 ≤ R.cells ∧ slots + 6 ≤ R.slots)
    (kk : ∀ (H1 : Heap) (locs1 : List Loc), Cu D ad ca B M' ov' s H1 locs1 → W p l e R s m args below meth c H1 locs1 (cells + 1) (slots + 6) Q (F0 m (pc + 3) ls (.int r0 :: rest))) : W p l e R s m args below meth c H locs cells slots Q (F0 m pc ls st0) :=
  va_calli (vx_runSW S hM cw ⟨WdX.blind, fun U hU hW => ⟨rfl, hC.wdx Ev9 hU hW⟩⟩ rfl hn hsize hstack (lv_room hW) hdg hf) hC.2.2.2.1 (fun _ _ h => h) (fun _ h => h) (fun r u t H1 locs1 ht _ hw hB _ _ hS => by
    subst hw
    rw [ht] at hB
    exact kk H1 locs1 ⟨hB.1, hB.2, hC.2.2.1, hS, hC.2.2.2.2⟩)
end MHR

set_option maxRecDepth 20000 in
theorem ggL_ship_X3_ship : GoodIn wsL_ship wsX3_ship := goodIn_ca (goodIn_ca (goodIn_r _ [7, 8, 9, 10, 11, 12, 13, 14, 15, 16, 17, 18, 19, 20, 21, 6, 22, 23, 24, 25, 26, 27, 28, 29, 30, 31, 32, 33, 34, 35, 36, 37, 38] (by decide +kernel) (by decide +kernel)) (goodIn_sub (fun _ h => List.mem_cons_of_mem _ (List.mem_append_left _ (List.mem_append_right _ h))) (by decide +kernel))) (goodIn_sub (fun _ h => List.mem_cons_of_mem _ (List.mem_append_right _ h)) (by decide +kernel))

set_option maxRecDepth 20000 in
theorem gL_ship_X3_ship : GoodIn wsL_ship (wsV RL 7 RX3 yX3_ship wsX3_ship) := goodIn_app (goodIn_of _ (by decide +kernel)) ggL_ship_X3_ship

theorem lkL_ship_k13 : Cond.classLink RL 13 exIA ∈ wsL_ship := by decide +kernel
theorem lkL_ship_k15 : Cond.classLink RL 15 exIS ∈ wsL_ship := by decide +kernel
abbrev rmL_ship : Room := { frames := 7, cells := 1, slots := 6, locals := 118 }
def hcL_ship (q : Nat) : Int32 := if q = 1 then 1 else if q = 2 then 2 else 0
set_option maxHeartbeats 4000000 in
set_option maxRecDepth 100000 in
theorem kL_ship (l : Launch) (D : va_G) (ad : Nat → Nat) (ca : Nat → ClassId) (B : Nat) (ov : Int64) (N : Nat) (x1 : Int32) (x2 : Int32) (x3 : Int32) (x4 : Int32) (x5 : Int32) (M : Mem) (q0 : Nat) (r0 : Int32) (M0 : Mem) (r2 : Int32) (ov2 : Int64) (hl9 : l.stackTraces = false) (hq : q0 = 0 ∨ q0 = 1 ∨ q0 = 2) (hr2 : r2 = hcL_ship q0) (hov : ov2 = if q0 = 0 then r0.toInt64 else ov) (hf : fX3_ship N x1 x2 x3 x4 x5 M = some ((q0, r0), M0)) : MtH l D ad ca B yL_ship wsL_ship rmL_ship [.ref (ad 0), .int x1, .int x2, .int x3, .int x4, .int x5, .ref (ad 31)] M ov r2 M0 ov2 := by
  refine va_MetW (hh := [(0, 16, 19, 13), (0, 16, 23, 15)]) (cc := cL_ship) (maxL := 8) (ret := (some .int)) (by decide) rfl ?_
  intro p e s m args below meth c s₁ Bd hml hv
  obtain ⟨rfl, hw, Ev9⟩ := hv
  have hx := Bd.exec
  have hb := Bd.bytes
  have hown : s.vm.findClass RL = some m.cls := findClass_of_methodNamed Bd.named
  have hts := atoms_spec (ws := wsL_ship) Bd.pre
  have hr := Bd.returns
  have hlk := Bd.notSynchronized
  have htab : c.exceptionTable.toList = tableOf [(0, 16, 19, 13), (0, 16, 23, 15)] := vx_table (x := yL_cell) Bd (hts _ List.mem_cons_self)
  have hC := Cu.of hw
  have hl := lv_entry ([.ref (ad 0), .int x1, .int x2, .int x3, .int x4, .int x5, .ref (ad 31)]) (n := 8) (Nat.le_of_ble_eq_true rfl)
  rw [lg_entry_eq]
  generalize (lg_sl ([.ref (ad 0), .int x1, .int x2, .int x3, .int x4, .int x5, .ref (ad 31)]) ++ List.replicate (8 - (lg_sl ([.ref (ad 0), .int x1, .int x2, .int x3, .int x4, .int x5, .ref (ad 31)])).length) Slot.unset).toArray = ls at hl ⊢
  have hl : lv_has ls 8 [(0, .ref (ad 0)), (1, .int x1), (2, .int x2), (3, .int x3), (4, .int x4), (5, .int x5), (6, .ref (ad 31))] := hl
  show W p l e rmL_ship s m _ below meth c s.heap [] 0 0 (MQ below (va_Qi (fun (r : Int32) (_ : Unit) => r = r2) (fun _ t => Wp D ad ca B M0 ov2 t.heap) (Ab B)) _ s 1 6 (Ab B)) (F0 m 0 ls [])
  refine lv_aload hx hb dL_ship_0 (lv_at hl 6 rfl) ?_
  refine lv_iconst (v := 0) hx hb dL_ship_2 (by decide) ?_
  refine lv_aload_n hx hb dL_ship_3 rfl (lv_at hl 0 rfl) ?_
  refine lv_iload_n hx hb dL_ship_4 rfl (lv_at hl 1 rfl) ?_
  refine lv_iload_n hx hb dL_ship_5 rfl (lv_at hl 2 rfl) ?_
  refine lv_iload_n hx hb dL_ship_6 rfl (lv_at hl 3 rfl) ?_
  refine lv_iload hx hb dL_ship_7 (lv_at hl 4 rfl) ?_
  refine lv_iload hx hb dL_ship_9 (lv_at hl 5 rfl) ?_
  refine mc_Xi (As := [.int x1, .int x2, .int x3, .int x4, .int x5]) ⟨hx, hb, hml, hown, hts⟩ hC Ev9 (kX3_ship l D ad ca B ov N x1 x2 x3 x4 x5 M q0 r0 M0 hl9 hf) (cwV 5 hts gL_ship_X3_ship rfl rfl rfl (by decide +kernel) ⟨Nat.le_of_ble_eq_true rfl, Nat.le_of_ble_eq_true rfl⟩) (mg_recv (ci := 3) (C := RX3) (T := TX3) (N := 5) hC 0 (by decide) rfl rfl) rfl hl.1 rfl (Nat.le_of_ble_eq_true rfl) dL_ship_11 ⟨Nat.le_of_ble_eq_true rfl, Nat.le_of_ble_eq_true rfl⟩ (fun H locs q9 ce hC hq0 hce hcv hcl => ?_) (fun H locs hC hq0 => ?_)
  · have ho : ov2 = ov := by rw [hov]; exact if_neg hq0
    subst ho
    rcases hq with h | h | h
    · exact absurd h hq0
    · subst h
      refine vx_catch (name := exIA) (E := exIA) hown [] ⟨0, 16, 19, 13⟩ [⟨0, 16, 23, 15⟩] htab (fun z hz => nomatch hz) (by decide) (by decide) (hts _ lkL_ship_k13) (va_Nw.use rfl (Ev9.2.2.2.2.1 exIA (by decide))) hce hcv hcl ?_
      refine lv_astore (lv' := [(7, .ref q9), (0, .ref (ad 0)), (1, .int x1), (2, .int x2), (3, .int x3), (4, .int x4), (5, .int x5), (6, .ref (ad 31))]) hx hb dL_ship_19 hl (by decide) rfl (fun ls hl => ?_)
      refine lv_iconst (v := 1) hx hb dL_ship_21 (by decide) ?_
      exact mr_H hx hb hr hlk hC (by rw [hr2]; decide) dL_ship_22
    · subst h
      refine vx_catch (name := exIS) (E := exIS) hown [⟨0, 16, 19, 13⟩] ⟨0, 16, 23, 15⟩ [] htab (fun z hz => by cases (List.mem_singleton.mp hz); exact Or.inr ⟨by decide, exIA, hts _ lkL_ship_k13, Ev9.2.2.2.2.2 (exIS, exIA) (by decide)⟩) (by decide) (by decide) (hts _ lkL_ship_k15) (va_Nw.use rfl (Ev9.2.2.2.2.1 exIS (by decide))) hce hcv hcl ?_
      refine lv_astore (lv' := [(7, .ref q9), (0, .ref (ad 0)), (1, .int x1), (2, .int x2), (3, .int x3), (4, .int x4), (5, .int x5), (6, .ref (ad 31))]) hx hb dL_ship_23 hl (by decide) rfl (fun ls hl => ?_)
      refine lv_iconst (v := 2) hx hb dL_ship_25 (by decide) ?_
      exact mr_H hx hb hr hlk hC (by rw [hr2]; decide) dL_ship_26
  · subst hq0
    have ho : ov2 = r0.toInt64 := by rw [hov]; exact if_pos rfl
    subst ho
    refine lv_i2l (v := r0.toInt64) hx hb dL_ship_14 rfl ?_
    refine mg_last hx hb hC dL_ship_15 (fun H locs hC => ?_)
    refine lv_goto (tgt := 27) hx hb dL_ship_16 (by decide) ?_
    refine lv_iconst (v := 0) hx hb dL_ship_27 (by decide) ?_
    exact mr_H hx hb hr hlk hC (by rw [hr2]; decide) dL_ship_28

set_option maxRecDepth 20000 in
theorem ggL_at_X3_at : GoodIn wsL_at wsX3_at := goodIn_ca (goodIn_ca (goodIn_r _ [7, 8, 9, 10, 11, 12, 13, 14, 15, 16, 17, 18, 19, 6, 20, 21, 22, 23, 24, 25, 26, 27, 28, 29, 30, 31, 32, 33, 34, 35, 36, 37, 38, 39, 40] (by decide +kernel) (by decide +kernel)) (goodIn_sub (fun _ h => List.mem_cons_of_mem _ (List.mem_append_left _ (List.mem_append_right _ h))) (by decide +kernel))) (goodIn_sub (fun _ h => List.mem_cons_of_mem _ (List.mem_append_right _ h)) (by decide +kernel))

set_option maxRecDepth 20000 in
theorem gL_at_X3_at : GoodIn wsL_at (wsV RL 17 RX3 yX3_at wsX3_at) := goodIn_app (goodIn_of _ (by decide +kernel)) ggL_at_X3_at

theorem lkL_at_k21 : Cond.classLink RL 21 exIX ∈ wsL_at := by decide +kernel
theorem lkL_at_k15 : Cond.classLink RL 15 exIS ∈ wsL_at := by decide +kernel
abbrev rmL_at : Room := { frames := 7, cells := 1, slots := 6, locals := 113 }
def hcL_at (q : Nat) : Int32 := if q = 3 then 1 else if q = 2 then 2 else 0
set_option maxHeartbeats 4000000 in
set_option maxRecDepth 100000 in
theorem kL_at (l : Launch) (D : va_G) (ad : Nat → Nat) (ca : Nat → ClassId) (B : Nat) (ov : Int64) (N : Nat) (x1 : Int32) (x2 : Int32) (M : Mem) (q0 : Nat) (r0 : Int32) (M0 : Mem) (r2 : Int32) (ov2 : Int64) (hl9 : l.stackTraces = false) (hq : q0 = 0 ∨ q0 = 3 ∨ q0 = 2) (hr2 : r2 = hcL_at q0) (hov : ov2 = if q0 = 0 then r0.toInt64 else ov) (hf : fX3_at N x1 x2 M = some ((q0, r0), M0)) : MtH l D ad ca B yL_at wsL_at rmL_at [.ref (ad 0), .int x1, .int x2, .ref (ad 31)] M ov r2 M0 ov2 := by
  refine va_MetW (hh := [(0, 10, 13, 21), (0, 10, 17, 15)]) (cc := cL_at) (maxL := 5) (ret := (some .int)) (by decide) rfl ?_
  intro p e s m args below meth c s₁ Bd hml hv
  obtain ⟨rfl, hw, Ev9⟩ := hv
  have hx := Bd.exec
  have hb := Bd.bytes
  have hown : s.vm.findClass RL = some m.cls := findClass_of_methodNamed Bd.named
  have hts := atoms_spec (ws := wsL_at) Bd.pre
  have hr := Bd.returns
  have hlk := Bd.notSynchronized
  have htab : c.exceptionTable.toList = tableOf [(0, 10, 13, 21), (0, 10, 17, 15)] := vx_table (x := yL_cell) Bd (hts _ List.mem_cons_self)
  have hC := Cu.of hw
  have hl := lv_entry ([.ref (ad 0), .int x1, .int x2, .ref (ad 31)]) (n := 5) (Nat.le_of_ble_eq_true rfl)
  rw [lg_entry_eq]
  generalize (lg_sl ([.ref (ad 0), .int x1, .int x2, .ref (ad 31)]) ++ List.replicate (5 - (lg_sl ([.ref (ad 0), .int x1, .int x2, .ref (ad 31)])).length) Slot.unset).toArray = ls at hl ⊢
  have hl : lv_has ls 5 [(0, .ref (ad 0)), (1, .int x1), (2, .int x2), (3, .ref (ad 31))] := hl
  show W p l e rmL_at s m _ below meth c s.heap [] 0 0 (MQ below (va_Qi (fun (r : Int32) (_ : Unit) => r = r2) (fun _ t => Wp D ad ca B M0 ov2 t.heap) (Ab B)) _ s 1 6 (Ab B)) (F0 m 0 ls [])
  refine lv_aload_n hx hb dL_at_0 rfl (lv_at hl 3 rfl) ?_
  refine lv_iconst (v := 0) hx hb dL_at_1 (by decide) ?_
  refine lv_aload_n hx hb dL_at_2 rfl (lv_at hl 0 rfl) ?_
  refine lv_iload_n hx hb dL_at_3 rfl (lv_at hl 1 rfl) ?_
  refine lv_iload_n hx hb dL_at_4 rfl (lv_at hl 2 rfl) ?_
  refine mc_Xi (As := [.int x1, .int x2]) ⟨hx, hb, hml, hown, hts⟩ hC Ev9 (kX3_at l D ad ca B ov N x1 x2 M q0 r0 M0 hl9 hf) (cwV 2 hts gL_at_X3_at rfl rfl rfl (by decide +kernel) ⟨Nat.le_of_ble_eq_true rfl, Nat.le_of_ble_eq_true rfl⟩) (mg_recv (ci := 3) (C := RX3) (T := TX3) (N := 5) hC 0 (by decide) rfl rfl) rfl hl.1 rfl (Nat.le_of_ble_eq_true rfl) dL_at_5 ⟨Nat.le_of_ble_eq_true rfl, Nat.le_of_ble_eq_true rfl⟩ (fun H locs q9 ce hC hq0 hce hcv hcl => ?_) (fun H locs hC hq0 => ?_)
  · have ho : ov2 = ov := by rw [hov]; exact if_neg hq0
    subst ho
    rcases hq with h | h | h
    · exact absurd h hq0
    · subst h
      refine vx_catch (name := exIX) (E := exIX) hown [] ⟨0, 10, 13, 21⟩ [⟨0, 10, 17, 15⟩] htab (fun z hz => nomatch hz) (by decide) (by decide) (hts _ lkL_at_k21) (va_Nw.use rfl (Ev9.2.2.2.2.1 exIX (by decide))) hce hcv hcl ?_
      refine lv_astore (lv' := [(4, .ref q9), (0, .ref (ad 0)), (1, .int x1), (2, .int x2), (3, .ref (ad 31))]) hx hb dL_at_13 hl (by decide) rfl (fun ls hl => ?_)
      refine lv_iconst (v := 1) hx hb dL_at_15 (by decide) ?_
      exact mr_H hx hb hr hlk hC (by rw [hr2]; decide) dL_at_16
    · subst h
      refine vx_catch (name := exIS) (E := exIS) hown [⟨0, 10, 13, 21⟩] ⟨0, 10, 17, 15⟩ [] htab (fun z hz => by cases (List.mem_singleton.mp hz); exact Or.inr ⟨by decide, exIX, hts _ lkL_at_k21, Ev9.2.2.2.2.2 (exIS, exIX) (by decide)⟩) (by decide) (by decide) (hts _ lkL_at_k15) (va_Nw.use rfl (Ev9.2.2.2.2.1 exIS (by decide))) hce hcv hcl ?_
      refine lv_astore (lv' := [(4, .ref q9), (0, .ref (ad 0)), (1, .int x1), (2, .int x2), (3, .ref (ad 31))]) hx hb dL_at_17 hl (by decide) rfl (fun ls hl => ?_)
      refine lv_iconst (v := 2) hx hb dL_at_19 (by decide) ?_
      exact mr_H hx hb hr hlk hC (by rw [hr2]; decide) dL_at_20
  · subst hq0
    have ho : ov2 = r0.toInt64 := by rw [hov]; exact if_pos rfl
    subst ho
    refine lv_i2l (v := r0.toInt64) hx hb dL_at_8 rfl ?_
    refine mg_last hx hb hC dL_at_9 (fun H locs hC => ?_)
    refine lv_goto (tgt := 21) hx hb dL_at_10 (by decide) ?_
    refine lv_iconst (v := 0) hx hb dL_at_21 (by decide) ?_
    exact mr_H hx hb hr hlk hC (by rw [hr2]; decide) dL_at_22

set_option maxRecDepth 20000 in
theorem ggL_lateness_X3_lateness : GoodIn wsL_lateness wsX3_lateness := goodIn_ca (goodIn_r _ [6, 7, 8, 9, 10, 11, 12, 13, 14, 15, 16, 17, 18, 19, 20, 21, 22, 23, 24, 25, 26, 27, 28, 29, 30, 31, 32, 33, 34, 35] (by decide +kernel) (by decide +kernel)) (goodIn_sub (fun _ h => List.mem_cons_of_mem _ (List.mem_append_right _ h)) (by decide +kernel))

set_option maxRecDepth 20000 in
theorem gL_lateness_X3_lateness : GoodIn wsL_lateness (wsV RL 23 RX3 yX3_lateness wsX3_lateness) := goodIn_app (goodIn_of _ (by decide +kernel)) ggL_lateness_X3_lateness

theorem lkL_lateness_k15 : Cond.classLink RL 15 exIS ∈ wsL_lateness := by decide +kernel
abbrev rmL_lateness : Room := { frames := 7, cells := 1, slots := 6, locals := 112 }
def hcL_lateness (q : Nat) : Int32 := if q = 2 then 1 else 0
set_option maxHeartbeats 4000000 in
set_option maxRecDepth 100000 in
theorem kL_lateness (l : Launch) (D : va_G) (ad : Nat → Nat) (ca : Nat → ClassId) (B : Nat) (ov : Int64) (N : Nat) (M : Mem) (q0 : Nat) (r0 : Int32) (M0 : Mem) (r2 : Int32) (ov2 : Int64) (hl9 : l.stackTraces = false) (hq : q0 = 0 ∨ q0 = 2) (hr2 : r2 = hcL_lateness q0) (hov : ov2 = if q0 = 0 then r0.toInt64 else ov) (hf : fX3_lateness N M = some ((q0, r0), M0)) : MtH l D ad ca B yL_lateness wsL_lateness rmL_lateness [.ref (ad 0), .ref (ad 31)] M ov r2 M0 ov2 := by
  refine va_MetW (hh := [(0, 8, 11, 15)]) (cc := cL_lateness) (maxL := 3) (ret := (some .int)) (by decide) rfl ?_
  intro p e s m args below meth c s₁ Bd hml hv
  obtain ⟨rfl, hw, Ev9⟩ := hv
  have hx := Bd.exec
  have hb := Bd.bytes
  have hown : s.vm.findClass RL = some m.cls := findClass_of_methodNamed Bd.named
  have hts := atoms_spec (ws := wsL_lateness) Bd.pre
  have hr := Bd.returns
  have hlk := Bd.notSynchronized
  have htab : c.exceptionTable.toList = tableOf [(0, 8, 11, 15)] := vx_table (x := yL_cell) Bd (hts _ List.mem_cons_self)
  have hC := Cu.of hw
  have hl := lv_entry ([.ref (ad 0), .ref (ad 31)]) (n := 3) (Nat.le_of_ble_eq_true rfl)
  rw [lg_entry_eq]
  generalize (lg_sl ([.ref (ad 0), .ref (ad 31)]) ++ List.replicate (3 - (lg_sl ([.ref (ad 0), .ref (ad 31)])).length) Slot.unset).toArray = ls at hl ⊢
  have hl : lv_has ls 3 [(0, .ref (ad 0)), (1, .ref (ad 31))] := hl
  show W p l e rmL_lateness s m _ below meth c s.heap [] 0 0 (MQ below (va_Qi (fun (r : Int32) (_ : Unit) => r = r2) (fun _ t => Wp D ad ca B M0 ov2 t.heap) (Ab B)) _ s 1 6 (Ab B)) (F0 m 0 ls [])
  refine lv_aload_n hx hb dL_lateness_0 rfl (lv_at hl 1 rfl) ?_
  refine lv_iconst (v := 0) hx hb dL_lateness_1 (by decide) ?_
  refine lv_aload_n hx hb dL_lateness_2 rfl (lv_at hl 0 rfl) ?_
  refine mc_Xi (As := []) ⟨hx, hb, hml, hown, hts⟩ hC Ev9 (kX3_lateness l D ad ca B ov N M q0 r0 M0 hl9 hf) (cwV 0 hts gL_lateness_X3_lateness rfl rfl rfl (by decide +kernel) ⟨Nat.le_of_ble_eq_true rfl, Nat.le_of_ble_eq_true rfl⟩) (mg_recv (ci := 3) (C := RX3) (T := TX3) (N := 5) hC 0 (by decide) rfl rfl) rfl hl.1 rfl (Nat.le_of_ble_eq_true rfl) dL_lateness_3 ⟨Nat.le_of_ble_eq_true rfl, Nat.le_of_ble_eq_true rfl⟩ (fun H locs q9 ce hC hq0 hce hcv hcl => ?_) (fun H locs hC hq0 => ?_)
  · have ho : ov2 = ov := by rw [hov]; exact if_neg hq0
    subst ho
    rcases hq with h | h
    · exact absurd h hq0
    · subst h
      refine vx_catch (name := exIS) (E := exIS) hown [] ⟨0, 8, 11, 15⟩ [] htab (fun z hz => nomatch hz) (by decide) (by decide) (hts _ lkL_lateness_k15) (va_Nw.use rfl (Ev9.2.2.2.2.1 exIS (by decide))) hce hcv hcl ?_
      refine lv_astore_n (lv' := [(2, .ref q9), (0, .ref (ad 0)), (1, .ref (ad 31))]) hx hb dL_lateness_11 rfl hl (by decide) rfl (fun ls hl => ?_)
      refine lv_iconst (v := 1) hx hb dL_lateness_12 (by decide) ?_
      exact mr_H hx hb hr hlk hC (by rw [hr2]; decide) dL_lateness_13
  · subst hq0
    have ho : ov2 = r0.toInt64 := by rw [hov]; exact if_pos rfl
    subst ho
    refine lv_i2l (v := r0.toInt64) hx hb dL_lateness_6 rfl ?_
    refine mg_last hx hb hC dL_lateness_7 (fun H locs hC => ?_)
    refine lv_goto (tgt := 14) hx hb dL_lateness_8 (by decide) ?_
    refine lv_iconst (v := 0) hx hb dL_lateness_14 (by decide) ?_
    exact mr_H hx hb hr hlk hC (by rw [hr2]; decide) dL_lateness_15

set_option maxRecDepth 20000 in
theorem ggL_why_X3_why : GoodIn wsL_why wsX3_why := goodIn_ca (goodIn_r _ [6, 7, 8, 9, 10, 11, 12, 13, 14, 15, 16, 17, 18, 19, 5, 20, 21, 22, 23, 24, 25, 26, 27, 28, 29, 30, 31, 32, 33, 34, 35, 36, 37, 38, 39, 40, 41, 42, 43, 44, 45, 46, 47, 48, 49, 50, 51, 52, 53, 54, 55, 56, 57, 58, 59, 60, 61, 62, 63, 64, 65, 66] (by decide +kernel) (by decide +kernel)) (goodIn_sub (fun _ h => List.mem_cons_of_mem _ (List.mem_append_right _ h)) (by decide +kernel))

set_option maxRecDepth 20000 in
theorem gL_why_X3_why : GoodIn wsL_why (wsV RL 27 RX3 yX3_why wsX3_why) := goodIn_app (goodIn_of _ (by decide +kernel)) ggL_why_X3_why

theorem lkL_why_k21 : Cond.classLink RL 21 exIX ∈ wsL_why := by decide +kernel
abbrev rmL_why : Room := { frames := 7, cells := 1, slots := 6, locals := 112 }
def hcL_why (q : Nat) : Int32 := if q = 3 then 1 else 0
set_option maxHeartbeats 4000000 in
set_option maxRecDepth 100000 in
theorem kL_why (l : Launch) (D : va_G) (ad : Nat → Nat) (ca : Nat → ClassId) (B : Nat) (ov : Int64) (N : Nat) (x1 : Int32) (M : Mem) (q0 : Nat) (r0 : Int32) (M0 : Mem) (r2 : Int32) (ov2 : Int64) (hl9 : l.stackTraces = false) (hq : q0 = 0 ∨ q0 = 3) (hr2 : r2 = hcL_why q0) (hov : ov2 = if q0 = 0 then r0.toInt64 else ov) (hf : fX3_why N x1 M = some ((q0, r0), M0)) : MtH l D ad ca B yL_why wsL_why rmL_why [.ref (ad 0), .int x1, .ref (ad 31)] M ov r2 M0 ov2 := by
  refine va_MetW (hh := [(0, 9, 12, 21)]) (cc := cL_why) (maxL := 4) (ret := (some .int)) (by decide) rfl ?_
  intro p e s m args below meth c s₁ Bd hml hv
  obtain ⟨rfl, hw, Ev9⟩ := hv
  have hx := Bd.exec
  have hb := Bd.bytes
  have hown : s.vm.findClass RL = some m.cls := findClass_of_methodNamed Bd.named
  have hts := atoms_spec (ws := wsL_why) Bd.pre
  have hr := Bd.returns
  have hlk := Bd.notSynchronized
  have htab : c.exceptionTable.toList = tableOf [(0, 9, 12, 21)] := vx_table (x := yL_cell) Bd (hts _ List.mem_cons_self)
  have hC := Cu.of hw
  have hl := lv_entry ([.ref (ad 0), .int x1, .ref (ad 31)]) (n := 4) (Nat.le_of_ble_eq_true rfl)
  rw [lg_entry_eq]
  generalize (lg_sl ([.ref (ad 0), .int x1, .ref (ad 31)]) ++ List.replicate (4 - (lg_sl ([.ref (ad 0), .int x1, .ref (ad 31)])).length) Slot.unset).toArray = ls at hl ⊢
  have hl : lv_has ls 4 [(0, .ref (ad 0)), (1, .int x1), (2, .ref (ad 31))] := hl
  show W p l e rmL_why s m _ below meth c s.heap [] 0 0 (MQ below (va_Qi (fun (r : Int32) (_ : Unit) => r = r2) (fun _ t => Wp D ad ca B M0 ov2 t.heap) (Ab B)) _ s 1 6 (Ab B)) (F0 m 0 ls [])
  refine lv_aload_n hx hb dL_why_0 rfl (lv_at hl 2 rfl) ?_
  refine lv_iconst (v := 0) hx hb dL_why_1 (by decide) ?_
  refine lv_aload_n hx hb dL_why_2 rfl (lv_at hl 0 rfl) ?_
  refine lv_iload_n hx hb dL_why_3 rfl (lv_at hl 1 rfl) ?_
  refine mc_Xi (As := [.int x1]) ⟨hx, hb, hml, hown, hts⟩ hC Ev9 (kX3_why l D ad ca B ov N x1 M q0 r0 M0 hl9 hf) (cwV 1 hts gL_why_X3_why rfl rfl rfl (by decide +kernel) ⟨Nat.le_of_ble_eq_true rfl, Nat.le_of_ble_eq_true rfl⟩) (mg_recv (ci := 3) (C := RX3) (T := TX3) (N := 5) hC 0 (by decide) rfl rfl) rfl hl.1 rfl (Nat.le_of_ble_eq_true rfl) dL_why_4 ⟨Nat.le_of_ble_eq_true rfl, Nat.le_of_ble_eq_true rfl⟩ (fun H locs q9 ce hC hq0 hce hcv hcl => ?_) (fun H locs hC hq0 => ?_)
  · have ho : ov2 = ov := by rw [hov]; exact if_neg hq0
    subst ho
    rcases hq with h | h
    · exact absurd h hq0
    · subst h
      refine vx_catch (name := exIX) (E := exIX) hown [] ⟨0, 9, 12, 21⟩ [] htab (fun z hz => nomatch hz) (by decide) (by decide) (hts _ lkL_why_k21) (va_Nw.use rfl (Ev9.2.2.2.2.1 exIX (by decide))) hce hcv hcl ?_
      refine lv_astore_n (lv' := [(3, .ref q9), (0, .ref (ad 0)), (1, .int x1), (2, .ref (ad 31))]) hx hb dL_why_12 rfl hl (by decide) rfl (fun ls hl => ?_)
      refine lv_iconst (v := 1) hx hb dL_why_13 (by decide) ?_
      exact mr_H hx hb hr hlk hC (by rw [hr2]; decide) dL_why_14
  · subst hq0
    have ho : ov2 = r0.toInt64 := by rw [hov]; exact if_pos rfl
    subst ho
    refine lv_i2l (v := r0.toInt64) hx hb dL_why_7 rfl ?_
    refine mg_last hx hb hC dL_why_8 (fun H locs hC => ?_)
    refine lv_goto (tgt := 15) hx hb dL_why_9 (by decide) ?_
    refine lv_iconst (v := 0) hx hb dL_why_15 (by decide) ?_
    exact mr_H hx hb hr hlk hC (by rw [hr2]; decide) dL_why_16

set_option maxRecDepth 20000 in
theorem ggL_change_X3_change : GoodIn wsL_change wsX3_change := goodIn_ca (goodIn_ca (goodIn_ca (goodIn_r _ [8, 9, 10, 11, 12, 13, 14, 15, 16, 17, 18, 19, 20, 21, 22, 23, 7, 24, 25, 26, 27, 28, 29, 30, 31, 32, 33, 34, 35, 36, 37, 38, 39, 40, 41, 42, 43, 44, 45, 46, 47, 48, 49, 50, 51, 52, 53, 54, 55, 56, 57, 58, 59, 60, 61, 62, 63, 64, 65, 66, 67, 68, 69, 70, 71, 72, 73, 74, 75, 76, 77, 78, 79, 80, 81, 82, 83, 84, 85, 86, 87, 88, 89, 90, 91, 92, 93, 94, 95, 96, 97, 98, 99, 100, 101, 102, 103, 104, 105, 106, 107, 108, 109, 110, 111, 112, 113, 114, 115, 116, 117, 118, 119, 120, 121, 122, 123, 124, 125, 126, 127, 128, 129, 130, 131, 132, 133, 134, 135, 136, 137, 138, 139, 140, 141, 142, 143, 144, 145, 146, 147, 148, 149, 150, 151, 152, 153, 154, 155, 156, 157, 158, 159, 160, 161, 162, 163, 164, 165, 166, 167, 168, 169, 170, 171, 172, 173, 174, 175, 176, 177, 178, 179, 180, 181, 182, 183, 184, 185, 186] (by decide +kernel) (by decide +kernel)) (goodIn_sub (fun _ h => List.mem_cons_of_mem _ (List.mem_append_left _ (List.mem_append_left _ (List.mem_append_right _ h)))) (by decide +kernel))) (goodIn_sub (fun _ h => List.mem_cons_of_mem _ (List.mem_append_left _ (List.mem_append_right _ h))) (by decide +kernel))) (goodIn_sub (fun _ h => List.mem_cons_of_mem _ (List.mem_append_right _ h)) (by decide +kernel))

set_option maxRecDepth 20000 in
theorem gL_change_X3_change : GoodIn wsL_change (wsV RL 31 RX3 yX3_change wsX3_change) := goodIn_app (goodIn_of _ (by decide +kernel)) ggL_change_X3_change

theorem lkL_change_k21 : Cond.classLink RL 21 exIX ∈ wsL_change := by decide +kernel
theorem lkL_change_k13 : Cond.classLink RL 13 exIA ∈ wsL_change := by decide +kernel
theorem lkL_change_k15 : Cond.classLink RL 15 exIS ∈ wsL_change := by decide +kernel
abbrev rmL_change : Room := { frames := 21, cells := 1, slots := 6, locals := 770 }
def hcL_change (q : Nat) : Int32 := if q = 3 then 1 else if q = 1 then 2 else if q = 2 then 3 else 0
set_option maxHeartbeats 4000000 in
set_option maxRecDepth 100000 in
theorem kL_change (l : Launch) (D : va_G) (ad : Nat → Nat) (ca : Nat → ClassId) (B : Nat) (ov : Int64) (N : Nat) (x1 : Int32) (x2 : Int32) (M : Mem) (q0 : Nat) (r0 : Int32) (M0 : Mem) (r2 : Int32) (ov2 : Int64) (hl9 : l.stackTraces = false) (hq : q0 = 0 ∨ q0 = 3 ∨ q0 = 1 ∨ q0 = 2) (hr2 : r2 = hcL_change q0) (hov : ov2 = if q0 = 0 then r0.toInt64 else ov) (hf : fX3_change N x1 x2 M = some ((q0, r0), M0)) : MtH l D ad ca B yL_change wsL_change rmL_change [.ref (ad 0), .int x1, .int x2, .ref (ad 31)] M ov r2 M0 ov2 := by
  refine va_MetW (hh := [(0, 10, 13, 21), (0, 10, 17, 13), (0, 10, 21, 15)]) (cc := cL_change) (maxL := 5) (ret := (some .int)) (by decide) rfl ?_
  intro p e s m args below meth c s₁ Bd hml hv
  obtain ⟨rfl, hw, Ev9⟩ := hv
  have hx := Bd.exec
  have hb := Bd.bytes
  have hown : s.vm.findClass RL = some m.cls := findClass_of_methodNamed Bd.named
  have hts := atoms_spec (ws := wsL_change) Bd.pre
  have hr := Bd.returns
  have hlk := Bd.notSynchronized
  have htab : c.exceptionTable.toList = tableOf [(0, 10, 13, 21), (0, 10, 17, 13), (0, 10, 21, 15)] := vx_table (x := yL_cell) Bd (hts _ List.mem_cons_self)
  have hC := Cu.of hw
  have hl := lv_entry ([.ref (ad 0), .int x1, .int x2, .ref (ad 31)]) (n := 5) (Nat.le_of_ble_eq_true rfl)
  rw [lg_entry_eq]
  generalize (lg_sl ([.ref (ad 0), .int x1, .int x2, .ref (ad 31)]) ++ List.replicate (5 - (lg_sl ([.ref (ad 0), .int x1, .int x2, .ref (ad 31)])).length) Slot.unset).toArray = ls at hl ⊢
  have hl : lv_has ls 5 [(0, .ref (ad 0)), (1, .int x1), (2, .int x2), (3, .ref (ad 31))] := hl
  show W p l e rmL_change s m _ below meth c s.heap [] 0 0 (MQ below (va_Qi (fun (r : Int32) (_ : Unit) => r = r2) (fun _ t => Wp D ad ca B M0 ov2 t.heap) (Ab B)) _ s 1 6 (Ab B)) (F0 m 0 ls [])
  refine lv_aload_n hx hb dL_change_0 rfl (lv_at hl 3 rfl) ?_
  refine lv_iconst (v := 0) hx hb dL_change_1 (by decide) ?_
  refine lv_aload_n hx hb dL_change_2 rfl (lv_at hl 0 rfl) ?_
  refine lv_iload_n hx hb dL_change_3 rfl (lv_at hl 1 rfl) ?_
  refine lv_iload_n hx hb dL_change_4 rfl (lv_at hl 2 rfl) ?_
  refine mc_Xi (As := [.int x1, .int x2]) ⟨hx, hb, hml, hown, hts⟩ hC Ev9 (kX3_change l D ad ca B ov N x1 x2 M q0 r0 M0 hl9 hf) (cwV 2 hts gL_change_X3_change rfl rfl rfl (by decide +kernel) ⟨Nat.le_of_ble_eq_true rfl, Nat.le_of_ble_eq_true rfl⟩) (mg_recv (ci := 3) (C := RX3) (T := TX3) (N := 5) hC 0 (by decide) rfl rfl) rfl hl.1 rfl (Nat.le_of_ble_eq_true rfl) dL_change_5 ⟨Nat.le_of_ble_eq_true rfl, Nat.le_of_ble_eq_true rfl⟩ (fun H locs q9 ce hC hq0 hce hcv hcl => ?_) (fun H locs hC hq0 => ?_)
  · have ho : ov2 = ov := by rw [hov]; exact if_neg hq0
    subst ho
    rcases hq with h | h | h | h
    · exact absurd h hq0
    · subst h
      refine vx_catch (name := exIX) (E := exIX) hown [] ⟨0, 10, 13, 21⟩ [⟨0, 10, 17, 13⟩, ⟨0, 10, 21, 15⟩] htab (fun z hz => nomatch hz) (by decide) (by decide) (hts _ lkL_change_k21) (va_Nw.use rfl (Ev9.2.2.2.2.1 exIX (by decide))) hce hcv hcl ?_
      refine lv_astore (lv' := [(4, .ref q9), (0, .ref (ad 0)), (1, .int x1), (2, .int x2), (3, .ref (ad 31))]) hx hb dL_change_13 hl (by decide) rfl (fun ls hl => ?_)
      refine lv_iconst (v := 1) hx hb dL_change_15 (by decide) ?_
      exact mr_H hx hb hr hlk hC (by rw [hr2]; decide) dL_change_16
    · subst h
      refine vx_catch (name := exIA) (E := exIA) hown [⟨0, 10, 13, 21⟩] ⟨0, 10, 17, 13⟩ [⟨0, 10, 21, 15⟩] htab (fun z hz => by cases (List.mem_singleton.mp hz); exact Or.inr ⟨by decide, exIX, hts _ lkL_change_k21, Ev9.2.2.2.2.2 (exIA, exIX) (by decide)⟩) (by decide) (by decide) (hts _ lkL_change_k13) (va_Nw.use rfl (Ev9.2.2.2.2.1 exIA (by decide))) hce hcv hcl ?_
      refine lv_astore (lv' := [(4, .ref q9), (0, .ref (ad 0)), (1, .int x1), (2, .int x2), (3, .ref (ad 31))]) hx hb dL_change_17 hl (by decide) rfl (fun ls hl => ?_)
      refine lv_iconst (v := 2) hx hb dL_change_19 (by decide) ?_
      exact mr_H hx hb hr hlk hC (by rw [hr2]; decide) dL_change_20
    · subst h
      refine vx_catch (name := exIS) (E := exIS) hown [⟨0, 10, 13, 21⟩, ⟨0, 10, 17, 13⟩] ⟨0, 10, 21, 15⟩ [] htab (fun z hz => by rcases List.mem_cons.mp hz with h9 | h9; (· cases h9; exact Or.inr ⟨by decide, exIX, hts _ lkL_change_k21, Ev9.2.2.2.2.2 (exIS, exIX) (by decide)⟩); (· cases (List.mem_singleton.mp h9); exact Or.inr ⟨by decide, exIA, hts _ lkL_change_k13, Ev9.2.2.2.2.2 (exIS, exIA) (by decide)⟩)) (by decide) (by decide) (hts _ lkL_change_k15) (va_Nw.use rfl (Ev9.2.2.2.2.1 exIS (by decide))) hce hcv hcl ?_
      refine lv_astore (lv' := [(4, .ref q9), (0, .ref (ad 0)), (1, .int x1), (2, .int x2), (3, .ref (ad 31))]) hx hb dL_change_21 hl (by decide) rfl (fun ls hl => ?_)
      refine lv_iconst (v := 3) hx hb dL_change_23 (by decide) ?_
      exact mr_H hx hb hr hlk hC (by rw [hr2]; decide) dL_change_24
  · subst hq0
    have ho : ov2 = r0.toInt64 := by rw [hov]; exact if_pos rfl
    subst ho
    refine lv_i2l (v := r0.toInt64) hx hb dL_change_8 rfl ?_
    refine mg_last hx hb hC dL_change_9 (fun H locs hC => ?_)
    refine lv_goto (tgt := 25) hx hb dL_change_10 (by decide) ?_
    refine lv_iconst (v := 0) hx hb dL_change_25 (by decide) ?_
    exact mr_H hx hb hr hlk hC (by rw [hr2]; decide) dL_change_26

set_option maxRecDepth 20000 in
theorem ggL_lies_X3_lies : GoodIn wsL_lies wsX3_lies := goodIn_ca (goodIn_r _ [6, 7, 8, 9, 10, 11, 12, 13, 14, 15, 16, 17, 5, 18, 19, 20, 21, 22, 23, 24, 25, 26, 27, 28, 29, 30, 31, 32, 33, 34] (by decide +kernel) (by decide +kernel)) (goodIn_sub (fun _ h => List.mem_cons_of_mem _ (List.mem_append_right _ h)) (by decide +kernel))

set_option maxRecDepth 20000 in
theorem gL_lies_X3_lies : GoodIn wsL_lies (wsV RL 34 RX3 yX3_lies wsX3_lies) := goodIn_app (goodIn_of _ (by decide +kernel)) ggL_lies_X3_lies

theorem lkL_lies_k15 : Cond.classLink RL 15 exIS ∈ wsL_lies := by decide +kernel
abbrev rmL_lies : Room := { frames := 7, cells := 1, slots := 6, locals := 114 }
def hcL_lies (q : Nat) : Int32 := if q = 2 then 1 else 0
set_option maxHeartbeats 4000000 in
set_option maxRecDepth 100000 in
theorem kL_lies (l : Launch) (D : va_G) (ad : Nat → Nat) (ca : Nat → ClassId) (B : Nat) (ov : Int64) (N : Nat) (x1 : Int32) (x2 : Int32) (M : Mem) (q0 : Nat) (r0 : Int32) (M0 : Mem) (r2 : Int32) (ov2 : Int64) (hl9 : l.stackTraces = false) (hq : q0 = 0 ∨ q0 = 2) (hr2 : r2 = hcL_lies q0) (hov : ov2 = if q0 = 0 then r0.toInt64 else ov) (hf : fX3_lies N x1 x2 M = some ((q0, r0), M0)) : MtH l D ad ca B yL_lies wsL_lies rmL_lies [.ref (ad 0), .int x1, .int x2, .ref (ad 31)] M ov r2 M0 ov2 := by
  refine va_MetW (hh := [(0, 10, 13, 15)]) (cc := cL_lies) (maxL := 5) (ret := (some .int)) (by decide) rfl ?_
  intro p e s m args below meth c s₁ Bd hml hv
  obtain ⟨rfl, hw, Ev9⟩ := hv
  have hx := Bd.exec
  have hb := Bd.bytes
  have hown : s.vm.findClass RL = some m.cls := findClass_of_methodNamed Bd.named
  have hts := atoms_spec (ws := wsL_lies) Bd.pre
  have hr := Bd.returns
  have hlk := Bd.notSynchronized
  have htab : c.exceptionTable.toList = tableOf [(0, 10, 13, 15)] := vx_table (x := yL_cell) Bd (hts _ List.mem_cons_self)
  have hC := Cu.of hw
  have hl := lv_entry ([.ref (ad 0), .int x1, .int x2, .ref (ad 31)]) (n := 5) (Nat.le_of_ble_eq_true rfl)
  rw [lg_entry_eq]
  generalize (lg_sl ([.ref (ad 0), .int x1, .int x2, .ref (ad 31)]) ++ List.replicate (5 - (lg_sl ([.ref (ad 0), .int x1, .int x2, .ref (ad 31)])).length) Slot.unset).toArray = ls at hl ⊢
  have hl : lv_has ls 5 [(0, .ref (ad 0)), (1, .int x1), (2, .int x2), (3, .ref (ad 31))] := hl
  show W p l e rmL_lies s m _ below meth c s.heap [] 0 0 (MQ below (va_Qi (fun (r : Int32) (_ : Unit) => r = r2) (fun _ t => Wp D ad ca B M0 ov2 t.heap) (Ab B)) _ s 1 6 (Ab B)) (F0 m 0 ls [])
  refine lv_aload_n hx hb dL_lies_0 rfl (lv_at hl 3 rfl) ?_
  refine lv_iconst (v := 0) hx hb dL_lies_1 (by decide) ?_
  refine lv_aload_n hx hb dL_lies_2 rfl (lv_at hl 0 rfl) ?_
  refine lv_iload_n hx hb dL_lies_3 rfl (lv_at hl 1 rfl) ?_
  refine lv_iload_n hx hb dL_lies_4 rfl (lv_at hl 2 rfl) ?_
  refine mc_Xi (As := [.int x1, .int x2]) ⟨hx, hb, hml, hown, hts⟩ hC Ev9 (kX3_lies l D ad ca B ov N x1 x2 M q0 r0 M0 hl9 hf) (cwV 2 hts gL_lies_X3_lies rfl rfl rfl (by decide +kernel) ⟨Nat.le_of_ble_eq_true rfl, Nat.le_of_ble_eq_true rfl⟩) (mg_recv (ci := 3) (C := RX3) (T := TX3) (N := 5) hC 0 (by decide) rfl rfl) rfl hl.1 rfl (Nat.le_of_ble_eq_true rfl) dL_lies_5 ⟨Nat.le_of_ble_eq_true rfl, Nat.le_of_ble_eq_true rfl⟩ (fun H locs q9 ce hC hq0 hce hcv hcl => ?_) (fun H locs hC hq0 => ?_)
  · have ho : ov2 = ov := by rw [hov]; exact if_neg hq0
    subst ho
    rcases hq with h | h
    · exact absurd h hq0
    · subst h
      refine vx_catch (name := exIS) (E := exIS) hown [] ⟨0, 10, 13, 15⟩ [] htab (fun z hz => nomatch hz) (by decide) (by decide) (hts _ lkL_lies_k15) (va_Nw.use rfl (Ev9.2.2.2.2.1 exIS (by decide))) hce hcv hcl ?_
      refine lv_astore (lv' := [(4, .ref q9), (0, .ref (ad 0)), (1, .int x1), (2, .int x2), (3, .ref (ad 31))]) hx hb dL_lies_13 hl (by decide) rfl (fun ls hl => ?_)
      refine lv_iconst (v := 1) hx hb dL_lies_15 (by decide) ?_
      exact mr_H hx hb hr hlk hC (by rw [hr2]; decide) dL_lies_16
  · subst hq0
    have ho : ov2 = r0.toInt64 := by rw [hov]; exact if_pos rfl
    subst ho
    refine lv_i2l (v := r0.toInt64) hx hb dL_lies_8 rfl ?_
    refine mg_last hx hb hC dL_lies_9 (fun H locs hC => ?_)
    refine lv_goto (tgt := 17) hx hb dL_lies_10 (by decide) ?_
    refine lv_iconst (v := 0) hx hb dL_lies_17 (by decide) ?_
    exact mr_H hx hb hr hlk hC (by rw [hr2]; decide) dL_lies_18

set_option maxRecDepth 20000 in
theorem ggL_share_X3_share : GoodIn wsL_share wsX3_share := goodIn_ca (goodIn_ca (goodIn_r _ [7, 8, 9, 10, 11, 12, 13, 14, 15, 6, 16, 17, 18, 19, 20, 21, 22, 23, 24, 25, 26, 27, 28, 29, 30, 31, 32, 33] (by decide +kernel) (by decide +kernel)) (goodIn_sub (fun _ h => List.mem_cons_of_mem _ (List.mem_append_left _ (List.mem_append_right _ h))) (by decide +kernel))) (goodIn_sub (fun _ h => List.mem_cons_of_mem _ (List.mem_append_right _ h)) (by decide +kernel))

set_option maxRecDepth 20000 in
theorem gL_share_X3_share : GoodIn wsL_share (wsV RL 37 RX3 yX3_share wsX3_share) := goodIn_app (goodIn_of _ (by decide +kernel)) ggL_share_X3_share

theorem lkL_share_k13 : Cond.classLink RL 13 exIA ∈ wsL_share := by decide +kernel
theorem lkL_share_k41 : Cond.classLink RL 41 exAR ∈ wsL_share := by decide +kernel
abbrev rmL_share : Room := { frames := 7, cells := 1, slots := 6, locals := 114 }
def hcL_share (q : Nat) : Int32 := if q = 1 then 1 else if q = 4 then 2 else 0
set_option maxHeartbeats 4000000 in
set_option maxRecDepth 100000 in
theorem kL_share (l : Launch) (D : va_G) (ad : Nat → Nat) (ca : Nat → ClassId) (B : Nat) (ov : Int64) (N : Nat) (x1 : Int32) (x2 : Int32) (x3 : Int32) (M : Mem) (q0 : Nat) (r0 : Int64) (M0 : Mem) (r2 : Int32) (ov2 : Int64) (hl9 : l.stackTraces = false) (hq : q0 = 0 ∨ q0 = 1 ∨ q0 = 4) (hr2 : r2 = hcL_share q0) (hov : ov2 = if q0 = 0 then r0 else ov) (hf : fX3_share N x1 x2 x3 M = some ((q0, r0), M0)) : MtH l D ad ca B yL_share wsL_share rmL_share [.ref (ad 0), .int x1, .int x2, .int x3, .ref (ad 31)] M ov r2 M0 ov2 := by
  refine va_MetW (hh := [(0, 11, 14, 13), (0, 11, 18, 41)]) (cc := cL_share) (maxL := 6) (ret := (some .int)) (by decide) rfl ?_
  intro p e s m args below meth c s₁ Bd hml hv
  obtain ⟨rfl, hw, Ev9⟩ := hv
  have hx := Bd.exec
  have hb := Bd.bytes
  have hown : s.vm.findClass RL = some m.cls := findClass_of_methodNamed Bd.named
  have hts := atoms_spec (ws := wsL_share) Bd.pre
  have hr := Bd.returns
  have hlk := Bd.notSynchronized
  have htab : c.exceptionTable.toList = tableOf [(0, 11, 14, 13), (0, 11, 18, 41)] := vx_table (x := yL_cell) Bd (hts _ List.mem_cons_self)
  have hC := Cu.of hw
  have hl := lv_entry ([.ref (ad 0), .int x1, .int x2, .int x3, .ref (ad 31)]) (n := 6) (Nat.le_of_ble_eq_true rfl)
  rw [lg_entry_eq]
  generalize (lg_sl ([.ref (ad 0), .int x1, .int x2, .int x3, .ref (ad 31)]) ++ List.replicate (6 - (lg_sl ([.ref (ad 0), .int x1, .int x2, .int x3, .ref (ad 31)])).length) Slot.unset).toArray = ls at hl ⊢
  have hl : lv_has ls 6 [(0, .ref (ad 0)), (1, .int x1), (2, .int x2), (3, .int x3), (4, .ref (ad 31))] := hl
  show W p l e rmL_share s m _ below meth c s.heap [] 0 0 (MQ below (va_Qi (fun (r : Int32) (_ : Unit) => r = r2) (fun _ t => Wp D ad ca B M0 ov2 t.heap) (Ab B)) _ s 1 6 (Ab B)) (F0 m 0 ls [])
  refine lv_aload hx hb dL_share_0 (lv_at hl 4 rfl) ?_
  refine lv_iconst (v := 0) hx hb dL_share_2 (by decide) ?_
  refine lv_aload_n hx hb dL_share_3 rfl (lv_at hl 0 rfl) ?_
  refine lv_iload_n hx hb dL_share_4 rfl (lv_at hl 1 rfl) ?_
  refine lv_iload_n hx hb dL_share_5 rfl (lv_at hl 2 rfl) ?_
  refine lv_iload_n hx hb dL_share_6 rfl (lv_at hl 3 rfl) ?_
  refine mc_Xl (As := [.int x1, .int x2, .int x3]) ⟨hx, hb, hml, hown, hts⟩ hC Ev9 (kX3_share l D ad ca B ov N x1 x2 x3 M q0 r0 M0 hl9 hf) (cwV 3 hts gL_share_X3_share rfl rfl rfl (by decide +kernel) ⟨Nat.le_of_ble_eq_true rfl, Nat.le_of_ble_eq_true rfl⟩) (mg_recv (ci := 3) (C := RX3) (T := TX3) (N := 5) hC 0 (by decide) rfl rfl) rfl hl.1 rfl (Nat.le_of_ble_eq_true rfl) dL_share_7 ⟨Nat.le_of_ble_eq_true rfl, Nat.le_of_ble_eq_true rfl⟩ (fun H locs q9 ce hC hq0 hce hcv hcl => ?_) (fun H locs hC hq0 => ?_)
  · have ho : ov2 = ov := by rw [hov]; exact if_neg hq0
    subst ho
    rcases hq with h | h | h
    · exact absurd h hq0
    · subst h
      refine vx_catch (name := exIA) (E := exIA) hown [] ⟨0, 11, 14, 13⟩ [⟨0, 11, 18, 41⟩] htab (fun z hz => nomatch hz) (by decide) (by decide) (hts _ lkL_share_k13) (va_Nw.use rfl (Ev9.2.2.2.2.1 exIA (by decide))) hce hcv hcl ?_
      refine lv_astore (lv' := [(5, .ref q9), (0, .ref (ad 0)), (1, .int x1), (2, .int x2), (3, .int x3), (4, .ref (ad 31))]) hx hb dL_share_14 hl (by decide) rfl (fun ls hl => ?_)
      refine lv_iconst (v := 1) hx hb dL_share_16 (by decide) ?_
      exact mr_H hx hb hr hlk hC (by rw [hr2]; decide) dL_share_17
    · subst h
      refine vx_catch (name := exAR) (E := exAR) hown [⟨0, 11, 14, 13⟩] ⟨0, 11, 18, 41⟩ [] htab (fun z hz => by cases (List.mem_singleton.mp hz); exact Or.inr ⟨by decide, exIA, hts _ lkL_share_k13, Ev9.2.2.2.2.2 (exAR, exIA) (by decide)⟩) (by decide) (by decide) (hts _ lkL_share_k41) (va_Nw.use rfl (Ev9.2.2.2.2.1 exAR (by decide))) hce hcv hcl ?_
      refine lv_astore (lv' := [(5, .ref q9), (0, .ref (ad 0)), (1, .int x1), (2, .int x2), (3, .int x3), (4, .ref (ad 31))]) hx hb dL_share_18 hl (by decide) rfl (fun ls hl => ?_)
      refine lv_iconst (v := 2) hx hb dL_share_20 (by decide) ?_
      exact mr_H hx hb hr hlk hC (by rw [hr2]; decide) dL_share_21
  · subst hq0
    have ho : ov2 = r0 := by rw [hov]; exact if_pos rfl
    subst ho
    refine mg_last hx hb hC dL_share_10 (fun H locs hC => ?_)
    refine lv_goto (tgt := 22) hx hb dL_share_11 (by decide) ?_
    refine lv_iconst (v := 0) hx hb dL_share_22 (by decide) ?_
    exact mr_H hx hb hr hlk hC (by rw [hr2]; decide) dL_share_23
