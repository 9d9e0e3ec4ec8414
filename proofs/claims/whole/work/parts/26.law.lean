def R_law : String := "BerthPlanLaw"
def lw_P (b : Addr) (xs : List Int32) (args : Array Value) (s : State) : Prop := args = #[.ref b] ∧ s.IntsAt b xs ∧ xs.length ≤ 3073 ∧ (Jvm.Cond.and given_1 narrow_1).before args s = true
def lw_Q (_ : Array Value) (s : State) (o : Outcome) (t : State) : Prop := o = .returned (some (.int 1)) ∧ Framed s o t [] 667226 7094391
def lw_Z (below : List Frame) (a : Array Value) (s : State) : State → Prop := fun t => ∃ o, t.status = .running ∧ Ended t below o ∧ lw_Q a s o t
/-- the law's own end, with 1 on the stack, nothing written that was there before, its room as the claim has it -/
theorem lw_ret {p : Program} {l : Launch} {e : Env} {s : State} {m : MethodId} {below : List Frame} {meth : Method} {c : Code} {b : Nat} (hx : p.tables.exec = Jvm.exec) (hb : c.code = code) (hr : meth.sig.returnType = ret) (hlocks : meth.locks = false) {pc : Nat} {H : Heap} {ls : Array Slot} (hdg : decode code pc = .ok (.ireturn, 1)) : W p l e room_1 s m #[Value.ref b] below meth c H [] 667226 7094391 (lw_Z below #[Value.ref b] s) (F0 m pc ls [.int 1]) := by
  intro T hT X
  obtain ⟨fs, hret, hrun, hended, hW, hframe⟩ := X.leave (v := some (.int 1)) (hlocks := hlocks) (fun h => by rw [hr] at h; cases h)
  have hmeth' : T.vm.method? m = some meth := X.method'
  refine ⟨T.setFrames fs, ?_, .returned (some (.int 1)), hrun, hended, rfl, ⟨_, rfl⟩, hW, hframe⟩
  jvm_step X.here [X.here.top, hx, hb, hdg, hmeth', hr, ret, narrow_b1]
  (try refine ⟨rfl, ?_⟩); (try refine ⟨rfl, ?_⟩)
  first | (intro acts; rw [hret _ acts rfl rfl rfl]) | rw [hret _ _ rfl rfl rfl]
  exact Steps.refl _
/-- what holds at the law's entry: the machine, the code, the tables' words (any of lw_tbl by 'hts w (by decide +kernel)'), the script of L ints xs at the cell b, what the Statement gives of the start (any of its parts by flat_of_before) -/
def lw_At (p : Program) (s : State) (m : MethodId) (meth : Method) (c : Code) (b L : Nat) (xs : Nat → Int32) : Prop :=
  p.tables.exec = Jvm.exec ∧ c.code = code ∧ meth.sig.returnType = ret ∧ c.maxLocals = 8 ∧ s.vm.findClass R_law = some m.cls ∧ (∀ w ∈ lw_tbl, w.before #[Value.ref b] s = true) ∧ va_X b L xs s s.heap ∧ b < s.heap.size ∧ meth.locks = false ∧ (Jvm.Cond.and given_1 narrow_1).before #[Value.ref b] s = true
theorem sw_no (x : Int32) (h0 : ¬ x = 0) (h1 : ¬ x = 1) (h2 : ¬ x = 2) (h3 : ¬ x = 3) (h4 : ¬ x = 4) (h5 : ¬ x = 5) (h6 : ¬ x = 6) (h7 : ¬ x = 7) (h8 : ¬ x = 8) (h9 : ¬ x = 9) (h10 : ¬ x = 10) (h11 : ¬ x = 11) (h12 : ¬ x = 12) (h13 : ¬ x = 13) (h14 : ¬ x = 14) (h15 : ¬ x = 15) : ¬ ∃ j : Nat, j < 2 ^ 4 ∧ x = nI j := by
  rintro ⟨j, hj, e⟩
  have hj : j < 16 := hj
  rcases (show j = 0 ∨ j = 1 ∨ j = 2 ∨ j = 3 ∨ j = 4 ∨ j = 5 ∨ j = 6 ∨ j = 7 ∨ j = 8 ∨ j = 9 ∨ j = 10 ∨ j = 11 ∨ j = 12 ∨ j = 13 ∨ j = 14 ∨ j = 15 by omega) with rfl | rfl | rfl | rfl | rfl | rfl | rfl | rfl | rfl | rfl | rfl | rfl | rfl | rfl | rfl | rfl
  · exact h0 e
  · exact h1 e
  · exact h2 e
  · exact h3 e
  · exact h4 e
  · exact h5 e
  · exact h6 e
  · exact h7 e
  · exact h8 e
  · exact h9 e
  · exact h10 e
  · exact h11 e
  · exact h12 e
  · exact h13 e
  · exact h14 e
  · exact h15 e
theorem sw_and (x : Int32) : ∃ j : Nat, j < 2 ^ 4 ∧ x &&& 15 = nI j := pk_andE x 4 (by decide)
section MVL
variable {p : Program} {l : Launch} {e : Env} {R : Room} {s : State} {m : MethodId} {args : Array Value} {below : List Frame} {meth : Method} {c : Code} {H : Heap} {locs : List Loc} {cells slots : Nat} {Q : State → Prop}
variable {cc : ByteArray} {pc : Nat} {ls : Array Slot} {rest : List Value} {D : va_G} {ad : Nat → Nat} {ca : Nat → ClassId} {B : Nat} {M M' : Mem} {ov : Int64} {r1 : Int64}
variable {y : MethodName} {bytes : ByteArray} {maxL nL n index : Nat} {ret : Option FieldType} {ws : List Cond} {rm : Room} {Ts : List Cond} {own C : String} {b : Addr} {As st0 : List Value}
theorem mc_Vl (S : CallFix p m c cc nL s args Ts own) (hC : Cu D ad ca B M ov s H locs) (hM : MtL l D ad ca B ov y ws rm (.ref b :: As) M r1 M') (cw : CallW R s args own C index y bytes maxL ret ws rm 0 0 n) (hrc : ∃ cellB : Cell, H[b]? = some cellB ∧ cellB.vm.isStatics = false ∧ s.vm.findClass C = some cellB.cls) (hn : As.length = n) (hsize : ls.size = nL) (hstack : st0 = As.reverse ++ .ref b :: rest) (hW : (rest.map fun v => v.category).sum ≤ 8) (hdg : decode cc pc = .ok (.invokevirtual index, 3)) (hf : cells + 0 ≤ R.cells ∧ slots + 0 ≤ R.slots)
    (kk : ∀ (H1 : Heap) (locs1 : List Loc), Cu D ad ca B M' ov s H1 locs1 → W p l e R s m args below meth c H1 locs1 cells slots Q (F0 m (pc + 3) ls (.long r1 :: rest))) : W p l e R s m args below meth c H locs cells slots Q (F0 m pc ls st0) :=
  va_calll (va_runV S hM cw ⟨Wd.blind, hrc, fun U hU hW => ⟨rfl, hC.wd hU hW⟩⟩ rfl hn hsize hstack (lv_room hW) hdg hf) hC.2.2.2.1 (fun _ _ h => h) (fun _ h => h) (fun r u t H1 locs1 ht _ hw hB _ _ hS => by
    subst hw
    exact kk H1 locs1 (mg_back (r := True) hC ht hB hS))
end MVL
def fL_128 (N L : Nat) (xs : Nat → Int32) (k33 : Int32 → Mem → Int64 → Option (Int32 × Mem)) (x4 : Int32) (M : Mem) (ov : Int64) : Option (Int32 × Mem) :=
    gd (x4 + (1 : Int32)) L (gd (x4 + (2 : Int32)) L (gd (x4 + (3 : Int32)) L (gd (x4 + (4 : Int32)) L (gd (x4 + (5 : Int32)) L (bd (fX3_ship N (xs (x4 + (1 : Int32) : Int32).toNatClampNeg) (xs (x4 + (2 : Int32) : Int32).toNatClampNeg) (xs (x4 + (3 : Int32) : Int32).toNatClampNeg) (xs (x4 + (4 : Int32) : Int32).toNatClampNeg) (xs (x4 + (5 : Int32) : Int32).toNatClampNeg) M) (fun r6 M7 => gp (r6.1 = 0 ∨ r6.1 = 1 ∨ r6.1 = 2) (lq (hcL_ship r6.1) (fun z9 => lq (if r6.1 = 0 then r6.2.toInt64 else ov) (fun o10 => gd (x4 + (1 : Int32)) L (gd (x4 + (2 : Int32)) L (gd (x4 + (3 : Int32)) L (gd (x4 + (4 : Int32)) L (gd (x4 + (5 : Int32)) L (bd (fX4_ship N (xs (x4 + (1 : Int32) : Int32).toNatClampNeg) (xs (x4 + (2 : Int32) : Int32).toNatClampNeg) (xs (x4 + (3 : Int32) : Int32).toNatClampNeg) (xs (x4 + (4 : Int32) : Int32).toNatClampNeg) (xs (x4 + (5 : Int32) : Int32).toNatClampNeg) M7) (fun r16 M17 => bd (fX4_thrown N M17) (fun r18 M19 => if (r18 = z9 : Prop) then (if (z9 = 0 : Prop) then (if ((lg_cmp o10 ((r16 : Int32).toInt64)) = 0 : Prop) then (lq (x4 + 6) (fun z24 => k33 z24 M19 o10)) else (some (0, M19))) else (lq (x4 + 6) (fun z22 => k33 z22 M19 o10))) else (some (0, M19))))))))))))))))))
def fL_232 (N L : Nat) (xs : Nat → Int32) (k33 : Int32 → Mem → Int64 → Option (Int32 × Mem)) (x4 : Int32) (M : Mem) (ov : Int64) : Option (Int32 × Mem) :=
    gd (x4 + (1 : Int32)) L (gd (x4 + (2 : Int32)) L (gd (x4 + (3 : Int32)) L (bd (fX3_depth N (xs (x4 + (1 : Int32) : Int32).toNatClampNeg) (xs (x4 + (2 : Int32) : Int32).toNatClampNeg) (xs (x4 + (3 : Int32) : Int32).toNatClampNeg) M) (fun r4 M5 => gd (x4 + (1 : Int32)) L (gd (x4 + (2 : Int32)) L (gd (x4 + (3 : Int32)) L (bd (fX4_depth N (xs (x4 + (1 : Int32) : Int32).toNatClampNeg) (xs (x4 + (2 : Int32) : Int32).toNatClampNeg) (xs (x4 + (3 : Int32) : Int32).toNatClampNeg) M5) (fun r9 M10 => if (r4 = r9 : Prop) then (lq (x4 + 6) (fun z12 => k33 z12 M10 ov)) else (some (0, M10))))))))))
def fL_281 (N L : Nat) (xs : Nat → Int32) (k33 : Int32 → Mem → Int64 → Option (Int32 × Mem)) (x4 : Int32) (M : Mem) (ov : Int64) : Option (Int32 × Mem) :=
    gd (x4 + (1 : Int32)) L (gd (x4 + (2 : Int32)) L (gd (x4 + (3 : Int32)) L (if ((xs (x4 + (3 : Int32) : Int32).toNatClampNeg) = 0 : Prop) then (bd (fX3_gear N (xs (x4 + (1 : Int32) : Int32).toNatClampNeg) (xs (x4 + (2 : Int32) : Int32).toNatClampNeg) 0 M) (fun r5 M6 => gd (x4 + (1 : Int32)) L (gd (x4 + (2 : Int32)) L (gd (x4 + (3 : Int32)) L (if ((xs (x4 + (3 : Int32) : Int32).toNatClampNeg) = 0 : Prop) then (bd (fX4_gear N (xs (x4 + (1 : Int32) : Int32).toNatClampNeg) (xs (x4 + (2 : Int32) : Int32).toNatClampNeg) 0 M6) (fun r11 M12 => if (r5 = r11 : Prop) then (lq (x4 + 6) (fun z14 => k33 z14 M12 ov)) else (some (0, M12)))) else (bd (fX4_gear N (xs (x4 + (1 : Int32) : Int32).toNatClampNeg) (xs (x4 + (2 : Int32) : Int32).toNatClampNeg) 1 M6) (fun r15 M16 => if (r5 = r15 : Prop) then (lq (x4 + 6) (fun z18 => k33 z18 M16 ov)) else (some (0, M16))))))))) else (bd (fX3_gear N (xs (x4 + (1 : Int32) : Int32).toNatClampNeg) (xs (x4 + (2 : Int32) : Int32).toNatClampNeg) 1 M) (fun r19 M20 => gd (x4 + (1 : Int32)) L (gd (x4 + (2 : Int32)) L (gd (x4 + (3 : Int32)) L (if ((xs (x4 + (3 : Int32) : Int32).toNatClampNeg) = 0 : Prop) then (bd (fX4_gear N (xs (x4 + (1 : Int32) : Int32).toNatClampNeg) (xs (x4 + (2 : Int32) : Int32).toNatClampNeg) 0 M20) (fun r25 M26 => if (r19 = r25 : Prop) then (lq (x4 + 6) (fun z28 => k33 z28 M26 ov)) else (some (0, M26)))) else (bd (fX4_gear N (xs (x4 + (1 : Int32) : Int32).toNatClampNeg) (xs (x4 + (2 : Int32) : Int32).toNatClampNeg) 1 M20) (fun r29 M30 => if (r19 = r29 : Prop) then (lq (x4 + 6) (fun z32 => k33 z32 M30 ov)) else (some (0, M30))))))))))))
def fL_346 (N L : Nat) (xs : Nat → Int32) (k33 : Int32 → Mem → Int64 → Option (Int32 × Mem)) (x4 : Int32) (M : Mem) (ov : Int64) : Option (Int32 × Mem) :=
    gd (x4 + (1 : Int32)) L (gd (x4 + (2 : Int32)) L (gd (x4 + (3 : Int32)) L (if ((xs (x4 + (3 : Int32) : Int32).toNatClampNeg) = 0 : Prop) then (bd (fX3_wants N (xs (x4 + (1 : Int32) : Int32).toNatClampNeg) (xs (x4 + (2 : Int32) : Int32).toNatClampNeg) 0 M) (fun r5 M6 => gd (x4 + (1 : Int32)) L (gd (x4 + (2 : Int32)) L (gd (x4 + (3 : Int32)) L (if ((xs (x4 + (3 : Int32) : Int32).toNatClampNeg) = 0 : Prop) then (bd (fX4_wants N (xs (x4 + (1 : Int32) : Int32).toNatClampNeg) (xs (x4 + (2 : Int32) : Int32).toNatClampNeg) 0 M6) (fun r11 M12 => if (r5 = r11 : Prop) then (lq (x4 + 6) (fun z14 => k33 z14 M12 ov)) else (some (0, M12)))) else (bd (fX4_wants N (xs (x4 + (1 : Int32) : Int32).toNatClampNeg) (xs (x4 + (2 : Int32) : Int32).toNatClampNeg) 1 M6) (fun r15 M16 => if (r5 = r15 : Prop) then (lq (x4 + 6) (fun z18 => k33 z18 M16 ov)) else (some (0, M16))))))))) else (bd (fX3_wants N (xs (x4 + (1 : Int32) : Int32).toNatClampNeg) (xs (x4 + (2 : Int32) : Int32).toNatClampNeg) 1 M) (fun r19 M20 => gd (x4 + (1 : Int32)) L (gd (x4 + (2 : Int32)) L (gd (x4 + (3 : Int32)) L (if ((xs (x4 + (3 : Int32) : Int32).toNatClampNeg) = 0 : Prop) then (bd (fX4_wants N (xs (x4 + (1 : Int32) : Int32).toNatClampNeg) (xs (x4 + (2 : Int32) : Int32).toNatClampNeg) 0 M20) (fun r25 M26 => if (r19 = r25 : Prop) then (lq (x4 + 6) (fun z28 => k33 z28 M26 ov)) else (some (0, M26)))) else (bd (fX4_wants N (xs (x4 + (1 : Int32) : Int32).toNatClampNeg) (xs (x4 + (2 : Int32) : Int32).toNatClampNeg) 1 M20) (fun r29 M30 => if (r19 = r29 : Prop) then (lq (x4 + 6) (fun z32 => k33 z32 M30 ov)) else (some (0, M30))))))))))))
def fL_411 (N L : Nat) (xs : Nat → Int32) (k33 : Int32 → Mem → Int64 → Option (Int32 × Mem)) (x4 : Int32) (M : Mem) (ov : Int64) : Option (Int32 × Mem) :=
    gd (x4 + (1 : Int32)) L (gd (x4 + (2 : Int32)) L (bd (fX3_tide N (xs (x4 + (1 : Int32) : Int32).toNatClampNeg) (xs (x4 + (2 : Int32) : Int32).toNatClampNeg) M) (fun r3 M4 => gd (x4 + (1 : Int32)) L (gd (x4 + (2 : Int32)) L (bd (fX4_tide N (xs (x4 + (1 : Int32) : Int32).toNatClampNeg) (xs (x4 + (2 : Int32) : Int32).toNatClampNeg) M4) (fun r7 M8 => if (r3 = r7 : Prop) then (lq (x4 + 6) (fun z10 => k33 z10 M8 ov)) else (some (0, M8))))))))
def fL_448 (N L : Nat) (xs : Nat → Int32) (k33 : Int32 → Mem → Int64 → Option (Int32 × Mem)) (x4 : Int32) (M : Mem) (ov : Int64) : Option (Int32 × Mem) :=
    gd (x4 + (1 : Int32)) L (gd (x4 + (2 : Int32)) L (gd (x4 + (3 : Int32)) L (bd (fX3_fix N (xs (x4 + (1 : Int32) : Int32).toNatClampNeg) (xs (x4 + (2 : Int32) : Int32).toNatClampNeg) (xs (x4 + (3 : Int32) : Int32).toNatClampNeg) M) (fun r4 M5 => gd (x4 + (1 : Int32)) L (gd (x4 + (2 : Int32)) L (gd (x4 + (3 : Int32)) L (bd (fX4_fix N (xs (x4 + (1 : Int32) : Int32).toNatClampNeg) (xs (x4 + (2 : Int32) : Int32).toNatClampNeg) (xs (x4 + (3 : Int32) : Int32).toNatClampNeg) M5) (fun r9 M10 => if (r4 = r9 : Prop) then (lq (x4 + 6) (fun z12 => k33 z12 M10 ov)) else (some (0, M10))))))))))
def fL_497 (N L : Nat) (xs : Nat → Int32) (k33 : Int32 → Mem → Int64 → Option (Int32 × Mem)) (x4 : Int32) (M : Mem) (ov : Int64) : Option (Int32 × Mem) :=
    gd (x4 + (1 : Int32)) L (bd (fX3_free N (xs (x4 + (1 : Int32) : Int32).toNatClampNeg) M) (fun r2 M3 => gd (x4 + (1 : Int32)) L (bd (fX4_free N (xs (x4 + (1 : Int32) : Int32).toNatClampNeg) M3) (fun r5 M6 => if (r2 = r5 : Prop) then (lq (x4 + 6) (fun z8 => k33 z8 M6 ov)) else (some (0, M6))))))
def fL_522 (N L : Nat) (xs : Nat → Int32) (k33 : Int32 → Mem → Int64 → Option (Int32 × Mem)) (x4 : Int32) (M : Mem) (ov : Int64) : Option (Int32 × Mem) :=
    bd (fX3_solve N M) (fun r1 M2 => bd (fX4_solve N M2) (fun r3 M4 => if (r1 = r3 : Prop) then (lq (x4 + 6) (fun z6 => k33 z6 M4 ov)) else (some (0, M4))))
def fL_535 (N L : Nat) (xs : Nat → Int32) (k33 : Int32 → Mem → Int64 → Option (Int32 × Mem)) (x4 : Int32) (M : Mem) (ov : Int64) : Option (Int32 × Mem) :=
    gd (x4 + (1 : Int32)) L (gd (x4 + (2 : Int32)) L (bd (fX3_at N (xs (x4 + (1 : Int32) : Int32).toNatClampNeg) (xs (x4 + (2 : Int32) : Int32).toNatClampNeg) M) (fun r3 M4 => gp (r3.1 = 0 ∨ r3.1 = 3 ∨ r3.1 = 2) (lq (hcL_at r3.1) (fun z6 => lq (if r3.1 = 0 then r3.2.toInt64 else ov) (fun o7 => gd (x4 + (1 : Int32)) L (gd (x4 + (2 : Int32)) L (bd (fX4_at N (xs (x4 + (1 : Int32) : Int32).toNatClampNeg) (xs (x4 + (2 : Int32) : Int32).toNatClampNeg) M4) (fun r10 M11 => bd (fX4_thrown N M11) (fun r12 M13 => if (r12 = z6 : Prop) then (if (z6 = 0 : Prop) then (if ((lg_cmp o7 ((r10 : Int32).toInt64)) = 0 : Prop) then (lq (x4 + 6) (fun z18 => k33 z18 M13 o7)) else (some (0, M13))) else (lq (x4 + 6) (fun z16 => k33 z16 M13 o7))) else (some (0, M13))))))))))))
def fL_603 (N L : Nat) (xs : Nat → Int32) (k33 : Int32 → Mem → Int64 → Option (Int32 × Mem)) (x4 : Int32) (M : Mem) (ov : Int64) : Option (Int32 × Mem) :=
    bd (fX3_lateness N M) (fun r1 M2 => gp (r1.1 = 0 ∨ r1.1 = 2) (lq (hcL_lateness r1.1) (fun z4 => lq (if r1.1 = 0 then r1.2.toInt64 else ov) (fun o5 => bd (fX4_lateness N M2) (fun r6 M7 => bd (fX4_thrown N M7) (fun r8 M9 => if (r8 = z4 : Prop) then (if (z4 = 0 : Prop) then (if ((lg_cmp o5 ((r6 : Int32).toInt64)) = 0 : Prop) then (lq (x4 + 6) (fun z14 => k33 z14 M9 o5)) else (some (0, M9))) else (lq (x4 + 6) (fun z12 => k33 z12 M9 o5))) else (some (0, M9))))))))
def fL_647 (N L : Nat) (xs : Nat → Int32) (k33 : Int32 → Mem → Int64 → Option (Int32 × Mem)) (x4 : Int32) (M : Mem) (ov : Int64) : Option (Int32 × Mem) :=
    bd (fX3_bound N M) (fun r1 M2 => bd (fX4_bound N M2) (fun r3 M4 => if (r1 = r3 : Prop) then (lq (x4 + 6) (fun z6 => k33 z6 M4 ov)) else (some (0, M4))))
def fL_660 (N L : Nat) (xs : Nat → Int32) (k33 : Int32 → Mem → Int64 → Option (Int32 × Mem)) (x4 : Int32) (M : Mem) (ov : Int64) : Option (Int32 × Mem) :=
    gd (x4 + (1 : Int32)) L (bd (fX3_why N (xs (x4 + (1 : Int32) : Int32).toNatClampNeg) M) (fun r2 M3 => gp (r2.1 = 0 ∨ r2.1 = 3) (lq (hcL_why r2.1) (fun z5 => lq (if r2.1 = 0 then r2.2.toInt64 else ov) (fun o6 => gd (x4 + (1 : Int32)) L (bd (fX4_why N (xs (x4 + (1 : Int32) : Int32).toNatClampNeg) M3) (fun r8 M9 => bd (fX4_thrown N M9) (fun r10 M11 => if (r10 = z5 : Prop) then (if (z5 = 0 : Prop) then (if ((lg_cmp o6 ((r8 : Int32).toInt64)) = 0 : Prop) then (lq (x4 + 6) (fun z16 => k33 z16 M11 o6)) else (some (0, M11))) else (lq (x4 + 6) (fun z14 => k33 z14 M11 o6))) else (some (0, M11))))))))))
def fL_716 (N L : Nat) (xs : Nat → Int32) (k33 : Int32 → Mem → Int64 → Option (Int32 × Mem)) (x4 : Int32) (M : Mem) (ov : Int64) : Option (Int32 × Mem) :=
    gd (x4 + (1 : Int32)) L (gd (x4 + (2 : Int32)) L (bd (fX3_change N (xs (x4 + (1 : Int32) : Int32).toNatClampNeg) (xs (x4 + (2 : Int32) : Int32).toNatClampNeg) M) (fun r3 M4 => gp (r3.1 = 0 ∨ r3.1 = 3 ∨ r3.1 = 1 ∨ r3.1 = 2) (lq (hcL_change r3.1) (fun z6 => lq (if r3.1 = 0 then r3.2.toInt64 else ov) (fun o7 => gd (x4 + (1 : Int32)) L (gd (x4 + (2 : Int32)) L (bd (fX4_change N (xs (x4 + (1 : Int32) : Int32).toNatClampNeg) (xs (x4 + (2 : Int32) : Int32).toNatClampNeg) M4) (fun r10 M11 => bd (fX4_thrown N M11) (fun r12 M13 => if (r12 = z6 : Prop) then (if (z6 = 0 : Prop) then (if ((lg_cmp o7 ((r10 : Int32).toInt64)) = 0 : Prop) then (lq (x4 + 6) (fun z18 => k33 z18 M13 o7)) else (some (0, M13))) else (lq (x4 + 6) (fun z16 => k33 z16 M13 o7))) else (some (0, M13))))))))))))
def fL_784 (N L : Nat) (xs : Nat → Int32) (k33 : Int32 → Mem → Int64 → Option (Int32 × Mem)) (x4 : Int32) (M : Mem) (ov : Int64) : Option (Int32 × Mem) :=
    gd (x4 + (1 : Int32)) L (gd (x4 + (2 : Int32)) L (bd (fX3_lies N (xs (x4 + (1 : Int32) : Int32).toNatClampNeg) (xs (x4 + (2 : Int32) : Int32).toNatClampNeg) M) (fun r3 M4 => gp (r3.1 = 0 ∨ r3.1 = 2) (lq (hcL_lies r3.1) (fun z6 => lq (if r3.1 = 0 then r3.2.toInt64 else ov) (fun o7 => gd (x4 + (1 : Int32)) L (gd (x4 + (2 : Int32)) L (bd (fX4_lies N (xs (x4 + (1 : Int32) : Int32).toNatClampNeg) (xs (x4 + (2 : Int32) : Int32).toNatClampNeg) M4) (fun r10 M11 => bd (fX4_thrown N M11) (fun r12 M13 => if (r12 = z6 : Prop) then (if (z6 = 0 : Prop) then (if ((lg_cmp o7 ((r10 : Int32).toInt64)) = 0 : Prop) then (lq (x4 + 6) (fun z18 => k33 z18 M13 o7)) else (some (0, M13))) else (lq (x4 + 6) (fun z16 => k33 z16 M13 o7))) else (some (0, M13))))))))))))
def fL_852 (N L : Nat) (xs : Nat → Int32) (k33 : Int32 → Mem → Int64 → Option (Int32 × Mem)) (x4 : Int32) (M : Mem) (ov : Int64) : Option (Int32 × Mem) :=
    gd (x4 + (1 : Int32)) L (gd (x4 + (2 : Int32)) L (gd (x4 + (3 : Int32)) L (bd (fX3_share N (xs (x4 + (1 : Int32) : Int32).toNatClampNeg) (xs (x4 + (2 : Int32) : Int32).toNatClampNeg) (xs (x4 + (3 : Int32) : Int32).toNatClampNeg) M) (fun r4 M5 => gp (r4.1 = 0 ∨ r4.1 = 1 ∨ r4.1 = 4) (lq (hcL_share r4.1) (fun z7 => lq (if r4.1 = 0 then r4.2 else ov) (fun o8 => gd (x4 + (1 : Int32)) L (gd (x4 + (2 : Int32)) L (gd (x4 + (3 : Int32)) L (bd (fX4_share N (xs (x4 + (1 : Int32) : Int32).toNatClampNeg) (xs (x4 + (2 : Int32) : Int32).toNatClampNeg) (xs (x4 + (3 : Int32) : Int32).toNatClampNeg) M5) (fun r12 M13 => bd (fX4_thrown N M13) (fun r14 M15 => if (r14 = z7 : Prop) then (if (z7 = 0 : Prop) then (if ((lg_cmp o8 r12) = 0 : Prop) then (lq (x4 + 6) (fun z20 => k33 z20 M15 o8)) else (some (0, M15))) else (lq (x4 + 6) (fun z18 => k33 z18 M15 o8))) else (some (0, M15))))))))))))))
def fL_931 (N L : Nat) (xs : Nat → Int32) (k33 : Int32 → Mem → Int64 → Option (Int32 × Mem)) (x4 : Int32) (M : Mem) (ov : Int64) : Option (Int32 × Mem) :=
    gd (x4 + (1 : Int32)) L (bd (fX3_count N (xs (x4 + (1 : Int32) : Int32).toNatClampNeg) M) (fun r2 M3 => gd (x4 + (1 : Int32)) L (bd (fX4_count N (xs (x4 + (1 : Int32) : Int32).toNatClampNeg) M3) (fun r5 M6 => if (r2 = r5 : Prop) then (lq (x4 + 6) (fun z8 => k33 z8 M6 ov)) else (some (0, M6))))))
def fL_33 (N L : Nat) (xs : Nat → Int32) : Nat → Int32 → Mem → Int64 → Option (Int32 × Mem)
  | 0, _, _, _ => none
  | n + 1, x4, M, ov =>
    if (((Int32.ofNat L) - (6 : Int32)) < x4 : Prop) then (some (1, M)) else (gd (x4) L (lq ((xs (x4 : Int32).toNatClampNeg) &&& (15 : Int32)) (fun z3 => if (z3 = 0 : Prop) then (fL_128 N L xs (fL_33 N L xs n) x4 M ov) else (if (z3 = 1 : Prop) then (fL_232 N L xs (fL_33 N L xs n) x4 M ov) else (if (z3 = 2 : Prop) then (fL_281 N L xs (fL_33 N L xs n) x4 M ov) else (if (z3 = 3 : Prop) then (fL_346 N L xs (fL_33 N L xs n) x4 M ov) else (if (z3 = 4 : Prop) then (fL_411 N L xs (fL_33 N L xs n) x4 M ov) else (if (z3 = 5 : Prop) then (fL_448 N L xs (fL_33 N L xs n) x4 M ov) else (if (z3 = 6 : Prop) then (fL_497 N L xs (fL_33 N L xs n) x4 M ov) else (if (z3 = 7 : Prop) then (fL_522 N L xs (fL_33 N L xs n) x4 M ov) else (if (z3 = 8 : Prop) then (fL_535 N L xs (fL_33 N L xs n) x4 M ov) else (if (z3 = 9 : Prop) then (fL_603 N L xs (fL_33 N L xs n) x4 M ov) else (if (z3 = 10 : Prop) then (fL_647 N L xs (fL_33 N L xs n) x4 M ov) else (if (z3 = 11 : Prop) then (fL_660 N L xs (fL_33 N L xs n) x4 M ov) else (if (z3 = 12 : Prop) then (fL_716 N L xs (fL_33 N L xs n) x4 M ov) else (if (z3 = 13 : Prop) then (fL_784 N L xs (fL_33 N L xs n) x4 M ov) else (if (z3 = 14 : Prop) then (fL_852 N L xs (fL_33 N L xs n) x4 M ov) else (if (z3 = 15 : Prop) then (fL_931 N L xs (fL_33 N L xs n) x4 M ov) else (none)))))))))))))))))))
theorem fL_33_s {N L n : Nat} {xs : Nat → Int32} {x4 : Int32} {M : Mem} {ov : Int64} : fL_33 N L xs (n + 1) x4 M ov =
    if (((Int32.ofNat L) - (6 : Int32)) < x4 : Prop) then (some (1, M)) else (gd (x4) L (lq ((xs (x4 : Int32).toNatClampNeg) &&& (15 : Int32)) (fun z3 => if (z3 = 0 : Prop) then (fL_128 N L xs (fL_33 N L xs n) x4 M ov) else (if (z3 = 1 : Prop) then (fL_232 N L xs (fL_33 N L xs n) x4 M ov) else (if (z3 = 2 : Prop) then (fL_281 N L xs (fL_33 N L xs n) x4 M ov) else (if (z3 = 3 : Prop) then (fL_346 N L xs (fL_33 N L xs n) x4 M ov) else (if (z3 = 4 : Prop) then (fL_411 N L xs (fL_33 N L xs n) x4 M ov) else (if (z3 = 5 : Prop) then (fL_448 N L xs (fL_33 N L xs n) x4 M ov) else (if (z3 = 6 : Prop) then (fL_497 N L xs (fL_33 N L xs n) x4 M ov) else (if (z3 = 7 : Prop) then (fL_522 N L xs (fL_33 N L xs n) x4 M ov) else (if (z3 = 8 : Prop) then (fL_535 N L xs (fL_33 N L xs n) x4 M ov) else (if (z3 = 9 : Prop) then (fL_603 N L xs (fL_33 N L xs n) x4 M ov) else (if (z3 = 10 : Prop) then (fL_647 N L xs (fL_33 N L xs n) x4 M ov) else (if (z3 = 11 : Prop) then (fL_660 N L xs (fL_33 N L xs n) x4 M ov) else (if (z3 = 12 : Prop) then (fL_716 N L xs (fL_33 N L xs n) x4 M ov) else (if (z3 = 13 : Prop) then (fL_784 N L xs (fL_33 N L xs n) x4 M ov) else (if (z3 = 14 : Prop) then (fL_852 N L xs (fL_33 N L xs n) x4 M ov) else (if (z3 = 15 : Prop) then (fL_931 N L xs (fL_33 N L xs n) x4 M ov) else (none))))))))))))))))))) := rfl
set_option maxHeartbeats 8000000 in
set_option maxRecDepth 100000 in
theorem wL_128 {p : Program} {l : Launch} {e : Env} {s : State} {m : MethodId} {below : List Frame} {meth : Method} {c : Code} {D : va_G} {ad : Nat → Nat} {ca : Nat → ClassId} {B b L : Nat} {xs : Nat → Int32} {M0 : Mem} (hl9 : l.stackTraces = false) (C0 : lw_At p s m meth c b L xs) (Ev9 : Ev B s s.heap) (hbB : b < B) (N : Nat) (cl sl : Nat) (hcl : cl + 1 ≤ 667226) (hsl : sl + 6 ≤ 7094391) {k33 : Int32 → Mem → Int64 → Option (Int32 × Mem)}
    (hk33 : ∀ (x4 : Int32) (M : Mem) (ov : Int64) (H : Heap) (locs : List Loc) (ls : Array Slot), lv_has ls 8 [(0, .ref b), (1, .ref (ad 0)), (2, .ref (ad 16)), (3, .ref (ad 31)), (4, .int x4)] → Cu D ad ca B M ov s H locs → k33 x4 M ov = some (1, M0) → W p l e room_1 s m #[Value.ref b] below meth c H locs (cl + 1) (sl + 6) (lw_Z below #[Value.ref b] s) (F0 m 33 ls [])) :
    ∀ (x4 : Int32) (M : Mem) (ov : Int64) (H : Heap) (locs : List Loc) (ls : Array Slot), lv_has ls 8 [(0, .ref b), (1, .ref (ad 0)), (2, .ref (ad 16)), (3, .ref (ad 31)), (4, .int x4)] → Cu D ad ca B M ov s H locs → (fL_128 N L xs k33) x4 M ov = some (1, M0) → W p l e room_1 s m #[Value.ref b] below meth c H locs cl sl (lw_Z below #[Value.ref b] s) (F0 m 128 ls []) := by
  obtain ⟨hx, hb, hr, hml, hown, hts, hX, hbl, hlocks, hgv⟩ := id C0
  have hbA : ¬ Ab B b := Nat.not_le.mpr hbB
  intro x4 M ov H locs ls hl hC hf
  unfold fL_128 at hf
  refine lv_aload_n hx hb dL_law_128 rfl (lv_at hl 1 rfl) ?_
  refine lv_aload_n hx hb dL_law_129 rfl (lv_at hl 0 rfl) ?_
  refine lv_iload hx hb dL_law_130 (lv_at hl 4 rfl) ?_
  refine lv_iconst (v := 1) hx hb dL_law_132 (by decide) ?_
  refine lv_iadd hx hb dL_law_133 ?_
  obtain ⟨g1, hf⟩ := gd_s hf
  refine va_sld hx hb hX hbl hbA hC.2.2.2.1 g1 dL_law_134 ?_
  refine lv_aload_n hx hb dL_law_135 rfl (lv_at hl 0 rfl) ?_
  refine lv_iload hx hb dL_law_136 (lv_at hl 4 rfl) ?_
  refine lv_iconst (v := 2) hx hb dL_law_138 (by decide) ?_
  refine lv_iadd hx hb dL_law_139 ?_
  obtain ⟨g2, hf⟩ := gd_s hf
  refine va_sld hx hb hX hbl hbA hC.2.2.2.1 g2 dL_law_140 ?_
  refine lv_aload_n hx hb dL_law_141 rfl (lv_at hl 0 rfl) ?_
  refine lv_iload hx hb dL_law_142 (lv_at hl 4 rfl) ?_
  refine lv_iconst (v := 3) hx hb dL_law_144 (by decide) ?_
  refine lv_iadd hx hb dL_law_145 ?_
  obtain ⟨g3, hf⟩ := gd_s hf
  refine va_sld hx hb hX hbl hbA hC.2.2.2.1 g3 dL_law_146 ?_
  refine lv_aload_n hx hb dL_law_147 rfl (lv_at hl 0 rfl) ?_
  refine lv_iload hx hb dL_law_148 (lv_at hl 4 rfl) ?_
  refine lv_iconst (v := 4) hx hb dL_law_150 (by decide) ?_
  refine lv_iadd hx hb dL_law_151 ?_
  obtain ⟨g4, hf⟩ := gd_s hf
  refine va_sld hx hb hX hbl hbA hC.2.2.2.1 g4 dL_law_152 ?_
  refine lv_aload_n hx hb dL_law_153 rfl (lv_at hl 0 rfl) ?_
  refine lv_iload hx hb dL_law_154 (lv_at hl 4 rfl) ?_
  refine lv_iconst (v := 5) hx hb dL_law_156 (by decide) ?_
  refine lv_iadd hx hb dL_law_157 ?_
  obtain ⟨g5, hf⟩ := gd_s hf
  refine va_sld hx hb hX hbl hbA hC.2.2.2.1 g5 dL_law_158 ?_
  refine lv_aload_n hx hb dL_law_159 rfl (lv_at hl 3 rfl) ?_
  obtain ⟨r6, M7, hq, hf⟩ := bd_s hf
  obtain ⟨g8, hf⟩ := gp_s hf
  obtain ⟨z9, ez9⟩ : ∃ y : Int32, y = hcL_ship r6.1 := ⟨_, rfl⟩
  have hf := lq_k ez9 hf
  obtain ⟨o10, eo10⟩ : ∃ y : Int64, y = if r6.1 = 0 then r6.2.toInt64 else ov := ⟨_, rfl⟩
  have hf := lq_k eo10 hf
  refine mc_H (As := [.ref (ad 0), .int (xs (x4 + (1 : Int32) : Int32).toNatClampNeg), .int (xs (x4 + (2 : Int32) : Int32).toNatClampNeg), .int (xs (x4 + (3 : Int32) : Int32).toNatClampNeg), .int (xs (x4 + (4 : Int32) : Int32).toNatClampNeg), .int (xs (x4 + (5 : Int32) : Int32).toNatClampNeg), .ref (ad 31)]) ⟨hx, hb, hml, hown, hts⟩ hC Ev9 (kL_ship l D ad ca B ov N (xs (x4 + (1 : Int32) : Int32).toNatClampNeg) (xs (x4 + (2 : Int32) : Int32).toNatClampNeg) (xs (x4 + (3 : Int32) : Int32).toNatClampNeg) (xs (x4 + (4 : Int32) : Int32).toNatClampNeg) (xs (x4 + (5 : Int32) : Int32).toNatClampNeg) M r6.1 r6.2 M7 z9 o10 hl9 g8 ez9 eo10 hq) (vx_cwSW 7 hts glL_ship rfl rfl rfl (by decide +kernel) ⟨Nat.le_of_ble_eq_true rfl, Nat.le_of_ble_eq_true rfl⟩) rfl hl.1 rfl (Nat.le_of_ble_eq_true rfl) dL_law_160 ⟨hcl, hsl⟩ (fun H locs hC => ?_)
  refine lv_istore (lv' := [(5, .int z9), (0, .ref b), (1, .ref (ad 0)), (2, .ref (ad 16)), (3, .ref (ad 31)), (4, .int x4)]) hx hb dL_law_163 hl (by decide) rfl (fun ls hl => ?_)
  refine lv_aload_n hx hb dL_law_165 rfl (lv_at hl 3 rfl) ?_
  refine lv_aload_n hx hb dL_law_166 rfl (lv_at hl 1 rfl) ?_
  refine lv_iload hx hb dL_law_167 (lv_at hl 5 rfl) ?_
  refine lv_iconst (v := 1) hx hb dL_law_169 (by decide) ?_
  refine lv_iadd hx hb dL_law_170 ?_
  obtain ⟨g11, hf⟩ := gd_s hf
  refine va_sld hx hb hX hbl hbA hC.2.2.2.1 g11 dL_law_171 ?_
  refine lv_aload_n hx hb dL_law_172 rfl (lv_at hl 1 rfl) ?_
  refine lv_iload hx hb dL_law_173 (lv_at hl 5 rfl) ?_
  refine lv_iconst (v := 2) hx hb dL_law_175 (by decide) ?_
  refine lv_iadd hx hb dL_law_176 ?_
  obtain ⟨g12, hf⟩ := gd_s hf
  refine va_sld hx hb hX hbl hbA hC.2.2.2.1 g12 dL_law_177 ?_
  refine lv_aload_n hx hb dL_law_178 rfl (lv_at hl 1 rfl) ?_
  refine lv_iload hx hb dL_law_179 (lv_at hl 5 rfl) ?_
  refine lv_iconst (v := 3) hx hb dL_law_181 (by decide) ?_
  refine lv_iadd hx hb dL_law_182 ?_
  obtain ⟨g13, hf⟩ := gd_s hf
  refine va_sld hx hb hX hbl hbA hC.2.2.2.1 g13 dL_law_183 ?_
  refine lv_aload_n hx hb dL_law_184 rfl (lv_at hl 1 rfl) ?_
  refine lv_iload hx hb dL_law_185 (lv_at hl 5 rfl) ?_
  refine lv_iconst (v := 4) hx hb dL_law_187 (by decide) ?_
  refine lv_iadd hx hb dL_law_188 ?_
  obtain ⟨g14, hf⟩ := gd_s hf
  refine va_sld hx hb hX hbl hbA hC.2.2.2.1 g14 dL_law_189 ?_
  refine lv_aload_n hx hb dL_law_190 rfl (lv_at hl 1 rfl) ?_
  refine lv_iload hx hb dL_law_191 (lv_at hl 5 rfl) ?_
  refine lv_iconst (v := 5) hx hb dL_law_193 (by decide) ?_
  refine lv_iadd hx hb dL_law_194 ?_
  obtain ⟨g15, hf⟩ := gd_s hf
  refine va_sld hx hb hX hbl hbA hC.2.2.2.1 g15 dL_law_195 ?_
  obtain ⟨r16, M17, hq, hf⟩ := bd_s hf
  refine mc_Vi (As := [.int (xs (x4 + (1 : Int32) : Int32).toNatClampNeg), .int (xs (x4 + (2 : Int32) : Int32).toNatClampNeg), .int (xs (x4 + (3 : Int32) : Int32).toNatClampNeg), .int (xs (x4 + (4 : Int32) : Int32).toNatClampNeg), .int (xs (x4 + (5 : Int32) : Int32).toNatClampNeg)]) ⟨hx, hb, hml, hown, hts⟩ hC (kX4_ship l D ad ca B o10 N (xs (x4 + (1 : Int32) : Int32).toNatClampNeg) (xs (x4 + (2 : Int32) : Int32).toNatClampNeg) (xs (x4 + (3 : Int32) : Int32).toNatClampNeg) (xs (x4 + (4 : Int32) : Int32).toNatClampNeg) (xs (x4 + (5 : Int32) : Int32).toNatClampNeg) M7 r16 M17 hq) (cwV 5 hts glX4_ship rfl rfl rfl (by decide +kernel) ⟨Nat.le_of_ble_eq_true rfl, Nat.le_of_ble_eq_true rfl⟩) (mg_recv (ci := 4) (C := RX4) (T := TX4) (N := 19) hC 16 (by decide) rfl rfl) rfl hl.1 rfl (Nat.le_of_ble_eq_true rfl) dL_law_196 ⟨hcl, hsl⟩ (fun H locs hC => ?_)
  refine lv_istore (lv' := [(6, .int r16), (5, .int z9), (0, .ref b), (1, .ref (ad 0)), (2, .ref (ad 16)), (3, .ref (ad 31)), (4, .int x4)]) hx hb dL_law_199 hl (by decide) rfl (fun ls hl => ?_)
  refine lv_aload_n hx hb dL_law_201 rfl (lv_at hl 4 rfl) ?_
  obtain ⟨r18, M19, hq, hf⟩ := bd_s hf
  refine mc_Vi (As := []) ⟨hx, hb, hml, hown, hts⟩ hC (kX4_thrown l D ad ca B o10 N M17 r18 M19 hq) (cwV 0 hts glX4_thrown rfl rfl rfl (by decide +kernel) ⟨Nat.le_of_ble_eq_true rfl, Nat.le_of_ble_eq_true rfl⟩) (mg_recv (ci := 4) (C := RX4) (T := TX4) (N := 19) hC 16 (by decide) rfl rfl) rfl hl.1 rfl (Nat.le_of_ble_eq_true rfl) dL_law_202 ⟨hcl, hsl⟩ (fun H locs hC => ?_)
  refine lv_iload hx hb dL_law_205 (lv_at hl 1 rfl) ?_
  refine lv_icmp_eq (tgt := 212) hx hb dL_law_207 (by decide) (fun h20 => ?_) (fun h20 => ?_)
  · have hf := it_t h20 hf
    refine lv_iload hx hb dL_law_212 (lv_at hl 1 rfl) ?_
    refine lv_if_ne (tgt := 229) hx hb dL_law_214 (by decide) (fun h21 => ?_) (fun h21 => ?_)
    · have hf := it_f h21 hf
      refine lv_goto (tgt := 956) hx hb dL_law_229 (by decide) ?_
      obtain ⟨z22, ez22⟩ : ∃ y : Int32, y = x4 + 6 := ⟨_, rfl⟩
      have hf := lq_k ez22 hf
      refine lv_iinc (v := z22) (lv' := [(4, .int z22), (6, .int r16), (5, .int z9), (0, .ref b), (1, .ref (ad 0)), (2, .ref (ad 16)), (3, .ref (ad 31))]) hx hb dL_law_956 hl (k := 6) rfl (by rw [ez22]; rfl) (by decide) rfl (fun ls hl => ?_)
      refine lv_goto (tgt := 33) hx hb dL_law_959 (by decide) ?_
      exact hk33 z22 M19 o10 _ _ _ (lv_sub hl [3, 4, 5, 6, 0] rfl) hC hf
    · have hf := it_t h21 hf
      refine lv_aload_n hx hb dL_law_217 rfl (lv_at hl 5 rfl) ?_
      refine lv_iconst (v := 0) hx hb dL_law_218 (by decide) ?_
      refine mg_lald hx hb hC dL_law_219 ?_
      refine lv_iload hx hb dL_law_220 (lv_at hl 0 rfl) ?_
      refine lv_i2l (v := (r16 : Int32).toInt64) hx hb dL_law_222 rfl ?_
      refine W.lcmp hx hb dL_law_223 ?_
      refine lv_if_eq (tgt := 229) hx hb dL_law_224 (by decide) (fun h23 => ?_) (fun h23 => ?_)
      · have hf := it_t h23 hf
        refine lv_goto (tgt := 956) hx hb dL_law_229 (by decide) ?_
        obtain ⟨z24, ez24⟩ : ∃ y : Int32, y = x4 + 6 := ⟨_, rfl⟩
        have hf := lq_k ez24 hf
        refine lv_iinc (v := z24) (lv' := [(4, .int z24), (6, .int r16), (5, .int z9), (0, .ref b), (1, .ref (ad 0)), (2, .ref (ad 16)), (3, .ref (ad 31))]) hx hb dL_law_956 hl (k := 6) rfl (by rw [ez24]; rfl) (by decide) rfl (fun ls hl => ?_)
        refine lv_goto (tgt := 33) hx hb dL_law_959 (by decide) ?_
        exact hk33 z24 M19 o10 _ _ _ (lv_sub hl [3, 4, 5, 6, 0] rfl) hC hf
      · have hf := it_f h23 hf
        refine lv_iconst (v := 0) hx hb dL_law_227 (by decide) ?_
        exact absurd (Prod.mk.inj (Option.some.inj hf)).1 (by decide)
  · have hf := it_f h20 hf
    refine lv_iconst (v := 0) hx hb dL_law_210 (by decide) ?_
    exact absurd (Prod.mk.inj (Option.some.inj hf)).1 (by decide)
set_option maxHeartbeats 8000000 in
set_option maxRecDepth 100000 in
theorem wL_232 {p : Program} {l : Launch} {e : Env} {s : State} {m : MethodId} {below : List Frame} {meth : Method} {c : Code} {D : va_G} {ad : Nat → Nat} {ca : Nat → ClassId} {B b L : Nat} {xs : Nat → Int32} {M0 : Mem} (hl9 : l.stackTraces = false) (C0 : lw_At p s m meth c b L xs) (Ev9 : Ev B s s.heap) (hbB : b < B) (N : Nat) (cl sl : Nat) (hcl : cl + 1 ≤ 667226) (hsl : sl + 6 ≤ 7094391) {k33 : Int32 → Mem → Int64 → Option (Int32 × Mem)}
    (hk33 : ∀ (x4 : Int32) (M : Mem) (ov : Int64) (H : Heap) (locs : List Loc) (ls : Array Slot), lv_has ls 8 [(0, .ref b), (1, .ref (ad 0)), (2, .ref (ad 16)), (3, .ref (ad 31)), (4, .int x4)] → Cu D ad ca B M ov s H locs → k33 x4 M ov = some (1, M0) → W p l e room_1 s m #[Value.ref b] below meth c H locs (cl + 1) (sl + 6) (lw_Z below #[Value.ref b] s) (F0 m 33 ls [])) :
    ∀ (x4 : Int32) (M : Mem) (ov : Int64) (H : Heap) (locs : List Loc) (ls : Array Slot), lv_has ls 8 [(0, .ref b), (1, .ref (ad 0)), (2, .ref (ad 16)), (3, .ref (ad 31)), (4, .int x4)] → Cu D ad ca B M ov s H locs → (fL_232 N L xs k33) x4 M ov = some (1, M0) → W p l e room_1 s m #[Value.ref b] below meth c H locs cl sl (lw_Z below #[Value.ref b] s) (F0 m 232 ls []) := by
  obtain ⟨hx, hb, hr, hml, hown, hts, hX, hbl, hlocks, hgv⟩ := id C0
  have hbA : ¬ Ab B b := Nat.not_le.mpr hbB
  intro x4 M ov H locs ls hl hC hf
  unfold fL_232 at hf
  refine lv_aload_n hx hb dL_law_232 rfl (lv_at hl 1 rfl) ?_
  refine lv_aload_n hx hb dL_law_233 rfl (lv_at hl 0 rfl) ?_
  refine lv_iload hx hb dL_law_234 (lv_at hl 4 rfl) ?_
  refine lv_iconst (v := 1) hx hb dL_law_236 (by decide) ?_
  refine lv_iadd hx hb dL_law_237 ?_
  obtain ⟨g1, hf⟩ := gd_s hf
  refine va_sld hx hb hX hbl hbA hC.2.2.2.1 g1 dL_law_238 ?_
  refine lv_aload_n hx hb dL_law_239 rfl (lv_at hl 0 rfl) ?_
  refine lv_iload hx hb dL_law_240 (lv_at hl 4 rfl) ?_
  refine lv_iconst (v := 2) hx hb dL_law_242 (by decide) ?_
  refine lv_iadd hx hb dL_law_243 ?_
  obtain ⟨g2, hf⟩ := gd_s hf
  refine va_sld hx hb hX hbl hbA hC.2.2.2.1 g2 dL_law_244 ?_
  refine lv_aload_n hx hb dL_law_245 rfl (lv_at hl 0 rfl) ?_
  refine lv_iload hx hb dL_law_246 (lv_at hl 4 rfl) ?_
  refine lv_iconst (v := 3) hx hb dL_law_248 (by decide) ?_
  refine lv_iadd hx hb dL_law_249 ?_
  obtain ⟨g3, hf⟩ := gd_s hf
  refine va_sld hx hb hX hbl hbA hC.2.2.2.1 g3 dL_law_250 ?_
  obtain ⟨r4, M5, hq, hf⟩ := bd_s hf
  refine mc_Vi (As := [.int (xs (x4 + (1 : Int32) : Int32).toNatClampNeg), .int (xs (x4 + (2 : Int32) : Int32).toNatClampNeg), .int (xs (x4 + (3 : Int32) : Int32).toNatClampNeg)]) ⟨hx, hb, hml, hown, hts⟩ hC (kX3_depth l D ad ca B ov N (xs (x4 + (1 : Int32) : Int32).toNatClampNeg) (xs (x4 + (2 : Int32) : Int32).toNatClampNeg) (xs (x4 + (3 : Int32) : Int32).toNatClampNeg) M r4 M5 hq) (cwV 3 hts glX3_depth rfl rfl rfl (by decide +kernel) ⟨Nat.le_of_ble_eq_true rfl, Nat.le_of_ble_eq_true rfl⟩) (mg_recv (ci := 3) (C := RX3) (T := TX3) (N := 5) hC 0 (by decide) rfl rfl) rfl hl.1 rfl (Nat.le_of_ble_eq_true rfl) dL_law_251 ⟨Nat.le_of_lt hcl, Nat.le_trans (Nat.le_add_right sl 6) hsl⟩ (fun H locs hC => ?_)
  refine lv_aload_n hx hb dL_law_254 rfl (lv_at hl 2 rfl) ?_
  refine lv_aload_n hx hb dL_law_255 rfl (lv_at hl 0 rfl) ?_
  refine lv_iload hx hb dL_law_256 (lv_at hl 4 rfl) ?_
  refine lv_iconst (v := 1) hx hb dL_law_258 (by decide) ?_
  refine lv_iadd hx hb dL_law_259 ?_
  obtain ⟨g6, hf⟩ := gd_s hf
  refine va_sld hx hb hX hbl hbA hC.2.2.2.1 g6 dL_law_260 ?_
  refine lv_aload_n hx hb dL_law_261 rfl (lv_at hl 0 rfl) ?_
  refine lv_iload hx hb dL_law_262 (lv_at hl 4 rfl) ?_
  refine lv_iconst (v := 2) hx hb dL_law_264 (by decide) ?_
  refine lv_iadd hx hb dL_law_265 ?_
  obtain ⟨g7, hf⟩ := gd_s hf
  refine va_sld hx hb hX hbl hbA hC.2.2.2.1 g7 dL_law_266 ?_
  refine lv_aload_n hx hb dL_law_267 rfl (lv_at hl 0 rfl) ?_
  refine lv_iload hx hb dL_law_268 (lv_at hl 4 rfl) ?_
  refine lv_iconst (v := 3) hx hb dL_law_270 (by decide) ?_
  refine lv_iadd hx hb dL_law_271 ?_
  obtain ⟨g8, hf⟩ := gd_s hf
  refine va_sld hx hb hX hbl hbA hC.2.2.2.1 g8 dL_law_272 ?_
  obtain ⟨r9, M10, hq, hf⟩ := bd_s hf
  refine mc_Vi (As := [.int (xs (x4 + (1 : Int32) : Int32).toNatClampNeg), .int (xs (x4 + (2 : Int32) : Int32).toNatClampNeg), .int (xs (x4 + (3 : Int32) : Int32).toNatClampNeg)]) ⟨hx, hb, hml, hown, hts⟩ hC (kX4_depth l D ad ca B ov N (xs (x4 + (1 : Int32) : Int32).toNatClampNeg) (xs (x4 + (2 : Int32) : Int32).toNatClampNeg) (xs (x4 + (3 : Int32) : Int32).toNatClampNeg) M5 r9 M10 hq) (cwV 3 hts glX4_depth rfl rfl rfl (by decide +kernel) ⟨Nat.le_of_ble_eq_true rfl, Nat.le_of_ble_eq_true rfl⟩) (mg_recv (ci := 4) (C := RX4) (T := TX4) (N := 19) hC 16 (by decide) rfl rfl) rfl hl.1 rfl (Nat.le_of_ble_eq_true rfl) dL_law_273 ⟨Nat.le_of_lt hcl, Nat.le_trans (Nat.le_add_right sl 6) hsl⟩ (fun H locs hC => ?_)
  refine lv_icmp_eq (tgt := 956) hx hb dL_law_276 (by decide) (fun h11 => ?_) (fun h11 => ?_)
  · have hf := it_t h11 hf
    obtain ⟨z12, ez12⟩ : ∃ y : Int32, y = x4 + 6 := ⟨_, rfl⟩
    have hf := lq_k ez12 hf
    refine lv_iinc (v := z12) (lv' := [(4, .int z12), (0, .ref b), (1, .ref (ad 0)), (2, .ref (ad 16)), (3, .ref (ad 31))]) hx hb dL_law_956 hl (k := 4) rfl (by rw [ez12]; rfl) (by decide) rfl (fun ls hl => ?_)
    refine lv_goto (tgt := 33) hx hb dL_law_959 (by decide) ?_
    refine W.widen (k := cl + 1) (n := sl + 6) (Nat.le_succ _) (Nat.le_add_right _ _) ?_
    exact hk33 z12 M10 ov _ _ _ (lv_sub hl [1, 2, 3, 4, 0] rfl) hC hf
  · have hf := it_f h11 hf
    refine lv_iconst (v := 0) hx hb dL_law_279 (by decide) ?_
    exact absurd (Prod.mk.inj (Option.some.inj hf)).1 (by decide)
set_option maxHeartbeats 8000000 in
set_option maxRecDepth 100000 in
theorem wL_281 {p : Program} {l : Launch} {e : Env} {s : State} {m : MethodId} {below : List Frame} {meth : Method} {c : Code} {D : va_G} {ad : Nat → Nat} {ca : Nat → ClassId} {B b L : Nat} {xs : Nat → Int32} {M0 : Mem} (hl9 : l.stackTraces = false) (C0 : lw_At p s m meth c b L xs) (Ev9 : Ev B s s.heap) (hbB : b < B) (N : Nat) (cl sl : Nat) (hcl : cl + 1 ≤ 667226) (hsl : sl + 6 ≤ 7094391) {k33 : Int32 → Mem → Int64 → Option (Int32 × Mem)}
    (hk33 : ∀ (x4 : Int32) (M : Mem) (ov : Int64) (H : Heap) (locs : List Loc) (ls : Array Slot), lv_has ls 8 [(0, .ref b), (1, .ref (ad 0)), (2, .ref (ad 16)), (3, .ref (ad 31)), (4, .int x4)] → Cu D ad ca B M ov s H locs → k33 x4 M ov = some (1, M0) → W p l e room_1 s m #[Value.ref b] below meth c H locs (cl + 1) (sl + 6) (lw_Z below #[Value.ref b] s) (F0 m 33 ls [])) :
    ∀ (x4 : Int32) (M : Mem) (ov : Int64) (H : Heap) (locs : List Loc) (ls : Array Slot), lv_has ls 8 [(0, .ref b), (1, .ref (ad 0)), (2, .ref (ad 16)), (3, .ref (ad 31)), (4, .int x4)] → Cu D ad ca B M ov s H locs → (fL_281 N L xs k33) x4 M ov = some (1, M0) → W p l e room_1 s m #[Value.ref b] below meth c H locs cl sl (lw_Z below #[Value.ref b] s) (F0 m 281 ls []) := by
  obtain ⟨hx, hb, hr, hml, hown, hts, hX, hbl, hlocks, hgv⟩ := id C0
  have hbA : ¬ Ab B b := Nat.not_le.mpr hbB
  intro x4 M ov H locs ls hl hC hf
  unfold fL_281 at hf
  refine lv_aload_n hx hb dL_law_281 rfl (lv_at hl 1 rfl) ?_
  refine lv_aload_n hx hb dL_law_282 rfl (lv_at hl 0 rfl) ?_
  refine lv_iload hx hb dL_law_283 (lv_at hl 4 rfl) ?_
  refine lv_iconst (v := 1) hx hb dL_law_285 (by decide) ?_
  refine lv_iadd hx hb dL_law_286 ?_
  obtain ⟨g1, hf⟩ := gd_s hf
  refine va_sld hx hb hX hbl hbA hC.2.2.2.1 g1 dL_law_287 ?_
  refine lv_aload_n hx hb dL_law_288 rfl (lv_at hl 0 rfl) ?_
  refine lv_iload hx hb dL_law_289 (lv_at hl 4 rfl) ?_
  refine lv_iconst (v := 2) hx hb dL_law_291 (by decide) ?_
  refine lv_iadd hx hb dL_law_292 ?_
  obtain ⟨g2, hf⟩ := gd_s hf
  refine va_sld hx hb hX hbl hbA hC.2.2.2.1 g2 dL_law_293 ?_
  refine lv_aload_n hx hb dL_law_294 rfl (lv_at hl 0 rfl) ?_
  refine lv_iload hx hb dL_law_295 (lv_at hl 4 rfl) ?_
  refine lv_iconst (v := 3) hx hb dL_law_297 (by decide) ?_
  refine lv_iadd hx hb dL_law_298 ?_
  obtain ⟨g3, hf⟩ := gd_s hf
  refine va_sld hx hb hX hbl hbA hC.2.2.2.1 g3 dL_law_299 ?_
  refine lv_if_eq (tgt := 307) hx hb dL_law_300 (by decide) (fun h4 => ?_) (fun h4 => ?_)
  · have hf := it_t h4 hf
    refine lv_iconst (v := 0) hx hb dL_law_307 (by decide) ?_
    obtain ⟨r5, M6, hq, hf⟩ := bd_s hf
    refine mc_Vi (As := [.int (xs (x4 + (1 : Int32) : Int32).toNatClampNeg), .int (xs (x4 + (2 : Int32) : Int32).toNatClampNeg), .int 0]) ⟨hx, hb, hml, hown, hts⟩ hC (kX3_gear l D ad ca B ov N (xs (x4 + (1 : Int32) : Int32).toNatClampNeg) (xs (x4 + (2 : Int32) : Int32).toNatClampNeg) 0 M r5 M6 hq) (cwV 3 hts glX3_gear rfl rfl rfl (by decide +kernel) ⟨Nat.le_of_ble_eq_true rfl, Nat.le_of_ble_eq_true rfl⟩) (mg_recv (ci := 3) (C := RX3) (T := TX3) (N := 5) hC 0 (by decide) rfl rfl) rfl hl.1 rfl (Nat.le_of_ble_eq_true rfl) dL_law_308 ⟨Nat.le_of_lt hcl, Nat.le_trans (Nat.le_add_right sl 6) hsl⟩ (fun H locs hC => ?_)
    refine lv_aload_n hx hb dL_law_311 rfl (lv_at hl 2 rfl) ?_
    refine lv_aload_n hx hb dL_law_312 rfl (lv_at hl 0 rfl) ?_
    refine lv_iload hx hb dL_law_313 (lv_at hl 4 rfl) ?_
    refine lv_iconst (v := 1) hx hb dL_law_315 (by decide) ?_
    refine lv_iadd hx hb dL_law_316 ?_
    obtain ⟨g7, hf⟩ := gd_s hf
    refine va_sld hx hb hX hbl hbA hC.2.2.2.1 g7 dL_law_317 ?_
    refine lv_aload_n hx hb dL_law_318 rfl (lv_at hl 0 rfl) ?_
    refine lv_iload hx hb dL_law_319 (lv_at hl 4 rfl) ?_
    refine lv_iconst (v := 2) hx hb dL_law_321 (by decide) ?_
    refine lv_iadd hx hb dL_law_322 ?_
    obtain ⟨g8, hf⟩ := gd_s hf
    refine va_sld hx hb hX hbl hbA hC.2.2.2.1 g8 dL_law_323 ?_
    refine lv_aload_n hx hb dL_law_324 rfl (lv_at hl 0 rfl) ?_
    refine lv_iload hx hb dL_law_325 (lv_at hl 4 rfl) ?_
    refine lv_iconst (v := 3) hx hb dL_law_327 (by decide) ?_
    refine lv_iadd hx hb dL_law_328 ?_
    obtain ⟨g9, hf⟩ := gd_s hf
    refine va_sld hx hb hX hbl hbA hC.2.2.2.1 g9 dL_law_329 ?_
    refine lv_if_eq (tgt := 337) hx hb dL_law_330 (by decide) (fun h10 => ?_) (fun h10 => ?_)
    · have hf := it_t h10 hf
      refine lv_iconst (v := 0) hx hb dL_law_337 (by decide) ?_
      obtain ⟨r11, M12, hq, hf⟩ := bd_s hf
      refine mc_Vi (As := [.int (xs (x4 + (1 : Int32) : Int32).toNatClampNeg), .int (xs (x4 + (2 : Int32) : Int32).toNatClampNeg), .int 0]) ⟨hx, hb, hml, hown, hts⟩ hC (kX4_gear l D ad ca B ov N (xs (x4 + (1 : Int32) : Int32).toNatClampNeg) (xs (x4 + (2 : Int32) : Int32).toNatClampNeg) 0 M6 r11 M12 hq) (cwV 3 hts glX4_gear rfl rfl rfl (by decide +kernel) ⟨Nat.le_of_ble_eq_true rfl, Nat.le_of_ble_eq_true rfl⟩) (mg_recv (ci := 4) (C := RX4) (T := TX4) (N := 19) hC 16 (by decide) rfl rfl) rfl hl.1 rfl (Nat.le_of_ble_eq_true rfl) dL_law_338 ⟨Nat.le_of_lt hcl, Nat.le_trans (Nat.le_add_right sl 6) hsl⟩ (fun H locs hC => ?_)
      refine lv_icmp_eq (tgt := 956) hx hb dL_law_341 (by decide) (fun h13 => ?_) (fun h13 => ?_)
      · have hf := it_t h13 hf
        obtain ⟨z14, ez14⟩ : ∃ y : Int32, y = x4 + 6 := ⟨_, rfl⟩
        have hf := lq_k ez14 hf
        refine lv_iinc (v := z14) (lv' := [(4, .int z14), (0, .ref b), (1, .ref (ad 0)), (2, .ref (ad 16)), (3, .ref (ad 31))]) hx hb dL_law_956 hl (k := 4) rfl (by rw [ez14]; rfl) (by decide) rfl (fun ls hl => ?_)
        refine lv_goto (tgt := 33) hx hb dL_law_959 (by decide) ?_
        refine W.widen (k := cl + 1) (n := sl + 6) (Nat.le_succ _) (Nat.le_add_right _ _) ?_
        exact hk33 z14 M12 ov _ _ _ (lv_sub hl [1, 2, 3, 4, 0] rfl) hC hf
      · have hf := it_f h13 hf
        refine lv_iconst (v := 0) hx hb dL_law_344 (by decide) ?_
        exact absurd (Prod.mk.inj (Option.some.inj hf)).1 (by decide)
    · have hf := it_f h10 hf
      refine lv_iconst (v := 1) hx hb dL_law_333 (by decide) ?_
      refine lv_goto (tgt := 338) hx hb dL_law_334 (by decide) ?_
      obtain ⟨r15, M16, hq, hf⟩ := bd_s hf
      refine mc_Vi (As := [.int (xs (x4 + (1 : Int32) : Int32).toNatClampNeg), .int (xs (x4 + (2 : Int32) : Int32).toNatClampNeg), .int 1]) ⟨hx, hb, hml, hown, hts⟩ hC (kX4_gear l D ad ca B ov N (xs (x4 + (1 : Int32) : Int32).toNatClampNeg) (xs (x4 + (2 : Int32) : Int32).toNatClampNeg) 1 M6 r15 M16 hq) (cwV 3 hts glX4_gear rfl rfl rfl (by decide +kernel) ⟨Nat.le_of_ble_eq_true rfl, Nat.le_of_ble_eq_true rfl⟩) (mg_recv (ci := 4) (C := RX4) (T := TX4) (N := 19) hC 16 (by decide) rfl rfl) rfl hl.1 rfl (Nat.le_of_ble_eq_true rfl) dL_law_338 ⟨Nat.le_of_lt hcl, Nat.le_trans (Nat.le_add_right sl 6) hsl⟩ (fun H locs hC => ?_)
      refine lv_icmp_eq (tgt := 956) hx hb dL_law_341 (by decide) (fun h17 => ?_) (fun h17 => ?_)
      · have hf := it_t h17 hf
        obtain ⟨z18, ez18⟩ : ∃ y : Int32, y = x4 + 6 := ⟨_, rfl⟩
        have hf := lq_k ez18 hf
        refine lv_iinc (v := z18) (lv' := [(4, .int z18), (0, .ref b), (1, .ref (ad 0)), (2, .ref (ad 16)), (3, .ref (ad 31))]) hx hb dL_law_956 hl (k := 4) rfl (by rw [ez18]; rfl) (by decide) rfl (fun ls hl => ?_)
        refine lv_goto (tgt := 33) hx hb dL_law_959 (by decide) ?_
        refine W.widen (k := cl + 1) (n := sl + 6) (Nat.le_succ _) (Nat.le_add_right _ _) ?_
        exact hk33 z18 M16 ov _ _ _ (lv_sub hl [1, 2, 3, 4, 0] rfl) hC hf
      · have hf := it_f h17 hf
        refine lv_iconst (v := 0) hx hb dL_law_344 (by decide) ?_
        exact absurd (Prod.mk.inj (Option.some.inj hf)).1 (by decide)
  · have hf := it_f h4 hf
    refine lv_iconst (v := 1) hx hb dL_law_303 (by decide) ?_
    refine lv_goto (tgt := 308) hx hb dL_law_304 (by decide) ?_
    obtain ⟨r19, M20, hq, hf⟩ := bd_s hf
    refine mc_Vi (As := [.int (xs (x4 + (1 : Int32) : Int32).toNatClampNeg), .int (xs (x4 + (2 : Int32) : Int32).toNatClampNeg), .int 1]) ⟨hx, hb, hml, hown, hts⟩ hC (kX3_gear l D ad ca B ov N (xs (x4 + (1 : Int32) : Int32).toNatClampNeg) (xs (x4 + (2 : Int32) : Int32).toNatClampNeg) 1 M r19 M20 hq) (cwV 3 hts glX3_gear rfl rfl rfl (by decide +kernel) ⟨Nat.le_of_ble_eq_true rfl, Nat.le_of_ble_eq_true rfl⟩) (mg_recv (ci := 3) (C := RX3) (T := TX3) (N := 5) hC 0 (by decide) rfl rfl) rfl hl.1 rfl (Nat.le_of_ble_eq_true rfl) dL_law_308 ⟨Nat.le_of_lt hcl, Nat.le_trans (Nat.le_add_right sl 6) hsl⟩ (fun H locs hC => ?_)
    refine lv_aload_n hx hb dL_law_311 rfl (lv_at hl 2 rfl) ?_
    refine lv_aload_n hx hb dL_law_312 rfl (lv_at hl 0 rfl) ?_
    refine lv_iload hx hb dL_law_313 (lv_at hl 4 rfl) ?_
    refine lv_iconst (v := 1) hx hb dL_law_315 (by decide) ?_
    refine lv_iadd hx hb dL_law_316 ?_
    obtain ⟨g21, hf⟩ := gd_s hf
    refine va_sld hx hb hX hbl hbA hC.2.2.2.1 g21 dL_law_317 ?_
    refine lv_aload_n hx hb dL_law_318 rfl (lv_at hl 0 rfl) ?_
    refine lv_iload hx hb dL_law_319 (lv_at hl 4 rfl) ?_
    refine lv_iconst (v := 2) hx hb dL_law_321 (by decide) ?_
    refine lv_iadd hx hb dL_law_322 ?_
    obtain ⟨g22, hf⟩ := gd_s hf
    refine va_sld hx hb hX hbl hbA hC.2.2.2.1 g22 dL_law_323 ?_
    refine lv_aload_n hx hb dL_law_324 rfl (lv_at hl 0 rfl) ?_
    refine lv_iload hx hb dL_law_325 (lv_at hl 4 rfl) ?_
    refine lv_iconst (v := 3) hx hb dL_law_327 (by decide) ?_
    refine lv_iadd hx hb dL_law_328 ?_
    obtain ⟨g23, hf⟩ := gd_s hf
    refine va_sld hx hb hX hbl hbA hC.2.2.2.1 g23 dL_law_329 ?_
    refine lv_if_eq (tgt := 337) hx hb dL_law_330 (by decide) (fun h24 => ?_) (fun h24 => ?_)
    · have hf := it_t h24 hf
      refine lv_iconst (v := 0) hx hb dL_law_337 (by decide) ?_
      obtain ⟨r25, M26, hq, hf⟩ := bd_s hf
      refine mc_Vi (As := [.int (xs (x4 + (1 : Int32) : Int32).toNatClampNeg), .int (xs (x4 + (2 : Int32) : Int32).toNatClampNeg), .int 0]) ⟨hx, hb, hml, hown, hts⟩ hC (kX4_gear l D ad ca B ov N (xs (x4 + (1 : Int32) : Int32).toNatClampNeg) (xs (x4 + (2 : Int32) : Int32).toNatClampNeg) 0 M20 r25 M26 hq) (cwV 3 hts glX4_gear rfl rfl rfl (by decide +kernel) ⟨Nat.le_of_ble_eq_true rfl, Nat.le_of_ble_eq_true rfl⟩) (mg_recv (ci := 4) (C := RX4) (T := TX4) (N := 19) hC 16 (by decide) rfl rfl) rfl hl.1 rfl (Nat.le_of_ble_eq_true rfl) dL_law_338 ⟨Nat.le_of_lt hcl, Nat.le_trans (Nat.le_add_right sl 6) hsl⟩ (fun H locs hC => ?_)
      refine lv_icmp_eq (tgt := 956) hx hb dL_law_341 (by decide) (fun h27 => ?_) (fun h27 => ?_)
      · have hf := it_t h27 hf
        obtain ⟨z28, ez28⟩ : ∃ y : Int32, y = x4 + 6 := ⟨_, rfl⟩
        have hf := lq_k ez28 hf
        refine lv_iinc (v := z28) (lv' := [(4, .int z28), (0, .ref b), (1, .ref (ad 0)), (2, .ref (ad 16)), (3, .ref (ad 31))]) hx hb dL_law_956 hl (k := 4) rfl (by rw [ez28]; rfl) (by decide) rfl (fun ls hl => ?_)
        refine lv_goto (tgt := 33) hx hb dL_law_959 (by decide) ?_
        refine W.widen (k := cl + 1) (n := sl + 6) (Nat.le_succ _) (Nat.le_add_right _ _) ?_
        exact hk33 z28 M26 ov _ _ _ (lv_sub hl [1, 2, 3, 4, 0] rfl) hC hf
      · have hf := it_f h27 hf
        refine lv_iconst (v := 0) hx hb dL_law_344 (by decide) ?_
        exact absurd (Prod.mk.inj (Option.some.inj hf)).1 (by decide)
    · have hf := it_f h24 hf
      refine lv_iconst (v := 1) hx hb dL_law_333 (by decide) ?_
      refine lv_goto (tgt := 338) hx hb dL_law_334 (by decide) ?_
      obtain ⟨r29, M30, hq, hf⟩ := bd_s hf
      refine mc_Vi (As := [.int (xs (x4 + (1 : Int32) : Int32).toNatClampNeg), .int (xs (x4 + (2 : Int32) : Int32).toNatClampNeg), .int 1]) ⟨hx, hb, hml, hown, hts⟩ hC (kX4_gear l D ad ca B ov N (xs (x4 + (1 : Int32) : Int32).toNatClampNeg) (xs (x4 + (2 : Int32) : Int32).toNatClampNeg) 1 M20 r29 M30 hq) (cwV 3 hts glX4_gear rfl rfl rfl (by decide +kernel) ⟨Nat.le_of_ble_eq_true rfl, Nat.le_of_ble_eq_true rfl⟩) (mg_recv (ci := 4) (C := RX4) (T := TX4) (N := 19) hC 16 (by decide) rfl rfl) rfl hl.1 rfl (Nat.le_of_ble_eq_true rfl) dL_law_338 ⟨Nat.le_of_lt hcl, Nat.le_trans (Nat.le_add_right sl 6) hsl⟩ (fun H locs hC => ?_)
      refine lv_icmp_eq (tgt := 956) hx hb dL_law_341 (by decide) (fun h31 => ?_) (fun h31 => ?_)
      · have hf := it_t h31 hf
        obtain ⟨z32, ez32⟩ : ∃ y : Int32, y = x4 + 6 := ⟨_, rfl⟩
        have hf := lq_k ez32 hf
        refine lv_iinc (v := z32) (lv' := [(4, .int z32), (0, .ref b), (1, .ref (ad 0)), (2, .ref (ad 16)), (3, .ref (ad 31))]) hx hb dL_law_956 hl (k := 4) rfl (by rw [ez32]; rfl) (by decide) rfl (fun ls hl => ?_)
        refine lv_goto (tgt := 33) hx hb dL_law_959 (by decide) ?_
        refine W.widen (k := cl + 1) (n := sl + 6) (Nat.le_succ _) (Nat.le_add_right _ _) ?_
        exact hk33 z32 M30 ov _ _ _ (lv_sub hl [1, 2, 3, 4, 0] rfl) hC hf
      · have hf := it_f h31 hf
        refine lv_iconst (v := 0) hx hb dL_law_344 (by decide) ?_
        exact absurd (Prod.mk.inj (Option.some.inj hf)).1 (by decide)
set_option maxHeartbeats 8000000 in
set_option maxRecDepth 100000 in
theorem wL_346 {p : Program} {l : Launch} {e : Env} {s : State} {m : MethodId} {below : List Frame} {meth : Method} {c : Code} {D : va_G} {ad : Nat → Nat} {ca : Nat → ClassId} {B b L : Nat} {xs : Nat → Int32} {M0 : Mem} (hl9 : l.stackTraces = false) (C0 : lw_At p s m meth c b L xs) (Ev9 : Ev B s s.heap) (hbB : b < B) (N : Nat) (cl sl : Nat) (hcl : cl + 1 ≤ 667226) (hsl : sl + 6 ≤ 7094391) {k33 : Int32 → Mem → Int64 → Option (Int32 × Mem)}
    (hk33 : ∀ (x4 : Int32) (M : Mem) (ov : Int64) (H : Heap) (locs : List Loc) (ls : Array Slot), lv_has ls 8 [(0, .ref b), (1, .ref (ad 0)), (2, .ref (ad 16)), (3, .ref (ad 31)), (4, .int x4)] → Cu D ad ca B M ov s H locs → k33 x4 M ov = some (1, M0) → W p l e room_1 s m #[Value.ref b] below meth c H locs (cl + 1) (sl + 6) (lw_Z below #[Value.ref b] s) (F0 m 33 ls [])) :
    ∀ (x4 : Int32) (M : Mem) (ov : Int64) (H : Heap) (locs : List Loc) (ls : Array Slot), lv_has ls 8 [(0, .ref b), (1, .ref (ad 0)), (2, .ref (ad 16)), (3, .ref (ad 31)), (4, .int x4)] → Cu D ad ca B M ov s H locs → (fL_346 N L xs k33) x4 M ov = some (1, M0) → W p l e room_1 s m #[Value.ref b] below meth c H locs cl sl (lw_Z below #[Value.ref b] s) (F0 m 346 ls []) := by
  obtain ⟨hx, hb, hr, hml, hown, hts, hX, hbl, hlocks, hgv⟩ := id C0
  have hbA : ¬ Ab B b := Nat.not_le.mpr hbB
  intro x4 M ov H locs ls hl hC hf
  unfold fL_346 at hf
  refine lv_aload_n hx hb dL_law_346 rfl (lv_at hl 1 rfl) ?_
  refine lv_aload_n hx hb dL_law_347 rfl (lv_at hl 0 rfl) ?_
  refine lv_iload hx hb dL_law_348 (lv_at hl 4 rfl) ?_
  refine lv_iconst (v := 1) hx hb dL_law_350 (by decide) ?_
  refine lv_iadd hx hb dL_law_351 ?_
  obtain ⟨g1, hf⟩ := gd_s hf
  refine va_sld hx hb hX hbl hbA hC.2.2.2.1 g1 dL_law_352 ?_
  refine lv_aload_n hx hb dL_law_353 rfl (lv_at hl 0 rfl) ?_
  refine lv_iload hx hb dL_law_354 (lv_at hl 4 rfl) ?_
  refine lv_iconst (v := 2) hx hb dL_law_356 (by decide) ?_
  refine lv_iadd hx hb dL_law_357 ?_
  obtain ⟨g2, hf⟩ := gd_s hf
  refine va_sld hx hb hX hbl hbA hC.2.2.2.1 g2 dL_law_358 ?_
  refine lv_aload_n hx hb dL_law_359 rfl (lv_at hl 0 rfl) ?_
  refine lv_iload hx hb dL_law_360 (lv_at hl 4 rfl) ?_
  refine lv_iconst (v := 3) hx hb dL_law_362 (by decide) ?_
  refine lv_iadd hx hb dL_law_363 ?_
  obtain ⟨g3, hf⟩ := gd_s hf
  refine va_sld hx hb hX hbl hbA hC.2.2.2.1 g3 dL_law_364 ?_
  refine lv_if_eq (tgt := 372) hx hb dL_law_365 (by decide) (fun h4 => ?_) (fun h4 => ?_)
  · have hf := it_t h4 hf
    refine lv_iconst (v := 0) hx hb dL_law_372 (by decide) ?_
    obtain ⟨r5, M6, hq, hf⟩ := bd_s hf
    refine mc_Vi (As := [.int (xs (x4 + (1 : Int32) : Int32).toNatClampNeg), .int (xs (x4 + (2 : Int32) : Int32).toNatClampNeg), .int 0]) ⟨hx, hb, hml, hown, hts⟩ hC (kX3_wants l D ad ca B ov N (xs (x4 + (1 : Int32) : Int32).toNatClampNeg) (xs (x4 + (2 : Int32) : Int32).toNatClampNeg) 0 M r5 M6 hq) (cwV 3 hts glX3_wants rfl rfl rfl (by decide +kernel) ⟨Nat.le_of_ble_eq_true rfl, Nat.le_of_ble_eq_true rfl⟩) (mg_recv (ci := 3) (C := RX3) (T := TX3) (N := 5) hC 0 (by decide) rfl rfl) rfl hl.1 rfl (Nat.le_of_ble_eq_true rfl) dL_law_373 ⟨Nat.le_of_lt hcl, Nat.le_trans (Nat.le_add_right sl 6) hsl⟩ (fun H locs hC => ?_)
    refine lv_aload_n hx hb dL_law_376 rfl (lv_at hl 2 rfl) ?_
    refine lv_aload_n hx hb dL_law_377 rfl (lv_at hl 0 rfl) ?_
    refine lv_iload hx hb dL_law_378 (lv_at hl 4 rfl) ?_
    refine lv_iconst (v := 1) hx hb dL_law_380 (by decide) ?_
    refine lv_iadd hx hb dL_law_381 ?_
    obtain ⟨g7, hf⟩ := gd_s hf
    refine va_sld hx hb hX hbl hbA hC.2.2.2.1 g7 dL_law_382 ?_
    refine lv_aload_n hx hb dL_law_383 rfl (lv_at hl 0 rfl) ?_
    refine lv_iload hx hb dL_law_384 (lv_at hl 4 rfl) ?_
    refine lv_iconst (v := 2) hx hb dL_law_386 (by decide) ?_
    refine lv_iadd hx hb dL_law_387 ?_
    obtain ⟨g8, hf⟩ := gd_s hf
    refine va_sld hx hb hX hbl hbA hC.2.2.2.1 g8 dL_law_388 ?_
    refine lv_aload_n hx hb dL_law_389 rfl (lv_at hl 0 rfl) ?_
    refine lv_iload hx hb dL_law_390 (lv_at hl 4 rfl) ?_
    refine lv_iconst (v := 3) hx hb dL_law_392 (by decide) ?_
    refine lv_iadd hx hb dL_law_393 ?_
    obtain ⟨g9, hf⟩ := gd_s hf
    refine va_sld hx hb hX hbl hbA hC.2.2.2.1 g9 dL_law_394 ?_
    refine lv_if_eq (tgt := 402) hx hb dL_law_395 (by decide) (fun h10 => ?_) (fun h10 => ?_)
    · have hf := it_t h10 hf
      refine lv_iconst (v := 0) hx hb dL_law_402 (by decide) ?_
      obtain ⟨r11, M12, hq, hf⟩ := bd_s hf
      refine mc_Vi (As := [.int (xs (x4 + (1 : Int32) : Int32).toNatClampNeg), .int (xs (x4 + (2 : Int32) : Int32).toNatClampNeg), .int 0]) ⟨hx, hb, hml, hown, hts⟩ hC (kX4_wants l D ad ca B ov N (xs (x4 + (1 : Int32) : Int32).toNatClampNeg) (xs (x4 + (2 : Int32) : Int32).toNatClampNeg) 0 M6 r11 M12 hq) (cwV 3 hts glX4_wants rfl rfl rfl (by decide +kernel) ⟨Nat.le_of_ble_eq_true rfl, Nat.le_of_ble_eq_true rfl⟩) (mg_recv (ci := 4) (C := RX4) (T := TX4) (N := 19) hC 16 (by decide) rfl rfl) rfl hl.1 rfl (Nat.le_of_ble_eq_true rfl) dL_law_403 ⟨Nat.le_of_lt hcl, Nat.le_trans (Nat.le_add_right sl 6) hsl⟩ (fun H locs hC => ?_)
      refine lv_icmp_eq (tgt := 956) hx hb dL_law_406 (by decide) (fun h13 => ?_) (fun h13 => ?_)
      · have hf := it_t h13 hf
        obtain ⟨z14, ez14⟩ : ∃ y : Int32, y = x4 + 6 := ⟨_, rfl⟩
        have hf := lq_k ez14 hf
        refine lv_iinc (v := z14) (lv' := [(4, .int z14), (0, .ref b), (1, .ref (ad 0)), (2, .ref (ad 16)), (3, .ref (ad 31))]) hx hb dL_law_956 hl (k := 4) rfl (by rw [ez14]; rfl) (by decide) rfl (fun ls hl => ?_)
        refine lv_goto (tgt := 33) hx hb dL_law_959 (by decide) ?_
        refine W.widen (k := cl + 1) (n := sl + 6) (Nat.le_succ _) (Nat.le_add_right _ _) ?_
        exact hk33 z14 M12 ov _ _ _ (lv_sub hl [1, 2, 3, 4, 0] rfl) hC hf
      · have hf := it_f h13 hf
        refine lv_iconst (v := 0) hx hb dL_law_409 (by decide) ?_
        exact absurd (Prod.mk.inj (Option.some.inj hf)).1 (by decide)
    · have hf := it_f h10 hf
      refine lv_iconst (v := 1) hx hb dL_law_398 (by decide) ?_
      refine lv_goto (tgt := 403) hx hb dL_law_399 (by decide) ?_
      obtain ⟨r15, M16, hq, hf⟩ := bd_s hf
      refine mc_Vi (As := [.int (xs (x4 + (1 : Int32) : Int32).toNatClampNeg), .int (xs (x4 + (2 : Int32) : Int32).toNatClampNeg), .int 1]) ⟨hx, hb, hml, hown, hts⟩ hC (kX4_wants l D ad ca B ov N (xs (x4 + (1 : Int32) : Int32).toNatClampNeg) (xs (x4 + (2 : Int32) : Int32).toNatClampNeg) 1 M6 r15 M16 hq) (cwV 3 hts glX4_wants rfl rfl rfl (by decide +kernel) ⟨Nat.le_of_ble_eq_true rfl, Nat.le_of_ble_eq_true rfl⟩) (mg_recv (ci := 4) (C := RX4) (T := TX4) (N := 19) hC 16 (by decide) rfl rfl) rfl hl.1 rfl (Nat.le_of_ble_eq_true rfl) dL_law_403 ⟨Nat.le_of_lt hcl, Nat.le_trans (Nat.le_add_right sl 6) hsl⟩ (fun H locs hC => ?_)
      refine lv_icmp_eq (tgt := 956) hx hb dL_law_406 (by decide) (fun h17 => ?_) (fun h17 => ?_)
      · have hf := it_t h17 hf
        obtain ⟨z18, ez18⟩ : ∃ y : Int32, y = x4 + 6 := ⟨_, rfl⟩
        have hf := lq_k ez18 hf
        refine lv_iinc (v := z18) (lv' := [(4, .int z18), (0, .ref b), (1, .ref (ad 0)), (2, .ref (ad 16)), (3, .ref (ad 31))]) hx hb dL_law_956 hl (k := 4) rfl (by rw [ez18]; rfl) (by decide) rfl (fun ls hl => ?_)
        refine lv_goto (tgt := 33) hx hb dL_law_959 (by decide) ?_
        refine W.widen (k := cl + 1) (n := sl + 6) (Nat.le_succ _) (Nat.le_add_right _ _) ?_
        exact hk33 z18 M16 ov _ _ _ (lv_sub hl [1, 2, 3, 4, 0] rfl) hC hf
      · have hf := it_f h17 hf
        refine lv_iconst (v := 0) hx hb dL_law_409 (by decide) ?_
        exact absurd (Prod.mk.inj (Option.some.inj hf)).1 (by decide)
  · have hf := it_f h4 hf
    refine lv_iconst (v := 1) hx hb dL_law_368 (by decide) ?_
    refine lv_goto (tgt := 373) hx hb dL_law_369 (by decide) ?_
    obtain ⟨r19, M20, hq, hf⟩ := bd_s hf
    refine mc_Vi (As := [.int (xs (x4 + (1 : Int32) : Int32).toNatClampNeg), .int (xs (x4 + (2 : Int32) : Int32).toNatClampNeg), .int 1]) ⟨hx, hb, hml, hown, hts⟩ hC (kX3_wants l D ad ca B ov N (xs (x4 + (1 : Int32) : Int32).toNatClampNeg) (xs (x4 + (2 : Int32) : Int32).toNatClampNeg) 1 M r19 M20 hq) (cwV 3 hts glX3_wants rfl rfl rfl (by decide +kernel) ⟨Nat.le_of_ble_eq_true rfl, Nat.le_of_ble_eq_true rfl⟩) (mg_recv (ci := 3) (C := RX3) (T := TX3) (N := 5) hC 0 (by decide) rfl rfl) rfl hl.1 rfl (Nat.le_of_ble_eq_true rfl) dL_law_373 ⟨Nat.le_of_lt hcl, Nat.le_trans (Nat.le_add_right sl 6) hsl⟩ (fun H locs hC => ?_)
    refine lv_aload_n hx hb dL_law_376 rfl (lv_at hl 2 rfl) ?_
    refine lv_aload_n hx hb dL_law_377 rfl (lv_at hl 0 rfl) ?_
    refine lv_iload hx hb dL_law_378 (lv_at hl 4 rfl) ?_
    refine lv_iconst (v := 1) hx hb dL_law_380 (by decide) ?_
    refine lv_iadd hx hb dL_law_381 ?_
    obtain ⟨g21, hf⟩ := gd_s hf
    refine va_sld hx hb hX hbl hbA hC.2.2.2.1 g21 dL_law_382 ?_
    refine lv_aload_n hx hb dL_law_383 rfl (lv_at hl 0 rfl) ?_
    refine lv_iload hx hb dL_law_384 (lv_at hl 4 rfl) ?_
    refine lv_iconst (v := 2) hx hb dL_law_386 (by decide) ?_
    refine lv_iadd hx hb dL_law_387 ?_
    obtain ⟨g22, hf⟩ := gd_s hf
    refine va_sld hx hb hX hbl hbA hC.2.2.2.1 g22 dL_law_388 ?_
    refine lv_aload_n hx hb dL_law_389 rfl (lv_at hl 0 rfl) ?_
    refine lv_iload hx hb dL_law_390 (lv_at hl 4 rfl) ?_
    refine lv_iconst (v := 3) hx hb dL_law_392 (by decide) ?_
    refine lv_iadd hx hb dL_law_393 ?_
    obtain ⟨g23, hf⟩ := gd_s hf
    refine va_sld hx hb hX hbl hbA hC.2.2.2.1 g23 dL_law_394 ?_
    refine lv_if_eq (tgt := 402) hx hb dL_law_395 (by decide) (fun h24 => ?_) (fun h24 => ?_)
    · have hf := it_t h24 hf
      refine lv_iconst (v := 0) hx hb dL_law_402 (by decide) ?_
      obtain ⟨r25, M26, hq, hf⟩ := bd_s hf
      refine mc_Vi (As := [.int (xs (x4 + (1 : Int32) : Int32).toNatClampNeg), .int (xs (x4 + (2 : Int32) : Int32).toNatClampNeg), .int 0]) ⟨hx, hb, hml, hown, hts⟩ hC (kX4_wants l D ad ca B ov N (xs (x4 + (1 : Int32) : Int32).toNatClampNeg) (xs (x4 + (2 : Int32) : Int32).toNatClampNeg) 0 M20 r25 M26 hq) (cwV 3 hts glX4_wants rfl rfl rfl (by decide +kernel) ⟨Nat.le_of_ble_eq_true rfl, Nat.le_of_ble_eq_true rfl⟩) (mg_recv (ci := 4) (C := RX4) (T := TX4) (N := 19) hC 16 (by decide) rfl rfl) rfl hl.1 rfl (Nat.le_of_ble_eq_true rfl) dL_law_403 ⟨Nat.le_of_lt hcl, Nat.le_trans (Nat.le_add_right sl 6) hsl⟩ (fun H locs hC => ?_)
      refine lv_icmp_eq (tgt := 956) hx hb dL_law_406 (by decide) (fun h27 => ?_) (fun h27 => ?_)
      · have hf := it_t h27 hf
        obtain ⟨z28, ez28⟩ : ∃ y : Int32, y = x4 + 6 := ⟨_, rfl⟩
        have hf := lq_k ez28 hf
        refine lv_iinc (v := z28) (lv' := [(4, .int z28), (0, .ref b), (1, .ref (ad 0)), (2, .ref (ad 16)), (3, .ref (ad 31))]) hx hb dL_law_956 hl (k := 4) rfl (by rw [ez28]; rfl) (by decide) rfl (fun ls hl => ?_)
        refine lv_goto (tgt := 33) hx hb dL_law_959 (by decide) ?_
        refine W.widen (k := cl + 1) (n := sl + 6) (Nat.le_succ _) (Nat.le_add_right _ _) ?_
        exact hk33 z28 M26 ov _ _ _ (lv_sub hl [1, 2, 3, 4, 0] rfl) hC hf
      · have hf := it_f h27 hf
        refine lv_iconst (v := 0) hx hb dL_law_409 (by decide) ?_
        exact absurd (Prod.mk.inj (Option.some.inj hf)).1 (by decide)
    · have hf := it_f h24 hf
      refine lv_iconst (v := 1) hx hb dL_law_398 (by decide) ?_
      refine lv_goto (tgt := 403) hx hb dL_law_399 (by decide) ?_
      obtain ⟨r29, M30, hq, hf⟩ := bd_s hf
      refine mc_Vi (As := [.int (xs (x4 + (1 : Int32) : Int32).toNatClampNeg), .int (xs (x4 + (2 : Int32) : Int32).toNatClampNeg), .int 1]) ⟨hx, hb, hml, hown, hts⟩ hC (kX4_wants l D ad ca B ov N (xs (x4 + (1 : Int32) : Int32).toNatClampNeg) (xs (x4 + (2 : Int32) : Int32).toNatClampNeg) 1 M20 r29 M30 hq) (cwV 3 hts glX4_wants rfl rfl rfl (by decide +kernel) ⟨Nat.le_of_ble_eq_true rfl, Nat.le_of_ble_eq_true rfl⟩) (mg_recv (ci := 4) (C := RX4) (T := TX4) (N := 19) hC 16 (by decide) rfl rfl) rfl hl.1 rfl (Nat.le_of_ble_eq_true rfl) dL_law_403 ⟨Nat.le_of_lt hcl, Nat.le_trans (Nat.le_add_right sl 6) hsl⟩ (fun H locs hC => ?_)
      refine lv_icmp_eq (tgt := 956) hx hb dL_law_406 (by decide) (fun h31 => ?_) (fun h31 => ?_)
      · have hf := it_t h31 hf
        obtain ⟨z32, ez32⟩ : ∃ y : Int32, y = x4 + 6 := ⟨_, rfl⟩
        have hf := lq_k ez32 hf
        refine lv_iinc (v := z32) (lv' := [(4, .int z32), (0, .ref b), (1, .ref (ad 0)), (2, .ref (ad 16)), (3, .ref (ad 31))]) hx hb dL_law_956 hl (k := 4) rfl (by rw [ez32]; rfl) (by decide) rfl (fun ls hl => ?_)
        refine lv_goto (tgt := 33) hx hb dL_law_959 (by decide) ?_
        refine W.widen (k := cl + 1) (n := sl + 6) (Nat.le_succ _) (Nat.le_add_right _ _) ?_
        exact hk33 z32 M30 ov _ _ _ (lv_sub hl [1, 2, 3, 4, 0] rfl) hC hf
      · have hf := it_f h31 hf
        refine lv_iconst (v := 0) hx hb dL_law_409 (by decide) ?_
        exact absurd (Prod.mk.inj (Option.some.inj hf)).1 (by decide)
set_option maxHeartbeats 8000000 in
set_option maxRecDepth 100000 in
theorem wL_411 {p : Program} {l : Launch} {e : Env} {s : State} {m : MethodId} {below : List Frame} {meth : Method} {c : Code} {D : va_G} {ad : Nat → Nat} {ca : Nat → ClassId} {B b L : Nat} {xs : Nat → Int32} {M0 : Mem} (hl9 : l.stackTraces = false) (C0 : lw_At p s m meth c b L xs) (Ev9 : Ev B s s.heap) (hbB : b < B) (N : Nat) (cl sl : Nat) (hcl : cl + 1 ≤ 667226) (hsl : sl + 6 ≤ 7094391) {k33 : Int32 → Mem → Int64 → Option (Int32 × Mem)}
    (hk33 : ∀ (x4 : Int32) (M : Mem) (ov : Int64) (H : Heap) (locs : List Loc) (ls : Array Slot), lv_has ls 8 [(0, .ref b), (1, .ref (ad 0)), (2, .ref (ad 16)), (3, .ref (ad 31)), (4, .int x4)] → Cu D ad ca B M ov s H locs → k33 x4 M ov = some (1, M0) → W p l e room_1 s m #[Value.ref b] below meth c H locs (cl + 1) (sl + 6) (lw_Z below #[Value.ref b] s) (F0 m 33 ls [])) :
    ∀ (x4 : Int32) (M : Mem) (ov : Int64) (H : Heap) (locs : List Loc) (ls : Array Slot), lv_has ls 8 [(0, .ref b), (1, .ref (ad 0)), (2, .ref (ad 16)), (3, .ref (ad 31)), (4, .int x4)] → Cu D ad ca B M ov s H locs → (fL_411 N L xs k33) x4 M ov = some (1, M0) → W p l e room_1 s m #[Value.ref b] below meth c H locs cl sl (lw_Z below #[Value.ref b] s) (F0 m 411 ls []) := by
  obtain ⟨hx, hb, hr, hml, hown, hts, hX, hbl, hlocks, hgv⟩ := id C0
  have hbA : ¬ Ab B b := Nat.not_le.mpr hbB
  intro x4 M ov H locs ls hl hC hf
  unfold fL_411 at hf
  refine lv_aload_n hx hb dL_law_411 rfl (lv_at hl 1 rfl) ?_
  refine lv_aload_n hx hb dL_law_412 rfl (lv_at hl 0 rfl) ?_
  refine lv_iload hx hb dL_law_413 (lv_at hl 4 rfl) ?_
  refine lv_iconst (v := 1) hx hb dL_law_415 (by decide) ?_
  refine lv_iadd hx hb dL_law_416 ?_
  obtain ⟨g1, hf⟩ := gd_s hf
  refine va_sld hx hb hX hbl hbA hC.2.2.2.1 g1 dL_law_417 ?_
  refine lv_aload_n hx hb dL_law_418 rfl (lv_at hl 0 rfl) ?_
  refine lv_iload hx hb dL_law_419 (lv_at hl 4 rfl) ?_
  refine lv_iconst (v := 2) hx hb dL_law_421 (by decide) ?_
  refine lv_iadd hx hb dL_law_422 ?_
  obtain ⟨g2, hf⟩ := gd_s hf
  refine va_sld hx hb hX hbl hbA hC.2.2.2.1 g2 dL_law_423 ?_
  obtain ⟨r3, M4, hq, hf⟩ := bd_s hf
  refine mc_Vi (As := [.int (xs (x4 + (1 : Int32) : Int32).toNatClampNeg), .int (xs (x4 + (2 : Int32) : Int32).toNatClampNeg)]) ⟨hx, hb, hml, hown, hts⟩ hC (kX3_tide l D ad ca B ov N (xs (x4 + (1 : Int32) : Int32).toNatClampNeg) (xs (x4 + (2 : Int32) : Int32).toNatClampNeg) M r3 M4 hq) (cwV 2 hts glX3_tide rfl rfl rfl (by decide +kernel) ⟨Nat.le_of_ble_eq_true rfl, Nat.le_of_ble_eq_true rfl⟩) (mg_recv (ci := 3) (C := RX3) (T := TX3) (N := 5) hC 0 (by decide) rfl rfl) rfl hl.1 rfl (Nat.le_of_ble_eq_true rfl) dL_law_424 ⟨Nat.le_of_lt hcl, Nat.le_trans (Nat.le_add_right sl 6) hsl⟩ (fun H locs hC => ?_)
  refine lv_aload_n hx hb dL_law_427 rfl (lv_at hl 2 rfl) ?_
  refine lv_aload_n hx hb dL_law_428 rfl (lv_at hl 0 rfl) ?_
  refine lv_iload hx hb dL_law_429 (lv_at hl 4 rfl) ?_
  refine lv_iconst (v := 1) hx hb dL_law_431 (by decide) ?_
  refine lv_iadd hx hb dL_law_432 ?_
  obtain ⟨g5, hf⟩ := gd_s hf
  refine va_sld hx hb hX hbl hbA hC.2.2.2.1 g5 dL_law_433 ?_
  refine lv_aload_n hx hb dL_law_434 rfl (lv_at hl 0 rfl) ?_
  refine lv_iload hx hb dL_law_435 (lv_at hl 4 rfl) ?_
  refine lv_iconst (v := 2) hx hb dL_law_437 (by decide) ?_
  refine lv_iadd hx hb dL_law_438 ?_
  obtain ⟨g6, hf⟩ := gd_s hf
  refine va_sld hx hb hX hbl hbA hC.2.2.2.1 g6 dL_law_439 ?_
  obtain ⟨r7, M8, hq, hf⟩ := bd_s hf
  refine mc_Vi (As := [.int (xs (x4 + (1 : Int32) : Int32).toNatClampNeg), .int (xs (x4 + (2 : Int32) : Int32).toNatClampNeg)]) ⟨hx, hb, hml, hown, hts⟩ hC (kX4_tide l D ad ca B ov N (xs (x4 + (1 : Int32) : Int32).toNatClampNeg) (xs (x4 + (2 : Int32) : Int32).toNatClampNeg) M4 r7 M8 hq) (cwV 2 hts glX4_tide rfl rfl rfl (by decide +kernel) ⟨Nat.le_of_ble_eq_true rfl, Nat.le_of_ble_eq_true rfl⟩) (mg_recv (ci := 4) (C := RX4) (T := TX4) (N := 19) hC 16 (by decide) rfl rfl) rfl hl.1 rfl (Nat.le_of_ble_eq_true rfl) dL_law_440 ⟨Nat.le_of_lt hcl, Nat.le_trans (Nat.le_add_right sl 6) hsl⟩ (fun H locs hC => ?_)
  refine lv_icmp_eq (tgt := 956) hx hb dL_law_443 (by decide) (fun h9 => ?_) (fun h9 => ?_)
  · have hf := it_t h9 hf
    obtain ⟨z10, ez10⟩ : ∃ y : Int32, y = x4 + 6 := ⟨_, rfl⟩
    have hf := lq_k ez10 hf
    refine lv_iinc (v := z10) (lv' := [(4, .int z10), (0, .ref b), (1, .ref (ad 0)), (2, .ref (ad 16)), (3, .ref (ad 31))]) hx hb dL_law_956 hl (k := 4) rfl (by rw [ez10]; rfl) (by decide) rfl (fun ls hl => ?_)
    refine lv_goto (tgt := 33) hx hb dL_law_959 (by decide) ?_
    refine W.widen (k := cl + 1) (n := sl + 6) (Nat.le_succ _) (Nat.le_add_right _ _) ?_
    exact hk33 z10 M8 ov _ _ _ (lv_sub hl [1, 2, 3, 4, 0] rfl) hC hf
  · have hf := it_f h9 hf
    refine lv_iconst (v := 0) hx hb dL_law_446 (by decide) ?_
    exact absurd (Prod.mk.inj (Option.some.inj hf)).1 (by decide)
set_option maxHeartbeats 8000000 in
set_option maxRecDepth 100000 in
theorem wL_448 {p : Program} {l : Launch} {e : Env} {s : State} {m : MethodId} {below : List Frame} {meth : Method} {c : Code} {D : va_G} {ad : Nat → Nat} {ca : Nat → ClassId} {B b L : Nat} {xs : Nat → Int32} {M0 : Mem} (hl9 : l.stackTraces = false) (C0 : lw_At p s m meth c b L xs) (Ev9 : Ev B s s.heap) (hbB : b < B) (N : Nat) (cl sl : Nat) (hcl : cl + 1 ≤ 667226) (hsl : sl + 6 ≤ 7094391) {k33 : Int32 → Mem → Int64 → Option (Int32 × Mem)}
    (hk33 : ∀ (x4 : Int32) (M : Mem) (ov : Int64) (H : Heap) (locs : List Loc) (ls : Array Slot), lv_has ls 8 [(0, .ref b), (1, .ref (ad 0)), (2, .ref (ad 16)), (3, .ref (ad 31)), (4, .int x4)] → Cu D ad ca B M ov s H locs → k33 x4 M ov = some (1, M0) → W p l e room_1 s m #[Value.ref b] below meth c H locs (cl + 1) (sl + 6) (lw_Z below #[Value.ref b] s) (F0 m 33 ls [])) :
    ∀ (x4 : Int32) (M : Mem) (ov : Int64) (H : Heap) (locs : List Loc) (ls : Array Slot), lv_has ls 8 [(0, .ref b), (1, .ref (ad 0)), (2, .ref (ad 16)), (3, .ref (ad 31)), (4, .int x4)] → Cu D ad ca B M ov s H locs → (fL_448 N L xs k33) x4 M ov = some (1, M0) → W p l e room_1 s m #[Value.ref b] below meth c H locs cl sl (lw_Z below #[Value.ref b] s) (F0 m 448 ls []) := by
  obtain ⟨hx, hb, hr, hml, hown, hts, hX, hbl, hlocks, hgv⟩ := id C0
  have hbA : ¬ Ab B b := Nat.not_le.mpr hbB
  intro x4 M ov H locs ls hl hC hf
  unfold fL_448 at hf
  refine lv_aload_n hx hb dL_law_448 rfl (lv_at hl 1 rfl) ?_
  refine lv_aload_n hx hb dL_law_449 rfl (lv_at hl 0 rfl) ?_
  refine lv_iload hx hb dL_law_450 (lv_at hl 4 rfl) ?_
  refine lv_iconst (v := 1) hx hb dL_law_452 (by decide) ?_
  refine lv_iadd hx hb dL_law_453 ?_
  obtain ⟨g1, hf⟩ := gd_s hf
  refine va_sld hx hb hX hbl hbA hC.2.2.2.1 g1 dL_law_454 ?_
  refine lv_aload_n hx hb dL_law_455 rfl (lv_at hl 0 rfl) ?_
  refine lv_iload hx hb dL_law_456 (lv_at hl 4 rfl) ?_
  refine lv_iconst (v := 2) hx hb dL_law_458 (by decide) ?_
  refine lv_iadd hx hb dL_law_459 ?_
  obtain ⟨g2, hf⟩ := gd_s hf
  refine va_sld hx hb hX hbl hbA hC.2.2.2.1 g2 dL_law_460 ?_
  refine lv_aload_n hx hb dL_law_461 rfl (lv_at hl 0 rfl) ?_
  refine lv_iload hx hb dL_law_462 (lv_at hl 4 rfl) ?_
  refine lv_iconst (v := 3) hx hb dL_law_464 (by decide) ?_
  refine lv_iadd hx hb dL_law_465 ?_
  obtain ⟨g3, hf⟩ := gd_s hf
  refine va_sld hx hb hX hbl hbA hC.2.2.2.1 g3 dL_law_466 ?_
  obtain ⟨r4, M5, hq, hf⟩ := bd_s hf
  refine mc_Vi (As := [.int (xs (x4 + (1 : Int32) : Int32).toNatClampNeg), .int (xs (x4 + (2 : Int32) : Int32).toNatClampNeg), .int (xs (x4 + (3 : Int32) : Int32).toNatClampNeg)]) ⟨hx, hb, hml, hown, hts⟩ hC (kX3_fix l D ad ca B ov N (xs (x4 + (1 : Int32) : Int32).toNatClampNeg) (xs (x4 + (2 : Int32) : Int32).toNatClampNeg) (xs (x4 + (3 : Int32) : Int32).toNatClampNeg) M r4 M5 hq) (cwV 3 hts glX3_fix rfl rfl rfl (by decide +kernel) ⟨Nat.le_of_ble_eq_true rfl, Nat.le_of_ble_eq_true rfl⟩) (mg_recv (ci := 3) (C := RX3) (T := TX3) (N := 5) hC 0 (by decide) rfl rfl) rfl hl.1 rfl (Nat.le_of_ble_eq_true rfl) dL_law_467 ⟨Nat.le_of_lt hcl, Nat.le_trans (Nat.le_add_right sl 6) hsl⟩ (fun H locs hC => ?_)
  refine lv_aload_n hx hb dL_law_470 rfl (lv_at hl 2 rfl) ?_
  refine lv_aload_n hx hb dL_law_471 rfl (lv_at hl 0 rfl) ?_
  refine lv_iload hx hb dL_law_472 (lv_at hl 4 rfl) ?_
  refine lv_iconst (v := 1) hx hb dL_law_474 (by decide) ?_
  refine lv_iadd hx hb dL_law_475 ?_
  obtain ⟨g6, hf⟩ := gd_s hf
  refine va_sld hx hb hX hbl hbA hC.2.2.2.1 g6 dL_law_476 ?_
  refine lv_aload_n hx hb dL_law_477 rfl (lv_at hl 0 rfl) ?_
  refine lv_iload hx hb dL_law_478 (lv_at hl 4 rfl) ?_
  refine lv_iconst (v := 2) hx hb dL_law_480 (by decide) ?_
  refine lv_iadd hx hb dL_law_481 ?_
  obtain ⟨g7, hf⟩ := gd_s hf
  refine va_sld hx hb hX hbl hbA hC.2.2.2.1 g7 dL_law_482 ?_
  refine lv_aload_n hx hb dL_law_483 rfl (lv_at hl 0 rfl) ?_
  refine lv_iload hx hb dL_law_484 (lv_at hl 4 rfl) ?_
  refine lv_iconst (v := 3) hx hb dL_law_486 (by decide) ?_
  refine lv_iadd hx hb dL_law_487 ?_
  obtain ⟨g8, hf⟩ := gd_s hf
  refine va_sld hx hb hX hbl hbA hC.2.2.2.1 g8 dL_law_488 ?_
  obtain ⟨r9, M10, hq, hf⟩ := bd_s hf
  refine mc_Vi (As := [.int (xs (x4 + (1 : Int32) : Int32).toNatClampNeg), .int (xs (x4 + (2 : Int32) : Int32).toNatClampNeg), .int (xs (x4 + (3 : Int32) : Int32).toNatClampNeg)]) ⟨hx, hb, hml, hown, hts⟩ hC (kX4_fix l D ad ca B ov N (xs (x4 + (1 : Int32) : Int32).toNatClampNeg) (xs (x4 + (2 : Int32) : Int32).toNatClampNeg) (xs (x4 + (3 : Int32) : Int32).toNatClampNeg) M5 r9 M10 hq) (cwV 3 hts glX4_fix rfl rfl rfl (by decide +kernel) ⟨Nat.le_of_ble_eq_true rfl, Nat.le_of_ble_eq_true rfl⟩) (mg_recv (ci := 4) (C := RX4) (T := TX4) (N := 19) hC 16 (by decide) rfl rfl) rfl hl.1 rfl (Nat.le_of_ble_eq_true rfl) dL_law_489 ⟨Nat.le_of_lt hcl, Nat.le_trans (Nat.le_add_right sl 6) hsl⟩ (fun H locs hC => ?_)
  refine lv_icmp_eq (tgt := 956) hx hb dL_law_492 (by decide) (fun h11 => ?_) (fun h11 => ?_)
  · have hf := it_t h11 hf
    obtain ⟨z12, ez12⟩ : ∃ y : Int32, y = x4 + 6 := ⟨_, rfl⟩
    have hf := lq_k ez12 hf
    refine lv_iinc (v := z12) (lv' := [(4, .int z12), (0, .ref b), (1, .ref (ad 0)), (2, .ref (ad 16)), (3, .ref (ad 31))]) hx hb dL_law_956 hl (k := 4) rfl (by rw [ez12]; rfl) (by decide) rfl (fun ls hl => ?_)
    refine lv_goto (tgt := 33) hx hb dL_law_959 (by decide) ?_
    refine W.widen (k := cl + 1) (n := sl + 6) (Nat.le_succ _) (Nat.le_add_right _ _) ?_
    exact hk33 z12 M10 ov _ _ _ (lv_sub hl [1, 2, 3, 4, 0] rfl) hC hf
  · have hf := it_f h11 hf
    refine lv_iconst (v := 0) hx hb dL_law_495 (by decide) ?_
    exact absurd (Prod.mk.inj (Option.some.inj hf)).1 (by decide)
set_option maxHeartbeats 8000000 in
set_option maxRecDepth 100000 in
theorem wL_497 {p : Program} {l : Launch} {e : Env} {s : State} {m : MethodId} {below : List Frame} {meth : Method} {c : Code} {D : va_G} {ad : Nat → Nat} {ca : Nat → ClassId} {B b L : Nat} {xs : Nat → Int32} {M0 : Mem} (hl9 : l.stackTraces = false) (C0 : lw_At p s m meth c b L xs) (Ev9 : Ev B s s.heap) (hbB : b < B) (N : Nat) (cl sl : Nat) (hcl : cl + 1 ≤ 667226) (hsl : sl + 6 ≤ 7094391) {k33 : Int32 → Mem → Int64 → Option (Int32 × Mem)}
    (hk33 : ∀ (x4 : Int32) (M : Mem) (ov : Int64) (H : Heap) (locs : List Loc) (ls : Array Slot), lv_has ls 8 [(0, .ref b), (1, .ref (ad 0)), (2, .ref (ad 16)), (3, .ref (ad 31)), (4, .int x4)] → Cu D ad ca B M ov s H locs → k33 x4 M ov = some (1, M0) → W p l e room_1 s m #[Value.ref b] below meth c H locs (cl + 1) (sl + 6) (lw_Z below #[Value.ref b] s) (F0 m 33 ls [])) :
    ∀ (x4 : Int32) (M : Mem) (ov : Int64) (H : Heap) (locs : List Loc) (ls : Array Slot), lv_has ls 8 [(0, .ref b), (1, .ref (ad 0)), (2, .ref (ad 16)), (3, .ref (ad 31)), (4, .int x4)] → Cu D ad ca B M ov s H locs → (fL_497 N L xs k33) x4 M ov = some (1, M0) → W p l e room_1 s m #[Value.ref b] below meth c H locs cl sl (lw_Z below #[Value.ref b] s) (F0 m 497 ls []) := by
  obtain ⟨hx, hb, hr, hml, hown, hts, hX, hbl, hlocks, hgv⟩ := id C0
  have hbA : ¬ Ab B b := Nat.not_le.mpr hbB
  intro x4 M ov H locs ls hl hC hf
  unfold fL_497 at hf
  refine lv_aload_n hx hb dL_law_497 rfl (lv_at hl 1 rfl) ?_
  refine lv_aload_n hx hb dL_law_498 rfl (lv_at hl 0 rfl) ?_
  refine lv_iload hx hb dL_law_499 (lv_at hl 4 rfl) ?_
  refine lv_iconst (v := 1) hx hb dL_law_501 (by decide) ?_
  refine lv_iadd hx hb dL_law_502 ?_
  obtain ⟨g1, hf⟩ := gd_s hf
  refine va_sld hx hb hX hbl hbA hC.2.2.2.1 g1 dL_law_503 ?_
  obtain ⟨r2, M3, hq, hf⟩ := bd_s hf
  refine mc_Vi (As := [.int (xs (x4 + (1 : Int32) : Int32).toNatClampNeg)]) ⟨hx, hb, hml, hown, hts⟩ hC (kX3_free l D ad ca B ov N (xs (x4 + (1 : Int32) : Int32).toNatClampNeg) M r2 M3 hq) (cwV 1 hts glX3_free rfl rfl rfl (by decide +kernel) ⟨Nat.le_of_ble_eq_true rfl, Nat.le_of_ble_eq_true rfl⟩) (mg_recv (ci := 3) (C := RX3) (T := TX3) (N := 5) hC 0 (by decide) rfl rfl) rfl hl.1 rfl (Nat.le_of_ble_eq_true rfl) dL_law_504 ⟨Nat.le_of_lt hcl, Nat.le_trans (Nat.le_add_right sl 6) hsl⟩ (fun H locs hC => ?_)
  refine lv_aload_n hx hb dL_law_507 rfl (lv_at hl 2 rfl) ?_
  refine lv_aload_n hx hb dL_law_508 rfl (lv_at hl 0 rfl) ?_
  refine lv_iload hx hb dL_law_509 (lv_at hl 4 rfl) ?_
  refine lv_iconst (v := 1) hx hb dL_law_511 (by decide) ?_
  refine lv_iadd hx hb dL_law_512 ?_
  obtain ⟨g4, hf⟩ := gd_s hf
  refine va_sld hx hb hX hbl hbA hC.2.2.2.1 g4 dL_law_513 ?_
  obtain ⟨r5, M6, hq, hf⟩ := bd_s hf
  refine mc_Vi (As := [.int (xs (x4 + (1 : Int32) : Int32).toNatClampNeg)]) ⟨hx, hb, hml, hown, hts⟩ hC (kX4_free l D ad ca B ov N (xs (x4 + (1 : Int32) : Int32).toNatClampNeg) M3 r5 M6 hq) (cwV 1 hts glX4_free rfl rfl rfl (by decide +kernel) ⟨Nat.le_of_ble_eq_true rfl, Nat.le_of_ble_eq_true rfl⟩) (mg_recv (ci := 4) (C := RX4) (T := TX4) (N := 19) hC 16 (by decide) rfl rfl) rfl hl.1 rfl (Nat.le_of_ble_eq_true rfl) dL_law_514 ⟨Nat.le_of_lt hcl, Nat.le_trans (Nat.le_add_right sl 6) hsl⟩ (fun H locs hC => ?_)
  refine lv_icmp_eq (tgt := 956) hx hb dL_law_517 (by decide) (fun h7 => ?_) (fun h7 => ?_)
  · have hf := it_t h7 hf
    obtain ⟨z8, ez8⟩ : ∃ y : Int32, y = x4 + 6 := ⟨_, rfl⟩
    have hf := lq_k ez8 hf
    refine lv_iinc (v := z8) (lv' := [(4, .int z8), (0, .ref b), (1, .ref (ad 0)), (2, .ref (ad 16)), (3, .ref (ad 31))]) hx hb dL_law_956 hl (k := 4) rfl (by rw [ez8]; rfl) (by decide) rfl (fun ls hl => ?_)
    refine lv_goto (tgt := 33) hx hb dL_law_959 (by decide) ?_
    refine W.widen (k := cl + 1) (n := sl + 6) (Nat.le_succ _) (Nat.le_add_right _ _) ?_
    exact hk33 z8 M6 ov _ _ _ (lv_sub hl [1, 2, 3, 4, 0] rfl) hC hf
  · have hf := it_f h7 hf
    refine lv_iconst (v := 0) hx hb dL_law_520 (by decide) ?_
    exact absurd (Prod.mk.inj (Option.some.inj hf)).1 (by decide)
set_option maxHeartbeats 8000000 in
set_option maxRecDepth 100000 in
theorem wL_522 {p : Program} {l : Launch} {e : Env} {s : State} {m : MethodId} {below : List Frame} {meth : Method} {c : Code} {D : va_G} {ad : Nat → Nat} {ca : Nat → ClassId} {B b L : Nat} {xs : Nat → Int32} {M0 : Mem} (hl9 : l.stackTraces = false) (C0 : lw_At p s m meth c b L xs) (Ev9 : Ev B s s.heap) (hbB : b < B) (N : Nat) (cl sl : Nat) (hcl : cl + 1 ≤ 667226) (hsl : sl + 6 ≤ 7094391) {k33 : Int32 → Mem → Int64 → Option (Int32 × Mem)}
    (hk33 : ∀ (x4 : Int32) (M : Mem) (ov : Int64) (H : Heap) (locs : List Loc) (ls : Array Slot), lv_has ls 8 [(0, .ref b), (1, .ref (ad 0)), (2, .ref (ad 16)), (3, .ref (ad 31)), (4, .int x4)] → Cu D ad ca B M ov s H locs → k33 x4 M ov = some (1, M0) → W p l e room_1 s m #[Value.ref b] below meth c H locs (cl + 1) (sl + 6) (lw_Z below #[Value.ref b] s) (F0 m 33 ls [])) :
    ∀ (x4 : Int32) (M : Mem) (ov : Int64) (H : Heap) (locs : List Loc) (ls : Array Slot), lv_has ls 8 [(0, .ref b), (1, .ref (ad 0)), (2, .ref (ad 16)), (3, .ref (ad 31)), (4, .int x4)] → Cu D ad ca B M ov s H locs → (fL_522 N L xs k33) x4 M ov = some (1, M0) → W p l e room_1 s m #[Value.ref b] below meth c H locs cl sl (lw_Z below #[Value.ref b] s) (F0 m 522 ls []) := by
  obtain ⟨hx, hb, hr, hml, hown, hts, hX, hbl, hlocks, hgv⟩ := id C0
  have hbA : ¬ Ab B b := Nat.not_le.mpr hbB
  intro x4 M ov H locs ls hl hC hf
  unfold fL_522 at hf
  refine lv_aload_n hx hb dL_law_522 rfl (lv_at hl 1 rfl) ?_
  obtain ⟨r1, M2, hq, hf⟩ := bd_s hf
  refine mc_Vi (As := []) ⟨hx, hb, hml, hown, hts⟩ hC (kX3_solve l D ad ca B ov N M r1 M2 hq) (cwV 0 hts glX3_solve rfl rfl rfl (by decide +kernel) ⟨Nat.le_of_ble_eq_true rfl, Nat.le_of_ble_eq_true rfl⟩) (mg_recv (ci := 3) (C := RX3) (T := TX3) (N := 5) hC 0 (by decide) rfl rfl) rfl hl.1 rfl (Nat.le_of_ble_eq_true rfl) dL_law_523 ⟨Nat.le_of_lt hcl, Nat.le_trans (Nat.le_add_right sl 6) hsl⟩ (fun H locs hC => ?_)
  refine lv_aload_n hx hb dL_law_526 rfl (lv_at hl 2 rfl) ?_
  obtain ⟨r3, M4, hq, hf⟩ := bd_s hf
  refine mc_Vi (As := []) ⟨hx, hb, hml, hown, hts⟩ hC (kX4_solve l D ad ca B ov N M2 r3 M4 hq) (cwV 0 hts glX4_solve rfl rfl rfl (by decide +kernel) ⟨Nat.le_of_ble_eq_true rfl, Nat.le_of_ble_eq_true rfl⟩) (mg_recv (ci := 4) (C := RX4) (T := TX4) (N := 19) hC 16 (by decide) rfl rfl) rfl hl.1 rfl (Nat.le_of_ble_eq_true rfl) dL_law_527 ⟨Nat.le_of_lt hcl, Nat.le_trans (Nat.le_add_right sl 6) hsl⟩ (fun H locs hC => ?_)
  refine lv_icmp_eq (tgt := 956) hx hb dL_law_530 (by decide) (fun h5 => ?_) (fun h5 => ?_)
  · have hf := it_t h5 hf
    obtain ⟨z6, ez6⟩ : ∃ y : Int32, y = x4 + 6 := ⟨_, rfl⟩
    have hf := lq_k ez6 hf
    refine lv_iinc (v := z6) (lv' := [(4, .int z6), (0, .ref b), (1, .ref (ad 0)), (2, .ref (ad 16)), (3, .ref (ad 31))]) hx hb dL_law_956 hl (k := 4) rfl (by rw [ez6]; rfl) (by decide) rfl (fun ls hl => ?_)
    refine lv_goto (tgt := 33) hx hb dL_law_959 (by decide) ?_
    refine W.widen (k := cl + 1) (n := sl + 6) (Nat.le_succ _) (Nat.le_add_right _ _) ?_
    exact hk33 z6 M4 ov _ _ _ (lv_sub hl [1, 2, 3, 4, 0] rfl) hC hf
  · have hf := it_f h5 hf
    refine lv_iconst (v := 0) hx hb dL_law_533 (by decide) ?_
    exact absurd (Prod.mk.inj (Option.some.inj hf)).1 (by decide)
set_option maxHeartbeats 8000000 in
set_option maxRecDepth 100000 in
theorem wL_535 {p : Program} {l : Launch} {e : Env} {s : State} {m : MethodId} {below : List Frame} {meth : Method} {c : Code} {D : va_G} {ad : Nat → Nat} {ca : Nat → ClassId} {B b L : Nat} {xs : Nat → Int32} {M0 : Mem} (hl9 : l.stackTraces = false) (C0 : lw_At p s m meth c b L xs) (Ev9 : Ev B s s.heap) (hbB : b < B) (N : Nat) (cl sl : Nat) (hcl : cl + 1 ≤ 667226) (hsl : sl + 6 ≤ 7094391) {k33 : Int32 → Mem → Int64 → Option (Int32 × Mem)}
    (hk33 : ∀ (x4 : Int32) (M : Mem) (ov : Int64) (H : Heap) (locs : List Loc) (ls : Array Slot), lv_has ls 8 [(0, .ref b), (1, .ref (ad 0)), (2, .ref (ad 16)), (3, .ref (ad 31)), (4, .int x4)] → Cu D ad ca B M ov s H locs → k33 x4 M ov = some (1, M0) → W p l e room_1 s m #[Value.ref b] below meth c H locs (cl + 1) (sl + 6) (lw_Z below #[Value.ref b] s) (F0 m 33 ls [])) :
    ∀ (x4 : Int32) (M : Mem) (ov : Int64) (H : Heap) (locs : List Loc) (ls : Array Slot), lv_has ls 8 [(0, .ref b), (1, .ref (ad 0)), (2, .ref (ad 16)), (3, .ref (ad 31)), (4, .int x4)] → Cu D ad ca B M ov s H locs → (fL_535 N L xs k33) x4 M ov = some (1, M0) → W p l e room_1 s m #[Value.ref b] below meth c H locs cl sl (lw_Z below #[Value.ref b] s) (F0 m 535 ls []) := by
  obtain ⟨hx, hb, hr, hml, hown, hts, hX, hbl, hlocks, hgv⟩ := id C0
  have hbA : ¬ Ab B b := Nat.not_le.mpr hbB
  intro x4 M ov H locs ls hl hC hf
  unfold fL_535 at hf
  refine lv_aload_n hx hb dL_law_535 rfl (lv_at hl 1 rfl) ?_
  refine lv_aload_n hx hb dL_law_536 rfl (lv_at hl 0 rfl) ?_
  refine lv_iload hx hb dL_law_537 (lv_at hl 4 rfl) ?_
  refine lv_iconst (v := 1) hx hb dL_law_539 (by decide) ?_
  refine lv_iadd hx hb dL_law_540 ?_
  obtain ⟨g1, hf⟩ := gd_s hf
  refine va_sld hx hb hX hbl hbA hC.2.2.2.1 g1 dL_law_541 ?_
  refine lv_aload_n hx hb dL_law_542 rfl (lv_at hl 0 rfl) ?_
  refine lv_iload hx hb dL_law_543 (lv_at hl 4 rfl) ?_
  refine lv_iconst (v := 2) hx hb dL_law_545 (by decide) ?_
  refine lv_iadd hx hb dL_law_546 ?_
  obtain ⟨g2, hf⟩ := gd_s hf
  refine va_sld hx hb hX hbl hbA hC.2.2.2.1 g2 dL_law_547 ?_
  refine lv_aload_n hx hb dL_law_548 rfl (lv_at hl 3 rfl) ?_
  obtain ⟨r3, M4, hq, hf⟩ := bd_s hf
  obtain ⟨g5, hf⟩ := gp_s hf
  obtain ⟨z6, ez6⟩ : ∃ y : Int32, y = hcL_at r3.1 := ⟨_, rfl⟩
  have hf := lq_k ez6 hf
  obtain ⟨o7, eo7⟩ : ∃ y : Int64, y = if r3.1 = 0 then r3.2.toInt64 else ov := ⟨_, rfl⟩
  have hf := lq_k eo7 hf
  refine mc_H (As := [.ref (ad 0), .int (xs (x4 + (1 : Int32) : Int32).toNatClampNeg), .int (xs (x4 + (2 : Int32) : Int32).toNatClampNeg), .ref (ad 31)]) ⟨hx, hb, hml, hown, hts⟩ hC Ev9 (kL_at l D ad ca B ov N (xs (x4 + (1 : Int32) : Int32).toNatClampNeg) (xs (x4 + (2 : Int32) : Int32).toNatClampNeg) M r3.1 r3.2 M4 z6 o7 hl9 g5 ez6 eo7 hq) (vx_cwSW 4 hts glL_at rfl rfl rfl (by decide +kernel) ⟨Nat.le_of_ble_eq_true rfl, Nat.le_of_ble_eq_true rfl⟩) rfl hl.1 rfl (Nat.le_of_ble_eq_true rfl) dL_law_549 ⟨hcl, hsl⟩ (fun H locs hC => ?_)
  refine lv_istore (lv' := [(5, .int z6), (0, .ref b), (1, .ref (ad 0)), (2, .ref (ad 16)), (3, .ref (ad 31)), (4, .int x4)]) hx hb dL_law_552 hl (by decide) rfl (fun ls hl => ?_)
  refine lv_aload_n hx hb dL_law_554 rfl (lv_at hl 3 rfl) ?_
  refine lv_aload_n hx hb dL_law_555 rfl (lv_at hl 1 rfl) ?_
  refine lv_iload hx hb dL_law_556 (lv_at hl 5 rfl) ?_
  refine lv_iconst (v := 1) hx hb dL_law_558 (by decide) ?_
  refine lv_iadd hx hb dL_law_559 ?_
  obtain ⟨g8, hf⟩ := gd_s hf
  refine va_sld hx hb hX hbl hbA hC.2.2.2.1 g8 dL_law_560 ?_
  refine lv_aload_n hx hb dL_law_561 rfl (lv_at hl 1 rfl) ?_
  refine lv_iload hx hb dL_law_562 (lv_at hl 5 rfl) ?_
  refine lv_iconst (v := 2) hx hb dL_law_564 (by decide) ?_
  refine lv_iadd hx hb dL_law_565 ?_
  obtain ⟨g9, hf⟩ := gd_s hf
  refine va_sld hx hb hX hbl hbA hC.2.2.2.1 g9 dL_law_566 ?_
  obtain ⟨r10, M11, hq, hf⟩ := bd_s hf
  refine mc_Vi (As := [.int (xs (x4 + (1 : Int32) : Int32).toNatClampNeg), .int (xs (x4 + (2 : Int32) : Int32).toNatClampNeg)]) ⟨hx, hb, hml, hown, hts⟩ hC (kX4_at l D ad ca B o7 N (xs (x4 + (1 : Int32) : Int32).toNatClampNeg) (xs (x4 + (2 : Int32) : Int32).toNatClampNeg) M4 r10 M11 hq) (cwV 2 hts glX4_at rfl rfl rfl (by decide +kernel) ⟨Nat.le_of_ble_eq_true rfl, Nat.le_of_ble_eq_true rfl⟩) (mg_recv (ci := 4) (C := RX4) (T := TX4) (N := 19) hC 16 (by decide) rfl rfl) rfl hl.1 rfl (Nat.le_of_ble_eq_true rfl) dL_law_567 ⟨hcl, hsl⟩ (fun H locs hC => ?_)
  refine lv_istore (lv' := [(6, .int r10), (5, .int z6), (0, .ref b), (1, .ref (ad 0)), (2, .ref (ad 16)), (3, .ref (ad 31)), (4, .int x4)]) hx hb dL_law_570 hl (by decide) rfl (fun ls hl => ?_)
  refine lv_aload_n hx hb dL_law_572 rfl (lv_at hl 4 rfl) ?_
  obtain ⟨r12, M13, hq, hf⟩ := bd_s hf
  refine mc_Vi (As := []) ⟨hx, hb, hml, hown, hts⟩ hC (kX4_thrown l D ad ca B o7 N M11 r12 M13 hq) (cwV 0 hts glX4_thrown rfl rfl rfl (by decide +kernel) ⟨Nat.le_of_ble_eq_true rfl, Nat.le_of_ble_eq_true rfl⟩) (mg_recv (ci := 4) (C := RX4) (T := TX4) (N := 19) hC 16 (by decide) rfl rfl) rfl hl.1 rfl (Nat.le_of_ble_eq_true rfl) dL_law_573 ⟨hcl, hsl⟩ (fun H locs hC => ?_)
  refine lv_iload hx hb dL_law_576 (lv_at hl 1 rfl) ?_
  refine lv_icmp_eq (tgt := 583) hx hb dL_law_578 (by decide) (fun h14 => ?_) (fun h14 => ?_)
  · have hf := it_t h14 hf
    refine lv_iload hx hb dL_law_583 (lv_at hl 1 rfl) ?_
    refine lv_if_ne (tgt := 600) hx hb dL_law_585 (by decide) (fun h15 => ?_) (fun h15 => ?_)
    · have hf := it_f h15 hf
      refine lv_goto (tgt := 956) hx hb dL_law_600 (by decide) ?_
      obtain ⟨z16, ez16⟩ : ∃ y : Int32, y = x4 + 6 := ⟨_, rfl⟩
      have hf := lq_k ez16 hf
      refine lv_iinc (v := z16) (lv' := [(4, .int z16), (6, .int r10), (5, .int z6), (0, .ref b), (1, .ref (ad 0)), (2, .ref (ad 16)), (3, .ref (ad 31))]) hx hb dL_law_956 hl (k := 6) rfl (by rw [ez16]; rfl) (by decide) rfl (fun ls hl => ?_)
      refine lv_goto (tgt := 33) hx hb dL_law_959 (by decide) ?_
      exact hk33 z16 M13 o7 _ _ _ (lv_sub hl [3, 4, 5, 6, 0] rfl) hC hf
    · have hf := it_t h15 hf
      refine lv_aload_n hx hb dL_law_588 rfl (lv_at hl 5 rfl) ?_
      refine lv_iconst (v := 0) hx hb dL_law_589 (by decide) ?_
      refine mg_lald hx hb hC dL_law_590 ?_
      refine lv_iload hx hb dL_law_591 (lv_at hl 0 rfl) ?_
      refine lv_i2l (v := (r10 : Int32).toInt64) hx hb dL_law_593 rfl ?_
      refine W.lcmp hx hb dL_law_594 ?_
      refine lv_if_eq (tgt := 600) hx hb dL_law_595 (by decide) (fun h17 => ?_) (fun h17 => ?_)
      · have hf := it_t h17 hf
        refine lv_goto (tgt := 956) hx hb dL_law_600 (by decide) ?_
        obtain ⟨z18, ez18⟩ : ∃ y : Int32, y = x4 + 6 := ⟨_, rfl⟩
        have hf := lq_k ez18 hf
        refine lv_iinc (v := z18) (lv' := [(4, .int z18), (6, .int r10), (5, .int z6), (0, .ref b), (1, .ref (ad 0)), (2, .ref (ad 16)), (3, .ref (ad 31))]) hx hb dL_law_956 hl (k := 6) rfl (by rw [ez18]; rfl) (by decide) rfl (fun ls hl => ?_)
        refine lv_goto (tgt := 33) hx hb dL_law_959 (by decide) ?_
        exact hk33 z18 M13 o7 _ _ _ (lv_sub hl [3, 4, 5, 6, 0] rfl) hC hf
      · have hf := it_f h17 hf
        refine lv_iconst (v := 0) hx hb dL_law_598 (by decide) ?_
        exact absurd (Prod.mk.inj (Option.some.inj hf)).1 (by decide)
  · have hf := it_f h14 hf
    refine lv_iconst (v := 0) hx hb dL_law_581 (by decide) ?_
    exact absurd (Prod.mk.inj (Option.some.inj hf)).1 (by decide)
set_option maxHeartbeats 8000000 in
set_option maxRecDepth 100000 in
theorem wL_603 {p : Program} {l : Launch} {e : Env} {s : State} {m : MethodId} {below : List Frame} {meth : Method} {c : Code} {D : va_G} {ad : Nat → Nat} {ca : Nat → ClassId} {B b L : Nat} {xs : Nat → Int32} {M0 : Mem} (hl9 : l.stackTraces = false) (C0 : lw_At p s m meth c b L xs) (Ev9 : Ev B s s.heap) (hbB : b < B) (N : Nat) (cl sl : Nat) (hcl : cl + 1 ≤ 667226) (hsl : sl + 6 ≤ 7094391) {k33 : Int32 → Mem → Int64 → Option (Int32 × Mem)}
    (hk33 : ∀ (x4 : Int32) (M : Mem) (ov : Int64) (H : Heap) (locs : List Loc) (ls : Array Slot), lv_has ls 8 [(0, .ref b), (1, .ref (ad 0)), (2, .ref (ad 16)), (3, .ref (ad 31)), (4, .int x4)] → Cu D ad ca B M ov s H locs → k33 x4 M ov = some (1, M0) → W p l e room_1 s m #[Value.ref b] below meth c H locs (cl + 1) (sl + 6) (lw_Z below #[Value.ref b] s) (F0 m 33 ls [])) :
    ∀ (x4 : Int32) (M : Mem) (ov : Int64) (H : Heap) (locs : List Loc) (ls : Array Slot), lv_has ls 8 [(0, .ref b), (1, .ref (ad 0)), (2, .ref (ad 16)), (3, .ref (ad 31)), (4, .int x4)] → Cu D ad ca B M ov s H locs → (fL_603 N L xs k33) x4 M ov = some (1, M0) → W p l e room_1 s m #[Value.ref b] below meth c H locs cl sl (lw_Z below #[Value.ref b] s) (F0 m 603 ls []) := by
  obtain ⟨hx, hb, hr, hml, hown, hts, hX, hbl, hlocks, hgv⟩ := id C0
  have hbA : ¬ Ab B b := Nat.not_le.mpr hbB
  intro x4 M ov H locs ls hl hC hf
  unfold fL_603 at hf
  refine lv_aload_n hx hb dL_law_603 rfl (lv_at hl 1 rfl) ?_
  refine lv_aload_n hx hb dL_law_604 rfl (lv_at hl 3 rfl) ?_
  obtain ⟨r1, M2, hq, hf⟩ := bd_s hf
  obtain ⟨g3, hf⟩ := gp_s hf
  obtain ⟨z4, ez4⟩ : ∃ y : Int32, y = hcL_lateness r1.1 := ⟨_, rfl⟩
  have hf := lq_k ez4 hf
  obtain ⟨o5, eo5⟩ : ∃ y : Int64, y = if r1.1 = 0 then r1.2.toInt64 else ov := ⟨_, rfl⟩
  have hf := lq_k eo5 hf
  refine mc_H (As := [.ref (ad 0), .ref (ad 31)]) ⟨hx, hb, hml, hown, hts⟩ hC Ev9 (kL_lateness l D ad ca B ov N M r1.1 r1.2 M2 z4 o5 hl9 g3 ez4 eo5 hq) (vx_cwSW 2 hts glL_lateness rfl rfl rfl (by decide +kernel) ⟨Nat.le_of_ble_eq_true rfl, Nat.le_of_ble_eq_true rfl⟩) rfl hl.1 rfl (Nat.le_of_ble_eq_true rfl) dL_law_605 ⟨hcl, hsl⟩ (fun H locs hC => ?_)
  refine lv_istore (lv' := [(5, .int z4), (0, .ref b), (1, .ref (ad 0)), (2, .ref (ad 16)), (3, .ref (ad 31)), (4, .int x4)]) hx hb dL_law_608 hl (by decide) rfl (fun ls hl => ?_)
  refine lv_aload_n hx hb dL_law_610 rfl (lv_at hl 3 rfl) ?_
  obtain ⟨r6, M7, hq, hf⟩ := bd_s hf
  refine mc_Vi (As := []) ⟨hx, hb, hml, hown, hts⟩ hC (kX4_lateness l D ad ca B o5 N M2 r6 M7 hq) (cwV 0 hts glX4_lateness rfl rfl rfl (by decide +kernel) ⟨Nat.le_of_ble_eq_true rfl, Nat.le_of_ble_eq_true rfl⟩) (mg_recv (ci := 4) (C := RX4) (T := TX4) (N := 19) hC 16 (by decide) rfl rfl) rfl hl.1 rfl (Nat.le_of_ble_eq_true rfl) dL_law_611 ⟨hcl, hsl⟩ (fun H locs hC => ?_)
  refine lv_istore (lv' := [(6, .int r6), (5, .int z4), (0, .ref b), (1, .ref (ad 0)), (2, .ref (ad 16)), (3, .ref (ad 31)), (4, .int x4)]) hx hb dL_law_614 hl (by decide) rfl (fun ls hl => ?_)
  refine lv_aload_n hx hb dL_law_616 rfl (lv_at hl 4 rfl) ?_
  obtain ⟨r8, M9, hq, hf⟩ := bd_s hf
  refine mc_Vi (As := []) ⟨hx, hb, hml, hown, hts⟩ hC (kX4_thrown l D ad ca B o5 N M7 r8 M9 hq) (cwV 0 hts glX4_thrown rfl rfl rfl (by decide +kernel) ⟨Nat.le_of_ble_eq_true rfl, Nat.le_of_ble_eq_true rfl⟩) (mg_recv (ci := 4) (C := RX4) (T := TX4) (N := 19) hC 16 (by decide) rfl rfl) rfl hl.1 rfl (Nat.le_of_ble_eq_true rfl) dL_law_617 ⟨hcl, hsl⟩ (fun H locs hC => ?_)
  refine lv_iload hx hb dL_law_620 (lv_at hl 1 rfl) ?_
  refine lv_icmp_eq (tgt := 627) hx hb dL_law_622 (by decide) (fun h10 => ?_) (fun h10 => ?_)
  · have hf := it_t h10 hf
    refine lv_iload hx hb dL_law_627 (lv_at hl 1 rfl) ?_
    refine lv_if_ne (tgt := 644) hx hb dL_law_629 (by decide) (fun h11 => ?_) (fun h11 => ?_)
    · have hf := it_f h11 hf
      refine lv_goto (tgt := 956) hx hb dL_law_644 (by decide) ?_
      obtain ⟨z12, ez12⟩ : ∃ y : Int32, y = x4 + 6 := ⟨_, rfl⟩
      have hf := lq_k ez12 hf
      refine lv_iinc (v := z12) (lv' := [(4, .int z12), (6, .int r6), (5, .int z4), (0, .ref b), (1, .ref (ad 0)), (2, .ref (ad 16)), (3, .ref (ad 31))]) hx hb dL_law_956 hl (k := 6) rfl (by rw [ez12]; rfl) (by decide) rfl (fun ls hl => ?_)
      refine lv_goto (tgt := 33) hx hb dL_law_959 (by decide) ?_
      exact hk33 z12 M9 o5 _ _ _ (lv_sub hl [3, 4, 5, 6, 0] rfl) hC hf
    · have hf := it_t h11 hf
      refine lv_aload_n hx hb dL_law_632 rfl (lv_at hl 5 rfl) ?_
      refine lv_iconst (v := 0) hx hb dL_law_633 (by decide) ?_
      refine mg_lald hx hb hC dL_law_634 ?_
      refine lv_iload hx hb dL_law_635 (lv_at hl 0 rfl) ?_
      refine lv_i2l (v := (r6 : Int32).toInt64) hx hb dL_law_637 rfl ?_
      refine W.lcmp hx hb dL_law_638 ?_
      refine lv_if_eq (tgt := 644) hx hb dL_law_639 (by decide) (fun h13 => ?_) (fun h13 => ?_)
      · have hf := it_t h13 hf
        refine lv_goto (tgt := 956) hx hb dL_law_644 (by decide) ?_
        obtain ⟨z14, ez14⟩ : ∃ y : Int32, y = x4 + 6 := ⟨_, rfl⟩
        have hf := lq_k ez14 hf
        refine lv_iinc (v := z14) (lv' := [(4, .int z14), (6, .int r6), (5, .int z4), (0, .ref b), (1, .ref (ad 0)), (2, .ref (ad 16)), (3, .ref (ad 31))]) hx hb dL_law_956 hl (k := 6) rfl (by rw [ez14]; rfl) (by decide) rfl (fun ls hl => ?_)
        refine lv_goto (tgt := 33) hx hb dL_law_959 (by decide) ?_
        exact hk33 z14 M9 o5 _ _ _ (lv_sub hl [3, 4, 5, 6, 0] rfl) hC hf
      · have hf := it_f h13 hf
        refine lv_iconst (v := 0) hx hb dL_law_642 (by decide) ?_
        exact absurd (Prod.mk.inj (Option.some.inj hf)).1 (by decide)
  · have hf := it_f h10 hf
    refine lv_iconst (v := 0) hx hb dL_law_625 (by decide) ?_
    exact absurd (Prod.mk.inj (Option.some.inj hf)).1 (by decide)
set_option maxHeartbeats 8000000 in
set_option maxRecDepth 100000 in
theorem wL_647 {p : Program} {l : Launch} {e : Env} {s : State} {m : MethodId} {below : List Frame} {meth : Method} {c : Code} {D : va_G} {ad : Nat → Nat} {ca : Nat → ClassId} {B b L : Nat} {xs : Nat → Int32} {M0 : Mem} (hl9 : l.stackTraces = false) (C0 : lw_At p s m meth c b L xs) (Ev9 : Ev B s s.heap) (hbB : b < B) (N : Nat) (cl sl : Nat) (hcl : cl + 1 ≤ 667226) (hsl : sl + 6 ≤ 7094391) {k33 : Int32 → Mem → Int64 → Option (Int32 × Mem)}
    (hk33 : ∀ (x4 : Int32) (M : Mem) (ov : Int64) (H : Heap) (locs : List Loc) (ls : Array Slot), lv_has ls 8 [(0, .ref b), (1, .ref (ad 0)), (2, .ref (ad 16)), (3, .ref (ad 31)), (4, .int x4)] → Cu D ad ca B M ov s H locs → k33 x4 M ov = some (1, M0) → W p l e room_1 s m #[Value.ref b] below meth c H locs (cl + 1) (sl + 6) (lw_Z below #[Value.ref b] s) (F0 m 33 ls [])) :
    ∀ (x4 : Int32) (M : Mem) (ov : Int64) (H : Heap) (locs : List Loc) (ls : Array Slot), lv_has ls 8 [(0, .ref b), (1, .ref (ad 0)), (2, .ref (ad 16)), (3, .ref (ad 31)), (4, .int x4)] → Cu D ad ca B M ov s H locs → (fL_647 N L xs k33) x4 M ov = some (1, M0) → W p l e room_1 s m #[Value.ref b] below meth c H locs cl sl (lw_Z below #[Value.ref b] s) (F0 m 647 ls []) := by
  obtain ⟨hx, hb, hr, hml, hown, hts, hX, hbl, hlocks, hgv⟩ := id C0
  have hbA : ¬ Ab B b := Nat.not_le.mpr hbB
  intro x4 M ov H locs ls hl hC hf
  unfold fL_647 at hf
  refine lv_aload_n hx hb dL_law_647 rfl (lv_at hl 1 rfl) ?_
  obtain ⟨r1, M2, hq, hf⟩ := bd_s hf
  refine mc_Vi (As := []) ⟨hx, hb, hml, hown, hts⟩ hC (kX3_bound l D ad ca B ov N M r1 M2 hq) (cwV 0 hts glX3_bound rfl rfl rfl (by decide +kernel) ⟨Nat.le_of_ble_eq_true rfl, Nat.le_of_ble_eq_true rfl⟩) (mg_recv (ci := 3) (C := RX3) (T := TX3) (N := 5) hC 0 (by decide) rfl rfl) rfl hl.1 rfl (Nat.le_of_ble_eq_true rfl) dL_law_648 ⟨Nat.le_of_lt hcl, Nat.le_trans (Nat.le_add_right sl 6) hsl⟩ (fun H locs hC => ?_)
  refine lv_aload_n hx hb dL_law_651 rfl (lv_at hl 2 rfl) ?_
  obtain ⟨r3, M4, hq, hf⟩ := bd_s hf
  refine mc_Vi (As := []) ⟨hx, hb, hml, hown, hts⟩ hC (kX4_bound l D ad ca B ov N M2 r3 M4 hq) (cwV 0 hts glX4_bound rfl rfl rfl (by decide +kernel) ⟨Nat.le_of_ble_eq_true rfl, Nat.le_of_ble_eq_true rfl⟩) (mg_recv (ci := 4) (C := RX4) (T := TX4) (N := 19) hC 16 (by decide) rfl rfl) rfl hl.1 rfl (Nat.le_of_ble_eq_true rfl) dL_law_652 ⟨Nat.le_of_lt hcl, Nat.le_trans (Nat.le_add_right sl 6) hsl⟩ (fun H locs hC => ?_)
  refine lv_icmp_eq (tgt := 956) hx hb dL_law_655 (by decide) (fun h5 => ?_) (fun h5 => ?_)
  · have hf := it_t h5 hf
    obtain ⟨z6, ez6⟩ : ∃ y : Int32, y = x4 + 6 := ⟨_, rfl⟩
    have hf := lq_k ez6 hf
    refine lv_iinc (v := z6) (lv' := [(4, .int z6), (0, .ref b), (1, .ref (ad 0)), (2, .ref (ad 16)), (3, .ref (ad 31))]) hx hb dL_law_956 hl (k := 4) rfl (by rw [ez6]; rfl) (by decide) rfl (fun ls hl => ?_)
    refine lv_goto (tgt := 33) hx hb dL_law_959 (by decide) ?_
    refine W.widen (k := cl + 1) (n := sl + 6) (Nat.le_succ _) (Nat.le_add_right _ _) ?_
    exact hk33 z6 M4 ov _ _ _ (lv_sub hl [1, 2, 3, 4, 0] rfl) hC hf
  · have hf := it_f h5 hf
    refine lv_iconst (v := 0) hx hb dL_law_658 (by decide) ?_
    exact absurd (Prod.mk.inj (Option.some.inj hf)).1 (by decide)
set_option maxHeartbeats 8000000 in
set_option maxRecDepth 100000 in
theorem wL_660 {p : Program} {l : Launch} {e : Env} {s : State} {m : MethodId} {below : List Frame} {meth : Method} {c : Code} {D : va_G} {ad : Nat → Nat} {ca : Nat → ClassId} {B b L : Nat} {xs : Nat → Int32} {M0 : Mem} (hl9 : l.stackTraces = false) (C0 : lw_At p s m meth c b L xs) (Ev9 : Ev B s s.heap) (hbB : b < B) (N : Nat) (cl sl : Nat) (hcl : cl + 1 ≤ 667226) (hsl : sl + 6 ≤ 7094391) {k33 : Int32 → Mem → Int64 → Option (Int32 × Mem)}
    (hk33 : ∀ (x4 : Int32) (M : Mem) (ov : Int64) (H : Heap) (locs : List Loc) (ls : Array Slot), lv_has ls 8 [(0, .ref b), (1, .ref (ad 0)), (2, .ref (ad 16)), (3, .ref (ad 31)), (4, .int x4)] → Cu D ad ca B M ov s H locs → k33 x4 M ov = some (1, M0) → W p l e room_1 s m #[Value.ref b] below meth c H locs (cl + 1) (sl + 6) (lw_Z below #[Value.ref b] s) (F0 m 33 ls [])) :
    ∀ (x4 : Int32) (M : Mem) (ov : Int64) (H : Heap) (locs : List Loc) (ls : Array Slot), lv_has ls 8 [(0, .ref b), (1, .ref (ad 0)), (2, .ref (ad 16)), (3, .ref (ad 31)), (4, .int x4)] → Cu D ad ca B M ov s H locs → (fL_660 N L xs k33) x4 M ov = some (1, M0) → W p l e room_1 s m #[Value.ref b] below meth c H locs cl sl (lw_Z below #[Value.ref b] s) (F0 m 660 ls []) := by
  obtain ⟨hx, hb, hr, hml, hown, hts, hX, hbl, hlocks, hgv⟩ := id C0
  have hbA : ¬ Ab B b := Nat.not_le.mpr hbB
  intro x4 M ov H locs ls hl hC hf
  unfold fL_660 at hf
  refine lv_aload_n hx hb dL_law_660 rfl (lv_at hl 1 rfl) ?_
  refine lv_aload_n hx hb dL_law_661 rfl (lv_at hl 0 rfl) ?_
  refine lv_iload hx hb dL_law_662 (lv_at hl 4 rfl) ?_
  refine lv_iconst (v := 1) hx hb dL_law_664 (by decide) ?_
  refine lv_iadd hx hb dL_law_665 ?_
  obtain ⟨g1, hf⟩ := gd_s hf
  refine va_sld hx hb hX hbl hbA hC.2.2.2.1 g1 dL_law_666 ?_
  refine lv_aload_n hx hb dL_law_667 rfl (lv_at hl 3 rfl) ?_
  obtain ⟨r2, M3, hq, hf⟩ := bd_s hf
  obtain ⟨g4, hf⟩ := gp_s hf
  obtain ⟨z5, ez5⟩ : ∃ y : Int32, y = hcL_why r2.1 := ⟨_, rfl⟩
  have hf := lq_k ez5 hf
  obtain ⟨o6, eo6⟩ : ∃ y : Int64, y = if r2.1 = 0 then r2.2.toInt64 else ov := ⟨_, rfl⟩
  have hf := lq_k eo6 hf
  refine mc_H (As := [.ref (ad 0), .int (xs (x4 + (1 : Int32) : Int32).toNatClampNeg), .ref (ad 31)]) ⟨hx, hb, hml, hown, hts⟩ hC Ev9 (kL_why l D ad ca B ov N (xs (x4 + (1 : Int32) : Int32).toNatClampNeg) M r2.1 r2.2 M3 z5 o6 hl9 g4 ez5 eo6 hq) (vx_cwSW 3 hts glL_why rfl rfl rfl (by decide +kernel) ⟨Nat.le_of_ble_eq_true rfl, Nat.le_of_ble_eq_true rfl⟩) rfl hl.1 rfl (Nat.le_of_ble_eq_true rfl) dL_law_668 ⟨hcl, hsl⟩ (fun H locs hC => ?_)
  refine lv_istore (lv' := [(5, .int z5), (0, .ref b), (1, .ref (ad 0)), (2, .ref (ad 16)), (3, .ref (ad 31)), (4, .int x4)]) hx hb dL_law_671 hl (by decide) rfl (fun ls hl => ?_)
  refine lv_aload_n hx hb dL_law_673 rfl (lv_at hl 3 rfl) ?_
  refine lv_aload_n hx hb dL_law_674 rfl (lv_at hl 1 rfl) ?_
  refine lv_iload hx hb dL_law_675 (lv_at hl 5 rfl) ?_
  refine lv_iconst (v := 1) hx hb dL_law_677 (by decide) ?_
  refine lv_iadd hx hb dL_law_678 ?_
  obtain ⟨g7, hf⟩ := gd_s hf
  refine va_sld hx hb hX hbl hbA hC.2.2.2.1 g7 dL_law_679 ?_
  obtain ⟨r8, M9, hq, hf⟩ := bd_s hf
  refine mc_Vi (As := [.int (xs (x4 + (1 : Int32) : Int32).toNatClampNeg)]) ⟨hx, hb, hml, hown, hts⟩ hC (kX4_why l D ad ca B o6 N (xs (x4 + (1 : Int32) : Int32).toNatClampNeg) M3 r8 M9 hq) (cwV 1 hts glX4_why rfl rfl rfl (by decide +kernel) ⟨Nat.le_of_ble_eq_true rfl, Nat.le_of_ble_eq_true rfl⟩) (mg_recv (ci := 4) (C := RX4) (T := TX4) (N := 19) hC 16 (by decide) rfl rfl) rfl hl.1 rfl (Nat.le_of_ble_eq_true rfl) dL_law_680 ⟨hcl, hsl⟩ (fun H locs hC => ?_)
  refine lv_istore (lv' := [(6, .int r8), (5, .int z5), (0, .ref b), (1, .ref (ad 0)), (2, .ref (ad 16)), (3, .ref (ad 31)), (4, .int x4)]) hx hb dL_law_683 hl (by decide) rfl (fun ls hl => ?_)
  refine lv_aload_n hx hb dL_law_685 rfl (lv_at hl 4 rfl) ?_
  obtain ⟨r10, M11, hq, hf⟩ := bd_s hf
  refine mc_Vi (As := []) ⟨hx, hb, hml, hown, hts⟩ hC (kX4_thrown l D ad ca B o6 N M9 r10 M11 hq) (cwV 0 hts glX4_thrown rfl rfl rfl (by decide +kernel) ⟨Nat.le_of_ble_eq_true rfl, Nat.le_of_ble_eq_true rfl⟩) (mg_recv (ci := 4) (C := RX4) (T := TX4) (N := 19) hC 16 (by decide) rfl rfl) rfl hl.1 rfl (Nat.le_of_ble_eq_true rfl) dL_law_686 ⟨hcl, hsl⟩ (fun H locs hC => ?_)
  refine lv_iload hx hb dL_law_689 (lv_at hl 1 rfl) ?_
  refine lv_icmp_eq (tgt := 696) hx hb dL_law_691 (by decide) (fun h12 => ?_) (fun h12 => ?_)
  · have hf := it_t h12 hf
    refine lv_iload hx hb dL_law_696 (lv_at hl 1 rfl) ?_
    refine lv_if_ne (tgt := 713) hx hb dL_law_698 (by decide) (fun h13 => ?_) (fun h13 => ?_)
    · have hf := it_f h13 hf
      refine lv_goto (tgt := 956) hx hb dL_law_713 (by decide) ?_
      obtain ⟨z14, ez14⟩ : ∃ y : Int32, y = x4 + 6 := ⟨_, rfl⟩
      have hf := lq_k ez14 hf
      refine lv_iinc (v := z14) (lv' := [(4, .int z14), (6, .int r8), (5, .int z5), (0, .ref b), (1, .ref (ad 0)), (2, .ref (ad 16)), (3, .ref (ad 31))]) hx hb dL_law_956 hl (k := 6) rfl (by rw [ez14]; rfl) (by decide) rfl (fun ls hl => ?_)
      refine lv_goto (tgt := 33) hx hb dL_law_959 (by decide) ?_
      exact hk33 z14 M11 o6 _ _ _ (lv_sub hl [3, 4, 5, 6, 0] rfl) hC hf
    · have hf := it_t h13 hf
      refine lv_aload_n hx hb dL_law_701 rfl (lv_at hl 5 rfl) ?_
      refine lv_iconst (v := 0) hx hb dL_law_702 (by decide) ?_
      refine mg_lald hx hb hC dL_law_703 ?_
      refine lv_iload hx hb dL_law_704 (lv_at hl 0 rfl) ?_
      refine lv_i2l (v := (r8 : Int32).toInt64) hx hb dL_law_706 rfl ?_
      refine W.lcmp hx hb dL_law_707 ?_
      refine lv_if_eq (tgt := 713) hx hb dL_law_708 (by decide) (fun h15 => ?_) (fun h15 => ?_)
      · have hf := it_t h15 hf
        refine lv_goto (tgt := 956) hx hb dL_law_713 (by decide) ?_
        obtain ⟨z16, ez16⟩ : ∃ y : Int32, y = x4 + 6 := ⟨_, rfl⟩
        have hf := lq_k ez16 hf
        refine lv_iinc (v := z16) (lv' := [(4, .int z16), (6, .int r8), (5, .int z5), (0, .ref b), (1, .ref (ad 0)), (2, .ref (ad 16)), (3, .ref (ad 31))]) hx hb dL_law_956 hl (k := 6) rfl (by rw [ez16]; rfl) (by decide) rfl (fun ls hl => ?_)
        refine lv_goto (tgt := 33) hx hb dL_law_959 (by decide) ?_
        exact hk33 z16 M11 o6 _ _ _ (lv_sub hl [3, 4, 5, 6, 0] rfl) hC hf
      · have hf := it_f h15 hf
        refine lv_iconst (v := 0) hx hb dL_law_711 (by decide) ?_
        exact absurd (Prod.mk.inj (Option.some.inj hf)).1 (by decide)
  · have hf := it_f h12 hf
    refine lv_iconst (v := 0) hx hb dL_law_694 (by decide) ?_
    exact absurd (Prod.mk.inj (Option.some.inj hf)).1 (by decide)
set_option maxHeartbeats 8000000 in
set_option maxRecDepth 100000 in
theorem wL_716 {p : Program} {l : Launch} {e : Env} {s : State} {m : MethodId} {below : List Frame} {meth : Method} {c : Code} {D : va_G} {ad : Nat → Nat} {ca : Nat → ClassId} {B b L : Nat} {xs : Nat → Int32} {M0 : Mem} (hl9 : l.stackTraces = false) (C0 : lw_At p s m meth c b L xs) (Ev9 : Ev B s s.heap) (hbB : b < B) (N : Nat) (cl sl : Nat) (hcl : cl + 1 ≤ 667226) (hsl : sl + 6 ≤ 7094391) {k33 : Int32 → Mem → Int64 → Option (Int32 × Mem)}
    (hk33 : ∀ (x4 : Int32) (M : Mem) (ov : Int64) (H : Heap) (locs : List Loc) (ls : Array Slot), lv_has ls 8 [(0, .ref b), (1, .ref (ad 0)), (2, .ref (ad 16)), (3, .ref (ad 31)), (4, .int x4)] → Cu D ad ca B M ov s H locs → k33 x4 M ov = some (1, M0) → W p l e room_1 s m #[Value.ref b] below meth c H locs (cl + 1) (sl + 6) (lw_Z below #[Value.ref b] s) (F0 m 33 ls [])) :
    ∀ (x4 : Int32) (M : Mem) (ov : Int64) (H : Heap) (locs : List Loc) (ls : Array Slot), lv_has ls 8 [(0, .ref b), (1, .ref (ad 0)), (2, .ref (ad 16)), (3, .ref (ad 31)), (4, .int x4)] → Cu D ad ca B M ov s H locs → (fL_716 N L xs k33) x4 M ov = some (1, M0) → W p l e room_1 s m #[Value.ref b] below meth c H locs cl sl (lw_Z below #[Value.ref b] s) (F0 m 716 ls []) := by
  obtain ⟨hx, hb, hr, hml, hown, hts, hX, hbl, hlocks, hgv⟩ := id C0
  have hbA : ¬ Ab B b := Nat.not_le.mpr hbB
  intro x4 M ov H locs ls hl hC hf
  unfold fL_716 at hf
  refine lv_aload_n hx hb dL_law_716 rfl (lv_at hl 1 rfl) ?_
  refine lv_aload_n hx hb dL_law_717 rfl (lv_at hl 0 rfl) ?_
  refine lv_iload hx hb dL_law_718 (lv_at hl 4 rfl) ?_
  refine lv_iconst (v := 1) hx hb dL_law_720 (by decide) ?_
  refine lv_iadd hx hb dL_law_721 ?_
  obtain ⟨g1, hf⟩ := gd_s hf
  refine va_sld hx hb hX hbl hbA hC.2.2.2.1 g1 dL_law_722 ?_
  refine lv_aload_n hx hb dL_law_723 rfl (lv_at hl 0 rfl) ?_
  refine lv_iload hx hb dL_law_724 (lv_at hl 4 rfl) ?_
  refine lv_iconst (v := 2) hx hb dL_law_726 (by decide) ?_
  refine lv_iadd hx hb dL_law_727 ?_
  obtain ⟨g2, hf⟩ := gd_s hf
  refine va_sld hx hb hX hbl hbA hC.2.2.2.1 g2 dL_law_728 ?_
  refine lv_aload_n hx hb dL_law_729 rfl (lv_at hl 3 rfl) ?_
  obtain ⟨r3, M4, hq, hf⟩ := bd_s hf
  obtain ⟨g5, hf⟩ := gp_s hf
  obtain ⟨z6, ez6⟩ : ∃ y : Int32, y = hcL_change r3.1 := ⟨_, rfl⟩
  have hf := lq_k ez6 hf
  obtain ⟨o7, eo7⟩ : ∃ y : Int64, y = if r3.1 = 0 then r3.2.toInt64 else ov := ⟨_, rfl⟩
  have hf := lq_k eo7 hf
  refine mc_H (As := [.ref (ad 0), .int (xs (x4 + (1 : Int32) : Int32).toNatClampNeg), .int (xs (x4 + (2 : Int32) : Int32).toNatClampNeg), .ref (ad 31)]) ⟨hx, hb, hml, hown, hts⟩ hC Ev9 (kL_change l D ad ca B ov N (xs (x4 + (1 : Int32) : Int32).toNatClampNeg) (xs (x4 + (2 : Int32) : Int32).toNatClampNeg) M r3.1 r3.2 M4 z6 o7 hl9 g5 ez6 eo7 hq) (vx_cwSW 4 hts glL_change rfl rfl rfl (by decide +kernel) ⟨Nat.le_of_ble_eq_true rfl, Nat.le_of_ble_eq_true rfl⟩) rfl hl.1 rfl (Nat.le_of_ble_eq_true rfl) dL_law_730 ⟨hcl, hsl⟩ (fun H locs hC => ?_)
  refine lv_istore (lv' := [(5, .int z6), (0, .ref b), (1, .ref (ad 0)), (2, .ref (ad 16)), (3, .ref (ad 31)), (4, .int x4)]) hx hb dL_law_733 hl (by decide) rfl (fun ls hl => ?_)
  refine lv_aload_n hx hb dL_law_735 rfl (lv_at hl 3 rfl) ?_
  refine lv_aload_n hx hb dL_law_736 rfl (lv_at hl 1 rfl) ?_
  refine lv_iload hx hb dL_law_737 (lv_at hl 5 rfl) ?_
  refine lv_iconst (v := 1) hx hb dL_law_739 (by decide) ?_
  refine lv_iadd hx hb dL_law_740 ?_
  obtain ⟨g8, hf⟩ := gd_s hf
  refine va_sld hx hb hX hbl hbA hC.2.2.2.1 g8 dL_law_741 ?_
  refine lv_aload_n hx hb dL_law_742 rfl (lv_at hl 1 rfl) ?_
  refine lv_iload hx hb dL_law_743 (lv_at hl 5 rfl) ?_
  refine lv_iconst (v := 2) hx hb dL_law_745 (by decide) ?_
  refine lv_iadd hx hb dL_law_746 ?_
  obtain ⟨g9, hf⟩ := gd_s hf
  refine va_sld hx hb hX hbl hbA hC.2.2.2.1 g9 dL_law_747 ?_
  obtain ⟨r10, M11, hq, hf⟩ := bd_s hf
  refine mc_Vi (As := [.int (xs (x4 + (1 : Int32) : Int32).toNatClampNeg), .int (xs (x4 + (2 : Int32) : Int32).toNatClampNeg)]) ⟨hx, hb, hml, hown, hts⟩ hC (kX4_change l D ad ca B o7 N (xs (x4 + (1 : Int32) : Int32).toNatClampNeg) (xs (x4 + (2 : Int32) : Int32).toNatClampNeg) M4 r10 M11 hq) (cwV 2 hts glX4_change rfl rfl rfl (by decide +kernel) ⟨Nat.le_of_ble_eq_true rfl, Nat.le_of_ble_eq_true rfl⟩) (mg_recv (ci := 4) (C := RX4) (T := TX4) (N := 19) hC 16 (by decide) rfl rfl) rfl hl.1 rfl (Nat.le_of_ble_eq_true rfl) dL_law_748 ⟨hcl, hsl⟩ (fun H locs hC => ?_)
  refine lv_istore (lv' := [(6, .int r10), (5, .int z6), (0, .ref b), (1, .ref (ad 0)), (2, .ref (ad 16)), (3, .ref (ad 31)), (4, .int x4)]) hx hb dL_law_751 hl (by decide) rfl (fun ls hl => ?_)
  refine lv_aload_n hx hb dL_law_753 rfl (lv_at hl 4 rfl) ?_
  obtain ⟨r12, M13, hq, hf⟩ := bd_s hf
  refine mc_Vi (As := []) ⟨hx, hb, hml, hown, hts⟩ hC (kX4_thrown l D ad ca B o7 N M11 r12 M13 hq) (cwV 0 hts glX4_thrown rfl rfl rfl (by decide +kernel) ⟨Nat.le_of_ble_eq_true rfl, Nat.le_of_ble_eq_true rfl⟩) (mg_recv (ci := 4) (C := RX4) (T := TX4) (N := 19) hC 16 (by decide) rfl rfl) rfl hl.1 rfl (Nat.le_of_ble_eq_true rfl) dL_law_754 ⟨hcl, hsl⟩ (fun H locs hC => ?_)
  refine lv_iload hx hb dL_law_757 (lv_at hl 1 rfl) ?_
  refine lv_icmp_eq (tgt := 764) hx hb dL_law_759 (by decide) (fun h14 => ?_) (fun h14 => ?_)
  · have hf := it_t h14 hf
    refine lv_iload hx hb dL_law_764 (lv_at hl 1 rfl) ?_
    refine lv_if_ne (tgt := 781) hx hb dL_law_766 (by decide) (fun h15 => ?_) (fun h15 => ?_)
    · have hf := it_f h15 hf
      refine lv_goto (tgt := 956) hx hb dL_law_781 (by decide) ?_
      obtain ⟨z16, ez16⟩ : ∃ y : Int32, y = x4 + 6 := ⟨_, rfl⟩
      have hf := lq_k ez16 hf
      refine lv_iinc (v := z16) (lv' := [(4, .int z16), (6, .int r10), (5, .int z6), (0, .ref b), (1, .ref (ad 0)), (2, .ref (ad 16)), (3, .ref (ad 31))]) hx hb dL_law_956 hl (k := 6) rfl (by rw [ez16]; rfl) (by decide) rfl (fun ls hl => ?_)
      refine lv_goto (tgt := 33) hx hb dL_law_959 (by decide) ?_
      exact hk33 z16 M13 o7 _ _ _ (lv_sub hl [3, 4, 5, 6, 0] rfl) hC hf
    · have hf := it_t h15 hf
      refine lv_aload_n hx hb dL_law_769 rfl (lv_at hl 5 rfl) ?_
      refine lv_iconst (v := 0) hx hb dL_law_770 (by decide) ?_
      refine mg_lald hx hb hC dL_law_771 ?_
      refine lv_iload hx hb dL_law_772 (lv_at hl 0 rfl) ?_
      refine lv_i2l (v := (r10 : Int32).toInt64) hx hb dL_law_774 rfl ?_
      refine W.lcmp hx hb dL_law_775 ?_
      refine lv_if_eq (tgt := 781) hx hb dL_law_776 (by decide) (fun h17 => ?_) (fun h17 => ?_)
      · have hf := it_t h17 hf
        refine lv_goto (tgt := 956) hx hb dL_law_781 (by decide) ?_
        obtain ⟨z18, ez18⟩ : ∃ y : Int32, y = x4 + 6 := ⟨_, rfl⟩
        have hf := lq_k ez18 hf
        refine lv_iinc (v := z18) (lv' := [(4, .int z18), (6, .int r10), (5, .int z6), (0, .ref b), (1, .ref (ad 0)), (2, .ref (ad 16)), (3, .ref (ad 31))]) hx hb dL_law_956 hl (k := 6) rfl (by rw [ez18]; rfl) (by decide) rfl (fun ls hl => ?_)
        refine lv_goto (tgt := 33) hx hb dL_law_959 (by decide) ?_
        exact hk33 z18 M13 o7 _ _ _ (lv_sub hl [3, 4, 5, 6, 0] rfl) hC hf
      · have hf := it_f h17 hf
        refine lv_iconst (v := 0) hx hb dL_law_779 (by decide) ?_
        exact absurd (Prod.mk.inj (Option.some.inj hf)).1 (by decide)
  · have hf := it_f h14 hf
    refine lv_iconst (v := 0) hx hb dL_law_762 (by decide) ?_
    exact absurd (Prod.mk.inj (Option.some.inj hf)).1 (by decide)
set_option maxHeartbeats 8000000 in
set_option maxRecDepth 100000 in
theorem wL_784 {p : Program} {l : Launch} {e : Env} {s : State} {m : MethodId} {below : List Frame} {meth : Method} {c : Code} {D : va_G} {ad : Nat → Nat} {ca : Nat → ClassId} {B b L : Nat} {xs : Nat → Int32} {M0 : Mem} (hl9 : l.stackTraces = false) (C0 : lw_At p s m meth c b L xs) (Ev9 : Ev B s s.heap) (hbB : b < B) (N : Nat) (cl sl : Nat) (hcl : cl + 1 ≤ 667226) (hsl : sl + 6 ≤ 7094391) {k33 : Int32 → Mem → Int64 → Option (Int32 × Mem)}
    (hk33 : ∀ (x4 : Int32) (M : Mem) (ov : Int64) (H : Heap) (locs : List Loc) (ls : Array Slot), lv_has ls 8 [(0, .ref b), (1, .ref (ad 0)), (2, .ref (ad 16)), (3, .ref (ad 31)), (4, .int x4)] → Cu D ad ca B M ov s H locs → k33 x4 M ov = some (1, M0) → W p l e room_1 s m #[Value.ref b] below meth c H locs (cl + 1) (sl + 6) (lw_Z below #[Value.ref b] s) (F0 m 33 ls [])) :
    ∀ (x4 : Int32) (M : Mem) (ov : Int64) (H : Heap) (locs : List Loc) (ls : Array Slot), lv_has ls 8 [(0, .ref b), (1, .ref (ad 0)), (2, .ref (ad 16)), (3, .ref (ad 31)), (4, .int x4)] → Cu D ad ca B M ov s H locs → (fL_784 N L xs k33) x4 M ov = some (1, M0) → W p l e room_1 s m #[Value.ref b] below meth c H locs cl sl (lw_Z below #[Value.ref b] s) (F0 m 784 ls []) := by
  obtain ⟨hx, hb, hr, hml, hown, hts, hX, hbl, hlocks, hgv⟩ := id C0
  have hbA : ¬ Ab B b := Nat.not_le.mpr hbB
  intro x4 M ov H locs ls hl hC hf
  unfold fL_784 at hf
  refine lv_aload_n hx hb dL_law_784 rfl (lv_at hl 1 rfl) ?_
  refine lv_aload_n hx hb dL_law_785 rfl (lv_at hl 0 rfl) ?_
  refine lv_iload hx hb dL_law_786 (lv_at hl 4 rfl) ?_
  refine lv_iconst (v := 1) hx hb dL_law_788 (by decide) ?_
  refine lv_iadd hx hb dL_law_789 ?_
  obtain ⟨g1, hf⟩ := gd_s hf
  refine va_sld hx hb hX hbl hbA hC.2.2.2.1 g1 dL_law_790 ?_
  refine lv_aload_n hx hb dL_law_791 rfl (lv_at hl 0 rfl) ?_
  refine lv_iload hx hb dL_law_792 (lv_at hl 4 rfl) ?_
  refine lv_iconst (v := 2) hx hb dL_law_794 (by decide) ?_
  refine lv_iadd hx hb dL_law_795 ?_
  obtain ⟨g2, hf⟩ := gd_s hf
  refine va_sld hx hb hX hbl hbA hC.2.2.2.1 g2 dL_law_796 ?_
  refine lv_aload_n hx hb dL_law_797 rfl (lv_at hl 3 rfl) ?_
  obtain ⟨r3, M4, hq, hf⟩ := bd_s hf
  obtain ⟨g5, hf⟩ := gp_s hf
  obtain ⟨z6, ez6⟩ : ∃ y : Int32, y = hcL_lies r3.1 := ⟨_, rfl⟩
  have hf := lq_k ez6 hf
  obtain ⟨o7, eo7⟩ : ∃ y : Int64, y = if r3.1 = 0 then r3.2.toInt64 else ov := ⟨_, rfl⟩
  have hf := lq_k eo7 hf
  refine mc_H (As := [.ref (ad 0), .int (xs (x4 + (1 : Int32) : Int32).toNatClampNeg), .int (xs (x4 + (2 : Int32) : Int32).toNatClampNeg), .ref (ad 31)]) ⟨hx, hb, hml, hown, hts⟩ hC Ev9 (kL_lies l D ad ca B ov N (xs (x4 + (1 : Int32) : Int32).toNatClampNeg) (xs (x4 + (2 : Int32) : Int32).toNatClampNeg) M r3.1 r3.2 M4 z6 o7 hl9 g5 ez6 eo7 hq) (vx_cwSW 4 hts glL_lies rfl rfl rfl (by decide +kernel) ⟨Nat.le_of_ble_eq_true rfl, Nat.le_of_ble_eq_true rfl⟩) rfl hl.1 rfl (Nat.le_of_ble_eq_true rfl) dL_law_798 ⟨hcl, hsl⟩ (fun H locs hC => ?_)
  refine lv_istore (lv' := [(5, .int z6), (0, .ref b), (1, .ref (ad 0)), (2, .ref (ad 16)), (3, .ref (ad 31)), (4, .int x4)]) hx hb dL_law_801 hl (by decide) rfl (fun ls hl => ?_)
  refine lv_aload_n hx hb dL_law_803 rfl (lv_at hl 3 rfl) ?_
  refine lv_aload_n hx hb dL_law_804 rfl (lv_at hl 1 rfl) ?_
  refine lv_iload hx hb dL_law_805 (lv_at hl 5 rfl) ?_
  refine lv_iconst (v := 1) hx hb dL_law_807 (by decide) ?_
  refine lv_iadd hx hb dL_law_808 ?_
  obtain ⟨g8, hf⟩ := gd_s hf
  refine va_sld hx hb hX hbl hbA hC.2.2.2.1 g8 dL_law_809 ?_
  refine lv_aload_n hx hb dL_law_810 rfl (lv_at hl 1 rfl) ?_
  refine lv_iload hx hb dL_law_811 (lv_at hl 5 rfl) ?_
  refine lv_iconst (v := 2) hx hb dL_law_813 (by decide) ?_
  refine lv_iadd hx hb dL_law_814 ?_
  obtain ⟨g9, hf⟩ := gd_s hf
  refine va_sld hx hb hX hbl hbA hC.2.2.2.1 g9 dL_law_815 ?_
  obtain ⟨r10, M11, hq, hf⟩ := bd_s hf
  refine mc_Vi (As := [.int (xs (x4 + (1 : Int32) : Int32).toNatClampNeg), .int (xs (x4 + (2 : Int32) : Int32).toNatClampNeg)]) ⟨hx, hb, hml, hown, hts⟩ hC (kX4_lies l D ad ca B o7 N (xs (x4 + (1 : Int32) : Int32).toNatClampNeg) (xs (x4 + (2 : Int32) : Int32).toNatClampNeg) M4 r10 M11 hq) (cwV 2 hts glX4_lies rfl rfl rfl (by decide +kernel) ⟨Nat.le_of_ble_eq_true rfl, Nat.le_of_ble_eq_true rfl⟩) (mg_recv (ci := 4) (C := RX4) (T := TX4) (N := 19) hC 16 (by decide) rfl rfl) rfl hl.1 rfl (Nat.le_of_ble_eq_true rfl) dL_law_816 ⟨hcl, hsl⟩ (fun H locs hC => ?_)
  refine lv_istore (lv' := [(6, .int r10), (5, .int z6), (0, .ref b), (1, .ref (ad 0)), (2, .ref (ad 16)), (3, .ref (ad 31)), (4, .int x4)]) hx hb dL_law_819 hl (by decide) rfl (fun ls hl => ?_)
  refine lv_aload_n hx hb dL_law_821 rfl (lv_at hl 4 rfl) ?_
  obtain ⟨r12, M13, hq, hf⟩ := bd_s hf
  refine mc_Vi (As := []) ⟨hx, hb, hml, hown, hts⟩ hC (kX4_thrown l D ad ca B o7 N M11 r12 M13 hq) (cwV 0 hts glX4_thrown rfl rfl rfl (by decide +kernel) ⟨Nat.le_of_ble_eq_true rfl, Nat.le_of_ble_eq_true rfl⟩) (mg_recv (ci := 4) (C := RX4) (T := TX4) (N := 19) hC 16 (by decide) rfl rfl) rfl hl.1 rfl (Nat.le_of_ble_eq_true rfl) dL_law_822 ⟨hcl, hsl⟩ (fun H locs hC => ?_)
  refine lv_iload hx hb dL_law_825 (lv_at hl 1 rfl) ?_
  refine lv_icmp_eq (tgt := 832) hx hb dL_law_827 (by decide) (fun h14 => ?_) (fun h14 => ?_)
  · have hf := it_t h14 hf
    refine lv_iload hx hb dL_law_832 (lv_at hl 1 rfl) ?_
    refine lv_if_ne (tgt := 849) hx hb dL_law_834 (by decide) (fun h15 => ?_) (fun h15 => ?_)
    · have hf := it_f h15 hf
      refine lv_goto (tgt := 956) hx hb dL_law_849 (by decide) ?_
      obtain ⟨z16, ez16⟩ : ∃ y : Int32, y = x4 + 6 := ⟨_, rfl⟩
      have hf := lq_k ez16 hf
      refine lv_iinc (v := z16) (lv' := [(4, .int z16), (6, .int r10), (5, .int z6), (0, .ref b), (1, .ref (ad 0)), (2, .ref (ad 16)), (3, .ref (ad 31))]) hx hb dL_law_956 hl (k := 6) rfl (by rw [ez16]; rfl) (by decide) rfl (fun ls hl => ?_)
      refine lv_goto (tgt := 33) hx hb dL_law_959 (by decide) ?_
      exact hk33 z16 M13 o7 _ _ _ (lv_sub hl [3, 4, 5, 6, 0] rfl) hC hf
    · have hf := it_t h15 hf
      refine lv_aload_n hx hb dL_law_837 rfl (lv_at hl 5 rfl) ?_
      refine lv_iconst (v := 0) hx hb dL_law_838 (by decide) ?_
      refine mg_lald hx hb hC dL_law_839 ?_
      refine lv_iload hx hb dL_law_840 (lv_at hl 0 rfl) ?_
      refine lv_i2l (v := (r10 : Int32).toInt64) hx hb dL_law_842 rfl ?_
      refine W.lcmp hx hb dL_law_843 ?_
      refine lv_if_eq (tgt := 849) hx hb dL_law_844 (by decide) (fun h17 => ?_) (fun h17 => ?_)
      · have hf := it_t h17 hf
        refine lv_goto (tgt := 956) hx hb dL_law_849 (by decide) ?_
        obtain ⟨z18, ez18⟩ : ∃ y : Int32, y = x4 + 6 := ⟨_, rfl⟩
        have hf := lq_k ez18 hf
        refine lv_iinc (v := z18) (lv' := [(4, .int z18), (6, .int r10), (5, .int z6), (0, .ref b), (1, .ref (ad 0)), (2, .ref (ad 16)), (3, .ref (ad 31))]) hx hb dL_law_956 hl (k := 6) rfl (by rw [ez18]; rfl) (by decide) rfl (fun ls hl => ?_)
        refine lv_goto (tgt := 33) hx hb dL_law_959 (by decide) ?_
        exact hk33 z18 M13 o7 _ _ _ (lv_sub hl [3, 4, 5, 6, 0] rfl) hC hf
      · have hf := it_f h17 hf
        refine lv_iconst (v := 0) hx hb dL_law_847 (by decide) ?_
        exact absurd (Prod.mk.inj (Option.some.inj hf)).1 (by decide)
  · have hf := it_f h14 hf
    refine lv_iconst (v := 0) hx hb dL_law_830 (by decide) ?_
    exact absurd (Prod.mk.inj (Option.some.inj hf)).1 (by decide)
set_option maxHeartbeats 8000000 in
set_option maxRecDepth 100000 in
theorem wL_852 {p : Program} {l : Launch} {e : Env} {s : State} {m : MethodId} {below : List Frame} {meth : Method} {c : Code} {D : va_G} {ad : Nat → Nat} {ca : Nat → ClassId} {B b L : Nat} {xs : Nat → Int32} {M0 : Mem} (hl9 : l.stackTraces = false) (C0 : lw_At p s m meth c b L xs) (Ev9 : Ev B s s.heap) (hbB : b < B) (N : Nat) (cl sl : Nat) (hcl : cl + 1 ≤ 667226) (hsl : sl + 6 ≤ 7094391) {k33 : Int32 → Mem → Int64 → Option (Int32 × Mem)}
    (hk33 : ∀ (x4 : Int32) (M : Mem) (ov : Int64) (H : Heap) (locs : List Loc) (ls : Array Slot), lv_has ls 8 [(0, .ref b), (1, .ref (ad 0)), (2, .ref (ad 16)), (3, .ref (ad 31)), (4, .int x4)] → Cu D ad ca B M ov s H locs → k33 x4 M ov = some (1, M0) → W p l e room_1 s m #[Value.ref b] below meth c H locs (cl + 1) (sl + 6) (lw_Z below #[Value.ref b] s) (F0 m 33 ls [])) :
    ∀ (x4 : Int32) (M : Mem) (ov : Int64) (H : Heap) (locs : List Loc) (ls : Array Slot), lv_has ls 8 [(0, .ref b), (1, .ref (ad 0)), (2, .ref (ad 16)), (3, .ref (ad 31)), (4, .int x4)] → Cu D ad ca B M ov s H locs → (fL_852 N L xs k33) x4 M ov = some (1, M0) → W p l e room_1 s m #[Value.ref b] below meth c H locs cl sl (lw_Z below #[Value.ref b] s) (F0 m 852 ls []) := by
  obtain ⟨hx, hb, hr, hml, hown, hts, hX, hbl, hlocks, hgv⟩ := id C0
  have hbA : ¬ Ab B b := Nat.not_le.mpr hbB
  intro x4 M ov H locs ls hl hC hf
  unfold fL_852 at hf
  refine lv_aload_n hx hb dL_law_852 rfl (lv_at hl 1 rfl) ?_
  refine lv_aload_n hx hb dL_law_853 rfl (lv_at hl 0 rfl) ?_
  refine lv_iload hx hb dL_law_854 (lv_at hl 4 rfl) ?_
  refine lv_iconst (v := 1) hx hb dL_law_856 (by decide) ?_
  refine lv_iadd hx hb dL_law_857 ?_
  obtain ⟨g1, hf⟩ := gd_s hf
  refine va_sld hx hb hX hbl hbA hC.2.2.2.1 g1 dL_law_858 ?_
  refine lv_aload_n hx hb dL_law_859 rfl (lv_at hl 0 rfl) ?_
  refine lv_iload hx hb dL_law_860 (lv_at hl 4 rfl) ?_
  refine lv_iconst (v := 2) hx hb dL_law_862 (by decide) ?_
  refine lv_iadd hx hb dL_law_863 ?_
  obtain ⟨g2, hf⟩ := gd_s hf
  refine va_sld hx hb hX hbl hbA hC.2.2.2.1 g2 dL_law_864 ?_
  refine lv_aload_n hx hb dL_law_865 rfl (lv_at hl 0 rfl) ?_
  refine lv_iload hx hb dL_law_866 (lv_at hl 4 rfl) ?_
  refine lv_iconst (v := 3) hx hb dL_law_868 (by decide) ?_
  refine lv_iadd hx hb dL_law_869 ?_
  obtain ⟨g3, hf⟩ := gd_s hf
  refine va_sld hx hb hX hbl hbA hC.2.2.2.1 g3 dL_law_870 ?_
  refine lv_aload_n hx hb dL_law_871 rfl (lv_at hl 3 rfl) ?_
  obtain ⟨r4, M5, hq, hf⟩ := bd_s hf
  obtain ⟨g6, hf⟩ := gp_s hf
  obtain ⟨z7, ez7⟩ : ∃ y : Int32, y = hcL_share r4.1 := ⟨_, rfl⟩
  have hf := lq_k ez7 hf
  obtain ⟨o8, eo8⟩ : ∃ y : Int64, y = if r4.1 = 0 then r4.2 else ov := ⟨_, rfl⟩
  have hf := lq_k eo8 hf
  refine mc_H (As := [.ref (ad 0), .int (xs (x4 + (1 : Int32) : Int32).toNatClampNeg), .int (xs (x4 + (2 : Int32) : Int32).toNatClampNeg), .int (xs (x4 + (3 : Int32) : Int32).toNatClampNeg), .ref (ad 31)]) ⟨hx, hb, hml, hown, hts⟩ hC Ev9 (kL_share l D ad ca B ov N (xs (x4 + (1 : Int32) : Int32).toNatClampNeg) (xs (x4 + (2 : Int32) : Int32).toNatClampNeg) (xs (x4 + (3 : Int32) : Int32).toNatClampNeg) M r4.1 r4.2 M5 z7 o8 hl9 g6 ez7 eo8 hq) (vx_cwSW 5 hts glL_share rfl rfl rfl (by decide +kernel) ⟨Nat.le_of_ble_eq_true rfl, Nat.le_of_ble_eq_true rfl⟩) rfl hl.1 rfl (Nat.le_of_ble_eq_true rfl) dL_law_872 ⟨hcl, hsl⟩ (fun H locs hC => ?_)
  refine lv_istore (lv' := [(5, .int z7), (0, .ref b), (1, .ref (ad 0)), (2, .ref (ad 16)), (3, .ref (ad 31)), (4, .int x4)]) hx hb dL_law_875 hl (by decide) rfl (fun ls hl => ?_)
  refine lv_aload_n hx hb dL_law_877 rfl (lv_at hl 3 rfl) ?_
  refine lv_aload_n hx hb dL_law_878 rfl (lv_at hl 1 rfl) ?_
  refine lv_iload hx hb dL_law_879 (lv_at hl 5 rfl) ?_
  refine lv_iconst (v := 1) hx hb dL_law_881 (by decide) ?_
  refine lv_iadd hx hb dL_law_882 ?_
  obtain ⟨g9, hf⟩ := gd_s hf
  refine va_sld hx hb hX hbl hbA hC.2.2.2.1 g9 dL_law_883 ?_
  refine lv_aload_n hx hb dL_law_884 rfl (lv_at hl 1 rfl) ?_
  refine lv_iload hx hb dL_law_885 (lv_at hl 5 rfl) ?_
  refine lv_iconst (v := 2) hx hb dL_law_887 (by decide) ?_
  refine lv_iadd hx hb dL_law_888 ?_
  obtain ⟨g10, hf⟩ := gd_s hf
  refine va_sld hx hb hX hbl hbA hC.2.2.2.1 g10 dL_law_889 ?_
  refine lv_aload_n hx hb dL_law_890 rfl (lv_at hl 1 rfl) ?_
  refine lv_iload hx hb dL_law_891 (lv_at hl 5 rfl) ?_
  refine lv_iconst (v := 3) hx hb dL_law_893 (by decide) ?_
  refine lv_iadd hx hb dL_law_894 ?_
  obtain ⟨g11, hf⟩ := gd_s hf
  refine va_sld hx hb hX hbl hbA hC.2.2.2.1 g11 dL_law_895 ?_
  obtain ⟨r12, M13, hq, hf⟩ := bd_s hf
  refine mc_Vl (As := [.int (xs (x4 + (1 : Int32) : Int32).toNatClampNeg), .int (xs (x4 + (2 : Int32) : Int32).toNatClampNeg), .int (xs (x4 + (3 : Int32) : Int32).toNatClampNeg)]) ⟨hx, hb, hml, hown, hts⟩ hC (kX4_share l D ad ca B o8 N (xs (x4 + (1 : Int32) : Int32).toNatClampNeg) (xs (x4 + (2 : Int32) : Int32).toNatClampNeg) (xs (x4 + (3 : Int32) : Int32).toNatClampNeg) M5 r12 M13 hq) (cwV 3 hts glX4_share rfl rfl rfl (by decide +kernel) ⟨Nat.le_of_ble_eq_true rfl, Nat.le_of_ble_eq_true rfl⟩) (mg_recv (ci := 4) (C := RX4) (T := TX4) (N := 19) hC 16 (by decide) rfl rfl) rfl hl.1 rfl (Nat.le_of_ble_eq_true rfl) dL_law_896 ⟨hcl, hsl⟩ (fun H locs hC => ?_)
  refine lv_lstore (lv' := [(6, .long r12), (5, .int z7), (0, .ref b), (1, .ref (ad 0)), (2, .ref (ad 16)), (3, .ref (ad 31)), (4, .int x4)]) hx hb dL_law_899 hl (by decide) rfl (fun ls hl => ?_)
  refine lv_aload_n hx hb dL_law_901 rfl (lv_at hl 4 rfl) ?_
  obtain ⟨r14, M15, hq, hf⟩ := bd_s hf
  refine mc_Vi (As := []) ⟨hx, hb, hml, hown, hts⟩ hC (kX4_thrown l D ad ca B o8 N M13 r14 M15 hq) (cwV 0 hts glX4_thrown rfl rfl rfl (by decide +kernel) ⟨Nat.le_of_ble_eq_true rfl, Nat.le_of_ble_eq_true rfl⟩) (mg_recv (ci := 4) (C := RX4) (T := TX4) (N := 19) hC 16 (by decide) rfl rfl) rfl hl.1 rfl (Nat.le_of_ble_eq_true rfl) dL_law_902 ⟨hcl, hsl⟩ (fun H locs hC => ?_)
  refine lv_iload hx hb dL_law_905 (lv_at hl 1 rfl) ?_
  refine lv_icmp_eq (tgt := 912) hx hb dL_law_907 (by decide) (fun h16 => ?_) (fun h16 => ?_)
  · have hf := it_t h16 hf
    refine lv_iload hx hb dL_law_912 (lv_at hl 1 rfl) ?_
    refine lv_if_ne (tgt := 928) hx hb dL_law_914 (by decide) (fun h17 => ?_) (fun h17 => ?_)
    · have hf := it_f h17 hf
      refine lv_goto (tgt := 956) hx hb dL_law_928 (by decide) ?_
      obtain ⟨z18, ez18⟩ : ∃ y : Int32, y = x4 + 6 := ⟨_, rfl⟩
      have hf := lq_k ez18 hf
      refine lv_iinc (v := z18) (lv' := [(4, .int z18), (6, .long r12), (5, .int z7), (0, .ref b), (1, .ref (ad 0)), (2, .ref (ad 16)), (3, .ref (ad 31))]) hx hb dL_law_956 hl (k := 6) rfl (by rw [ez18]; rfl) (by decide) rfl (fun ls hl => ?_)
      refine lv_goto (tgt := 33) hx hb dL_law_959 (by decide) ?_
      exact hk33 z18 M15 o8 _ _ _ (lv_sub hl [3, 4, 5, 6, 0] rfl) hC hf
    · have hf := it_t h17 hf
      refine lv_aload_n hx hb dL_law_917 rfl (lv_at hl 5 rfl) ?_
      refine lv_iconst (v := 0) hx hb dL_law_918 (by decide) ?_
      refine mg_lald hx hb hC dL_law_919 ?_
      refine lv_lload hx hb dL_law_920 (lv_at hl 0 rfl) ?_
      refine W.lcmp hx hb dL_law_922 ?_
      refine lv_if_eq (tgt := 928) hx hb dL_law_923 (by decide) (fun h19 => ?_) (fun h19 => ?_)
      · have hf := it_t h19 hf
        refine lv_goto (tgt := 956) hx hb dL_law_928 (by decide) ?_
        obtain ⟨z20, ez20⟩ : ∃ y : Int32, y = x4 + 6 := ⟨_, rfl⟩
        have hf := lq_k ez20 hf
        refine lv_iinc (v := z20) (lv' := [(4, .int z20), (6, .long r12), (5, .int z7), (0, .ref b), (1, .ref (ad 0)), (2, .ref (ad 16)), (3, .ref (ad 31))]) hx hb dL_law_956 hl (k := 6) rfl (by rw [ez20]; rfl) (by decide) rfl (fun ls hl => ?_)
        refine lv_goto (tgt := 33) hx hb dL_law_959 (by decide) ?_
        exact hk33 z20 M15 o8 _ _ _ (lv_sub hl [3, 4, 5, 6, 0] rfl) hC hf
      · have hf := it_f h19 hf
        refine lv_iconst (v := 0) hx hb dL_law_926 (by decide) ?_
        exact absurd (Prod.mk.inj (Option.some.inj hf)).1 (by decide)
  · have hf := it_f h16 hf
    refine lv_iconst (v := 0) hx hb dL_law_910 (by decide) ?_
    exact absurd (Prod.mk.inj (Option.some.inj hf)).1 (by decide)
set_option maxHeartbeats 8000000 in
set_option maxRecDepth 100000 in
theorem wL_931 {p : Program} {l : Launch} {e : Env} {s : State} {m : MethodId} {below : List Frame} {meth : Method} {c : Code} {D : va_G} {ad : Nat → Nat} {ca : Nat → ClassId} {B b L : Nat} {xs : Nat → Int32} {M0 : Mem} (hl9 : l.stackTraces = false) (C0 : lw_At p s m meth c b L xs) (Ev9 : Ev B s s.heap) (hbB : b < B) (N : Nat) (cl sl : Nat) (hcl : cl + 1 ≤ 667226) (hsl : sl + 6 ≤ 7094391) {k33 : Int32 → Mem → Int64 → Option (Int32 × Mem)}
    (hk33 : ∀ (x4 : Int32) (M : Mem) (ov : Int64) (H : Heap) (locs : List Loc) (ls : Array Slot), lv_has ls 8 [(0, .ref b), (1, .ref (ad 0)), (2, .ref (ad 16)), (3, .ref (ad 31)), (4, .int x4)] → Cu D ad ca B M ov s H locs → k33 x4 M ov = some (1, M0) → W p l e room_1 s m #[Value.ref b] below meth c H locs (cl + 1) (sl + 6) (lw_Z below #[Value.ref b] s) (F0 m 33 ls [])) :
    ∀ (x4 : Int32) (M : Mem) (ov : Int64) (H : Heap) (locs : List Loc) (ls : Array Slot), lv_has ls 8 [(0, .ref b), (1, .ref (ad 0)), (2, .ref (ad 16)), (3, .ref (ad 31)), (4, .int x4)] → Cu D ad ca B M ov s H locs → (fL_931 N L xs k33) x4 M ov = some (1, M0) → W p l e room_1 s m #[Value.ref b] below meth c H locs cl sl (lw_Z below #[Value.ref b] s) (F0 m 931 ls []) := by
  obtain ⟨hx, hb, hr, hml, hown, hts, hX, hbl, hlocks, hgv⟩ := id C0
  have hbA : ¬ Ab B b := Nat.not_le.mpr hbB
  intro x4 M ov H locs ls hl hC hf
  unfold fL_931 at hf
  refine lv_aload_n hx hb dL_law_931 rfl (lv_at hl 1 rfl) ?_
  refine lv_aload_n hx hb dL_law_932 rfl (lv_at hl 0 rfl) ?_
  refine lv_iload hx hb dL_law_933 (lv_at hl 4 rfl) ?_
  refine lv_iconst (v := 1) hx hb dL_law_935 (by decide) ?_
  refine lv_iadd hx hb dL_law_936 ?_
  obtain ⟨g1, hf⟩ := gd_s hf
  refine va_sld hx hb hX hbl hbA hC.2.2.2.1 g1 dL_law_937 ?_
  obtain ⟨r2, M3, hq, hf⟩ := bd_s hf
  refine mc_Vi (As := [.int (xs (x4 + (1 : Int32) : Int32).toNatClampNeg)]) ⟨hx, hb, hml, hown, hts⟩ hC (kX3_count l D ad ca B ov N (xs (x4 + (1 : Int32) : Int32).toNatClampNeg) M r2 M3 hq) (cwV 1 hts glX3_count rfl rfl rfl (by decide +kernel) ⟨Nat.le_of_ble_eq_true rfl, Nat.le_of_ble_eq_true rfl⟩) (mg_recv (ci := 3) (C := RX3) (T := TX3) (N := 5) hC 0 (by decide) rfl rfl) rfl hl.1 rfl (Nat.le_of_ble_eq_true rfl) dL_law_938 ⟨Nat.le_of_lt hcl, Nat.le_trans (Nat.le_add_right sl 6) hsl⟩ (fun H locs hC => ?_)
  refine lv_aload_n hx hb dL_law_941 rfl (lv_at hl 2 rfl) ?_
  refine lv_aload_n hx hb dL_law_942 rfl (lv_at hl 0 rfl) ?_
  refine lv_iload hx hb dL_law_943 (lv_at hl 4 rfl) ?_
  refine lv_iconst (v := 1) hx hb dL_law_945 (by decide) ?_
  refine lv_iadd hx hb dL_law_946 ?_
  obtain ⟨g4, hf⟩ := gd_s hf
  refine va_sld hx hb hX hbl hbA hC.2.2.2.1 g4 dL_law_947 ?_
  obtain ⟨r5, M6, hq, hf⟩ := bd_s hf
  refine mc_Vi (As := [.int (xs (x4 + (1 : Int32) : Int32).toNatClampNeg)]) ⟨hx, hb, hml, hown, hts⟩ hC (kX4_count l D ad ca B ov N (xs (x4 + (1 : Int32) : Int32).toNatClampNeg) M3 r5 M6 hq) (cwV 1 hts glX4_count rfl rfl rfl (by decide +kernel) ⟨Nat.le_of_ble_eq_true rfl, Nat.le_of_ble_eq_true rfl⟩) (mg_recv (ci := 4) (C := RX4) (T := TX4) (N := 19) hC 16 (by decide) rfl rfl) rfl hl.1 rfl (Nat.le_of_ble_eq_true rfl) dL_law_948 ⟨Nat.le_of_lt hcl, Nat.le_trans (Nat.le_add_right sl 6) hsl⟩ (fun H locs hC => ?_)
  refine lv_icmp_eq (tgt := 956) hx hb dL_law_951 (by decide) (fun h7 => ?_) (fun h7 => ?_)
  · have hf := it_t h7 hf
    obtain ⟨z8, ez8⟩ : ∃ y : Int32, y = x4 + 6 := ⟨_, rfl⟩
    have hf := lq_k ez8 hf
    refine lv_iinc (v := z8) (lv' := [(4, .int z8), (0, .ref b), (1, .ref (ad 0)), (2, .ref (ad 16)), (3, .ref (ad 31))]) hx hb dL_law_956 hl (k := 4) rfl (by rw [ez8]; rfl) (by decide) rfl (fun ls hl => ?_)
    refine lv_goto (tgt := 33) hx hb dL_law_959 (by decide) ?_
    refine W.widen (k := cl + 1) (n := sl + 6) (Nat.le_succ _) (Nat.le_add_right _ _) ?_
    exact hk33 z8 M6 ov _ _ _ (lv_sub hl [1, 2, 3, 4, 0] rfl) hC hf
  · have hf := it_f h7 hf
    refine lv_iconst (v := 0) hx hb dL_law_954 (by decide) ?_
    exact absurd (Prod.mk.inj (Option.some.inj hf)).1 (by decide)
set_option maxHeartbeats 8000000 in
set_option maxRecDepth 100000 in
theorem wL_33 {p : Program} {l : Launch} {e : Env} {s : State} {m : MethodId} {below : List Frame} {meth : Method} {c : Code} {D : va_G} {ad : Nat → Nat} {ca : Nat → ClassId} {B b L : Nat} {xs : Nat → Int32} {M0 : Mem} (hl9 : l.stackTraces = false) (C0 : lw_At p s m meth c b L xs) (Ev9 : Ev B s s.heap) (hbB : b < B) (N : Nat) (hBs : s.heap.size ≤ B) : ∀ (n cl sl : Nat), cl + n + 1 ≤ 667226 → sl + 6 * n + 6 ≤ 7094391 → ∀ (x4 : Int32) (M : Mem) (ov : Int64) (H : Heap) (locs : List Loc) (ls : Array Slot), lv_has ls 8 [(0, .ref b), (1, .ref (ad 0)), (2, .ref (ad 16)), (3, .ref (ad 31)), (4, .int x4)] → Cu D ad ca B M ov s H locs → (fL_33 N L xs n) x4 M ov = some (1, M0) → W p l e room_1 s m #[Value.ref b] below meth c H locs cl sl (lw_Z below #[Value.ref b] s) (F0 m 33 ls []) := by
  obtain ⟨hx, hb, hr, hml, hown, hts, hX, hbl, hlocks, hgv⟩ := id C0
  have hbA : ¬ Ab B b := Nat.not_le.mpr hbB
  intro n
  induction n with
  | zero =>
    intro cl sl _ _ x4 M ov H locs ls hl hC hf
    cases hf
  | succ n ih =>
    intro cl sl hc1 hs1 x4 M ov H locs ls hl hC hf
    have hf := (fL_33_s).symm.trans hf
    have hcl : cl + 1 ≤ 667226 := by omega
    have hsl : sl + 6 ≤ 7094391 := by omega
    have hk33 := ih (cl + 1) (sl + 6) (by omega) (by omega)
    refine lv_iload hx hb dL_law_33 (lv_at hl 4 rfl) ?_
    refine lv_aload_n hx hb dL_law_35 rfl (lv_at hl 0 rfl) ?_
    refine va_slen hx hb hX hbl hbA hC.2.2.2.1 dL_law_36 ?_
    refine lv_bipush (v := 6) hx hb dL_law_37 (by decide) ?_
    refine lv_isub hx hb dL_law_39 ?_
    refine lv_icmp_gt (tgt := 962) hx hb dL_law_40 (by decide) (fun h1 => ?_) (fun h1 => ?_)
    · have hf := it_t h1 hf
      refine lv_iconst (v := 1) hx hb dL_law_962 (by decide) ?_
      refine va_forget (fun q hq => Nat.le_trans hBs (hC.2.2.2.1.2.2 q hq)) ?_
      refine W.widen (k := 667226) (n := 7094391) (by omega) (by omega) ?_
      exact lw_ret hx hb hr hlocks dL_law_963
    · have hf := it_f h1 hf
      refine lv_aload_n hx hb dL_law_43 rfl (lv_at hl 0 rfl) ?_
      refine lv_iload hx hb dL_law_44 (lv_at hl 4 rfl) ?_
      obtain ⟨g2, hf⟩ := gd_s hf
      refine va_sld hx hb hX hbl hbA hC.2.2.2.1 g2 dL_law_46 ?_
      refine lv_bipush (v := 15) hx hb dL_law_47 (by decide) ?_
      refine lv_iand hx hb dL_law_49 ?_
      refine lv_topi (fun z3 ez3 => ?_)
      have hf := lq_k ez3 hf
      by_cases hn0 : z3 = 0
      · have hf := it_t hn0 hf
        refine lv_tableIn (tgt := 128) hx hb dL_law_50 (by rw [hn0]; decide) (by rw [hn0]; decide) (by rw [hn0]; rfl) (by decide) ?_
        exact wL_128 hl9 C0 Ev9 hbB N cl sl hcl hsl hk33 x4 M ov _ _ _ (lv_sub hl [0, 1, 2, 3, 4] rfl) hC hf
      · have hf := it_f hn0 hf
        by_cases hn1 : z3 = 1
        · have hf := it_t hn1 hf
          refine lv_tableIn (tgt := 232) hx hb dL_law_50 (by rw [hn1]; decide) (by rw [hn1]; decide) (by rw [hn1]; rfl) (by decide) ?_
          exact wL_232 hl9 C0 Ev9 hbB N cl sl hcl hsl hk33 x4 M ov _ _ _ (lv_sub hl [0, 1, 2, 3, 4] rfl) hC hf
        · have hf := it_f hn1 hf
          by_cases hn2 : z3 = 2
          · have hf := it_t hn2 hf
            refine lv_tableIn (tgt := 281) hx hb dL_law_50 (by rw [hn2]; decide) (by rw [hn2]; decide) (by rw [hn2]; rfl) (by decide) ?_
            exact wL_281 hl9 C0 Ev9 hbB N cl sl hcl hsl hk33 x4 M ov _ _ _ (lv_sub hl [0, 1, 2, 3, 4] rfl) hC hf
          · have hf := it_f hn2 hf
            by_cases hn3 : z3 = 3
            · have hf := it_t hn3 hf
              refine lv_tableIn (tgt := 346) hx hb dL_law_50 (by rw [hn3]; decide) (by rw [hn3]; decide) (by rw [hn3]; rfl) (by decide) ?_
              exact wL_346 hl9 C0 Ev9 hbB N cl sl hcl hsl hk33 x4 M ov _ _ _ (lv_sub hl [0, 1, 2, 3, 4] rfl) hC hf
            · have hf := it_f hn3 hf
              by_cases hn4 : z3 = 4
              · have hf := it_t hn4 hf
                refine lv_tableIn (tgt := 411) hx hb dL_law_50 (by rw [hn4]; decide) (by rw [hn4]; decide) (by rw [hn4]; rfl) (by decide) ?_
                exact wL_411 hl9 C0 Ev9 hbB N cl sl hcl hsl hk33 x4 M ov _ _ _ (lv_sub hl [0, 1, 2, 3, 4] rfl) hC hf
              · have hf := it_f hn4 hf
                by_cases hn5 : z3 = 5
                · have hf := it_t hn5 hf
                  refine lv_tableIn (tgt := 448) hx hb dL_law_50 (by rw [hn5]; decide) (by rw [hn5]; decide) (by rw [hn5]; rfl) (by decide) ?_
                  exact wL_448 hl9 C0 Ev9 hbB N cl sl hcl hsl hk33 x4 M ov _ _ _ (lv_sub hl [0, 1, 2, 3, 4] rfl) hC hf
                · have hf := it_f hn5 hf
                  by_cases hn6 : z3 = 6
                  · have hf := it_t hn6 hf
                    refine lv_tableIn (tgt := 497) hx hb dL_law_50 (by rw [hn6]; decide) (by rw [hn6]; decide) (by rw [hn6]; rfl) (by decide) ?_
                    exact wL_497 hl9 C0 Ev9 hbB N cl sl hcl hsl hk33 x4 M ov _ _ _ (lv_sub hl [0, 1, 2, 3, 4] rfl) hC hf
                  · have hf := it_f hn6 hf
                    by_cases hn7 : z3 = 7
                    · have hf := it_t hn7 hf
                      refine lv_tableIn (tgt := 522) hx hb dL_law_50 (by rw [hn7]; decide) (by rw [hn7]; decide) (by rw [hn7]; rfl) (by decide) ?_
                      exact wL_522 hl9 C0 Ev9 hbB N cl sl hcl hsl hk33 x4 M ov _ _ _ (lv_sub hl [0, 1, 2, 3, 4] rfl) hC hf
                    · have hf := it_f hn7 hf
                      by_cases hn8 : z3 = 8
                      · have hf := it_t hn8 hf
                        refine lv_tableIn (tgt := 535) hx hb dL_law_50 (by rw [hn8]; decide) (by rw [hn8]; decide) (by rw [hn8]; rfl) (by decide) ?_
                        exact wL_535 hl9 C0 Ev9 hbB N cl sl hcl hsl hk33 x4 M ov _ _ _ (lv_sub hl [0, 1, 2, 3, 4] rfl) hC hf
                      · have hf := it_f hn8 hf
                        by_cases hn9 : z3 = 9
                        · have hf := it_t hn9 hf
                          refine lv_tableIn (tgt := 603) hx hb dL_law_50 (by rw [hn9]; decide) (by rw [hn9]; decide) (by rw [hn9]; rfl) (by decide) ?_
                          exact wL_603 hl9 C0 Ev9 hbB N cl sl hcl hsl hk33 x4 M ov _ _ _ (lv_sub hl [0, 1, 2, 3, 4] rfl) hC hf
                        · have hf := it_f hn9 hf
                          by_cases hn10 : z3 = 10
                          · have hf := it_t hn10 hf
                            refine lv_tableIn (tgt := 647) hx hb dL_law_50 (by rw [hn10]; decide) (by rw [hn10]; decide) (by rw [hn10]; rfl) (by decide) ?_
                            exact wL_647 hl9 C0 Ev9 hbB N cl sl hcl hsl hk33 x4 M ov _ _ _ (lv_sub hl [0, 1, 2, 3, 4] rfl) hC hf
                          · have hf := it_f hn10 hf
                            by_cases hn11 : z3 = 11
                            · have hf := it_t hn11 hf
                              refine lv_tableIn (tgt := 660) hx hb dL_law_50 (by rw [hn11]; decide) (by rw [hn11]; decide) (by rw [hn11]; rfl) (by decide) ?_
                              exact wL_660 hl9 C0 Ev9 hbB N cl sl hcl hsl hk33 x4 M ov _ _ _ (lv_sub hl [0, 1, 2, 3, 4] rfl) hC hf
                            · have hf := it_f hn11 hf
                              by_cases hn12 : z3 = 12
                              · have hf := it_t hn12 hf
                                refine lv_tableIn (tgt := 716) hx hb dL_law_50 (by rw [hn12]; decide) (by rw [hn12]; decide) (by rw [hn12]; rfl) (by decide) ?_
                                exact wL_716 hl9 C0 Ev9 hbB N cl sl hcl hsl hk33 x4 M ov _ _ _ (lv_sub hl [0, 1, 2, 3, 4] rfl) hC hf
                              · have hf := it_f hn12 hf
                                by_cases hn13 : z3 = 13
                                · have hf := it_t hn13 hf
                                  refine lv_tableIn (tgt := 784) hx hb dL_law_50 (by rw [hn13]; decide) (by rw [hn13]; decide) (by rw [hn13]; rfl) (by decide) ?_
                                  exact wL_784 hl9 C0 Ev9 hbB N cl sl hcl hsl hk33 x4 M ov _ _ _ (lv_sub hl [0, 1, 2, 3, 4] rfl) hC hf
                                · have hf := it_f hn13 hf
                                  by_cases hn14 : z3 = 14
                                  · have hf := it_t hn14 hf
                                    refine lv_tableIn (tgt := 852) hx hb dL_law_50 (by rw [hn14]; decide) (by rw [hn14]; decide) (by rw [hn14]; rfl) (by decide) ?_
                                    exact wL_852 hl9 C0 Ev9 hbB N cl sl hcl hsl hk33 x4 M ov _ _ _ (lv_sub hl [0, 1, 2, 3, 4] rfl) hC hf
                                  · have hf := it_f hn14 hf
                                    by_cases hn15 : z3 = 15
                                    · have hf := it_t hn15 hf
                                      refine lv_tableIn (tgt := 931) hx hb dL_law_50 (by rw [hn15]; decide) (by rw [hn15]; decide) (by rw [hn15]; rfl) (by decide) ?_
                                      exact wL_931 hl9 C0 Ev9 hbB N cl sl hcl hsl hk33 x4 M ov _ _ _ (lv_sub hl [0, 1, 2, 3, 4] rfl) hC hf
                                    · have hf := it_f hn15 hf
                                      exact absurd (by rw [ez3]; exact sw_and _) (sw_no z3 hn0 hn1 hn2 hn3 hn4 hn5 hn6 hn7 hn8 hn9 hn10 hn11 hn12 hn13 hn14 hn15)
