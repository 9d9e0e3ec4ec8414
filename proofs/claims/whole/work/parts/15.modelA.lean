theorem lkX4_thrown_f56 : Cond.fieldLink RX4 56 "BerthPlanModel" "thrown" "I" ∈ wsX4_thrown := by decide +kernel
theorem inX4_thrown_X4 : ∀ w ∈ wsX40, w ∈ wsX4_thrown := by decide +kernel
abbrev rmX4_thrown : Room := { frames := 0, cells := 0, slots := 0, locals := 0 }
def fX4_thrown (N : Nat) (M : Mem) : Option (Int32 × Mem) :=
    some (M 16 0, M)
set_option maxHeartbeats 4000000 in
set_option maxRecDepth 100000 in
theorem kX4_thrown (l : Launch) (D : va_G) (ad : Nat → Nat) (ca : Nat → ClassId) (B : Nat) (ov : Int64) (N : Nat) (M : Mem) (r0 : Int32) (M0 : Mem) (hf : fX4_thrown N M = some (r0, M0)) : MtI l D ad ca B ov yX4_thrown wsX4_thrown (rmX4_thrown) [.ref (ad 16)] M r0 M0 := by
  unfold fX4_thrown at hf
  refine Met.ofW (cc := cX4_thrown) (maxL := 1) (ret := (some .int)) (by decide) rfl ?_
  intro p e s m args below meth c s₁ Bd hml hv
  obtain ⟨rfl, hw⟩ := hv
  have G : Mx p s m ([.ref (ad 16)] : List Value).toArray meth c cX4_thrown 1 wsX4_thrown RX4 (some .int) := ⟨Bd.exec, Bd.bytes, hml, findClass_of_methodNamed Bd.named, atoms_spec (ws := wsX4_thrown) Bd.pre, Bd.returns, Bd.notSynchronized⟩
  have hC := Cu.of hw
  have hl := lv_entry ([.ref (ad 16)]) (n := 1) (Nat.le_of_ble_eq_true rfl)
  rw [lg_entry_eq]
  generalize (lg_sl ([.ref (ad 16)]) ++ List.replicate (1 - (lg_sl ([.ref (ad 16)])).length) Slot.unset).toArray = ls at hl ⊢
  have hl : lv_has ls 1 [(0, .ref (ad 16))] := hl
  obtain ⟨hx, hb, hml, hown, hts, hr, hlk⟩ := id G
  show W p l e (rmX4_thrown) s m _ below meth c s.heap [] 0 0 (MQ below (va_Qi (fun (r : Int32) (_ : Unit) => r = r0) (fun _ t => Wp D ad ca B M0 ov t.heap) (Ab B)) _ s 0 0 (Ab B)) (F0 m 0 ls [])
  refine lv_aload_n hx hb dX4_thrown_0 rfl (lv_at hl 0 rfl) ?_
  refine mg_get (ci := 4) (C := RX4) (T := TX4) (N := 19) (v := .int (M 16 0)) hx hb hts inX4_thrown_X4 hown hC 16 (by decide) rfl rfl 0 (by decide) (hts _ lkX4_thrown_f56) rfl rfl dX4_thrown_1 ?_
  exact mr_I hx hb hr hlk hC hf dX4_thrown_4

abbrev rmX4_in : Room := { frames := 0, cells := 0, slots := 0, locals := 0 }
def fX4_in (N : Nat) (x0 : Int32) (x1 : Int32) (x2 : Int32) (M : Mem) : Option (Int32 × Mem) :=
    if (x0 < x1 : Prop) then (some (0, M)) else (if (x2 < x0 : Prop) then (some (0, M)) else (some (1, M)))
set_option maxHeartbeats 4000000 in
set_option maxRecDepth 100000 in
theorem kX4_in (l : Launch) (D : va_G) (ad : Nat → Nat) (ca : Nat → ClassId) (B : Nat) (ov : Int64) (N : Nat) (x0 : Int32) (x1 : Int32) (x2 : Int32) (M : Mem) (r0 : Int32) (M0 : Mem) (hf : fX4_in N x0 x1 x2 M = some (r0, M0)) : MtI l D ad ca B ov yX4_in wsX4_in (rmX4_in) [.int x0, .int x1, .int x2] M r0 M0 := by
  unfold fX4_in at hf
  refine Met.ofW (cc := cX4_in) (maxL := 3) (ret := (some .boolean)) (by decide) rfl ?_
  intro p e s m args below meth c s₁ Bd hml hv
  obtain ⟨rfl, hw⟩ := hv
  have G : Mx p s m ([.int x0, .int x1, .int x2] : List Value).toArray meth c cX4_in 3 wsX4_in RX4 (some .boolean) := ⟨Bd.exec, Bd.bytes, hml, findClass_of_methodNamed Bd.named, atoms_spec (ws := wsX4_in) Bd.pre, Bd.returns, Bd.notSynchronized⟩
  have hC := Cu.of hw
  have hl := lv_entry ([.int x0, .int x1, .int x2]) (n := 3) (Nat.le_of_ble_eq_true rfl)
  rw [lg_entry_eq]
  generalize (lg_sl ([.int x0, .int x1, .int x2]) ++ List.replicate (3 - (lg_sl ([.int x0, .int x1, .int x2])).length) Slot.unset).toArray = ls at hl ⊢
  have hl : lv_has ls 3 [(0, .int x0), (1, .int x1), (2, .int x2)] := hl
  obtain ⟨hx, hb, hml, hown, hts, hr, hlk⟩ := id G
  show W p l e (rmX4_in) s m _ below meth c s.heap [] 0 0 (MQ below (va_Qi (fun (r : Int32) (_ : Unit) => r = r0) (fun _ t => Wp D ad ca B M0 ov t.heap) (Ab B)) _ s 0 0 (Ab B)) (F0 m 0 ls [])
  refine lv_iload_n hx hb dX4_in_0 rfl (lv_at hl 0 rfl) ?_
  refine lv_iload_n hx hb dX4_in_1 rfl (lv_at hl 1 rfl) ?_
  refine lv_icmp_lt (tgt := 14) hx hb dX4_in_2 (by decide) (fun h1 => ?_) (fun h1 => ?_)
  · have hf := it_t h1 hf
    refine lv_iconst (v := 0) hx hb dX4_in_14 (by decide) ?_
    exact mr_Z hx hb hr hlk hC (by decide) hf dX4_in_15
  · have hf := it_f h1 hf
    refine lv_iload_n hx hb dX4_in_5 rfl (lv_at hl 0 rfl) ?_
    refine lv_iload_n hx hb dX4_in_6 rfl (lv_at hl 2 rfl) ?_
    refine lv_icmp_gt (tgt := 14) hx hb dX4_in_7 (by decide) (fun h2 => ?_) (fun h2 => ?_)
    · have hf := it_t h2 hf
      refine lv_iconst (v := 0) hx hb dX4_in_14 (by decide) ?_
      exact mr_Z hx hb hr hlk hC (by decide) hf dX4_in_15
    · have hf := it_f h2 hf
      refine lv_iconst (v := 1) hx hb dX4_in_10 (by decide) ?_
      refine lv_goto (tgt := 15) hx hb dX4_in_11 (by decide) ?_
      exact mr_Z hx hb hr hlk hC (by decide) hf dX4_in_15

theorem lkX4_isPlace_f52 : Cond.fieldLink RX4 52 "BerthPlanModel" "places" "I" ∈ wsX4_isPlace := by decide +kernel
theorem inX4_isPlace_X4 : ∀ w ∈ wsX40, w ∈ wsX4_isPlace := by decide +kernel
abbrev rmX4_isPlace : Room := { frames := 0, cells := 0, slots := 0, locals := 0 }
def fX4_isPlace (N : Nat) (x1 : Int32) (M : Mem) : Option (Int32 × Mem) :=
    if (x1 < 0 : Prop) then (some (0, M)) else (if ((M 16 1) ≤ x1 : Prop) then (some (0, M)) else (some (1, M)))
set_option maxHeartbeats 4000000 in
set_option maxRecDepth 100000 in
theorem kX4_isPlace (l : Launch) (D : va_G) (ad : Nat → Nat) (ca : Nat → ClassId) (B : Nat) (ov : Int64) (N : Nat) (x1 : Int32) (M : Mem) (r0 : Int32) (M0 : Mem) (hf : fX4_isPlace N x1 M = some (r0, M0)) : MtI l D ad ca B ov yX4_isPlace wsX4_isPlace (rmX4_isPlace) [.ref (ad 16), .int x1] M r0 M0 := by
  unfold fX4_isPlace at hf
  refine Met.ofW (cc := cX4_isPlace) (maxL := 2) (ret := (some .boolean)) (by decide) rfl ?_
  intro p e s m args below meth c s₁ Bd hml hv
  obtain ⟨rfl, hw⟩ := hv
  have G : Mx p s m ([.ref (ad 16), .int x1] : List Value).toArray meth c cX4_isPlace 2 wsX4_isPlace RX4 (some .boolean) := ⟨Bd.exec, Bd.bytes, hml, findClass_of_methodNamed Bd.named, atoms_spec (ws := wsX4_isPlace) Bd.pre, Bd.returns, Bd.notSynchronized⟩
  have hC := Cu.of hw
  have hl := lv_entry ([.ref (ad 16), .int x1]) (n := 2) (Nat.le_of_ble_eq_true rfl)
  rw [lg_entry_eq]
  generalize (lg_sl ([.ref (ad 16), .int x1]) ++ List.replicate (2 - (lg_sl ([.ref (ad 16), .int x1])).length) Slot.unset).toArray = ls at hl ⊢
  have hl : lv_has ls 2 [(0, .ref (ad 16)), (1, .int x1)] := hl
  obtain ⟨hx, hb, hml, hown, hts, hr, hlk⟩ := id G
  show W p l e (rmX4_isPlace) s m _ below meth c s.heap [] 0 0 (MQ below (va_Qi (fun (r : Int32) (_ : Unit) => r = r0) (fun _ t => Wp D ad ca B M0 ov t.heap) (Ab B)) _ s 0 0 (Ab B)) (F0 m 0 ls [])
  refine lv_iload_n hx hb dX4_isPlace_0 rfl (lv_at hl 1 rfl) ?_
  refine lv_if_lt (tgt := 16) hx hb dX4_isPlace_1 (by decide) (fun h1 => ?_) (fun h1 => ?_)
  · have hf := it_t h1 hf
    refine lv_iconst (v := 0) hx hb dX4_isPlace_16 (by decide) ?_
    exact mr_Z hx hb hr hlk hC (by decide) hf dX4_isPlace_17
  · have hf := it_f h1 hf
    refine lv_iload_n hx hb dX4_isPlace_4 rfl (lv_at hl 1 rfl) ?_
    refine lv_aload_n hx hb dX4_isPlace_5 rfl (lv_at hl 0 rfl) ?_
    refine mg_get (ci := 4) (C := RX4) (T := TX4) (N := 19) (v := .int (M 16 1)) hx hb hts inX4_isPlace_X4 hown hC 16 (by decide) rfl rfl 1 (by decide) (hts _ lkX4_isPlace_f52) rfl rfl dX4_isPlace_6 ?_
    refine lv_icmp_ge (tgt := 16) hx hb dX4_isPlace_9 (by decide) (fun h2 => ?_) (fun h2 => ?_)
    · have hf := it_t h2 hf
      refine lv_iconst (v := 0) hx hb dX4_isPlace_16 (by decide) ?_
      exact mr_Z hx hb hr hlk hC (by decide) hf dX4_isPlace_17
    · have hf := it_f h2 hf
      refine lv_iconst (v := 1) hx hb dX4_isPlace_12 (by decide) ?_
      refine lv_goto (tgt := 17) hx hb dX4_isPlace_13 (by decide) ?_
      exact mr_Z hx hb hr hlk hC (by decide) hf dX4_isPlace_17

theorem lkX4_isShip_f59 : Cond.fieldLink RX4 59 "BerthPlanModel" "ships" "I" ∈ wsX4_isShip := by decide +kernel
theorem inX4_isShip_X4 : ∀ w ∈ wsX40, w ∈ wsX4_isShip := by decide +kernel
abbrev rmX4_isShip : Room := { frames := 0, cells := 0, slots := 0, locals := 0 }
def fX4_isShip (N : Nat) (x1 : Int32) (M : Mem) : Option (Int32 × Mem) :=
    if (x1 < 0 : Prop) then (some (0, M)) else (if ((M 16 2) ≤ x1 : Prop) then (some (0, M)) else (some (1, M)))
set_option maxHeartbeats 4000000 in
set_option maxRecDepth 100000 in
theorem kX4_isShip (l : Launch) (D : va_G) (ad : Nat → Nat) (ca : Nat → ClassId) (B : Nat) (ov : Int64) (N : Nat) (x1 : Int32) (M : Mem) (r0 : Int32) (M0 : Mem) (hf : fX4_isShip N x1 M = some (r0, M0)) : MtI l D ad ca B ov yX4_isShip wsX4_isShip (rmX4_isShip) [.ref (ad 16), .int x1] M r0 M0 := by
  unfold fX4_isShip at hf
  refine Met.ofW (cc := cX4_isShip) (maxL := 2) (ret := (some .boolean)) (by decide) rfl ?_
  intro p e s m args below meth c s₁ Bd hml hv
  obtain ⟨rfl, hw⟩ := hv
  have G : Mx p s m ([.ref (ad 16), .int x1] : List Value).toArray meth c cX4_isShip 2 wsX4_isShip RX4 (some .boolean) := ⟨Bd.exec, Bd.bytes, hml, findClass_of_methodNamed Bd.named, atoms_spec (ws := wsX4_isShip) Bd.pre, Bd.returns, Bd.notSynchronized⟩
  have hC := Cu.of hw
  have hl := lv_entry ([.ref (ad 16), .int x1]) (n := 2) (Nat.le_of_ble_eq_true rfl)
  rw [lg_entry_eq]
  generalize (lg_sl ([.ref (ad 16), .int x1]) ++ List.replicate (2 - (lg_sl ([.ref (ad 16), .int x1])).length) Slot.unset).toArray = ls at hl ⊢
  have hl : lv_has ls 2 [(0, .ref (ad 16)), (1, .int x1)] := hl
  obtain ⟨hx, hb, hml, hown, hts, hr, hlk⟩ := id G
  show W p l e (rmX4_isShip) s m _ below meth c s.heap [] 0 0 (MQ below (va_Qi (fun (r : Int32) (_ : Unit) => r = r0) (fun _ t => Wp D ad ca B M0 ov t.heap) (Ab B)) _ s 0 0 (Ab B)) (F0 m 0 ls [])
  refine lv_iload_n hx hb dX4_isShip_0 rfl (lv_at hl 1 rfl) ?_
  refine lv_if_lt (tgt := 16) hx hb dX4_isShip_1 (by decide) (fun h1 => ?_) (fun h1 => ?_)
  · have hf := it_t h1 hf
    refine lv_iconst (v := 0) hx hb dX4_isShip_16 (by decide) ?_
    exact mr_Z hx hb hr hlk hC (by decide) hf dX4_isShip_17
  · have hf := it_f h1 hf
    refine lv_iload_n hx hb dX4_isShip_4 rfl (lv_at hl 1 rfl) ?_
    refine lv_aload_n hx hb dX4_isShip_5 rfl (lv_at hl 0 rfl) ?_
    refine mg_get (ci := 4) (C := RX4) (T := TX4) (N := 19) (v := .int (M 16 2)) hx hb hts inX4_isShip_X4 hown hC 16 (by decide) rfl rfl 2 (by decide) (hts _ lkX4_isShip_f59) rfl rfl dX4_isShip_6 ?_
    refine lv_icmp_ge (tgt := 16) hx hb dX4_isShip_9 (by decide) (fun h2 => ?_) (fun h2 => ?_)
    · have hf := it_t h2 hf
      refine lv_iconst (v := 0) hx hb dX4_isShip_16 (by decide) ?_
      exact mr_Z hx hb hr hlk hC (by decide) hf dX4_isShip_17
    · have hf := it_f h2 hf
      refine lv_iconst (v := 1) hx hb dX4_isShip_12 (by decide) ?_
      refine lv_goto (tgt := 17) hx hb dX4_isShip_13 (by decide) ?_
      exact mr_Z hx hb hr hlk hC (by decide) hf dX4_isShip_17

abbrev rmX4_bit : Room := { frames := 0, cells := 0, slots := 0, locals := 0 }
def fX4_bit (N : Nat) (x0 : Int32) (x1 : Int32) (M : Mem) : Option (Int32 × Mem) :=
    if (((x0 >>> (x1 &&& 31)) &&& (1 : Int32)) = 1 : Prop) then (some (1, M)) else (some (0, M))
set_option maxHeartbeats 4000000 in
set_option maxRecDepth 100000 in
theorem kX4_bit (l : Launch) (D : va_G) (ad : Nat → Nat) (ca : Nat → ClassId) (B : Nat) (ov : Int64) (N : Nat) (x0 : Int32) (x1 : Int32) (M : Mem) (r0 : Int32) (M0 : Mem) (hf : fX4_bit N x0 x1 M = some (r0, M0)) : MtI l D ad ca B ov yX4_bit wsX4_bit (rmX4_bit) [.int x0, .int x1] M r0 M0 := by
  unfold fX4_bit at hf
  refine Met.ofW (cc := cX4_bit) (maxL := 2) (ret := (some .boolean)) (by decide) rfl ?_
  intro p e s m args below meth c s₁ Bd hml hv
  obtain ⟨rfl, hw⟩ := hv
  have G : Mx p s m ([.int x0, .int x1] : List Value).toArray meth c cX4_bit 2 wsX4_bit RX4 (some .boolean) := ⟨Bd.exec, Bd.bytes, hml, findClass_of_methodNamed Bd.named, atoms_spec (ws := wsX4_bit) Bd.pre, Bd.returns, Bd.notSynchronized⟩
  have hC := Cu.of hw
  have hl := lv_entry ([.int x0, .int x1]) (n := 2) (Nat.le_of_ble_eq_true rfl)
  rw [lg_entry_eq]
  generalize (lg_sl ([.int x0, .int x1]) ++ List.replicate (2 - (lg_sl ([.int x0, .int x1])).length) Slot.unset).toArray = ls at hl ⊢
  have hl : lv_has ls 2 [(0, .int x0), (1, .int x1)] := hl
  obtain ⟨hx, hb, hml, hown, hts, hr, hlk⟩ := id G
  show W p l e (rmX4_bit) s m _ below meth c s.heap [] 0 0 (MQ below (va_Qi (fun (r : Int32) (_ : Unit) => r = r0) (fun _ t => Wp D ad ca B M0 ov t.heap) (Ab B)) _ s 0 0 (Ab B)) (F0 m 0 ls [])
  refine lv_iload_n hx hb dX4_bit_0 rfl (lv_at hl 0 rfl) ?_
  refine lv_iload_n hx hb dX4_bit_1 rfl (lv_at hl 1 rfl) ?_
  refine lv_ishr hx hb dX4_bit_2 ?_
  refine lv_iconst (v := 1) hx hb dX4_bit_3 (by decide) ?_
  refine lv_iand hx hb dX4_bit_4 ?_
  refine lv_iconst (v := 1) hx hb dX4_bit_5 (by decide) ?_
  refine lv_icmp_ne (tgt := 13) hx hb dX4_bit_6 (by decide) (fun h1 => ?_) (fun h1 => ?_)
  · have hf := it_f h1 hf
    refine lv_iconst (v := 0) hx hb dX4_bit_13 (by decide) ?_
    exact mr_Z hx hb hr hlk hC (by decide) hf dX4_bit_14
  · have hf := it_t h1 hf
    refine lv_iconst (v := 1) hx hb dX4_bit_9 (by decide) ?_
    refine lv_goto (tgt := 14) hx hb dX4_bit_10 (by decide) ?_
    exact mr_Z hx hb hr hlk hC (by decide) hf dX4_bit_14

theorem lkX4_ship_f22 : Cond.fieldLink RX4 22 "BerthPlanModel" "length" "[I" ∈ wsX4_ship := by decide +kernel
theorem lkX4_ship_f25 : Cond.fieldLink RX4 25 "BerthPlanModel" "need" "[I" ∈ wsX4_ship := by decide +kernel
theorem lkX4_ship_f28 : Cond.fieldLink RX4 28 "BerthPlanModel" "time" "[I" ∈ wsX4_ship := by decide +kernel
theorem lkX4_ship_f31 : Cond.fieldLink RX4 31 "BerthPlanModel" "arrives" "[I" ∈ wsX4_ship := by decide +kernel
theorem lkX4_ship_f34 : Cond.fieldLink RX4 34 "BerthPlanModel" "weight" "[I" ∈ wsX4_ship := by decide +kernel
theorem lkX4_ship_f56 : Cond.fieldLink RX4 56 "BerthPlanModel" "thrown" "I" ∈ wsX4_ship := by decide +kernel
theorem lkX4_ship_f59 : Cond.fieldLink RX4 59 "BerthPlanModel" "ships" "I" ∈ wsX4_ship := by decide +kernel
theorem lkX4_ship_f66 : Cond.fieldLink RX4 66 "BerthPlanModel" "isPlan" "Z" ∈ wsX4_ship := by decide +kernel
theorem inX4_ship_X4 : ∀ w ∈ wsX40, w ∈ wsX4_ship := by decide +kernel
abbrev rmX4_ship : Room := { frames := 1, cells := 0, slots := 0, locals := 22 }
def fX4_ship_82 (N : Nat) (x1 : Int32) (x2 : Int32) (x3 : Int32) (x4 : Int32) (x5 : Int32) (y1 : Int32) (M : Mem) : Option (Int32 × Mem) :=
    lq (mw M 16 0 y1) (fun M1 => if ((M1 16 0) ≤ 0 : Prop) then (gd (M1 16 2) 4 (lq (mw M1 21 (M1 16 2 : Int32).toNatClampNeg x1) (fun M4 => gd (M4 16 2) 4 (lq (mw M4 22 (M4 16 2 : Int32).toNatClampNeg x2) (fun M6 => gd (M6 16 2) 4 (lq (mw M6 23 (M6 16 2 : Int32).toNatClampNeg x3) (fun M8 => gd (M8 16 2) 4 (lq (mw M8 24 (M8 16 2 : Int32).toNatClampNeg x4) (fun M10 => gd (M10 16 2) 4 (lq (mw M10 25 (M10 16 2 : Int32).toNatClampNeg x5) (fun M12 => lq (mw M12 16 2 ((M12 16 2) + (1 : Int32))) (fun M13 => lq (mw M13 16 4 0) (fun M14 => some ((M14 16 2) - (1 : Int32), M14)))))))))))))) else (some (0, M1)))
def fX4_ship_57 (N : Nat) (x1 : Int32) (x2 : Int32) (x3 : Int32) (x4 : Int32) (x5 : Int32) (y0 : Int32) (M : Mem) : Option (Int32 × Mem) :=
    if (y0 = 0 : Prop) then (fX4_ship_82 N x1 x2 x3 x4 x5 1 M) else (if ((M 16 2) = 4 : Prop) then (fX4_ship_82 N x1 x2 x3 x4 x5 2 M) else (fX4_ship_82 N x1 x2 x3 x4 x5 0 M))
def fX4_ship (N : Nat) (x1 : Int32) (x2 : Int32) (x3 : Int32) (x4 : Int32) (x5 : Int32) (M : Mem) : Option (Int32 × Mem) :=
    bd (fX4_in N x1 1 6 M) (fun r1 M2 => if (r1 = 0 : Prop) then (fX4_ship_57 N x1 x2 x3 x4 x5 0 M2) else (bd (fX4_in N x2 0 100 M2) (fun r4 M5 => if (r4 = 0 : Prop) then (fX4_ship_57 N x1 x2 x3 x4 x5 0 M5) else (bd (fX4_in N x3 1 24 M5) (fun r7 M8 => if (r7 = 0 : Prop) then (fX4_ship_57 N x1 x2 x3 x4 x5 0 M8) else (bd (fX4_in N x4 0 15 M8) (fun r10 M11 => if (r10 = 0 : Prop) then (fX4_ship_57 N x1 x2 x3 x4 x5 0 M11) else (bd (fX4_in N x5 1 100 M11) (fun r13 M14 => if (r13 = 0 : Prop) then (fX4_ship_57 N x1 x2 x3 x4 x5 0 M14) else (fX4_ship_57 N x1 x2 x3 x4 x5 1 M14))))))))))
set_option maxHeartbeats 4000000 in
set_option maxRecDepth 100000 in
theorem wX4_ship_82 {p : Program} {l : Launch} {e : Env} {s : State} {m : MethodId} {args : Array Value} {below : List Frame} {meth : Method} {c : Code} {D : va_G} {ad : Nat → Nat} {ca : Nat → ClassId} {B : Nat} {ov : Int64} {r0 : Int32} {M0 : Mem} (G : Mx p s m args meth c cX4_ship 7 wsX4_ship RX4 (some .int)) (N : Nat) : ∀ (x1 : Int32) (x2 : Int32) (x3 : Int32) (x4 : Int32) (x5 : Int32) (y1 : Int32) (M : Mem) (H : Heap) (locs : List Loc) (ls : Array Slot), lv_has ls 7 [(0, .ref (ad 16)), (1, .int x1), (2, .int x2), (3, .int x3), (4, .int x4), (5, .int x5)] → Cu D ad ca B M ov s H locs → (fX4_ship_82 N) x1 x2 x3 x4 x5 y1 M = some (r0, M0) → W p l e (rmX4_ship) s m args below meth c H locs 0 0 (MQ below (va_Qi (fun (r : Int32) (_ : Unit) => r = r0) (fun _ t => Wp D ad ca B M0 ov t.heap) (Ab B)) args s 0 0 (Ab B)) (F0 m 82 ls [.int y1, .ref (ad 16)]) := by
  obtain ⟨hx, hb, hml, hown, hts, hr, hlk⟩ := id G
  intro x1 x2 x3 x4 x5 y1 M H locs ls hl hC hf
  unfold fX4_ship_82 at hf
  refine mg_put (ci := 4) (C := RX4) (T := TX4) (N := 19) (ty := .int) (v := .int y1) (x := y1) hx hb hts inX4_ship_X4 tyX4 tyX4_ok nmX4 hown hC 16 (by decide) rfl rfl 0 (by decide) (hts _ lkX4_ship_f56) rfl rfl (by decide +kernel) rfl rfl (Nat.le_of_ble_eq_true rfl) rfl dX4_ship_82 (fun H locs hC => ?_)
  obtain ⟨M1, eM1⟩ : ∃ z : Mem, z = mw M 16 0 y1 := ⟨_, rfl⟩
  rw [← eM1] at hC
  have hf := lq_k eM1 hf
  refine lv_aload_n hx hb dX4_ship_85 rfl (lv_at hl 0 rfl) ?_
  refine mg_get (ci := 4) (C := RX4) (T := TX4) (N := 19) (v := .int (M1 16 0)) hx hb hts inX4_ship_X4 hown hC 16 (by decide) rfl rfl 0 (by decide) (hts _ lkX4_ship_f56) rfl rfl dX4_ship_86 ?_
  refine lv_if_le (tgt := 94) hx hb dX4_ship_89 (by decide) (fun h2 => ?_) (fun h2 => ?_)
  · have hf := it_t h2 hf
    refine lv_aload_n hx hb dX4_ship_94 rfl (lv_at hl 0 rfl) ?_
    refine mg_get (ci := 4) (C := RX4) (T := TX4) (N := 19) (v := .ref (ad 21)) hx hb hts inX4_ship_X4 hown hC 16 (by decide) rfl rfl 9 (by decide) (hts _ lkX4_ship_f22) rfl rfl dX4_ship_95 ?_
    refine lv_aload_n hx hb dX4_ship_98 rfl (lv_at hl 0 rfl) ?_
    refine mg_get (ci := 4) (C := RX4) (T := TX4) (N := 19) (v := .int (M1 16 2)) hx hb hts inX4_ship_X4 hown hC 16 (by decide) rfl rfl 2 (by decide) (hts _ lkX4_ship_f59) rfl rfl dX4_ship_99 ?_
    refine lv_iload_n hx hb dX4_ship_102 rfl (lv_at hl 1 rfl) ?_
    obtain ⟨g3, hf⟩ := gd_s hf
    refine mg_iast (n := 4) (cA := ca 21) hx hb hC 21 13 (by decide) (fun _ => rfl) rfl g3 dX4_ship_103 (fun H locs hC => ?_)
    obtain ⟨M4, eM4⟩ : ∃ z : Mem, z = mw M1 21 (M1 16 2 : Int32).toNatClampNeg x1 := ⟨_, rfl⟩
    rw [← eM4] at hC
    have hf := lq_k eM4 hf
    refine lv_aload_n hx hb dX4_ship_104 rfl (lv_at hl 0 rfl) ?_
    refine mg_get (ci := 4) (C := RX4) (T := TX4) (N := 19) (v := .ref (ad 22)) hx hb hts inX4_ship_X4 hown hC 16 (by decide) rfl rfl 10 (by decide) (hts _ lkX4_ship_f25) rfl rfl dX4_ship_105 ?_
    refine lv_aload_n hx hb dX4_ship_108 rfl (lv_at hl 0 rfl) ?_
    refine mg_get (ci := 4) (C := RX4) (T := TX4) (N := 19) (v := .int (M4 16 2)) hx hb hts inX4_ship_X4 hown hC 16 (by decide) rfl rfl 2 (by decide) (hts _ lkX4_ship_f59) rfl rfl dX4_ship_109 ?_
    refine lv_iload_n hx hb dX4_ship_112 rfl (lv_at hl 2 rfl) ?_
    obtain ⟨g5, hf⟩ := gd_s hf
    refine mg_iast (n := 4) (cA := ca 22) hx hb hC 22 14 (by decide) (fun _ => rfl) rfl g5 dX4_ship_113 (fun H locs hC => ?_)
    obtain ⟨M6, eM6⟩ : ∃ z : Mem, z = mw M4 22 (M4 16 2 : Int32).toNatClampNeg x2 := ⟨_, rfl⟩
    rw [← eM6] at hC
    have hf := lq_k eM6 hf
    refine lv_aload_n hx hb dX4_ship_114 rfl (lv_at hl 0 rfl) ?_
    refine mg_get (ci := 4) (C := RX4) (T := TX4) (N := 19) (v := .ref (ad 23)) hx hb hts inX4_ship_X4 hown hC 16 (by decide) rfl rfl 11 (by decide) (hts _ lkX4_ship_f28) rfl rfl dX4_ship_115 ?_
    refine lv_aload_n hx hb dX4_ship_118 rfl (lv_at hl 0 rfl) ?_
    refine mg_get (ci := 4) (C := RX4) (T := TX4) (N := 19) (v := .int (M6 16 2)) hx hb hts inX4_ship_X4 hown hC 16 (by decide) rfl rfl 2 (by decide) (hts _ lkX4_ship_f59) rfl rfl dX4_ship_119 ?_
    refine lv_iload_n hx hb dX4_ship_122 rfl (lv_at hl 3 rfl) ?_
    obtain ⟨g7, hf⟩ := gd_s hf
    refine mg_iast (n := 4) (cA := ca 23) hx hb hC 23 15 (by decide) (fun _ => rfl) rfl g7 dX4_ship_123 (fun H locs hC => ?_)
    obtain ⟨M8, eM8⟩ : ∃ z : Mem, z = mw M6 23 (M6 16 2 : Int32).toNatClampNeg x3 := ⟨_, rfl⟩
    rw [← eM8] at hC
    have hf := lq_k eM8 hf
    refine lv_aload_n hx hb dX4_ship_124 rfl (lv_at hl 0 rfl) ?_
    refine mg_get (ci := 4) (C := RX4) (T := TX4) (N := 19) (v := .ref (ad 24)) hx hb hts inX4_ship_X4 hown hC 16 (by decide) rfl rfl 12 (by decide) (hts _ lkX4_ship_f31) rfl rfl dX4_ship_125 ?_
    refine lv_aload_n hx hb dX4_ship_128 rfl (lv_at hl 0 rfl) ?_
    refine mg_get (ci := 4) (C := RX4) (T := TX4) (N := 19) (v := .int (M8 16 2)) hx hb hts inX4_ship_X4 hown hC 16 (by decide) rfl rfl 2 (by decide) (hts _ lkX4_ship_f59) rfl rfl dX4_ship_129 ?_
    refine lv_iload hx hb dX4_ship_132 (lv_at hl 4 rfl) ?_
    obtain ⟨g9, hf⟩ := gd_s hf
    refine mg_iast (n := 4) (cA := ca 24) hx hb hC 24 16 (by decide) (fun _ => rfl) rfl g9 dX4_ship_134 (fun H locs hC => ?_)
    obtain ⟨M10, eM10⟩ : ∃ z : Mem, z = mw M8 24 (M8 16 2 : Int32).toNatClampNeg x4 := ⟨_, rfl⟩
    rw [← eM10] at hC
    have hf := lq_k eM10 hf
    refine lv_aload_n hx hb dX4_ship_135 rfl (lv_at hl 0 rfl) ?_
    refine mg_get (ci := 4) (C := RX4) (T := TX4) (N := 19) (v := .ref (ad 25)) hx hb hts inX4_ship_X4 hown hC 16 (by decide) rfl rfl 13 (by decide) (hts _ lkX4_ship_f34) rfl rfl dX4_ship_136 ?_
    refine lv_aload_n hx hb dX4_ship_139 rfl (lv_at hl 0 rfl) ?_
    refine mg_get (ci := 4) (C := RX4) (T := TX4) (N := 19) (v := .int (M10 16 2)) hx hb hts inX4_ship_X4 hown hC 16 (by decide) rfl rfl 2 (by decide) (hts _ lkX4_ship_f59) rfl rfl dX4_ship_140 ?_
    refine lv_iload hx hb dX4_ship_143 (lv_at hl 5 rfl) ?_
    obtain ⟨g11, hf⟩ := gd_s hf
    refine mg_iast (n := 4) (cA := ca 25) hx hb hC 25 17 (by decide) (fun _ => rfl) rfl g11 dX4_ship_145 (fun H locs hC => ?_)
    obtain ⟨M12, eM12⟩ : ∃ z : Mem, z = mw M10 25 (M10 16 2 : Int32).toNatClampNeg x5 := ⟨_, rfl⟩
    rw [← eM12] at hC
    have hf := lq_k eM12 hf
    refine lv_aload_n hx hb dX4_ship_146 rfl (lv_at hl 0 rfl) ?_
    refine lv_dup hx hb dX4_ship_147 rfl ?_
    refine mg_get (ci := 4) (C := RX4) (T := TX4) (N := 19) (v := .int (M12 16 2)) hx hb hts inX4_ship_X4 hown hC 16 (by decide) rfl rfl 2 (by decide) (hts _ lkX4_ship_f59) rfl rfl dX4_ship_148 ?_
    refine lv_iconst (v := 1) hx hb dX4_ship_151 (by decide) ?_
    refine lv_iadd hx hb dX4_ship_152 ?_
    refine mg_put (ci := 4) (C := RX4) (T := TX4) (N := 19) (ty := .int) (v := .int ((M12 16 2) + (1 : Int32))) (x := (M12 16 2) + (1 : Int32)) hx hb hts inX4_ship_X4 tyX4 tyX4_ok nmX4 hown hC 16 (by decide) rfl rfl 2 (by decide) (hts _ lkX4_ship_f59) rfl rfl (by decide +kernel) rfl rfl (Nat.le_of_ble_eq_true rfl) rfl dX4_ship_153 (fun H locs hC => ?_)
    obtain ⟨M13, eM13⟩ : ∃ z : Mem, z = mw M12 16 2 ((M12 16 2) + (1 : Int32)) := ⟨_, rfl⟩
    rw [← eM13] at hC
    have hf := lq_k eM13 hf
    refine lv_aload_n hx hb dX4_ship_156 rfl (lv_at hl 0 rfl) ?_
    refine lv_iconst (v := 0) hx hb dX4_ship_157 (by decide) ?_
    refine mg_put (ci := 4) (C := RX4) (T := TX4) (N := 19) (ty := .boolean) (v := .int 0) (x := 0) hx hb hts inX4_ship_X4 tyX4 tyX4_ok nmX4 hown hC 16 (by decide) rfl rfl 4 (by decide) (hts _ lkX4_ship_f66) rfl rfl (by decide +kernel) (by decide) rfl (Nat.le_of_ble_eq_true rfl) rfl dX4_ship_158 (fun H locs hC => ?_)
    obtain ⟨M14, eM14⟩ : ∃ z : Mem, z = mw M13 16 4 0 := ⟨_, rfl⟩
    rw [← eM14] at hC
    have hf := lq_k eM14 hf
    refine lv_aload_n hx hb dX4_ship_161 rfl (lv_at hl 0 rfl) ?_
    refine mg_get (ci := 4) (C := RX4) (T := TX4) (N := 19) (v := .int (M14 16 2)) hx hb hts inX4_ship_X4 hown hC 16 (by decide) rfl rfl 2 (by decide) (hts _ lkX4_ship_f59) rfl rfl dX4_ship_162 ?_
    refine lv_iconst (v := 1) hx hb dX4_ship_165 (by decide) ?_
    refine lv_isub hx hb dX4_ship_166 ?_
    exact mr_I hx hb hr hlk hC hf dX4_ship_167
  · have hf := it_f h2 hf
    refine lv_iconst (v := 0) hx hb dX4_ship_92 (by decide) ?_
    exact mr_I hx hb hr hlk hC hf dX4_ship_93
set_option maxHeartbeats 4000000 in
set_option maxRecDepth 100000 in
theorem wX4_ship_57 {p : Program} {l : Launch} {e : Env} {s : State} {m : MethodId} {args : Array Value} {below : List Frame} {meth : Method} {c : Code} {D : va_G} {ad : Nat → Nat} {ca : Nat → ClassId} {B : Nat} {ov : Int64} {r0 : Int32} {M0 : Mem} (G : Mx p s m args meth c cX4_ship 7 wsX4_ship RX4 (some .int)) (N : Nat) : ∀ (x1 : Int32) (x2 : Int32) (x3 : Int32) (x4 : Int32) (x5 : Int32) (y0 : Int32) (M : Mem) (H : Heap) (locs : List Loc) (ls : Array Slot), lv_has ls 7 [(0, .ref (ad 16)), (1, .int x1), (2, .int x2), (3, .int x3), (4, .int x4), (5, .int x5)] → Cu D ad ca B M ov s H locs → (fX4_ship_57 N) x1 x2 x3 x4 x5 y0 M = some (r0, M0) → W p l e (rmX4_ship) s m args below meth c H locs 0 0 (MQ below (va_Qi (fun (r : Int32) (_ : Unit) => r = r0) (fun _ t => Wp D ad ca B M0 ov t.heap) (Ab B)) args s 0 0 (Ab B)) (F0 m 57 ls [.int y0]) := by
  obtain ⟨hx, hb, hml, hown, hts, hr, hlk⟩ := id G
  intro x1 x2 x3 x4 x5 y0 M H locs ls hl hC hf
  unfold fX4_ship_57 at hf
  refine lv_istore (lv' := [(6, .int y0), (0, .ref (ad 16)), (1, .int x1), (2, .int x2), (3, .int x3), (4, .int x4), (5, .int x5)]) hx hb dX4_ship_57 hl (by decide) rfl (fun ls hl => ?_)
  refine lv_aload_n hx hb dX4_ship_59 rfl (lv_at hl 1 rfl) ?_
  refine lv_iload hx hb dX4_ship_60 (lv_at hl 0 rfl) ?_
  refine lv_if_ne (tgt := 69) hx hb dX4_ship_62 (by decide) (fun h1 => ?_) (fun h1 => ?_)
  · have hf := it_f h1 hf
    refine lv_aload_n hx hb dX4_ship_69 rfl (lv_at hl 1 rfl) ?_
    refine mg_get (ci := 4) (C := RX4) (T := TX4) (N := 19) (v := .int (M 16 2)) hx hb hts inX4_ship_X4 hown hC 16 (by decide) rfl rfl 2 (by decide) (hts _ lkX4_ship_f59) rfl rfl dX4_ship_70 ?_
    refine lv_iconst (v := 4) hx hb dX4_ship_73 (by decide) ?_
    refine lv_icmp_ne (tgt := 81) hx hb dX4_ship_74 (by decide) (fun h2 => ?_) (fun h2 => ?_)
    · have hf := it_f h2 hf
      refine lv_iconst (v := 0) hx hb dX4_ship_81 (by decide) ?_
      exact wX4_ship_82 G N x1 x2 x3 x4 x5 0 M _ _ _ (lv_sub hl [1, 2, 3, 4, 5, 6] rfl) hC hf
    · have hf := it_t h2 hf
      refine lv_iconst (v := 2) hx hb dX4_ship_77 (by decide) ?_
      refine lv_goto (tgt := 82) hx hb dX4_ship_78 (by decide) ?_
      exact wX4_ship_82 G N x1 x2 x3 x4 x5 2 M _ _ _ (lv_sub hl [1, 2, 3, 4, 5, 6] rfl) hC hf
  · have hf := it_t h1 hf
    refine lv_iconst (v := 1) hx hb dX4_ship_65 (by decide) ?_
    refine lv_goto (tgt := 82) hx hb dX4_ship_66 (by decide) ?_
    exact wX4_ship_82 G N x1 x2 x3 x4 x5 1 M _ _ _ (lv_sub hl [1, 2, 3, 4, 5, 6] rfl) hC hf
set_option maxHeartbeats 4000000 in
set_option maxRecDepth 100000 in
theorem kX4_ship (l : Launch) (D : va_G) (ad : Nat → Nat) (ca : Nat → ClassId) (B : Nat) (ov : Int64) (N : Nat) (x1 : Int32) (x2 : Int32) (x3 : Int32) (x4 : Int32) (x5 : Int32) (M : Mem) (r0 : Int32) (M0 : Mem) (hf : fX4_ship N x1 x2 x3 x4 x5 M = some (r0, M0)) : MtI l D ad ca B ov yX4_ship wsX4_ship (rmX4_ship) [.ref (ad 16), .int x1, .int x2, .int x3, .int x4, .int x5] M r0 M0 := by
  unfold fX4_ship at hf
  refine Met.ofW (cc := cX4_ship) (maxL := 7) (ret := (some .int)) (by decide) rfl ?_
  intro p e s m args below meth c s₁ Bd hml hv
  obtain ⟨rfl, hw⟩ := hv
  have G : Mx p s m ([.ref (ad 16), .int x1, .int x2, .int x3, .int x4, .int x5] : List Value).toArray meth c cX4_ship 7 wsX4_ship RX4 (some .int) := ⟨Bd.exec, Bd.bytes, hml, findClass_of_methodNamed Bd.named, atoms_spec (ws := wsX4_ship) Bd.pre, Bd.returns, Bd.notSynchronized⟩
  have hC := Cu.of hw
  have hl := lv_entry ([.ref (ad 16), .int x1, .int x2, .int x3, .int x4, .int x5]) (n := 7) (Nat.le_of_ble_eq_true rfl)
  rw [lg_entry_eq]
  generalize (lg_sl ([.ref (ad 16), .int x1, .int x2, .int x3, .int x4, .int x5]) ++ List.replicate (7 - (lg_sl ([.ref (ad 16), .int x1, .int x2, .int x3, .int x4, .int x5])).length) Slot.unset).toArray = ls at hl ⊢
  have hl : lv_has ls 7 [(0, .ref (ad 16)), (1, .int x1), (2, .int x2), (3, .int x3), (4, .int x4), (5, .int x5)] := hl
  obtain ⟨hx, hb, hml, hown, hts, hr, hlk⟩ := id G
  show W p l e (rmX4_ship) s m _ below meth c s.heap [] 0 0 (MQ below (va_Qi (fun (r : Int32) (_ : Unit) => r = r0) (fun _ t => Wp D ad ca B M0 ov t.heap) (Ab B)) _ s 0 0 (Ab B)) (F0 m 0 ls [])
  refine lv_iload_n hx hb dX4_ship_0 rfl (lv_at hl 1 rfl) ?_
  refine lv_iconst (v := 1) hx hb dX4_ship_1 (by decide) ?_
  refine lv_bipush (v := 6) hx hb dX4_ship_2 (by decide) ?_
  obtain ⟨r1, M2, hq, hf⟩ := bd_s hf
  refine mc_Si (As := [.int x1, .int 1, .int 6]) ⟨hx, hb, hml, hown, hts⟩ hC (kX4_in l D ad ca B ov N x1 1 6 M r1 M2 hq) (va_cwS 3 hts gX4_ship_X4_in rfl rfl rfl (by decide +kernel) ⟨Nat.le_of_ble_eq_true rfl, Nat.le_of_ble_eq_true rfl⟩) rfl hl.1 rfl (Nat.le_of_ble_eq_true rfl) dX4_ship_4 ⟨Nat.zero_le _, Nat.zero_le _⟩ (fun H locs hC => ?_)
  refine lv_if_eq (tgt := 56) hx hb dX4_ship_7 (by decide) (fun h3 => ?_) (fun h3 => ?_)
  · have hf := it_t h3 hf
    refine lv_iconst (v := 0) hx hb dX4_ship_56 (by decide) ?_
    exact wX4_ship_57 G N x1 x2 x3 x4 x5 0 M2 _ _ _ (lv_sub hl [0, 1, 2, 3, 4, 5] rfl) hC hf
  · have hf := it_f h3 hf
    refine lv_iload_n hx hb dX4_ship_10 rfl (lv_at hl 2 rfl) ?_
    refine lv_iconst (v := 0) hx hb dX4_ship_11 (by decide) ?_
    refine lv_bipush (v := 100) hx hb dX4_ship_12 (by decide) ?_
    obtain ⟨r4, M5, hq, hf⟩ := bd_s hf
    refine mc_Si (As := [.int x2, .int 0, .int 100]) ⟨hx, hb, hml, hown, hts⟩ hC (kX4_in l D ad ca B ov N x2 0 100 M2 r4 M5 hq) (va_cwS 3 hts gX4_ship_X4_in rfl rfl rfl (by decide +kernel) ⟨Nat.le_of_ble_eq_true rfl, Nat.le_of_ble_eq_true rfl⟩) rfl hl.1 rfl (Nat.le_of_ble_eq_true rfl) dX4_ship_14 ⟨Nat.zero_le _, Nat.zero_le _⟩ (fun H locs hC => ?_)
    refine lv_if_eq (tgt := 56) hx hb dX4_ship_17 (by decide) (fun h6 => ?_) (fun h6 => ?_)
    · have hf := it_t h6 hf
      refine lv_iconst (v := 0) hx hb dX4_ship_56 (by decide) ?_
      exact wX4_ship_57 G N x1 x2 x3 x4 x5 0 M5 _ _ _ (lv_sub hl [0, 1, 2, 3, 4, 5] rfl) hC hf
    · have hf := it_f h6 hf
      refine lv_iload_n hx hb dX4_ship_20 rfl (lv_at hl 3 rfl) ?_
      refine lv_iconst (v := 1) hx hb dX4_ship_21 (by decide) ?_
      refine lv_bipush (v := 24) hx hb dX4_ship_22 (by decide) ?_
      obtain ⟨r7, M8, hq, hf⟩ := bd_s hf
      refine mc_Si (As := [.int x3, .int 1, .int 24]) ⟨hx, hb, hml, hown, hts⟩ hC (kX4_in l D ad ca B ov N x3 1 24 M5 r7 M8 hq) (va_cwS 3 hts gX4_ship_X4_in rfl rfl rfl (by decide +kernel) ⟨Nat.le_of_ble_eq_true rfl, Nat.le_of_ble_eq_true rfl⟩) rfl hl.1 rfl (Nat.le_of_ble_eq_true rfl) dX4_ship_24 ⟨Nat.zero_le _, Nat.zero_le _⟩ (fun H locs hC => ?_)
      refine lv_if_eq (tgt := 56) hx hb dX4_ship_27 (by decide) (fun h9 => ?_) (fun h9 => ?_)
      · have hf := it_t h9 hf
        refine lv_iconst (v := 0) hx hb dX4_ship_56 (by decide) ?_
        exact wX4_ship_57 G N x1 x2 x3 x4 x5 0 M8 _ _ _ (lv_sub hl [0, 1, 2, 3, 4, 5] rfl) hC hf
      · have hf := it_f h9 hf
        refine lv_iload hx hb dX4_ship_30 (lv_at hl 4 rfl) ?_
        refine lv_iconst (v := 0) hx hb dX4_ship_32 (by decide) ?_
        refine lv_bipush (v := 15) hx hb dX4_ship_33 (by decide) ?_
        obtain ⟨r10, M11, hq, hf⟩ := bd_s hf
        refine mc_Si (As := [.int x4, .int 0, .int 15]) ⟨hx, hb, hml, hown, hts⟩ hC (kX4_in l D ad ca B ov N x4 0 15 M8 r10 M11 hq) (va_cwS 3 hts gX4_ship_X4_in rfl rfl rfl (by decide +kernel) ⟨Nat.le_of_ble_eq_true rfl, Nat.le_of_ble_eq_true rfl⟩) rfl hl.1 rfl (Nat.le_of_ble_eq_true rfl) dX4_ship_35 ⟨Nat.zero_le _, Nat.zero_le _⟩ (fun H locs hC => ?_)
        refine lv_if_eq (tgt := 56) hx hb dX4_ship_38 (by decide) (fun h12 => ?_) (fun h12 => ?_)
        · have hf := it_t h12 hf
          refine lv_iconst (v := 0) hx hb dX4_ship_56 (by decide) ?_
          exact wX4_ship_57 G N x1 x2 x3 x4 x5 0 M11 _ _ _ (lv_sub hl [0, 1, 2, 3, 4, 5] rfl) hC hf
        · have hf := it_f h12 hf
          refine lv_iload hx hb dX4_ship_41 (lv_at hl 5 rfl) ?_
          refine lv_iconst (v := 1) hx hb dX4_ship_43 (by decide) ?_
          refine lv_bipush (v := 100) hx hb dX4_ship_44 (by decide) ?_
          obtain ⟨r13, M14, hq, hf⟩ := bd_s hf
          refine mc_Si (As := [.int x5, .int 1, .int 100]) ⟨hx, hb, hml, hown, hts⟩ hC (kX4_in l D ad ca B ov N x5 1 100 M11 r13 M14 hq) (va_cwS 3 hts gX4_ship_X4_in rfl rfl rfl (by decide +kernel) ⟨Nat.le_of_ble_eq_true rfl, Nat.le_of_ble_eq_true rfl⟩) rfl hl.1 rfl (Nat.le_of_ble_eq_true rfl) dX4_ship_46 ⟨Nat.zero_le _, Nat.zero_le _⟩ (fun H locs hC => ?_)
          refine lv_if_eq (tgt := 56) hx hb dX4_ship_49 (by decide) (fun h15 => ?_) (fun h15 => ?_)
          · have hf := it_t h15 hf
            refine lv_iconst (v := 0) hx hb dX4_ship_56 (by decide) ?_
            exact wX4_ship_57 G N x1 x2 x3 x4 x5 0 M14 _ _ _ (lv_sub hl [0, 1, 2, 3, 4, 5] rfl) hC hf
          · have hf := it_f h15 hf
            refine lv_iconst (v := 1) hx hb dX4_ship_52 (by decide) ?_
            refine lv_goto (tgt := 57) hx hb dX4_ship_53 (by decide) ?_
            exact wX4_ship_57 G N x1 x2 x3 x4 x5 1 M14 _ _ _ (lv_sub hl [0, 1, 2, 3, 4, 5] rfl) hC hf

theorem lkX4_depth_f7 : Cond.fieldLink RX4 7 "BerthPlanModel" "depthOf" "[I" ∈ wsX4_depth := by decide +kernel
theorem lkX4_depth_f56 : Cond.fieldLink RX4 56 "BerthPlanModel" "thrown" "I" ∈ wsX4_depth := by decide +kernel
theorem lkX4_depth_f66 : Cond.fieldLink RX4 66 "BerthPlanModel" "isPlan" "Z" ∈ wsX4_depth := by decide +kernel
theorem inX4_depth_X4 : ∀ w ∈ wsX40, w ∈ wsX4_depth := by decide +kernel
abbrev rmX4_depth : Room := { frames := 1, cells := 0, slots := 0, locals := 22 }
def fX4_depth_41 (N : Nat) : Nat → Int32 → Int32 → Int32 → Mem → Option (Int32 × Mem)
  | 0, _, _, _, _ => none
  | n + 1, x2, x3, x4, M =>
    if (x2 < x4 : Prop) then (lq (mw M 16 4 0) (fun M2 => some (1, M2))) else (gd (x4) 6 (lq (mw M 17 (x4 : Int32).toNatClampNeg x3) (fun M4 => lq (x4 + 1) (fun z5 => fX4_depth_41 N n x2 x3 z5 M4))))
theorem fX4_depth_41_s {N n : Nat} {x2 : Int32} {x3 : Int32} {x4 : Int32} {M : Mem} : fX4_depth_41 N (n + 1) x2 x3 x4 M =
    if (x2 < x4 : Prop) then (lq (mw M 16 4 0) (fun M2 => some (1, M2))) else (gd (x4) 6 (lq (mw M 17 (x4 : Int32).toNatClampNeg x3) (fun M4 => lq (x4 + 1) (fun z5 => fX4_depth_41 N n x2 x3 z5 M4)))) := rfl
def fX4_depth (N : Nat) (x1 : Int32) (x2 : Int32) (x3 : Int32) (M : Mem) : Option (Int32 × Mem) :=
    lq (mw M 16 0 0) (fun M1 => bd (fX4_isPlace N x1 M1) (fun r2 M3 => if (r2 = 0 : Prop) then (some (0, M3)) else (bd (fX4_isPlace N x2 M3) (fun r5 M6 => if (r5 = 0 : Prop) then (some (0, M6)) else (if (x2 < x1 : Prop) then (some (0, M6)) else (bd (fX4_in N x3 0 100 M6) (fun r9 M10 => if (r9 = 0 : Prop) then (some (0, M10)) else (fX4_depth_41 N N x2 x3 x1 M10))))))))
set_option maxHeartbeats 4000000 in
set_option maxRecDepth 100000 in
theorem wX4_depth_41 {p : Program} {l : Launch} {e : Env} {s : State} {m : MethodId} {args : Array Value} {below : List Frame} {meth : Method} {c : Code} {D : va_G} {ad : Nat → Nat} {ca : Nat → ClassId} {B : Nat} {ov : Int64} {r0 : Int32} {M0 : Mem} (G : Mx p s m args meth c cX4_depth 5 wsX4_depth RX4 (some .boolean)) (N : Nat) : ∀ (n : Nat), ∀ (x2 : Int32) (x3 : Int32) (x4 : Int32) (M : Mem) (H : Heap) (locs : List Loc) (ls : Array Slot), lv_has ls 5 [(0, .ref (ad 16)), (2, .int x2), (3, .int x3), (4, .int x4)] → Cu D ad ca B M ov s H locs → (fX4_depth_41 N n) x2 x3 x4 M = some (r0, M0) → W p l e (rmX4_depth) s m args below meth c H locs 0 0 (MQ below (va_Qi (fun (r : Int32) (_ : Unit) => r = r0) (fun _ t => Wp D ad ca B M0 ov t.heap) (Ab B)) args s 0 0 (Ab B)) (F0 m 41 ls []) := by
  obtain ⟨hx, hb, hml, hown, hts, hr, hlk⟩ := id G
  intro n
  induction n with
  | zero =>
    intro x2 x3 x4 M H locs ls hl hC hf
    cases hf
  | succ n ih =>
    intro x2 x3 x4 M H locs ls hl hC hf
    have hf := (fX4_depth_41_s).symm.trans hf
    refine lv_iload hx hb dX4_depth_41 (lv_at hl 3 rfl) ?_
    refine lv_iload_n hx hb dX4_depth_43 rfl (lv_at hl 1 rfl) ?_
    refine lv_icmp_gt (tgt := 61) hx hb dX4_depth_44 (by decide) (fun h1 => ?_) (fun h1 => ?_)
    · have hf := it_t h1 hf
      refine lv_aload_n hx hb dX4_depth_61 rfl (lv_at hl 0 rfl) ?_
      refine lv_iconst (v := 0) hx hb dX4_depth_62 (by decide) ?_
      refine mg_put (ci := 4) (C := RX4) (T := TX4) (N := 19) (ty := .boolean) (v := .int 0) (x := 0) hx hb hts inX4_depth_X4 tyX4 tyX4_ok nmX4 hown hC 16 (by decide) rfl rfl 4 (by decide) (hts _ lkX4_depth_f66) rfl rfl (by decide +kernel) (by decide) rfl (Nat.le_of_ble_eq_true rfl) rfl dX4_depth_63 (fun H locs hC => ?_)
      obtain ⟨M2, eM2⟩ : ∃ z : Mem, z = mw M 16 4 0 := ⟨_, rfl⟩
      rw [← eM2] at hC
      have hf := lq_k eM2 hf
      refine lv_iconst (v := 1) hx hb dX4_depth_66 (by decide) ?_
      exact mr_Z hx hb hr hlk hC (by decide) hf dX4_depth_67
    · have hf := it_f h1 hf
      refine lv_aload_n hx hb dX4_depth_47 rfl (lv_at hl 0 rfl) ?_
      refine mg_get (ci := 4) (C := RX4) (T := TX4) (N := 19) (v := .ref (ad 17)) hx hb hts inX4_depth_X4 hown hC 16 (by decide) rfl rfl 5 (by decide) (hts _ lkX4_depth_f7) rfl rfl dX4_depth_48 ?_
      refine lv_iload hx hb dX4_depth_51 (lv_at hl 3 rfl) ?_
      refine lv_iload_n hx hb dX4_depth_53 rfl (lv_at hl 2 rfl) ?_
      obtain ⟨g3, hf⟩ := gd_s hf
      refine mg_iast (n := 6) (cA := ca 17) hx hb hC 17 9 (by decide) (fun _ => rfl) rfl g3 dX4_depth_54 (fun H locs hC => ?_)
      obtain ⟨M4, eM4⟩ : ∃ z : Mem, z = mw M 17 (x4 : Int32).toNatClampNeg x3 := ⟨_, rfl⟩
      rw [← eM4] at hC
      have hf := lq_k eM4 hf
      obtain ⟨z5, ez5⟩ : ∃ y : Int32, y = x4 + 1 := ⟨_, rfl⟩
      have hf := lq_k ez5 hf
      refine lv_iinc (v := z5) (lv' := [(4, .int z5), (0, .ref (ad 16)), (2, .int x2), (3, .int x3)]) hx hb dX4_depth_55 hl (k := 3) rfl (by rw [ez5]; rfl) (by decide) rfl (fun ls hl => ?_)
      refine lv_goto (tgt := 41) hx hb dX4_depth_58 (by decide) ?_
      exact ih x2 x3 z5 M4 _ _ _ (lv_sub hl [1, 2, 3, 0] rfl) hC hf
set_option maxHeartbeats 4000000 in
set_option maxRecDepth 100000 in
theorem kX4_depth (l : Launch) (D : va_G) (ad : Nat → Nat) (ca : Nat → ClassId) (B : Nat) (ov : Int64) (N : Nat) (x1 : Int32) (x2 : Int32) (x3 : Int32) (M : Mem) (r0 : Int32) (M0 : Mem) (hf : fX4_depth N x1 x2 x3 M = some (r0, M0)) : MtI l D ad ca B ov yX4_depth wsX4_depth (rmX4_depth) [.ref (ad 16), .int x1, .int x2, .int x3] M r0 M0 := by
  unfold fX4_depth at hf
  refine Met.ofW (cc := cX4_depth) (maxL := 5) (ret := (some .boolean)) (by decide) rfl ?_
  intro p e s m args below meth c s₁ Bd hml hv
  obtain ⟨rfl, hw⟩ := hv
  have G : Mx p s m ([.ref (ad 16), .int x1, .int x2, .int x3] : List Value).toArray meth c cX4_depth 5 wsX4_depth RX4 (some .boolean) := ⟨Bd.exec, Bd.bytes, hml, findClass_of_methodNamed Bd.named, atoms_spec (ws := wsX4_depth) Bd.pre, Bd.returns, Bd.notSynchronized⟩
  have hC := Cu.of hw
  have hl := lv_entry ([.ref (ad 16), .int x1, .int x2, .int x3]) (n := 5) (Nat.le_of_ble_eq_true rfl)
  rw [lg_entry_eq]
  generalize (lg_sl ([.ref (ad 16), .int x1, .int x2, .int x3]) ++ List.replicate (5 - (lg_sl ([.ref (ad 16), .int x1, .int x2, .int x3])).length) Slot.unset).toArray = ls at hl ⊢
  have hl : lv_has ls 5 [(0, .ref (ad 16)), (1, .int x1), (2, .int x2), (3, .int x3)] := hl
  obtain ⟨hx, hb, hml, hown, hts, hr, hlk⟩ := id G
  show W p l e (rmX4_depth) s m _ below meth c s.heap [] 0 0 (MQ below (va_Qi (fun (r : Int32) (_ : Unit) => r = r0) (fun _ t => Wp D ad ca B M0 ov t.heap) (Ab B)) _ s 0 0 (Ab B)) (F0 m 0 ls [])
  refine lv_aload_n hx hb dX4_depth_0 rfl (lv_at hl 0 rfl) ?_
  refine lv_iconst (v := 0) hx hb dX4_depth_1 (by decide) ?_
  refine mg_put (ci := 4) (C := RX4) (T := TX4) (N := 19) (ty := .int) (v := .int 0) (x := 0) hx hb hts inX4_depth_X4 tyX4 tyX4_ok nmX4 hown hC 16 (by decide) rfl rfl 0 (by decide) (hts _ lkX4_depth_f56) rfl rfl (by decide +kernel) rfl rfl (Nat.le_of_ble_eq_true rfl) rfl dX4_depth_2 (fun H locs hC => ?_)
  obtain ⟨M1, eM1⟩ : ∃ z : Mem, z = mw M 16 0 0 := ⟨_, rfl⟩
  rw [← eM1] at hC
  have hf := lq_k eM1 hf
  refine lv_aload_n hx hb dX4_depth_5 rfl (lv_at hl 0 rfl) ?_
  refine lv_iload_n hx hb dX4_depth_6 rfl (lv_at hl 1 rfl) ?_
  obtain ⟨r2, M3, hq, hf⟩ := bd_s hf
  refine mc_Vi (As := [.int x1]) ⟨hx, hb, hml, hown, hts⟩ hC (kX4_isPlace l D ad ca B ov N x1 M1 r2 M3 hq) (cwV 1 hts gX4_depth_X4_isPlace rfl rfl rfl (by decide +kernel) ⟨Nat.le_of_ble_eq_true rfl, Nat.le_of_ble_eq_true rfl⟩) (mg_recv (ci := 4) (C := RX4) (T := TX4) (N := 19) hC 16 (by decide) rfl rfl) rfl hl.1 rfl (Nat.le_of_ble_eq_true rfl) dX4_depth_7 ⟨Nat.zero_le _, Nat.zero_le _⟩ (fun H locs hC => ?_)
  refine lv_if_eq (tgt := 36) hx hb dX4_depth_10 (by decide) (fun h4 => ?_) (fun h4 => ?_)
  · have hf := it_t h4 hf
    refine lv_iconst (v := 0) hx hb dX4_depth_36 (by decide) ?_
    exact mr_Z hx hb hr hlk hC (by decide) hf dX4_depth_37
  · have hf := it_f h4 hf
    refine lv_aload_n hx hb dX4_depth_13 rfl (lv_at hl 0 rfl) ?_
    refine lv_iload_n hx hb dX4_depth_14 rfl (lv_at hl 2 rfl) ?_
    obtain ⟨r5, M6, hq, hf⟩ := bd_s hf
    refine mc_Vi (As := [.int x2]) ⟨hx, hb, hml, hown, hts⟩ hC (kX4_isPlace l D ad ca B ov N x2 M3 r5 M6 hq) (cwV 1 hts gX4_depth_X4_isPlace rfl rfl rfl (by decide +kernel) ⟨Nat.le_of_ble_eq_true rfl, Nat.le_of_ble_eq_true rfl⟩) (mg_recv (ci := 4) (C := RX4) (T := TX4) (N := 19) hC 16 (by decide) rfl rfl) rfl hl.1 rfl (Nat.le_of_ble_eq_true rfl) dX4_depth_15 ⟨Nat.zero_le _, Nat.zero_le _⟩ (fun H locs hC => ?_)
    refine lv_if_eq (tgt := 36) hx hb dX4_depth_18 (by decide) (fun h7 => ?_) (fun h7 => ?_)
    · have hf := it_t h7 hf
      refine lv_iconst (v := 0) hx hb dX4_depth_36 (by decide) ?_
      exact mr_Z hx hb hr hlk hC (by decide) hf dX4_depth_37
    · have hf := it_f h7 hf
      refine lv_iload_n hx hb dX4_depth_21 rfl (lv_at hl 1 rfl) ?_
      refine lv_iload_n hx hb dX4_depth_22 rfl (lv_at hl 2 rfl) ?_
      refine lv_icmp_gt (tgt := 36) hx hb dX4_depth_23 (by decide) (fun h8 => ?_) (fun h8 => ?_)
      · have hf := it_t h8 hf
        refine lv_iconst (v := 0) hx hb dX4_depth_36 (by decide) ?_
        exact mr_Z hx hb hr hlk hC (by decide) hf dX4_depth_37
      · have hf := it_f h8 hf
        refine lv_iload_n hx hb dX4_depth_26 rfl (lv_at hl 3 rfl) ?_
        refine lv_iconst (v := 0) hx hb dX4_depth_27 (by decide) ?_
        refine lv_bipush (v := 100) hx hb dX4_depth_28 (by decide) ?_
        obtain ⟨r9, M10, hq, hf⟩ := bd_s hf
        refine mc_Si (As := [.int x3, .int 0, .int 100]) ⟨hx, hb, hml, hown, hts⟩ hC (kX4_in l D ad ca B ov N x3 0 100 M6 r9 M10 hq) (va_cwS 3 hts gX4_depth_X4_in rfl rfl rfl (by decide +kernel) ⟨Nat.le_of_ble_eq_true rfl, Nat.le_of_ble_eq_true rfl⟩) rfl hl.1 rfl (Nat.le_of_ble_eq_true rfl) dX4_depth_30 ⟨Nat.zero_le _, Nat.zero_le _⟩ (fun H locs hC => ?_)
        refine lv_if_ne (tgt := 38) hx hb dX4_depth_33 (by decide) (fun h11 => ?_) (fun h11 => ?_)
        · have hf := it_f h11 hf
          refine lv_iload_n hx hb dX4_depth_38 rfl (lv_at hl 1 rfl) ?_
          refine lv_istore (lv' := [(4, .int x1), (0, .ref (ad 16)), (1, .int x1), (2, .int x2), (3, .int x3)]) hx hb dX4_depth_39 hl (by decide) rfl (fun ls hl => ?_)
          exact wX4_depth_41 G N N x2 x3 x1 M10 _ _ _ (lv_sub hl [1, 3, 4, 0] rfl) hC hf
        · have hf := it_t h11 hf
          refine lv_iconst (v := 0) hx hb dX4_depth_36 (by decide) ?_
          exact mr_Z hx hb hr hlk hC (by decide) hf dX4_depth_37

theorem lkX4_gear_f13 : Cond.fieldLink RX4 13 "BerthPlanModel" "gearOf" "[I" ∈ wsX4_gear := by decide +kernel
theorem lkX4_gear_f56 : Cond.fieldLink RX4 56 "BerthPlanModel" "thrown" "I" ∈ wsX4_gear := by decide +kernel
theorem lkX4_gear_f66 : Cond.fieldLink RX4 66 "BerthPlanModel" "isPlan" "Z" ∈ wsX4_gear := by decide +kernel
theorem inX4_gear_X4 : ∀ w ∈ wsX40, w ∈ wsX4_gear := by decide +kernel
abbrev rmX4_gear : Room := { frames := 1, cells := 0, slots := 0, locals := 22 }
def fX4_gear (N : Nat) (x1 : Int32) (x2 : Int32) (x3 : Int32) (M : Mem) : Option (Int32 × Mem) :=
    lq (mw M 16 0 0) (fun M1 => bd (fX4_isPlace N x1 M1) (fun r2 M3 => if (r2 = 0 : Prop) then (some (0, M3)) else (bd (fX4_in N x2 0 7 M3) (fun r5 M6 => if (r5 = 0 : Prop) then (some (0, M6)) else (gd (x1) 6 (bd (fX4_bit N (M6 18 (x1 : Int32).toNatClampNeg) x2 M6) (fun r9 M10 => if (r9 = x3 : Prop) then (some (0, M10)) else (gd (x1) 6 (if (x3 = 0 : Prop) then (gd (x1) 6 (lq (mw M10 18 (x1 : Int32).toNatClampNeg ((M10 18 (x1 : Int32).toNatClampNeg) + (-((1 : Int32) <<< (x2 &&& 31))))) (fun M15 => lq (mw M15 16 4 0) (fun M16 => some (1, M16))))) else (gd (x1) 6 (lq (mw M10 18 (x1 : Int32).toNatClampNeg ((M10 18 (x1 : Int32).toNatClampNeg) + ((1 : Int32) <<< (x2 &&& 31)))) (fun M18 => lq (mw M18 16 4 0) (fun M19 => some (1, M19))))))))))))))
set_option maxHeartbeats 4000000 in
set_option maxRecDepth 100000 in
theorem kX4_gear (l : Launch) (D : va_G) (ad : Nat → Nat) (ca : Nat → ClassId) (B : Nat) (ov : Int64) (N : Nat) (x1 : Int32) (x2 : Int32) (x3 : Int32) (M : Mem) (r0 : Int32) (M0 : Mem) (hf : fX4_gear N x1 x2 x3 M = some (r0, M0)) : MtI l D ad ca B ov yX4_gear wsX4_gear (rmX4_gear) [.ref (ad 16), .int x1, .int x2, .int x3] M r0 M0 := by
  unfold fX4_gear at hf
  refine Met.ofW (cc := cX4_gear) (maxL := 4) (ret := (some .boolean)) (by decide) rfl ?_
  intro p e s m args below meth c s₁ Bd hml hv
  obtain ⟨rfl, hw⟩ := hv
  have G : Mx p s m ([.ref (ad 16), .int x1, .int x2, .int x3] : List Value).toArray meth c cX4_gear 4 wsX4_gear RX4 (some .boolean) := ⟨Bd.exec, Bd.bytes, hml, findClass_of_methodNamed Bd.named, atoms_spec (ws := wsX4_gear) Bd.pre, Bd.returns, Bd.notSynchronized⟩
  have hC := Cu.of hw
  have hl := lv_entry ([.ref (ad 16), .int x1, .int x2, .int x3]) (n := 4) (Nat.le_of_ble_eq_true rfl)
  rw [lg_entry_eq]
  generalize (lg_sl ([.ref (ad 16), .int x1, .int x2, .int x3]) ++ List.replicate (4 - (lg_sl ([.ref (ad 16), .int x1, .int x2, .int x3])).length) Slot.unset).toArray = ls at hl ⊢
  have hl : lv_has ls 4 [(0, .ref (ad 16)), (1, .int x1), (2, .int x2), (3, .int x3)] := hl
  obtain ⟨hx, hb, hml, hown, hts, hr, hlk⟩ := id G
  show W p l e (rmX4_gear) s m _ below meth c s.heap [] 0 0 (MQ below (va_Qi (fun (r : Int32) (_ : Unit) => r = r0) (fun _ t => Wp D ad ca B M0 ov t.heap) (Ab B)) _ s 0 0 (Ab B)) (F0 m 0 ls [])
  refine lv_aload_n hx hb dX4_gear_0 rfl (lv_at hl 0 rfl) ?_
  refine lv_iconst (v := 0) hx hb dX4_gear_1 (by decide) ?_
  refine mg_put (ci := 4) (C := RX4) (T := TX4) (N := 19) (ty := .int) (v := .int 0) (x := 0) hx hb hts inX4_gear_X4 tyX4 tyX4_ok nmX4 hown hC 16 (by decide) rfl rfl 0 (by decide) (hts _ lkX4_gear_f56) rfl rfl (by decide +kernel) rfl rfl (Nat.le_of_ble_eq_true rfl) rfl dX4_gear_2 (fun H locs hC => ?_)
  obtain ⟨M1, eM1⟩ : ∃ z : Mem, z = mw M 16 0 0 := ⟨_, rfl⟩
  rw [← eM1] at hC
  have hf := lq_k eM1 hf
  refine lv_aload_n hx hb dX4_gear_5 rfl (lv_at hl 0 rfl) ?_
  refine lv_iload_n hx hb dX4_gear_6 rfl (lv_at hl 1 rfl) ?_
  obtain ⟨r2, M3, hq, hf⟩ := bd_s hf
  refine mc_Vi (As := [.int x1]) ⟨hx, hb, hml, hown, hts⟩ hC (kX4_isPlace l D ad ca B ov N x1 M1 r2 M3 hq) (cwV 1 hts gX4_gear_X4_isPlace rfl rfl rfl (by decide +kernel) ⟨Nat.le_of_ble_eq_true rfl, Nat.le_of_ble_eq_true rfl⟩) (mg_recv (ci := 4) (C := RX4) (T := TX4) (N := 19) hC 16 (by decide) rfl rfl) rfl hl.1 rfl (Nat.le_of_ble_eq_true rfl) dX4_gear_7 ⟨Nat.zero_le _, Nat.zero_le _⟩ (fun H locs hC => ?_)
  refine lv_if_eq (tgt := 37) hx hb dX4_gear_10 (by decide) (fun h4 => ?_) (fun h4 => ?_)
  · have hf := it_t h4 hf
    refine lv_iconst (v := 0) hx hb dX4_gear_37 (by decide) ?_
    exact mr_Z hx hb hr hlk hC (by decide) hf dX4_gear_38
  · have hf := it_f h4 hf
    refine lv_iload_n hx hb dX4_gear_13 rfl (lv_at hl 2 rfl) ?_
    refine lv_iconst (v := 0) hx hb dX4_gear_14 (by decide) ?_
    refine lv_bipush (v := 7) hx hb dX4_gear_15 (by decide) ?_
    obtain ⟨r5, M6, hq, hf⟩ := bd_s hf
    refine mc_Si (As := [.int x2, .int 0, .int 7]) ⟨hx, hb, hml, hown, hts⟩ hC (kX4_in l D ad ca B ov N x2 0 7 M3 r5 M6 hq) (va_cwS 3 hts gX4_gear_X4_in rfl rfl rfl (by decide +kernel) ⟨Nat.le_of_ble_eq_true rfl, Nat.le_of_ble_eq_true rfl⟩) rfl hl.1 rfl (Nat.le_of_ble_eq_true rfl) dX4_gear_17 ⟨Nat.zero_le _, Nat.zero_le _⟩ (fun H locs hC => ?_)
    refine lv_if_eq (tgt := 37) hx hb dX4_gear_20 (by decide) (fun h7 => ?_) (fun h7 => ?_)
    · have hf := it_t h7 hf
      refine lv_iconst (v := 0) hx hb dX4_gear_37 (by decide) ?_
      exact mr_Z hx hb hr hlk hC (by decide) hf dX4_gear_38
    · have hf := it_f h7 hf
      refine lv_aload_n hx hb dX4_gear_23 rfl (lv_at hl 0 rfl) ?_
      refine mg_get (ci := 4) (C := RX4) (T := TX4) (N := 19) (v := .ref (ad 18)) hx hb hts inX4_gear_X4 hown hC 16 (by decide) rfl rfl 6 (by decide) (hts _ lkX4_gear_f13) rfl rfl dX4_gear_24 ?_
      refine lv_iload_n hx hb dX4_gear_27 rfl (lv_at hl 1 rfl) ?_
      obtain ⟨g8, hf⟩ := gd_s hf
      refine mg_iald (n := 6) (cA := ca 18) hx hb hC 18 10 (by decide) rfl rfl g8 dX4_gear_28 ?_
      refine lv_iload_n hx hb dX4_gear_29 rfl (lv_at hl 2 rfl) ?_
      obtain ⟨r9, M10, hq, hf⟩ := bd_s hf
      refine mc_Si (As := [.int (M6 18 (x1 : Int32).toNatClampNeg), .int x2]) ⟨hx, hb, hml, hown, hts⟩ hC (kX4_bit l D ad ca B ov N (M6 18 (x1 : Int32).toNatClampNeg) x2 M6 r9 M10 hq) (va_cwS 2 hts gX4_gear_X4_bit rfl rfl rfl (by decide +kernel) ⟨Nat.le_of_ble_eq_true rfl, Nat.le_of_ble_eq_true rfl⟩) rfl hl.1 rfl (Nat.le_of_ble_eq_true rfl) dX4_gear_30 ⟨Nat.zero_le _, Nat.zero_le _⟩ (fun H locs hC => ?_)
      refine lv_iload_n hx hb dX4_gear_33 rfl (lv_at hl 3 rfl) ?_
      refine lv_icmp_ne (tgt := 39) hx hb dX4_gear_34 (by decide) (fun h11 => ?_) (fun h11 => ?_)
      · have hf := it_f h11 hf
        refine lv_aload_n hx hb dX4_gear_39 rfl (lv_at hl 0 rfl) ?_
        refine mg_get (ci := 4) (C := RX4) (T := TX4) (N := 19) (v := .ref (ad 18)) hx hb hts inX4_gear_X4 hown hC 16 (by decide) rfl rfl 6 (by decide) (hts _ lkX4_gear_f13) rfl rfl dX4_gear_40 ?_
        refine lv_iload_n hx hb dX4_gear_43 rfl (lv_at hl 1 rfl) ?_
        refine lv_dup2_11 hx hb dX4_gear_44 rfl rfl ?_
        obtain ⟨g12, hf⟩ := gd_s hf
        refine mg_iald (n := 6) (cA := ca 18) hx hb hC 18 10 (by decide) rfl rfl g12 dX4_gear_45 ?_
        refine lv_iload_n hx hb dX4_gear_46 rfl (lv_at hl 3 rfl) ?_
        refine lv_if_eq (tgt := 56) hx hb dX4_gear_47 (by decide) (fun h13 => ?_) (fun h13 => ?_)
        · have hf := it_t h13 hf
          refine lv_iconst (v := 1) hx hb dX4_gear_56 (by decide) ?_
          refine lv_iload_n hx hb dX4_gear_57 rfl (lv_at hl 2 rfl) ?_
          refine lv_ishl hx hb dX4_gear_58 ?_
          refine lv_ineg hx hb dX4_gear_59 ?_
          refine lv_iadd hx hb dX4_gear_60 ?_
          obtain ⟨g14, hf⟩ := gd_s hf
          refine mg_iast (n := 6) (cA := ca 18) hx hb hC 18 10 (by decide) (fun _ => rfl) rfl g14 dX4_gear_61 (fun H locs hC => ?_)
          obtain ⟨M15, eM15⟩ : ∃ z : Mem, z = mw M10 18 (x1 : Int32).toNatClampNeg ((M10 18 (x1 : Int32).toNatClampNeg) + (-((1 : Int32) <<< (x2 &&& 31)))) := ⟨_, rfl⟩
          rw [← eM15] at hC
          have hf := lq_k eM15 hf
          refine lv_aload_n hx hb dX4_gear_62 rfl (lv_at hl 0 rfl) ?_
          refine lv_iconst (v := 0) hx hb dX4_gear_63 (by decide) ?_
          refine mg_put (ci := 4) (C := RX4) (T := TX4) (N := 19) (ty := .boolean) (v := .int 0) (x := 0) hx hb hts inX4_gear_X4 tyX4 tyX4_ok nmX4 hown hC 16 (by decide) rfl rfl 4 (by decide) (hts _ lkX4_gear_f66) rfl rfl (by decide +kernel) (by decide) rfl (Nat.le_of_ble_eq_true rfl) rfl dX4_gear_64 (fun H locs hC => ?_)
          obtain ⟨M16, eM16⟩ : ∃ z : Mem, z = mw M15 16 4 0 := ⟨_, rfl⟩
          rw [← eM16] at hC
          have hf := lq_k eM16 hf
          refine lv_iconst (v := 1) hx hb dX4_gear_67 (by decide) ?_
          exact mr_Z hx hb hr hlk hC (by decide) hf dX4_gear_68
        · have hf := it_f h13 hf
          refine lv_iconst (v := 1) hx hb dX4_gear_50 (by decide) ?_
          refine lv_iload_n hx hb dX4_gear_51 rfl (lv_at hl 2 rfl) ?_
          refine lv_ishl hx hb dX4_gear_52 ?_
          refine lv_goto (tgt := 60) hx hb dX4_gear_53 (by decide) ?_
          refine lv_iadd hx hb dX4_gear_60 ?_
          obtain ⟨g17, hf⟩ := gd_s hf
          refine mg_iast (n := 6) (cA := ca 18) hx hb hC 18 10 (by decide) (fun _ => rfl) rfl g17 dX4_gear_61 (fun H locs hC => ?_)
          obtain ⟨M18, eM18⟩ : ∃ z : Mem, z = mw M10 18 (x1 : Int32).toNatClampNeg ((M10 18 (x1 : Int32).toNatClampNeg) + ((1 : Int32) <<< (x2 &&& 31))) := ⟨_, rfl⟩
          rw [← eM18] at hC
          have hf := lq_k eM18 hf
          refine lv_aload_n hx hb dX4_gear_62 rfl (lv_at hl 0 rfl) ?_
          refine lv_iconst (v := 0) hx hb dX4_gear_63 (by decide) ?_
          refine mg_put (ci := 4) (C := RX4) (T := TX4) (N := 19) (ty := .boolean) (v := .int 0) (x := 0) hx hb hts inX4_gear_X4 tyX4 tyX4_ok nmX4 hown hC 16 (by decide) rfl rfl 4 (by decide) (hts _ lkX4_gear_f66) rfl rfl (by decide +kernel) (by decide) rfl (Nat.le_of_ble_eq_true rfl) rfl dX4_gear_64 (fun H locs hC => ?_)
          obtain ⟨M19, eM19⟩ : ∃ z : Mem, z = mw M18 16 4 0 := ⟨_, rfl⟩
          rw [← eM19] at hC
          have hf := lq_k eM19 hf
          refine lv_iconst (v := 1) hx hb dX4_gear_67 (by decide) ?_
          exact mr_Z hx hb hr hlk hC (by decide) hf dX4_gear_68
      · have hf := it_t h11 hf
        refine lv_iconst (v := 0) hx hb dX4_gear_37 (by decide) ?_
        exact mr_Z hx hb hr hlk hC (by decide) hf dX4_gear_38

theorem lkX4_wants_f37 : Cond.fieldLink RX4 37 "BerthPlanModel" "kinds" "[I" ∈ wsX4_wants := by decide +kernel
theorem lkX4_wants_f56 : Cond.fieldLink RX4 56 "BerthPlanModel" "thrown" "I" ∈ wsX4_wants := by decide +kernel
theorem lkX4_wants_f66 : Cond.fieldLink RX4 66 "BerthPlanModel" "isPlan" "Z" ∈ wsX4_wants := by decide +kernel
theorem inX4_wants_X4 : ∀ w ∈ wsX40, w ∈ wsX4_wants := by decide +kernel
abbrev rmX4_wants : Room := { frames := 1, cells := 0, slots := 0, locals := 22 }
def fX4_wants (N : Nat) (x1 : Int32) (x2 : Int32) (x3 : Int32) (M : Mem) : Option (Int32 × Mem) :=
    lq (mw M 16 0 0) (fun M1 => bd (fX4_isShip N x1 M1) (fun r2 M3 => if (r2 = 0 : Prop) then (some (0, M3)) else (bd (fX4_in N x2 0 7 M3) (fun r5 M6 => if (r5 = 0 : Prop) then (some (0, M6)) else (gd (x1) 4 (bd (fX4_bit N (M6 26 (x1 : Int32).toNatClampNeg) x2 M6) (fun r9 M10 => if (r9 = x3 : Prop) then (some (0, M10)) else (gd (x1) 4 (if (x3 = 0 : Prop) then (gd (x1) 4 (lq (mw M10 26 (x1 : Int32).toNatClampNeg ((M10 26 (x1 : Int32).toNatClampNeg) + (-((1 : Int32) <<< (x2 &&& 31))))) (fun M15 => lq (mw M15 16 4 0) (fun M16 => some (1, M16))))) else (gd (x1) 4 (lq (mw M10 26 (x1 : Int32).toNatClampNeg ((M10 26 (x1 : Int32).toNatClampNeg) + ((1 : Int32) <<< (x2 &&& 31)))) (fun M18 => lq (mw M18 16 4 0) (fun M19 => some (1, M19))))))))))))))
set_option maxHeartbeats 4000000 in
set_option maxRecDepth 100000 in
theorem kX4_wants (l : Launch) (D : va_G) (ad : Nat → Nat) (ca : Nat → ClassId) (B : Nat) (ov : Int64) (N : Nat) (x1 : Int32) (x2 : Int32) (x3 : Int32) (M : Mem) (r0 : Int32) (M0 : Mem) (hf : fX4_wants N x1 x2 x3 M = some (r0, M0)) : MtI l D ad ca B ov yX4_wants wsX4_wants (rmX4_wants) [.ref (ad 16), .int x1, .int x2, .int x3] M r0 M0 := by
  unfold fX4_wants at hf
  refine Met.ofW (cc := cX4_wants) (maxL := 4) (ret := (some .boolean)) (by decide) rfl ?_
  intro p e s m args below meth c s₁ Bd hml hv
  obtain ⟨rfl, hw⟩ := hv
  have G : Mx p s m ([.ref (ad 16), .int x1, .int x2, .int x3] : List Value).toArray meth c cX4_wants 4 wsX4_wants RX4 (some .boolean) := ⟨Bd.exec, Bd.bytes, hml, findClass_of_methodNamed Bd.named, atoms_spec (ws := wsX4_wants) Bd.pre, Bd.returns, Bd.notSynchronized⟩
  have hC := Cu.of hw
  have hl := lv_entry ([.ref (ad 16), .int x1, .int x2, .int x3]) (n := 4) (Nat.le_of_ble_eq_true rfl)
  rw [lg_entry_eq]
  generalize (lg_sl ([.ref (ad 16), .int x1, .int x2, .int x3]) ++ List.replicate (4 - (lg_sl ([.ref (ad 16), .int x1, .int x2, .int x3])).length) Slot.unset).toArray = ls at hl ⊢
  have hl : lv_has ls 4 [(0, .ref (ad 16)), (1, .int x1), (2, .int x2), (3, .int x3)] := hl
  obtain ⟨hx, hb, hml, hown, hts, hr, hlk⟩ := id G
  show W p l e (rmX4_wants) s m _ below meth c s.heap [] 0 0 (MQ below (va_Qi (fun (r : Int32) (_ : Unit) => r = r0) (fun _ t => Wp D ad ca B M0 ov t.heap) (Ab B)) _ s 0 0 (Ab B)) (F0 m 0 ls [])
  refine lv_aload_n hx hb dX4_wants_0 rfl (lv_at hl 0 rfl) ?_
  refine lv_iconst (v := 0) hx hb dX4_wants_1 (by decide) ?_
  refine mg_put (ci := 4) (C := RX4) (T := TX4) (N := 19) (ty := .int) (v := .int 0) (x := 0) hx hb hts inX4_wants_X4 tyX4 tyX4_ok nmX4 hown hC 16 (by decide) rfl rfl 0 (by decide) (hts _ lkX4_wants_f56) rfl rfl (by decide +kernel) rfl rfl (Nat.le_of_ble_eq_true rfl) rfl dX4_wants_2 (fun H locs hC => ?_)
  obtain ⟨M1, eM1⟩ : ∃ z : Mem, z = mw M 16 0 0 := ⟨_, rfl⟩
  rw [← eM1] at hC
  have hf := lq_k eM1 hf
  refine lv_aload_n hx hb dX4_wants_5 rfl (lv_at hl 0 rfl) ?_
  refine lv_iload_n hx hb dX4_wants_6 rfl (lv_at hl 1 rfl) ?_
  obtain ⟨r2, M3, hq, hf⟩ := bd_s hf
  refine mc_Vi (As := [.int x1]) ⟨hx, hb, hml, hown, hts⟩ hC (kX4_isShip l D ad ca B ov N x1 M1 r2 M3 hq) (cwV 1 hts gX4_wants_X4_isShip rfl rfl rfl (by decide +kernel) ⟨Nat.le_of_ble_eq_true rfl, Nat.le_of_ble_eq_true rfl⟩) (mg_recv (ci := 4) (C := RX4) (T := TX4) (N := 19) hC 16 (by decide) rfl rfl) rfl hl.1 rfl (Nat.le_of_ble_eq_true rfl) dX4_wants_7 ⟨Nat.zero_le _, Nat.zero_le _⟩ (fun H locs hC => ?_)
  refine lv_if_eq (tgt := 37) hx hb dX4_wants_10 (by decide) (fun h4 => ?_) (fun h4 => ?_)
  · have hf := it_t h4 hf
    refine lv_iconst (v := 0) hx hb dX4_wants_37 (by decide) ?_
    exact mr_Z hx hb hr hlk hC (by decide) hf dX4_wants_38
  · have hf := it_f h4 hf
    refine lv_iload_n hx hb dX4_wants_13 rfl (lv_at hl 2 rfl) ?_
    refine lv_iconst (v := 0) hx hb dX4_wants_14 (by decide) ?_
    refine lv_bipush (v := 7) hx hb dX4_wants_15 (by decide) ?_
    obtain ⟨r5, M6, hq, hf⟩ := bd_s hf
    refine mc_Si (As := [.int x2, .int 0, .int 7]) ⟨hx, hb, hml, hown, hts⟩ hC (kX4_in l D ad ca B ov N x2 0 7 M3 r5 M6 hq) (va_cwS 3 hts gX4_wants_X4_in rfl rfl rfl (by decide +kernel) ⟨Nat.le_of_ble_eq_true rfl, Nat.le_of_ble_eq_true rfl⟩) rfl hl.1 rfl (Nat.le_of_ble_eq_true rfl) dX4_wants_17 ⟨Nat.zero_le _, Nat.zero_le _⟩ (fun H locs hC => ?_)
    refine lv_if_eq (tgt := 37) hx hb dX4_wants_20 (by decide) (fun h7 => ?_) (fun h7 => ?_)
    · have hf := it_t h7 hf
      refine lv_iconst (v := 0) hx hb dX4_wants_37 (by decide) ?_
      exact mr_Z hx hb hr hlk hC (by decide) hf dX4_wants_38
    · have hf := it_f h7 hf
      refine lv_aload_n hx hb dX4_wants_23 rfl (lv_at hl 0 rfl) ?_
      refine mg_get (ci := 4) (C := RX4) (T := TX4) (N := 19) (v := .ref (ad 26)) hx hb hts inX4_wants_X4 hown hC 16 (by decide) rfl rfl 14 (by decide) (hts _ lkX4_wants_f37) rfl rfl dX4_wants_24 ?_
      refine lv_iload_n hx hb dX4_wants_27 rfl (lv_at hl 1 rfl) ?_
      obtain ⟨g8, hf⟩ := gd_s hf
      refine mg_iald (n := 4) (cA := ca 26) hx hb hC 26 18 (by decide) rfl rfl g8 dX4_wants_28 ?_
      refine lv_iload_n hx hb dX4_wants_29 rfl (lv_at hl 2 rfl) ?_
      obtain ⟨r9, M10, hq, hf⟩ := bd_s hf
      refine mc_Si (As := [.int (M6 26 (x1 : Int32).toNatClampNeg), .int x2]) ⟨hx, hb, hml, hown, hts⟩ hC (kX4_bit l D ad ca B ov N (M6 26 (x1 : Int32).toNatClampNeg) x2 M6 r9 M10 hq) (va_cwS 2 hts gX4_wants_X4_bit rfl rfl rfl (by decide +kernel) ⟨Nat.le_of_ble_eq_true rfl, Nat.le_of_ble_eq_true rfl⟩) rfl hl.1 rfl (Nat.le_of_ble_eq_true rfl) dX4_wants_30 ⟨Nat.zero_le _, Nat.zero_le _⟩ (fun H locs hC => ?_)
      refine lv_iload_n hx hb dX4_wants_33 rfl (lv_at hl 3 rfl) ?_
      refine lv_icmp_ne (tgt := 39) hx hb dX4_wants_34 (by decide) (fun h11 => ?_) (fun h11 => ?_)
      · have hf := it_f h11 hf
        refine lv_aload_n hx hb dX4_wants_39 rfl (lv_at hl 0 rfl) ?_
        refine mg_get (ci := 4) (C := RX4) (T := TX4) (N := 19) (v := .ref (ad 26)) hx hb hts inX4_wants_X4 hown hC 16 (by decide) rfl rfl 14 (by decide) (hts _ lkX4_wants_f37) rfl rfl dX4_wants_40 ?_
        refine lv_iload_n hx hb dX4_wants_43 rfl (lv_at hl 1 rfl) ?_
        refine lv_dup2_11 hx hb dX4_wants_44 rfl rfl ?_
        obtain ⟨g12, hf⟩ := gd_s hf
        refine mg_iald (n := 4) (cA := ca 26) hx hb hC 26 18 (by decide) rfl rfl g12 dX4_wants_45 ?_
        refine lv_iload_n hx hb dX4_wants_46 rfl (lv_at hl 3 rfl) ?_
        refine lv_if_eq (tgt := 56) hx hb dX4_wants_47 (by decide) (fun h13 => ?_) (fun h13 => ?_)
        · have hf := it_t h13 hf
          refine lv_iconst (v := 1) hx hb dX4_wants_56 (by decide) ?_
          refine lv_iload_n hx hb dX4_wants_57 rfl (lv_at hl 2 rfl) ?_
          refine lv_ishl hx hb dX4_wants_58 ?_
          refine lv_ineg hx hb dX4_wants_59 ?_
          refine lv_iadd hx hb dX4_wants_60 ?_
          obtain ⟨g14, hf⟩ := gd_s hf
          refine mg_iast (n := 4) (cA := ca 26) hx hb hC 26 18 (by decide) (fun _ => rfl) rfl g14 dX4_wants_61 (fun H locs hC => ?_)
          obtain ⟨M15, eM15⟩ : ∃ z : Mem, z = mw M10 26 (x1 : Int32).toNatClampNeg ((M10 26 (x1 : Int32).toNatClampNeg) + (-((1 : Int32) <<< (x2 &&& 31)))) := ⟨_, rfl⟩
          rw [← eM15] at hC
          have hf := lq_k eM15 hf
          refine lv_aload_n hx hb dX4_wants_62 rfl (lv_at hl 0 rfl) ?_
          refine lv_iconst (v := 0) hx hb dX4_wants_63 (by decide) ?_
          refine mg_put (ci := 4) (C := RX4) (T := TX4) (N := 19) (ty := .boolean) (v := .int 0) (x := 0) hx hb hts inX4_wants_X4 tyX4 tyX4_ok nmX4 hown hC 16 (by decide) rfl rfl 4 (by decide) (hts _ lkX4_wants_f66) rfl rfl (by decide +kernel) (by decide) rfl (Nat.le_of_ble_eq_true rfl) rfl dX4_wants_64 (fun H locs hC => ?_)
          obtain ⟨M16, eM16⟩ : ∃ z : Mem, z = mw M15 16 4 0 := ⟨_, rfl⟩
          rw [← eM16] at hC
          have hf := lq_k eM16 hf
          refine lv_iconst (v := 1) hx hb dX4_wants_67 (by decide) ?_
          exact mr_Z hx hb hr hlk hC (by decide) hf dX4_wants_68
        · have hf := it_f h13 hf
          refine lv_iconst (v := 1) hx hb dX4_wants_50 (by decide) ?_
          refine lv_iload_n hx hb dX4_wants_51 rfl (lv_at hl 2 rfl) ?_
          refine lv_ishl hx hb dX4_wants_52 ?_
          refine lv_goto (tgt := 60) hx hb dX4_wants_53 (by decide) ?_
          refine lv_iadd hx hb dX4_wants_60 ?_
          obtain ⟨g17, hf⟩ := gd_s hf
          refine mg_iast (n := 4) (cA := ca 26) hx hb hC 26 18 (by decide) (fun _ => rfl) rfl g17 dX4_wants_61 (fun H locs hC => ?_)
          obtain ⟨M18, eM18⟩ : ∃ z : Mem, z = mw M10 26 (x1 : Int32).toNatClampNeg ((M10 26 (x1 : Int32).toNatClampNeg) + ((1 : Int32) <<< (x2 &&& 31))) := ⟨_, rfl⟩
          rw [← eM18] at hC
          have hf := lq_k eM18 hf
          refine lv_aload_n hx hb dX4_wants_62 rfl (lv_at hl 0 rfl) ?_
          refine lv_iconst (v := 0) hx hb dX4_wants_63 (by decide) ?_
          refine mg_put (ci := 4) (C := RX4) (T := TX4) (N := 19) (ty := .boolean) (v := .int 0) (x := 0) hx hb hts inX4_wants_X4 tyX4 tyX4_ok nmX4 hown hC 16 (by decide) rfl rfl 4 (by decide) (hts _ lkX4_wants_f66) rfl rfl (by decide +kernel) (by decide) rfl (Nat.le_of_ble_eq_true rfl) rfl dX4_wants_64 (fun H locs hC => ?_)
          obtain ⟨M19, eM19⟩ : ∃ z : Mem, z = mw M18 16 4 0 := ⟨_, rfl⟩
          rw [← eM19] at hC
          have hf := lq_k eM19 hf
          refine lv_iconst (v := 1) hx hb dX4_wants_67 (by decide) ?_
          exact mr_Z hx hb hr hlk hC (by decide) hf dX4_wants_68
      · have hf := it_t h11 hf
        refine lv_iconst (v := 0) hx hb dX4_wants_37 (by decide) ?_
        exact mr_Z hx hb hr hlk hC (by decide) hf dX4_wants_38

theorem lkX4_tide_f16 : Cond.fieldLink RX4 16 "BerthPlanModel" "spanFrom" "[I" ∈ wsX4_tide := by decide +kernel
theorem lkX4_tide_f19 : Cond.fieldLink RX4 19 "BerthPlanModel" "spanTo" "[I" ∈ wsX4_tide := by decide +kernel
theorem lkX4_tide_f56 : Cond.fieldLink RX4 56 "BerthPlanModel" "thrown" "I" ∈ wsX4_tide := by decide +kernel
theorem lkX4_tide_f66 : Cond.fieldLink RX4 66 "BerthPlanModel" "isPlan" "Z" ∈ wsX4_tide := by decide +kernel
theorem lkX4_tide_f81 : Cond.fieldLink RX4 81 "BerthPlanModel" "spans" "I" ∈ wsX4_tide := by decide +kernel
theorem inX4_tide_X4 : ∀ w ∈ wsX40, w ∈ wsX4_tide := by decide +kernel
abbrev rmX4_tide : Room := { frames := 1, cells := 0, slots := 0, locals := 22 }
def fX4_tide (N : Nat) (x1 : Int32) (x2 : Int32) (M : Mem) : Option (Int32 × Mem) :=
    lq (mw M 16 0 0) (fun M1 => bd (fX4_in N x1 0 39 M1) (fun r2 M3 => if (r2 = 0 : Prop) then (some (0, M3)) else (bd (fX4_in N x2 x1 39 M3) (fun r5 M6 => if (r5 = 0 : Prop) then (some (0, M6)) else (if ((M6 16 3) = 8 : Prop) then (some (0, M6)) else (gd (M6 16 3) 8 (lq (mw M6 19 (M6 16 3 : Int32).toNatClampNeg x1) (fun M10 => gd (M10 16 3) 8 (lq (mw M10 20 (M10 16 3 : Int32).toNatClampNeg x2) (fun M12 => lq (mw M12 16 3 ((M12 16 3) + (1 : Int32))) (fun M13 => lq (mw M13 16 4 0) (fun M14 => some (1, M14)))))))))))))
set_option maxHeartbeats 4000000 in
set_option maxRecDepth 100000 in
theorem kX4_tide (l : Launch) (D : va_G) (ad : Nat → Nat) (ca : Nat → ClassId) (B : Nat) (ov : Int64) (N : Nat) (x1 : Int32) (x2 : Int32) (M : Mem) (r0 : Int32) (M0 : Mem) (hf : fX4_tide N x1 x2 M = some (r0, M0)) : MtI l D ad ca B ov yX4_tide wsX4_tide (rmX4_tide) [.ref (ad 16), .int x1, .int x2] M r0 M0 := by
  unfold fX4_tide at hf
  refine Met.ofW (cc := cX4_tide) (maxL := 3) (ret := (some .boolean)) (by decide) rfl ?_
  intro p e s m args below meth c s₁ Bd hml hv
  obtain ⟨rfl, hw⟩ := hv
  have G : Mx p s m ([.ref (ad 16), .int x1, .int x2] : List Value).toArray meth c cX4_tide 3 wsX4_tide RX4 (some .boolean) := ⟨Bd.exec, Bd.bytes, hml, findClass_of_methodNamed Bd.named, atoms_spec (ws := wsX4_tide) Bd.pre, Bd.returns, Bd.notSynchronized⟩
  have hC := Cu.of hw
  have hl := lv_entry ([.ref (ad 16), .int x1, .int x2]) (n := 3) (Nat.le_of_ble_eq_true rfl)
  rw [lg_entry_eq]
  generalize (lg_sl ([.ref (ad 16), .int x1, .int x2]) ++ List.replicate (3 - (lg_sl ([.ref (ad 16), .int x1, .int x2])).length) Slot.unset).toArray = ls at hl ⊢
  have hl : lv_has ls 3 [(0, .ref (ad 16)), (1, .int x1), (2, .int x2)] := hl
  obtain ⟨hx, hb, hml, hown, hts, hr, hlk⟩ := id G
  show W p l e (rmX4_tide) s m _ below meth c s.heap [] 0 0 (MQ below (va_Qi (fun (r : Int32) (_ : Unit) => r = r0) (fun _ t => Wp D ad ca B M0 ov t.heap) (Ab B)) _ s 0 0 (Ab B)) (F0 m 0 ls [])
  refine lv_aload_n hx hb dX4_tide_0 rfl (lv_at hl 0 rfl) ?_
  refine lv_iconst (v := 0) hx hb dX4_tide_1 (by decide) ?_
  refine mg_put (ci := 4) (C := RX4) (T := TX4) (N := 19) (ty := .int) (v := .int 0) (x := 0) hx hb hts inX4_tide_X4 tyX4 tyX4_ok nmX4 hown hC 16 (by decide) rfl rfl 0 (by decide) (hts _ lkX4_tide_f56) rfl rfl (by decide +kernel) rfl rfl (Nat.le_of_ble_eq_true rfl) rfl dX4_tide_2 (fun H locs hC => ?_)
  obtain ⟨M1, eM1⟩ : ∃ z : Mem, z = mw M 16 0 0 := ⟨_, rfl⟩
  rw [← eM1] at hC
  have hf := lq_k eM1 hf
  refine lv_iload_n hx hb dX4_tide_5 rfl (lv_at hl 1 rfl) ?_
  refine lv_iconst (v := 0) hx hb dX4_tide_6 (by decide) ?_
  refine lv_bipush (v := 39) hx hb dX4_tide_7 (by decide) ?_
  obtain ⟨r2, M3, hq, hf⟩ := bd_s hf
  refine mc_Si (As := [.int x1, .int 0, .int 39]) ⟨hx, hb, hml, hown, hts⟩ hC (kX4_in l D ad ca B ov N x1 0 39 M1 r2 M3 hq) (va_cwS 3 hts gX4_tide_X4_in rfl rfl rfl (by decide +kernel) ⟨Nat.le_of_ble_eq_true rfl, Nat.le_of_ble_eq_true rfl⟩) rfl hl.1 rfl (Nat.le_of_ble_eq_true rfl) dX4_tide_9 ⟨Nat.zero_le _, Nat.zero_le _⟩ (fun H locs hC => ?_)
  refine lv_if_eq (tgt := 34) hx hb dX4_tide_12 (by decide) (fun h4 => ?_) (fun h4 => ?_)
  · have hf := it_t h4 hf
    refine lv_iconst (v := 0) hx hb dX4_tide_34 (by decide) ?_
    exact mr_Z hx hb hr hlk hC (by decide) hf dX4_tide_35
  · have hf := it_f h4 hf
    refine lv_iload_n hx hb dX4_tide_15 rfl (lv_at hl 2 rfl) ?_
    refine lv_iload_n hx hb dX4_tide_16 rfl (lv_at hl 1 rfl) ?_
    refine lv_bipush (v := 39) hx hb dX4_tide_17 (by decide) ?_
    obtain ⟨r5, M6, hq, hf⟩ := bd_s hf
    refine mc_Si (As := [.int x2, .int x1, .int 39]) ⟨hx, hb, hml, hown, hts⟩ hC (kX4_in l D ad ca B ov N x2 x1 39 M3 r5 M6 hq) (va_cwS 3 hts gX4_tide_X4_in rfl rfl rfl (by decide +kernel) ⟨Nat.le_of_ble_eq_true rfl, Nat.le_of_ble_eq_true rfl⟩) rfl hl.1 rfl (Nat.le_of_ble_eq_true rfl) dX4_tide_19 ⟨Nat.zero_le _, Nat.zero_le _⟩ (fun H locs hC => ?_)
    refine lv_if_eq (tgt := 34) hx hb dX4_tide_22 (by decide) (fun h7 => ?_) (fun h7 => ?_)
    · have hf := it_t h7 hf
      refine lv_iconst (v := 0) hx hb dX4_tide_34 (by decide) ?_
      exact mr_Z hx hb hr hlk hC (by decide) hf dX4_tide_35
    · have hf := it_f h7 hf
      refine lv_aload_n hx hb dX4_tide_25 rfl (lv_at hl 0 rfl) ?_
      refine mg_get (ci := 4) (C := RX4) (T := TX4) (N := 19) (v := .int (M6 16 3)) hx hb hts inX4_tide_X4 hown hC 16 (by decide) rfl rfl 3 (by decide) (hts _ lkX4_tide_f81) rfl rfl dX4_tide_26 ?_
      refine lv_bipush (v := 8) hx hb dX4_tide_29 (by decide) ?_
      refine lv_icmp_ne (tgt := 36) hx hb dX4_tide_31 (by decide) (fun h8 => ?_) (fun h8 => ?_)
      · have hf := it_f h8 hf
        refine lv_aload_n hx hb dX4_tide_36 rfl (lv_at hl 0 rfl) ?_
        refine mg_get (ci := 4) (C := RX4) (T := TX4) (N := 19) (v := .ref (ad 19)) hx hb hts inX4_tide_X4 hown hC 16 (by decide) rfl rfl 7 (by decide) (hts _ lkX4_tide_f16) rfl rfl dX4_tide_37 ?_
        refine lv_aload_n hx hb dX4_tide_40 rfl (lv_at hl 0 rfl) ?_
        refine mg_get (ci := 4) (C := RX4) (T := TX4) (N := 19) (v := .int (M6 16 3)) hx hb hts inX4_tide_X4 hown hC 16 (by decide) rfl rfl 3 (by decide) (hts _ lkX4_tide_f81) rfl rfl dX4_tide_41 ?_
        refine lv_iload_n hx hb dX4_tide_44 rfl (lv_at hl 1 rfl) ?_
        obtain ⟨g9, hf⟩ := gd_s hf
        refine mg_iast (n := 8) (cA := ca 19) hx hb hC 19 11 (by decide) (fun _ => rfl) rfl g9 dX4_tide_45 (fun H locs hC => ?_)
        obtain ⟨M10, eM10⟩ : ∃ z : Mem, z = mw M6 19 (M6 16 3 : Int32).toNatClampNeg x1 := ⟨_, rfl⟩
        rw [← eM10] at hC
        have hf := lq_k eM10 hf
        refine lv_aload_n hx hb dX4_tide_46 rfl (lv_at hl 0 rfl) ?_
        refine mg_get (ci := 4) (C := RX4) (T := TX4) (N := 19) (v := .ref (ad 20)) hx hb hts inX4_tide_X4 hown hC 16 (by decide) rfl rfl 8 (by decide) (hts _ lkX4_tide_f19) rfl rfl dX4_tide_47 ?_
        refine lv_aload_n hx hb dX4_tide_50 rfl (lv_at hl 0 rfl) ?_
        refine mg_get (ci := 4) (C := RX4) (T := TX4) (N := 19) (v := .int (M10 16 3)) hx hb hts inX4_tide_X4 hown hC 16 (by decide) rfl rfl 3 (by decide) (hts _ lkX4_tide_f81) rfl rfl dX4_tide_51 ?_
        refine lv_iload_n hx hb dX4_tide_54 rfl (lv_at hl 2 rfl) ?_
        obtain ⟨g11, hf⟩ := gd_s hf
        refine mg_iast (n := 8) (cA := ca 20) hx hb hC 20 12 (by decide) (fun _ => rfl) rfl g11 dX4_tide_55 (fun H locs hC => ?_)
        obtain ⟨M12, eM12⟩ : ∃ z : Mem, z = mw M10 20 (M10 16 3 : Int32).toNatClampNeg x2 := ⟨_, rfl⟩
        rw [← eM12] at hC
        have hf := lq_k eM12 hf
        refine lv_aload_n hx hb dX4_tide_56 rfl (lv_at hl 0 rfl) ?_
        refine lv_dup hx hb dX4_tide_57 rfl ?_
        refine mg_get (ci := 4) (C := RX4) (T := TX4) (N := 19) (v := .int (M12 16 3)) hx hb hts inX4_tide_X4 hown hC 16 (by decide) rfl rfl 3 (by decide) (hts _ lkX4_tide_f81) rfl rfl dX4_tide_58 ?_
        refine lv_iconst (v := 1) hx hb dX4_tide_61 (by decide) ?_
        refine lv_iadd hx hb dX4_tide_62 ?_
        refine mg_put (ci := 4) (C := RX4) (T := TX4) (N := 19) (ty := .int) (v := .int ((M12 16 3) + (1 : Int32))) (x := (M12 16 3) + (1 : Int32)) hx hb hts inX4_tide_X4 tyX4 tyX4_ok nmX4 hown hC 16 (by decide) rfl rfl 3 (by decide) (hts _ lkX4_tide_f81) rfl rfl (by decide +kernel) rfl rfl (Nat.le_of_ble_eq_true rfl) rfl dX4_tide_63 (fun H locs hC => ?_)
        obtain ⟨M13, eM13⟩ : ∃ z : Mem, z = mw M12 16 3 ((M12 16 3) + (1 : Int32)) := ⟨_, rfl⟩
        rw [← eM13] at hC
        have hf := lq_k eM13 hf
        refine lv_aload_n hx hb dX4_tide_66 rfl (lv_at hl 0 rfl) ?_
        refine lv_iconst (v := 0) hx hb dX4_tide_67 (by decide) ?_
        refine mg_put (ci := 4) (C := RX4) (T := TX4) (N := 19) (ty := .boolean) (v := .int 0) (x := 0) hx hb hts inX4_tide_X4 tyX4 tyX4_ok nmX4 hown hC 16 (by decide) rfl rfl 4 (by decide) (hts _ lkX4_tide_f66) rfl rfl (by decide +kernel) (by decide) rfl (Nat.le_of_ble_eq_true rfl) rfl dX4_tide_68 (fun H locs hC => ?_)
        obtain ⟨M14, eM14⟩ : ∃ z : Mem, z = mw M13 16 4 0 := ⟨_, rfl⟩
        rw [← eM14] at hC
        have hf := lq_k eM14 hf
        refine lv_iconst (v := 1) hx hb dX4_tide_71 (by decide) ?_
        exact mr_Z hx hb hr hlk hC (by decide) hf dX4_tide_72
      · have hf := it_t h8 hf
        refine lv_iconst (v := 0) hx hb dX4_tide_34 (by decide) ?_
        exact mr_Z hx hb hr hlk hC (by decide) hf dX4_tide_35

theorem lkX4_meet_f22 : Cond.fieldLink RX4 22 "BerthPlanModel" "length" "[I" ∈ wsX4_meet := by decide +kernel
theorem lkX4_meet_f28 : Cond.fieldLink RX4 28 "BerthPlanModel" "time" "[I" ∈ wsX4_meet := by decide +kernel
theorem inX4_meet_X4 : ∀ w ∈ wsX40, w ∈ wsX4_meet := by decide +kernel
abbrev rmX4_meet : Room := { frames := 0, cells := 0, slots := 0, locals := 0 }
def fX4_meet_43 (N : Nat) (x1 : Int32) (x2 : Int32) (x3 : Int32) (x4 : Int32) (y0 : Int32) (M : Mem) : Option (Int32 × Mem) :=
    if (y0 = 0 : Prop) then (some (0, M)) else (gd (x3) 4 (if (((x4 / (6 : Int32)) + (M 23 (x3 : Int32).toNatClampNeg)) ≤ (x2 / (6 : Int32)) : Prop) then (some (0, M)) else (gd (x1) 4 (if (((x2 / (6 : Int32)) + (M 23 (x1 : Int32).toNatClampNeg)) ≤ (x4 / (6 : Int32)) : Prop) then (some (0, M)) else (some (1, M))))))
def fX4_meet (N : Nat) (x1 : Int32) (x2 : Int32) (x3 : Int32) (x4 : Int32) (M : Mem) : Option (Int32 × Mem) :=
    gd (x3) 4 (if (((x4 - x4 / (6 : Int32) * (6 : Int32)) + (M 21 (x3 : Int32).toNatClampNeg)) ≤ (x2 - x2 / (6 : Int32) * (6 : Int32)) : Prop) then (fX4_meet_43 N x1 x2 x3 x4 0 M) else (gd (x1) 4 (if (((x2 - x2 / (6 : Int32) * (6 : Int32)) + (M 21 (x1 : Int32).toNatClampNeg)) ≤ (x4 - x4 / (6 : Int32) * (6 : Int32)) : Prop) then (fX4_meet_43 N x1 x2 x3 x4 0 M) else (fX4_meet_43 N x1 x2 x3 x4 1 M))))
set_option maxHeartbeats 4000000 in
set_option maxRecDepth 100000 in
theorem wX4_meet_43 {p : Program} {l : Launch} {e : Env} {s : State} {m : MethodId} {args : Array Value} {below : List Frame} {meth : Method} {c : Code} {D : va_G} {ad : Nat → Nat} {ca : Nat → ClassId} {B : Nat} {ov : Int64} {r0 : Int32} {M0 : Mem} (G : Mx p s m args meth c cX4_meet 6 wsX4_meet RX4 (some .boolean)) (N : Nat) : ∀ (x1 : Int32) (x2 : Int32) (x3 : Int32) (x4 : Int32) (y0 : Int32) (M : Mem) (H : Heap) (locs : List Loc) (ls : Array Slot), lv_has ls 6 [(0, .ref (ad 16)), (1, .int x1), (2, .int x2), (3, .int x3), (4, .int x4)] → Cu D ad ca B M ov s H locs → (fX4_meet_43 N) x1 x2 x3 x4 y0 M = some (r0, M0) → W p l e (rmX4_meet) s m args below meth c H locs 0 0 (MQ below (va_Qi (fun (r : Int32) (_ : Unit) => r = r0) (fun _ t => Wp D ad ca B M0 ov t.heap) (Ab B)) args s 0 0 (Ab B)) (F0 m 43 ls [.int y0]) := by
  obtain ⟨hx, hb, hml, hown, hts, hr, hlk⟩ := id G
  intro x1 x2 x3 x4 y0 M H locs ls hl hC hf
  unfold fX4_meet_43 at hf
  refine lv_istore (lv' := [(5, .int y0), (0, .ref (ad 16)), (1, .int x1), (2, .int x2), (3, .int x3), (4, .int x4)]) hx hb dX4_meet_43 hl (by decide) rfl (fun ls hl => ?_)
  refine lv_iload hx hb dX4_meet_45 (lv_at hl 0 rfl) ?_
  refine lv_if_eq (tgt := 92) hx hb dX4_meet_47 (by decide) (fun h1 => ?_) (fun h1 => ?_)
  · have hf := it_t h1 hf
    refine lv_iconst (v := 0) hx hb dX4_meet_92 (by decide) ?_
    exact mr_Z hx hb hr hlk hC (by decide) hf dX4_meet_93
  · have hf := it_f h1 hf
    refine lv_iload_n hx hb dX4_meet_50 rfl (lv_at hl 3 rfl) ?_
    refine lv_bipush (v := 6) hx hb dX4_meet_51 (by decide) ?_
    refine lv_idiv hx hb dX4_meet_53 (by decide) ?_
    refine lv_iload hx hb dX4_meet_54 (lv_at hl 5 rfl) ?_
    refine lv_bipush (v := 6) hx hb dX4_meet_56 (by decide) ?_
    refine lv_idiv hx hb dX4_meet_58 (by decide) ?_
    refine lv_aload_n hx hb dX4_meet_59 rfl (lv_at hl 1 rfl) ?_
    refine mg_get (ci := 4) (C := RX4) (T := TX4) (N := 19) (v := .ref (ad 23)) hx hb hts inX4_meet_X4 hown hC 16 (by decide) rfl rfl 11 (by decide) (hts _ lkX4_meet_f28) rfl rfl dX4_meet_60 ?_
    refine lv_iload_n hx hb dX4_meet_63 rfl (lv_at hl 4 rfl) ?_
    obtain ⟨g2, hf⟩ := gd_s hf
    refine mg_iald (n := 4) (cA := ca 23) hx hb hC 23 15 (by decide) rfl rfl g2 dX4_meet_64 ?_
    refine lv_iadd hx hb dX4_meet_65 ?_
    refine lv_icmp_ge (tgt := 92) hx hb dX4_meet_66 (by decide) (fun h3 => ?_) (fun h3 => ?_)
    · have hf := it_t h3 hf
      refine lv_iconst (v := 0) hx hb dX4_meet_92 (by decide) ?_
      exact mr_Z hx hb hr hlk hC (by decide) hf dX4_meet_93
    · have hf := it_f h3 hf
      refine lv_iload hx hb dX4_meet_69 (lv_at hl 5 rfl) ?_
      refine lv_bipush (v := 6) hx hb dX4_meet_71 (by decide) ?_
      refine lv_idiv hx hb dX4_meet_73 (by decide) ?_
      refine lv_iload_n hx hb dX4_meet_74 rfl (lv_at hl 3 rfl) ?_
      refine lv_bipush (v := 6) hx hb dX4_meet_75 (by decide) ?_
      refine lv_idiv hx hb dX4_meet_77 (by decide) ?_
      refine lv_aload_n hx hb dX4_meet_78 rfl (lv_at hl 1 rfl) ?_
      refine mg_get (ci := 4) (C := RX4) (T := TX4) (N := 19) (v := .ref (ad 23)) hx hb hts inX4_meet_X4 hown hC 16 (by decide) rfl rfl 11 (by decide) (hts _ lkX4_meet_f28) rfl rfl dX4_meet_79 ?_
      refine lv_iload_n hx hb dX4_meet_82 rfl (lv_at hl 2 rfl) ?_
      obtain ⟨g4, hf⟩ := gd_s hf
      refine mg_iald (n := 4) (cA := ca 23) hx hb hC 23 15 (by decide) rfl rfl g4 dX4_meet_83 ?_
      refine lv_iadd hx hb dX4_meet_84 ?_
      refine lv_icmp_ge (tgt := 92) hx hb dX4_meet_85 (by decide) (fun h5 => ?_) (fun h5 => ?_)
      · have hf := it_t h5 hf
        refine lv_iconst (v := 0) hx hb dX4_meet_92 (by decide) ?_
        exact mr_Z hx hb hr hlk hC (by decide) hf dX4_meet_93
      · have hf := it_f h5 hf
        refine lv_iconst (v := 1) hx hb dX4_meet_88 (by decide) ?_
        refine lv_goto (tgt := 93) hx hb dX4_meet_89 (by decide) ?_
        exact mr_Z hx hb hr hlk hC (by decide) hf dX4_meet_93
set_option maxHeartbeats 4000000 in
set_option maxRecDepth 100000 in
theorem kX4_meet (l : Launch) (D : va_G) (ad : Nat → Nat) (ca : Nat → ClassId) (B : Nat) (ov : Int64) (N : Nat) (x1 : Int32) (x2 : Int32) (x3 : Int32) (x4 : Int32) (M : Mem) (r0 : Int32) (M0 : Mem) (hf : fX4_meet N x1 x2 x3 x4 M = some (r0, M0)) : MtI l D ad ca B ov yX4_meet wsX4_meet (rmX4_meet) [.ref (ad 16), .int x1, .int x2, .int x3, .int x4] M r0 M0 := by
  unfold fX4_meet at hf
  refine Met.ofW (cc := cX4_meet) (maxL := 6) (ret := (some .boolean)) (by decide) rfl ?_
  intro p e s m args below meth c s₁ Bd hml hv
  obtain ⟨rfl, hw⟩ := hv
  have G : Mx p s m ([.ref (ad 16), .int x1, .int x2, .int x3, .int x4] : List Value).toArray meth c cX4_meet 6 wsX4_meet RX4 (some .boolean) := ⟨Bd.exec, Bd.bytes, hml, findClass_of_methodNamed Bd.named, atoms_spec (ws := wsX4_meet) Bd.pre, Bd.returns, Bd.notSynchronized⟩
  have hC := Cu.of hw
  have hl := lv_entry ([.ref (ad 16), .int x1, .int x2, .int x3, .int x4]) (n := 6) (Nat.le_of_ble_eq_true rfl)
  rw [lg_entry_eq]
  generalize (lg_sl ([.ref (ad 16), .int x1, .int x2, .int x3, .int x4]) ++ List.replicate (6 - (lg_sl ([.ref (ad 16), .int x1, .int x2, .int x3, .int x4])).length) Slot.unset).toArray = ls at hl ⊢
  have hl : lv_has ls 6 [(0, .ref (ad 16)), (1, .int x1), (2, .int x2), (3, .int x3), (4, .int x4)] := hl
  obtain ⟨hx, hb, hml, hown, hts, hr, hlk⟩ := id G
  show W p l e (rmX4_meet) s m _ below meth c s.heap [] 0 0 (MQ below (va_Qi (fun (r : Int32) (_ : Unit) => r = r0) (fun _ t => Wp D ad ca B M0 ov t.heap) (Ab B)) _ s 0 0 (Ab B)) (F0 m 0 ls [])
  refine lv_iload_n hx hb dX4_meet_0 rfl (lv_at hl 2 rfl) ?_
  refine lv_bipush (v := 6) hx hb dX4_meet_1 (by decide) ?_
  refine lv_irem hx hb dX4_meet_3 (by decide) ?_
  refine lv_iload hx hb dX4_meet_4 (lv_at hl 4 rfl) ?_
  refine lv_bipush (v := 6) hx hb dX4_meet_6 (by decide) ?_
  refine lv_irem hx hb dX4_meet_8 (by decide) ?_
  refine lv_aload_n hx hb dX4_meet_9 rfl (lv_at hl 0 rfl) ?_
  refine mg_get (ci := 4) (C := RX4) (T := TX4) (N := 19) (v := .ref (ad 21)) hx hb hts inX4_meet_X4 hown hC 16 (by decide) rfl rfl 9 (by decide) (hts _ lkX4_meet_f22) rfl rfl dX4_meet_10 ?_
  refine lv_iload_n hx hb dX4_meet_13 rfl (lv_at hl 3 rfl) ?_
  obtain ⟨g1, hf⟩ := gd_s hf
  refine mg_iald (n := 4) (cA := ca 21) hx hb hC 21 13 (by decide) rfl rfl g1 dX4_meet_14 ?_
  refine lv_iadd hx hb dX4_meet_15 ?_
  refine lv_icmp_ge (tgt := 42) hx hb dX4_meet_16 (by decide) (fun h2 => ?_) (fun h2 => ?_)
  · have hf := it_t h2 hf
    refine lv_iconst (v := 0) hx hb dX4_meet_42 (by decide) ?_
    exact wX4_meet_43 G N x1 x2 x3 x4 0 M _ _ _ (lv_sub hl [0, 1, 2, 3, 4] rfl) hC hf
  · have hf := it_f h2 hf
    refine lv_iload hx hb dX4_meet_19 (lv_at hl 4 rfl) ?_
    refine lv_bipush (v := 6) hx hb dX4_meet_21 (by decide) ?_
    refine lv_irem hx hb dX4_meet_23 (by decide) ?_
    refine lv_iload_n hx hb dX4_meet_24 rfl (lv_at hl 2 rfl) ?_
    refine lv_bipush (v := 6) hx hb dX4_meet_25 (by decide) ?_
    refine lv_irem hx hb dX4_meet_27 (by decide) ?_
    refine lv_aload_n hx hb dX4_meet_28 rfl (lv_at hl 0 rfl) ?_
    refine mg_get (ci := 4) (C := RX4) (T := TX4) (N := 19) (v := .ref (ad 21)) hx hb hts inX4_meet_X4 hown hC 16 (by decide) rfl rfl 9 (by decide) (hts _ lkX4_meet_f22) rfl rfl dX4_meet_29 ?_
    refine lv_iload_n hx hb dX4_meet_32 rfl (lv_at hl 1 rfl) ?_
    obtain ⟨g3, hf⟩ := gd_s hf
    refine mg_iald (n := 4) (cA := ca 21) hx hb hC 21 13 (by decide) rfl rfl g3 dX4_meet_33 ?_
    refine lv_iadd hx hb dX4_meet_34 ?_
    refine lv_icmp_ge (tgt := 42) hx hb dX4_meet_35 (by decide) (fun h4 => ?_) (fun h4 => ?_)
    · have hf := it_t h4 hf
      refine lv_iconst (v := 0) hx hb dX4_meet_42 (by decide) ?_
      exact wX4_meet_43 G N x1 x2 x3 x4 0 M _ _ _ (lv_sub hl [0, 1, 2, 3, 4] rfl) hC hf
    · have hf := it_f h4 hf
      refine lv_iconst (v := 1) hx hb dX4_meet_38 (by decide) ?_
      refine lv_goto (tgt := 43) hx hb dX4_meet_39 (by decide) ?_
      exact wX4_meet_43 G N x1 x2 x3 x4 1 M _ _ _ (lv_sub hl [0, 1, 2, 3, 4] rfl) hC hf

theorem lkX4_fix_f22 : Cond.fieldLink RX4 22 "BerthPlanModel" "length" "[I" ∈ wsX4_fix := by decide +kernel
theorem lkX4_fix_f40 : Cond.fieldLink RX4 40 "BerthPlanModel" "fixed" "[I" ∈ wsX4_fix := by decide +kernel
theorem lkX4_fix_f52 : Cond.fieldLink RX4 52 "BerthPlanModel" "places" "I" ∈ wsX4_fix := by decide +kernel
theorem lkX4_fix_f56 : Cond.fieldLink RX4 56 "BerthPlanModel" "thrown" "I" ∈ wsX4_fix := by decide +kernel
theorem lkX4_fix_f59 : Cond.fieldLink RX4 59 "BerthPlanModel" "ships" "I" ∈ wsX4_fix := by decide +kernel
theorem lkX4_fix_f66 : Cond.fieldLink RX4 66 "BerthPlanModel" "isPlan" "Z" ∈ wsX4_fix := by decide +kernel
theorem inX4_fix_X4 : ∀ w ∈ wsX40, w ∈ wsX4_fix := by decide +kernel
abbrev rmX4_fix : Room := { frames := 1, cells := 0, slots := 0, locals := 25 }
def fX4_fix_51 (N : Nat) : Nat → Int32 → Int32 → Int32 → Int32 → Mem → Option (Int32 × Mem)
  | 0, _, _, _, _, _ => none
  | n + 1, x1, x2, x3, x4, M =>
    if ((M 16 2) ≤ x4 : Prop) then (gd (x1) 4 (lq (mw M 27 (x1 : Int32).toNatClampNeg (((6 : Int32) * x3) + x2)) (fun M3 => lq (mw M3 16 4 0) (fun M4 => some (1, M4))))) else (if (x4 = x1 : Prop) then (lq (x4 + 1) (fun z6 => fX4_fix_51 N n x1 x2 x3 z6 M)) else (gd (x4) 4 (if ((M 27 (x4 : Int32).toNatClampNeg) < 0 : Prop) then (lq (x4 + 1) (fun z9 => fX4_fix_51 N n x1 x2 x3 z9 M)) else (gd (x4) 4 (bd (fX4_meet N x1 (((6 : Int32) * x3) + x2) x4 (M 27 (x4 : Int32).toNatClampNeg) M) (fun r11 M12 => if (r11 = 0 : Prop) then (lq (x4 + 1) (fun z14 => fX4_fix_51 N n x1 x2 x3 z14 M12)) else (some (0, M12))))))))
theorem fX4_fix_51_s {N n : Nat} {x1 : Int32} {x2 : Int32} {x3 : Int32} {x4 : Int32} {M : Mem} : fX4_fix_51 N (n + 1) x1 x2 x3 x4 M =
    if ((M 16 2) ≤ x4 : Prop) then (gd (x1) 4 (lq (mw M 27 (x1 : Int32).toNatClampNeg (((6 : Int32) * x3) + x2)) (fun M3 => lq (mw M3 16 4 0) (fun M4 => some (1, M4))))) else (if (x4 = x1 : Prop) then (lq (x4 + 1) (fun z6 => fX4_fix_51 N n x1 x2 x3 z6 M)) else (gd (x4) 4 (if ((M 27 (x4 : Int32).toNatClampNeg) < 0 : Prop) then (lq (x4 + 1) (fun z9 => fX4_fix_51 N n x1 x2 x3 z9 M)) else (gd (x4) 4 (bd (fX4_meet N x1 (((6 : Int32) * x3) + x2) x4 (M 27 (x4 : Int32).toNatClampNeg) M) (fun r11 M12 => if (r11 = 0 : Prop) then (lq (x4 + 1) (fun z14 => fX4_fix_51 N n x1 x2 x3 z14 M12)) else (some (0, M12)))))))) := rfl
def fX4_fix (N : Nat) (x1 : Int32) (x2 : Int32) (x3 : Int32) (M : Mem) : Option (Int32 × Mem) :=
    lq (mw M 16 0 0) (fun M1 => bd (fX4_isShip N x1 M1) (fun r2 M3 => if (r2 = 0 : Prop) then (some (0, M3)) else (bd (fX4_isPlace N x2 M3) (fun r5 M6 => if (r5 = 0 : Prop) then (some (0, M6)) else (bd (fX4_in N x3 0 15 M6) (fun r8 M9 => if (r8 = 0 : Prop) then (some (0, M9)) else (gd (x1) 4 (if ((x2 + (M9 21 (x1 : Int32).toNatClampNeg)) ≤ (M9 16 1) : Prop) then (fX4_fix_51 N N x1 x2 x3 0 M9) else (some (0, M9))))))))))
set_option maxHeartbeats 4000000 in
set_option maxRecDepth 100000 in
theorem wX4_fix_51 {p : Program} {l : Launch} {e : Env} {s : State} {m : MethodId} {args : Array Value} {below : List Frame} {meth : Method} {c : Code} {D : va_G} {ad : Nat → Nat} {ca : Nat → ClassId} {B : Nat} {ov : Int64} {r0 : Int32} {M0 : Mem} (G : Mx p s m args meth c cX4_fix 5 wsX4_fix RX4 (some .boolean)) (N : Nat) : ∀ (n : Nat), ∀ (x1 : Int32) (x2 : Int32) (x3 : Int32) (x4 : Int32) (M : Mem) (H : Heap) (locs : List Loc) (ls : Array Slot), lv_has ls 5 [(0, .ref (ad 16)), (1, .int x1), (2, .int x2), (3, .int x3), (4, .int x4)] → Cu D ad ca B M ov s H locs → (fX4_fix_51 N n) x1 x2 x3 x4 M = some (r0, M0) → W p l e (rmX4_fix) s m args below meth c H locs 0 0 (MQ below (va_Qi (fun (r : Int32) (_ : Unit) => r = r0) (fun _ t => Wp D ad ca B M0 ov t.heap) (Ab B)) args s 0 0 (Ab B)) (F0 m 51 ls []) := by
  obtain ⟨hx, hb, hml, hown, hts, hr, hlk⟩ := id G
  intro n
  induction n with
  | zero =>
    intro x1 x2 x3 x4 M H locs ls hl hC hf
    cases hf
  | succ n ih =>
    intro x1 x2 x3 x4 M H locs ls hl hC hf
    have hf := (fX4_fix_51_s).symm.trans hf
    refine lv_iload hx hb dX4_fix_51 (lv_at hl 4 rfl) ?_
    refine lv_aload_n hx hb dX4_fix_53 rfl (lv_at hl 0 rfl) ?_
    refine mg_get (ci := 4) (C := RX4) (T := TX4) (N := 19) (v := .int (M 16 2)) hx hb hts inX4_fix_X4 hown hC 16 (by decide) rfl rfl 2 (by decide) (hts _ lkX4_fix_f59) rfl rfl dX4_fix_54 ?_
    refine lv_icmp_ge (tgt := 107) hx hb dX4_fix_57 (by decide) (fun h1 => ?_) (fun h1 => ?_)
    · have hf := it_t h1 hf
      refine lv_aload_n hx hb dX4_fix_107 rfl (lv_at hl 0 rfl) ?_
      refine mg_get (ci := 4) (C := RX4) (T := TX4) (N := 19) (v := .ref (ad 27)) hx hb hts inX4_fix_X4 hown hC 16 (by decide) rfl rfl 15 (by decide) (hts _ lkX4_fix_f40) rfl rfl dX4_fix_108 ?_
      refine lv_iload_n hx hb dX4_fix_111 rfl (lv_at hl 1 rfl) ?_
      refine lv_bipush (v := 6) hx hb dX4_fix_112 (by decide) ?_
      refine lv_iload_n hx hb dX4_fix_114 rfl (lv_at hl 3 rfl) ?_
      refine lv_imul hx hb dX4_fix_115 ?_
      refine lv_iload_n hx hb dX4_fix_116 rfl (lv_at hl 2 rfl) ?_
      refine lv_iadd hx hb dX4_fix_117 ?_
      obtain ⟨g2, hf⟩ := gd_s hf
      refine mg_iast (n := 4) (cA := ca 27) hx hb hC 27 19 (by decide) (fun _ => rfl) rfl g2 dX4_fix_118 (fun H locs hC => ?_)
      obtain ⟨M3, eM3⟩ : ∃ z : Mem, z = mw M 27 (x1 : Int32).toNatClampNeg (((6 : Int32) * x3) + x2) := ⟨_, rfl⟩
      rw [← eM3] at hC
      have hf := lq_k eM3 hf
      refine lv_aload_n hx hb dX4_fix_119 rfl (lv_at hl 0 rfl) ?_
      refine lv_iconst (v := 0) hx hb dX4_fix_120 (by decide) ?_
      refine mg_put (ci := 4) (C := RX4) (T := TX4) (N := 19) (ty := .boolean) (v := .int 0) (x := 0) hx hb hts inX4_fix_X4 tyX4 tyX4_ok nmX4 hown hC 16 (by decide) rfl rfl 4 (by decide) (hts _ lkX4_fix_f66) rfl rfl (by decide +kernel) (by decide) rfl (Nat.le_of_ble_eq_true rfl) rfl dX4_fix_121 (fun H locs hC => ?_)
      obtain ⟨M4, eM4⟩ : ∃ z : Mem, z = mw M3 16 4 0 := ⟨_, rfl⟩
      rw [← eM4] at hC
      have hf := lq_k eM4 hf
      refine lv_iconst (v := 1) hx hb dX4_fix_124 (by decide) ?_
      exact mr_Z hx hb hr hlk hC (by decide) hf dX4_fix_125
    · have hf := it_f h1 hf
      refine lv_iload hx hb dX4_fix_60 (lv_at hl 4 rfl) ?_
      refine lv_iload_n hx hb dX4_fix_62 rfl (lv_at hl 1 rfl) ?_
      refine lv_icmp_eq (tgt := 101) hx hb dX4_fix_63 (by decide) (fun h5 => ?_) (fun h5 => ?_)
      · have hf := it_t h5 hf
        obtain ⟨z6, ez6⟩ : ∃ y : Int32, y = x4 + 1 := ⟨_, rfl⟩
        have hf := lq_k ez6 hf
        refine lv_iinc (v := z6) (lv' := [(4, .int z6), (0, .ref (ad 16)), (1, .int x1), (2, .int x2), (3, .int x3)]) hx hb dX4_fix_101 hl (k := 4) rfl (by rw [ez6]; rfl) (by decide) rfl (fun ls hl => ?_)
        refine lv_goto (tgt := 51) hx hb dX4_fix_104 (by decide) ?_
        exact ih x1 x2 x3 z6 M _ _ _ (lv_sub hl [1, 2, 3, 4, 0] rfl) hC hf
      · have hf := it_f h5 hf
        refine lv_aload_n hx hb dX4_fix_66 rfl (lv_at hl 0 rfl) ?_
        refine mg_get (ci := 4) (C := RX4) (T := TX4) (N := 19) (v := .ref (ad 27)) hx hb hts inX4_fix_X4 hown hC 16 (by decide) rfl rfl 15 (by decide) (hts _ lkX4_fix_f40) rfl rfl dX4_fix_67 ?_
        refine lv_iload hx hb dX4_fix_70 (lv_at hl 4 rfl) ?_
        obtain ⟨g7, hf⟩ := gd_s hf
        refine mg_iald (n := 4) (cA := ca 27) hx hb hC 27 19 (by decide) rfl rfl g7 dX4_fix_72 ?_
        refine lv_if_lt (tgt := 101) hx hb dX4_fix_73 (by decide) (fun h8 => ?_) (fun h8 => ?_)
        · have hf := it_t h8 hf
          obtain ⟨z9, ez9⟩ : ∃ y : Int32, y = x4 + 1 := ⟨_, rfl⟩
          have hf := lq_k ez9 hf
          refine lv_iinc (v := z9) (lv' := [(4, .int z9), (0, .ref (ad 16)), (1, .int x1), (2, .int x2), (3, .int x3)]) hx hb dX4_fix_101 hl (k := 4) rfl (by rw [ez9]; rfl) (by decide) rfl (fun ls hl => ?_)
          refine lv_goto (tgt := 51) hx hb dX4_fix_104 (by decide) ?_
          exact ih x1 x2 x3 z9 M _ _ _ (lv_sub hl [1, 2, 3, 4, 0] rfl) hC hf
        · have hf := it_f h8 hf
          refine lv_aload_n hx hb dX4_fix_76 rfl (lv_at hl 0 rfl) ?_
          refine lv_iload_n hx hb dX4_fix_77 rfl (lv_at hl 1 rfl) ?_
          refine lv_bipush (v := 6) hx hb dX4_fix_78 (by decide) ?_
          refine lv_iload_n hx hb dX4_fix_80 rfl (lv_at hl 3 rfl) ?_
          refine lv_imul hx hb dX4_fix_81 ?_
          refine lv_iload_n hx hb dX4_fix_82 rfl (lv_at hl 2 rfl) ?_
          refine lv_iadd hx hb dX4_fix_83 ?_
          refine lv_iload hx hb dX4_fix_84 (lv_at hl 4 rfl) ?_
          refine lv_aload_n hx hb dX4_fix_86 rfl (lv_at hl 0 rfl) ?_
          refine mg_get (ci := 4) (C := RX4) (T := TX4) (N := 19) (v := .ref (ad 27)) hx hb hts inX4_fix_X4 hown hC 16 (by decide) rfl rfl 15 (by decide) (hts _ lkX4_fix_f40) rfl rfl dX4_fix_87 ?_
          refine lv_iload hx hb dX4_fix_90 (lv_at hl 4 rfl) ?_
          obtain ⟨g10, hf⟩ := gd_s hf
          refine mg_iald (n := 4) (cA := ca 27) hx hb hC 27 19 (by decide) rfl rfl g10 dX4_fix_92 ?_
          obtain ⟨r11, M12, hq, hf⟩ := bd_s hf
          refine mc_Vi (As := [.int x1, .int (((6 : Int32) * x3) + x2), .int x4, .int (M 27 (x4 : Int32).toNatClampNeg)]) ⟨hx, hb, hml, hown, hts⟩ hC (kX4_meet l D ad ca B ov N x1 (((6 : Int32) * x3) + x2) x4 (M 27 (x4 : Int32).toNatClampNeg) M r11 M12 hq) (cwV 4 hts gX4_fix_X4_meet rfl rfl rfl (by decide +kernel) ⟨Nat.le_of_ble_eq_true rfl, Nat.le_of_ble_eq_true rfl⟩) (mg_recv (ci := 4) (C := RX4) (T := TX4) (N := 19) hC 16 (by decide) rfl rfl) rfl hl.1 rfl (Nat.le_of_ble_eq_true rfl) dX4_fix_93 ⟨Nat.zero_le _, Nat.zero_le _⟩ (fun H locs hC => ?_)
          refine lv_if_eq (tgt := 101) hx hb dX4_fix_96 (by decide) (fun h13 => ?_) (fun h13 => ?_)
          · have hf := it_t h13 hf
            obtain ⟨z14, ez14⟩ : ∃ y : Int32, y = x4 + 1 := ⟨_, rfl⟩
            have hf := lq_k ez14 hf
            refine lv_iinc (v := z14) (lv' := [(4, .int z14), (0, .ref (ad 16)), (1, .int x1), (2, .int x2), (3, .int x3)]) hx hb dX4_fix_101 hl (k := 4) rfl (by rw [ez14]; rfl) (by decide) rfl (fun ls hl => ?_)
            refine lv_goto (tgt := 51) hx hb dX4_fix_104 (by decide) ?_
            exact ih x1 x2 x3 z14 M12 _ _ _ (lv_sub hl [1, 2, 3, 4, 0] rfl) hC hf
          · have hf := it_f h13 hf
            refine lv_iconst (v := 0) hx hb dX4_fix_99 (by decide) ?_
            exact mr_Z hx hb hr hlk hC (by decide) hf dX4_fix_100
set_option maxHeartbeats 4000000 in
set_option maxRecDepth 100000 in
theorem kX4_fix (l : Launch) (D : va_G) (ad : Nat → Nat) (ca : Nat → ClassId) (B : Nat) (ov : Int64) (N : Nat) (x1 : Int32) (x2 : Int32) (x3 : Int32) (M : Mem) (r0 : Int32) (M0 : Mem) (hf : fX4_fix N x1 x2 x3 M = some (r0, M0)) : MtI l D ad ca B ov yX4_fix wsX4_fix (rmX4_fix) [.ref (ad 16), .int x1, .int x2, .int x3] M r0 M0 := by
  unfold fX4_fix at hf
  refine Met.ofW (cc := cX4_fix) (maxL := 5) (ret := (some .boolean)) (by decide) rfl ?_
  intro p e s m args below meth c s₁ Bd hml hv
  obtain ⟨rfl, hw⟩ := hv
  have G : Mx p s m ([.ref (ad 16), .int x1, .int x2, .int x3] : List Value).toArray meth c cX4_fix 5 wsX4_fix RX4 (some .boolean) := ⟨Bd.exec, Bd.bytes, hml, findClass_of_methodNamed Bd.named, atoms_spec (ws := wsX4_fix) Bd.pre, Bd.returns, Bd.notSynchronized⟩
  have hC := Cu.of hw
  have hl := lv_entry ([.ref (ad 16), .int x1, .int x2, .int x3]) (n := 5) (Nat.le_of_ble_eq_true rfl)
  rw [lg_entry_eq]
  generalize (lg_sl ([.ref (ad 16), .int x1, .int x2, .int x3]) ++ List.replicate (5 - (lg_sl ([.ref (ad 16), .int x1, .int x2, .int x3])).length) Slot.unset).toArray = ls at hl ⊢
  have hl : lv_has ls 5 [(0, .ref (ad 16)), (1, .int x1), (2, .int x2), (3, .int x3)] := hl
  obtain ⟨hx, hb, hml, hown, hts, hr, hlk⟩ := id G
  show W p l e (rmX4_fix) s m _ below meth c s.heap [] 0 0 (MQ below (va_Qi (fun (r : Int32) (_ : Unit) => r = r0) (fun _ t => Wp D ad ca B M0 ov t.heap) (Ab B)) _ s 0 0 (Ab B)) (F0 m 0 ls [])
  refine lv_aload_n hx hb dX4_fix_0 rfl (lv_at hl 0 rfl) ?_
  refine lv_iconst (v := 0) hx hb dX4_fix_1 (by decide) ?_
  refine mg_put (ci := 4) (C := RX4) (T := TX4) (N := 19) (ty := .int) (v := .int 0) (x := 0) hx hb hts inX4_fix_X4 tyX4 tyX4_ok nmX4 hown hC 16 (by decide) rfl rfl 0 (by decide) (hts _ lkX4_fix_f56) rfl rfl (by decide +kernel) rfl rfl (Nat.le_of_ble_eq_true rfl) rfl dX4_fix_2 (fun H locs hC => ?_)
  obtain ⟨M1, eM1⟩ : ∃ z : Mem, z = mw M 16 0 0 := ⟨_, rfl⟩
  rw [← eM1] at hC
  have hf := lq_k eM1 hf
  refine lv_aload_n hx hb dX4_fix_5 rfl (lv_at hl 0 rfl) ?_
  refine lv_iload_n hx hb dX4_fix_6 rfl (lv_at hl 1 rfl) ?_
  obtain ⟨r2, M3, hq, hf⟩ := bd_s hf
  refine mc_Vi (As := [.int x1]) ⟨hx, hb, hml, hown, hts⟩ hC (kX4_isShip l D ad ca B ov N x1 M1 r2 M3 hq) (cwV 1 hts gX4_fix_X4_isShip rfl rfl rfl (by decide +kernel) ⟨Nat.le_of_ble_eq_true rfl, Nat.le_of_ble_eq_true rfl⟩) (mg_recv (ci := 4) (C := RX4) (T := TX4) (N := 19) hC 16 (by decide) rfl rfl) rfl hl.1 rfl (Nat.le_of_ble_eq_true rfl) dX4_fix_7 ⟨Nat.zero_le _, Nat.zero_le _⟩ (fun H locs hC => ?_)
  refine lv_if_eq (tgt := 46) hx hb dX4_fix_10 (by decide) (fun h4 => ?_) (fun h4 => ?_)
  · have hf := it_t h4 hf
    refine lv_iconst (v := 0) hx hb dX4_fix_46 (by decide) ?_
    exact mr_Z hx hb hr hlk hC (by decide) hf dX4_fix_47
  · have hf := it_f h4 hf
    refine lv_aload_n hx hb dX4_fix_13 rfl (lv_at hl 0 rfl) ?_
    refine lv_iload_n hx hb dX4_fix_14 rfl (lv_at hl 2 rfl) ?_
    obtain ⟨r5, M6, hq, hf⟩ := bd_s hf
    refine mc_Vi (As := [.int x2]) ⟨hx, hb, hml, hown, hts⟩ hC (kX4_isPlace l D ad ca B ov N x2 M3 r5 M6 hq) (cwV 1 hts gX4_fix_X4_isPlace rfl rfl rfl (by decide +kernel) ⟨Nat.le_of_ble_eq_true rfl, Nat.le_of_ble_eq_true rfl⟩) (mg_recv (ci := 4) (C := RX4) (T := TX4) (N := 19) hC 16 (by decide) rfl rfl) rfl hl.1 rfl (Nat.le_of_ble_eq_true rfl) dX4_fix_15 ⟨Nat.zero_le _, Nat.zero_le _⟩ (fun H locs hC => ?_)
    refine lv_if_eq (tgt := 46) hx hb dX4_fix_18 (by decide) (fun h7 => ?_) (fun h7 => ?_)
    · have hf := it_t h7 hf
      refine lv_iconst (v := 0) hx hb dX4_fix_46 (by decide) ?_
      exact mr_Z hx hb hr hlk hC (by decide) hf dX4_fix_47
    · have hf := it_f h7 hf
      refine lv_iload_n hx hb dX4_fix_21 rfl (lv_at hl 3 rfl) ?_
      refine lv_iconst (v := 0) hx hb dX4_fix_22 (by decide) ?_
      refine lv_bipush (v := 15) hx hb dX4_fix_23 (by decide) ?_
      obtain ⟨r8, M9, hq, hf⟩ := bd_s hf
      refine mc_Si (As := [.int x3, .int 0, .int 15]) ⟨hx, hb, hml, hown, hts⟩ hC (kX4_in l D ad ca B ov N x3 0 15 M6 r8 M9 hq) (va_cwS 3 hts gX4_fix_X4_in rfl rfl rfl (by decide +kernel) ⟨Nat.le_of_ble_eq_true rfl, Nat.le_of_ble_eq_true rfl⟩) rfl hl.1 rfl (Nat.le_of_ble_eq_true rfl) dX4_fix_25 ⟨Nat.zero_le _, Nat.zero_le _⟩ (fun H locs hC => ?_)
      refine lv_if_eq (tgt := 46) hx hb dX4_fix_28 (by decide) (fun h10 => ?_) (fun h10 => ?_)
      · have hf := it_t h10 hf
        refine lv_iconst (v := 0) hx hb dX4_fix_46 (by decide) ?_
        exact mr_Z hx hb hr hlk hC (by decide) hf dX4_fix_47
      · have hf := it_f h10 hf
        refine lv_iload_n hx hb dX4_fix_31 rfl (lv_at hl 2 rfl) ?_
        refine lv_aload_n hx hb dX4_fix_32 rfl (lv_at hl 0 rfl) ?_
        refine mg_get (ci := 4) (C := RX4) (T := TX4) (N := 19) (v := .ref (ad 21)) hx hb hts inX4_fix_X4 hown hC 16 (by decide) rfl rfl 9 (by decide) (hts _ lkX4_fix_f22) rfl rfl dX4_fix_33 ?_
        refine lv_iload_n hx hb dX4_fix_36 rfl (lv_at hl 1 rfl) ?_
        obtain ⟨g11, hf⟩ := gd_s hf
        refine mg_iald (n := 4) (cA := ca 21) hx hb hC 21 13 (by decide) rfl rfl g11 dX4_fix_37 ?_
        refine lv_iadd hx hb dX4_fix_38 ?_
        refine lv_aload_n hx hb dX4_fix_39 rfl (lv_at hl 0 rfl) ?_
        refine mg_get (ci := 4) (C := RX4) (T := TX4) (N := 19) (v := .int (M9 16 1)) hx hb hts inX4_fix_X4 hown hC 16 (by decide) rfl rfl 1 (by decide) (hts _ lkX4_fix_f52) rfl rfl dX4_fix_40 ?_
        refine lv_icmp_le (tgt := 48) hx hb dX4_fix_43 (by decide) (fun h12 => ?_) (fun h12 => ?_)
        · have hf := it_t h12 hf
          refine lv_iconst (v := 0) hx hb dX4_fix_48 (by decide) ?_
          refine lv_istore (lv' := [(4, .int 0), (0, .ref (ad 16)), (1, .int x1), (2, .int x2), (3, .int x3)]) hx hb dX4_fix_49 hl (by decide) rfl (fun ls hl => ?_)
          exact wX4_fix_51 G N N x1 x2 x3 0 M9 _ _ _ (lv_sub hl [1, 2, 3, 4, 0] rfl) hC hf
        · have hf := it_f h12 hf
          refine lv_iconst (v := 0) hx hb dX4_fix_46 (by decide) ?_
          exact mr_Z hx hb hr hlk hC (by decide) hf dX4_fix_47

theorem lkX4_free_f40 : Cond.fieldLink RX4 40 "BerthPlanModel" "fixed" "[I" ∈ wsX4_free := by decide +kernel
theorem lkX4_free_f56 : Cond.fieldLink RX4 56 "BerthPlanModel" "thrown" "I" ∈ wsX4_free := by decide +kernel
theorem lkX4_free_f66 : Cond.fieldLink RX4 66 "BerthPlanModel" "isPlan" "Z" ∈ wsX4_free := by decide +kernel
theorem inX4_free_X4 : ∀ w ∈ wsX40, w ∈ wsX4_free := by decide +kernel
abbrev rmX4_free : Room := { frames := 1, cells := 0, slots := 0, locals := 21 }
def fX4_free (N : Nat) (x1 : Int32) (M : Mem) : Option (Int32 × Mem) :=
    lq (mw M 16 0 0) (fun M1 => bd (fX4_isShip N x1 M1) (fun r2 M3 => if (r2 = 0 : Prop) then (some (0, M3)) else (gd (x1) 4 (if (0 ≤ (M3 27 (x1 : Int32).toNatClampNeg) : Prop) then (gd (x1) 4 (lq (mw M3 27 (x1 : Int32).toNatClampNeg (-1)) (fun M8 => lq (mw M8 16 4 0) (fun M9 => some (1, M9))))) else (some (0, M3))))))
set_option maxHeartbeats 4000000 in
set_option maxRecDepth 100000 in
theorem kX4_free (l : Launch) (D : va_G) (ad : Nat → Nat) (ca : Nat → ClassId) (B : Nat) (ov : Int64) (N : Nat) (x1 : Int32) (M : Mem) (r0 : Int32) (M0 : Mem) (hf : fX4_free N x1 M = some (r0, M0)) : MtI l D ad ca B ov yX4_free wsX4_free (rmX4_free) [.ref (ad 16), .int x1] M r0 M0 := by
  unfold fX4_free at hf
  refine Met.ofW (cc := cX4_free) (maxL := 2) (ret := (some .boolean)) (by decide) rfl ?_
  intro p e s m args below meth c s₁ Bd hml hv
  obtain ⟨rfl, hw⟩ := hv
  have G : Mx p s m ([.ref (ad 16), .int x1] : List Value).toArray meth c cX4_free 2 wsX4_free RX4 (some .boolean) := ⟨Bd.exec, Bd.bytes, hml, findClass_of_methodNamed Bd.named, atoms_spec (ws := wsX4_free) Bd.pre, Bd.returns, Bd.notSynchronized⟩
  have hC := Cu.of hw
  have hl := lv_entry ([.ref (ad 16), .int x1]) (n := 2) (Nat.le_of_ble_eq_true rfl)
  rw [lg_entry_eq]
  generalize (lg_sl ([.ref (ad 16), .int x1]) ++ List.replicate (2 - (lg_sl ([.ref (ad 16), .int x1])).length) Slot.unset).toArray = ls at hl ⊢
  have hl : lv_has ls 2 [(0, .ref (ad 16)), (1, .int x1)] := hl
  obtain ⟨hx, hb, hml, hown, hts, hr, hlk⟩ := id G
  show W p l e (rmX4_free) s m _ below meth c s.heap [] 0 0 (MQ below (va_Qi (fun (r : Int32) (_ : Unit) => r = r0) (fun _ t => Wp D ad ca B M0 ov t.heap) (Ab B)) _ s 0 0 (Ab B)) (F0 m 0 ls [])
  refine lv_aload_n hx hb dX4_free_0 rfl (lv_at hl 0 rfl) ?_
  refine lv_iconst (v := 0) hx hb dX4_free_1 (by decide) ?_
  refine mg_put (ci := 4) (C := RX4) (T := TX4) (N := 19) (ty := .int) (v := .int 0) (x := 0) hx hb hts inX4_free_X4 tyX4 tyX4_ok nmX4 hown hC 16 (by decide) rfl rfl 0 (by decide) (hts _ lkX4_free_f56) rfl rfl (by decide +kernel) rfl rfl (Nat.le_of_ble_eq_true rfl) rfl dX4_free_2 (fun H locs hC => ?_)
  obtain ⟨M1, eM1⟩ : ∃ z : Mem, z = mw M 16 0 0 := ⟨_, rfl⟩
  rw [← eM1] at hC
  have hf := lq_k eM1 hf
  refine lv_aload_n hx hb dX4_free_5 rfl (lv_at hl 0 rfl) ?_
  refine lv_iload_n hx hb dX4_free_6 rfl (lv_at hl 1 rfl) ?_
  obtain ⟨r2, M3, hq, hf⟩ := bd_s hf
  refine mc_Vi (As := [.int x1]) ⟨hx, hb, hml, hown, hts⟩ hC (kX4_isShip l D ad ca B ov N x1 M1 r2 M3 hq) (cwV 1 hts gX4_free_X4_isShip rfl rfl rfl (by decide +kernel) ⟨Nat.le_of_ble_eq_true rfl, Nat.le_of_ble_eq_true rfl⟩) (mg_recv (ci := 4) (C := RX4) (T := TX4) (N := 19) hC 16 (by decide) rfl rfl) rfl hl.1 rfl (Nat.le_of_ble_eq_true rfl) dX4_free_7 ⟨Nat.zero_le _, Nat.zero_le _⟩ (fun H locs hC => ?_)
  refine lv_if_eq (tgt := 22) hx hb dX4_free_10 (by decide) (fun h4 => ?_) (fun h4 => ?_)
  · have hf := it_t h4 hf
    refine lv_iconst (v := 0) hx hb dX4_free_22 (by decide) ?_
    exact mr_Z hx hb hr hlk hC (by decide) hf dX4_free_23
  · have hf := it_f h4 hf
    refine lv_aload_n hx hb dX4_free_13 rfl (lv_at hl 0 rfl) ?_
    refine mg_get (ci := 4) (C := RX4) (T := TX4) (N := 19) (v := .ref (ad 27)) hx hb hts inX4_free_X4 hown hC 16 (by decide) rfl rfl 15 (by decide) (hts _ lkX4_free_f40) rfl rfl dX4_free_14 ?_
    refine lv_iload_n hx hb dX4_free_17 rfl (lv_at hl 1 rfl) ?_
    obtain ⟨g5, hf⟩ := gd_s hf
    refine mg_iald (n := 4) (cA := ca 27) hx hb hC 27 19 (by decide) rfl rfl g5 dX4_free_18 ?_
    refine lv_if_ge (tgt := 24) hx hb dX4_free_19 (by decide) (fun h6 => ?_) (fun h6 => ?_)
    · have hf := it_t h6 hf
      refine lv_aload_n hx hb dX4_free_24 rfl (lv_at hl 0 rfl) ?_
      refine mg_get (ci := 4) (C := RX4) (T := TX4) (N := 19) (v := .ref (ad 27)) hx hb hts inX4_free_X4 hown hC 16 (by decide) rfl rfl 15 (by decide) (hts _ lkX4_free_f40) rfl rfl dX4_free_25 ?_
      refine lv_iload_n hx hb dX4_free_28 rfl (lv_at hl 1 rfl) ?_
      refine lv_iconst (v := (-1)) hx hb dX4_free_29 (by decide) ?_
      obtain ⟨g7, hf⟩ := gd_s hf
      refine mg_iast (n := 4) (cA := ca 27) hx hb hC 27 19 (by decide) (fun _ => rfl) rfl g7 dX4_free_30 (fun H locs hC => ?_)
      obtain ⟨M8, eM8⟩ : ∃ z : Mem, z = mw M3 27 (x1 : Int32).toNatClampNeg (-1) := ⟨_, rfl⟩
      rw [← eM8] at hC
      have hf := lq_k eM8 hf
      refine lv_aload_n hx hb dX4_free_31 rfl (lv_at hl 0 rfl) ?_
      refine lv_iconst (v := 0) hx hb dX4_free_32 (by decide) ?_
      refine mg_put (ci := 4) (C := RX4) (T := TX4) (N := 19) (ty := .boolean) (v := .int 0) (x := 0) hx hb hts inX4_free_X4 tyX4 tyX4_ok nmX4 hown hC 16 (by decide) rfl rfl 4 (by decide) (hts _ lkX4_free_f66) rfl rfl (by decide +kernel) (by decide) rfl (Nat.le_of_ble_eq_true rfl) rfl dX4_free_33 (fun H locs hC => ?_)
      obtain ⟨M9, eM9⟩ : ∃ z : Mem, z = mw M8 16 4 0 := ⟨_, rfl⟩
      rw [← eM9] at hC
      have hf := lq_k eM9 hf
      refine lv_iconst (v := 1) hx hb dX4_free_36 (by decide) ?_
      exact mr_Z hx hb hr hlk hC (by decide) hf dX4_free_37
    · have hf := it_f h6 hf
      refine lv_iconst (v := 0) hx hb dX4_free_22 (by decide) ?_
      exact mr_Z hx hb hr hlk hC (by decide) hf dX4_free_23
