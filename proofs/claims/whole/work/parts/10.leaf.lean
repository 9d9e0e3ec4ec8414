abbrev rmX3_isWithin : Room := { frames := 0, cells := 0, slots := 0, locals := 0 }
def fX3_isWithin (N : Nat) (x0 : Int32) (x1 : Int32) (x2 : Int32) (M : Mem) : Option (Int32 × Mem) :=
    if (x0 < x1 : Prop) then (some (0, M)) else (if (x2 < x0 : Prop) then (some (0, M)) else (some (1, M)))
set_option maxHeartbeats 4000000 in
set_option maxRecDepth 100000 in
theorem kX3_isWithin (l : Launch) (D : va_G) (ad : Nat → Nat) (ca : Nat → ClassId) (B : Nat) (ov : Int64) (N : Nat) (x0 : Int32) (x1 : Int32) (x2 : Int32) (M : Mem) (r0 : Int32) (M0 : Mem) (hf : fX3_isWithin N x0 x1 x2 M = some (r0, M0)) : MtI l D ad ca B ov yX3_isWithin wsX3_isWithin (rmX3_isWithin) [.int x0, .int x1, .int x2] M r0 M0 := by
  unfold fX3_isWithin at hf
  refine Met.ofW (cc := cX3_isWithin) (maxL := 3) (ret := (some .boolean)) (by decide) rfl ?_
  intro p e s m args below meth c s₁ Bd hml hv
  obtain ⟨rfl, hw⟩ := hv
  have G : Mx p s m ([.int x0, .int x1, .int x2] : List Value).toArray meth c cX3_isWithin 3 wsX3_isWithin RX3 (some .boolean) := ⟨Bd.exec, Bd.bytes, hml, findClass_of_methodNamed Bd.named, atoms_spec (ws := wsX3_isWithin) Bd.pre, Bd.returns, Bd.notSynchronized⟩
  have hC := Cu.of hw
  have hl := lv_entry ([.int x0, .int x1, .int x2]) (n := 3) (Nat.le_of_ble_eq_true rfl)
  rw [lg_entry_eq]
  generalize (lg_sl ([.int x0, .int x1, .int x2]) ++ List.replicate (3 - (lg_sl ([.int x0, .int x1, .int x2])).length) Slot.unset).toArray = ls at hl ⊢
  have hl : lv_has ls 3 [(0, .int x0), (1, .int x1), (2, .int x2)] := hl
  obtain ⟨hx, hb, hml, hown, hts, hr, hlk⟩ := id G
  show W p l e (rmX3_isWithin) s m _ below meth c s.heap [] 0 0 (MQ below (va_Qi (fun (r : Int32) (_ : Unit) => r = r0) (fun _ t => Wp D ad ca B M0 ov t.heap) (Ab B)) _ s 0 0 (Ab B)) (F0 m 0 ls [])
  refine lv_iload_n hx hb dX3_isWithin_0 rfl (lv_at hl 0 rfl) ?_
  refine lv_iload_n hx hb dX3_isWithin_1 rfl (lv_at hl 1 rfl) ?_
  refine lv_icmp_lt (tgt := 14) hx hb dX3_isWithin_2 (by decide) (fun h1 => ?_) (fun h1 => ?_)
  · have hf := it_t h1 hf
    refine lv_iconst (v := 0) hx hb dX3_isWithin_14 (by decide) ?_
    exact mr_Z hx hb hr hlk hC (by decide) hf dX3_isWithin_15
  · have hf := it_f h1 hf
    refine lv_iload_n hx hb dX3_isWithin_5 rfl (lv_at hl 0 rfl) ?_
    refine lv_iload_n hx hb dX3_isWithin_6 rfl (lv_at hl 2 rfl) ?_
    refine lv_icmp_gt (tgt := 14) hx hb dX3_isWithin_7 (by decide) (fun h2 => ?_) (fun h2 => ?_)
    · have hf := it_t h2 hf
      refine lv_iconst (v := 0) hx hb dX3_isWithin_14 (by decide) ?_
      exact mr_Z hx hb hr hlk hC (by decide) hf dX3_isWithin_15
    · have hf := it_f h2 hf
      refine lv_iconst (v := 1) hx hb dX3_isWithin_10 (by decide) ?_
      refine lv_goto (tgt := 15) hx hb dX3_isWithin_11 (by decide) ?_
      exact mr_Z hx hb hr hlk hC (by decide) hf dX3_isWithin_15

abbrev rmX3_isKind : Room := { frames := 0, cells := 0, slots := 0, locals := 0 }
def fX3_isKind (N : Nat) (x0 : Int32) (M : Mem) : Option (Int32 × Mem) :=
    if (x0 < 0 : Prop) then (some (0, M)) else (if (8 ≤ x0 : Prop) then (some (0, M)) else (some (1, M)))
set_option maxHeartbeats 4000000 in
set_option maxRecDepth 100000 in
theorem kX3_isKind (l : Launch) (D : va_G) (ad : Nat → Nat) (ca : Nat → ClassId) (B : Nat) (ov : Int64) (N : Nat) (x0 : Int32) (M : Mem) (r0 : Int32) (M0 : Mem) (hf : fX3_isKind N x0 M = some (r0, M0)) : MtI l D ad ca B ov yX3_isKind wsX3_isKind (rmX3_isKind) [.int x0] M r0 M0 := by
  unfold fX3_isKind at hf
  refine Met.ofW (cc := cX3_isKind) (maxL := 1) (ret := (some .boolean)) (by decide) rfl ?_
  intro p e s m args below meth c s₁ Bd hml hv
  obtain ⟨rfl, hw⟩ := hv
  have G : Mx p s m ([.int x0] : List Value).toArray meth c cX3_isKind 1 wsX3_isKind RX3 (some .boolean) := ⟨Bd.exec, Bd.bytes, hml, findClass_of_methodNamed Bd.named, atoms_spec (ws := wsX3_isKind) Bd.pre, Bd.returns, Bd.notSynchronized⟩
  have hC := Cu.of hw
  have hl := lv_entry ([.int x0]) (n := 1) (Nat.le_of_ble_eq_true rfl)
  rw [lg_entry_eq]
  generalize (lg_sl ([.int x0]) ++ List.replicate (1 - (lg_sl ([.int x0])).length) Slot.unset).toArray = ls at hl ⊢
  have hl : lv_has ls 1 [(0, .int x0)] := hl
  obtain ⟨hx, hb, hml, hown, hts, hr, hlk⟩ := id G
  show W p l e (rmX3_isKind) s m _ below meth c s.heap [] 0 0 (MQ below (va_Qi (fun (r : Int32) (_ : Unit) => r = r0) (fun _ t => Wp D ad ca B M0 ov t.heap) (Ab B)) _ s 0 0 (Ab B)) (F0 m 0 ls [])
  refine lv_iload_n hx hb dX3_isKind_0 rfl (lv_at hl 0 rfl) ?_
  refine lv_if_lt (tgt := 14) hx hb dX3_isKind_1 (by decide) (fun h1 => ?_) (fun h1 => ?_)
  · have hf := it_t h1 hf
    refine lv_iconst (v := 0) hx hb dX3_isKind_14 (by decide) ?_
    exact mr_Z hx hb hr hlk hC (by decide) hf dX3_isKind_15
  · have hf := it_f h1 hf
    refine lv_iload_n hx hb dX3_isKind_4 rfl (lv_at hl 0 rfl) ?_
    refine lv_bipush (v := 8) hx hb dX3_isKind_5 (by decide) ?_
    refine lv_icmp_ge (tgt := 14) hx hb dX3_isKind_7 (by decide) (fun h2 => ?_) (fun h2 => ?_)
    · have hf := it_t h2 hf
      refine lv_iconst (v := 0) hx hb dX3_isKind_14 (by decide) ?_
      exact mr_Z hx hb hr hlk hC (by decide) hf dX3_isKind_15
    · have hf := it_f h2 hf
      refine lv_iconst (v := 1) hx hb dX3_isKind_10 (by decide) ?_
      refine lv_goto (tgt := 15) hx hb dX3_isKind_11 (by decide) ?_
      exact mr_Z hx hb hr hlk hC (by decide) hf dX3_isKind_15

abbrev rmX3_hasBit : Room := { frames := 0, cells := 0, slots := 0, locals := 0 }
def fX3_hasBit (N : Nat) (x0 : Int32) (x1 : Int32) (M : Mem) : Option (Int32 × Mem) :=
    if (((x0 >>> (x1 &&& 31)) &&& (1 : Int32)) = 0 : Prop) then (some (0, M)) else (some (1, M))
set_option maxHeartbeats 4000000 in
set_option maxRecDepth 100000 in
theorem kX3_hasBit (l : Launch) (D : va_G) (ad : Nat → Nat) (ca : Nat → ClassId) (B : Nat) (ov : Int64) (N : Nat) (x0 : Int32) (x1 : Int32) (M : Mem) (r0 : Int32) (M0 : Mem) (hf : fX3_hasBit N x0 x1 M = some (r0, M0)) : MtI l D ad ca B ov yX3_hasBit wsX3_hasBit (rmX3_hasBit) [.int x0, .int x1] M r0 M0 := by
  unfold fX3_hasBit at hf
  refine Met.ofW (cc := cX3_hasBit) (maxL := 2) (ret := (some .boolean)) (by decide) rfl ?_
  intro p e s m args below meth c s₁ Bd hml hv
  obtain ⟨rfl, hw⟩ := hv
  have G : Mx p s m ([.int x0, .int x1] : List Value).toArray meth c cX3_hasBit 2 wsX3_hasBit RX3 (some .boolean) := ⟨Bd.exec, Bd.bytes, hml, findClass_of_methodNamed Bd.named, atoms_spec (ws := wsX3_hasBit) Bd.pre, Bd.returns, Bd.notSynchronized⟩
  have hC := Cu.of hw
  have hl := lv_entry ([.int x0, .int x1]) (n := 2) (Nat.le_of_ble_eq_true rfl)
  rw [lg_entry_eq]
  generalize (lg_sl ([.int x0, .int x1]) ++ List.replicate (2 - (lg_sl ([.int x0, .int x1])).length) Slot.unset).toArray = ls at hl ⊢
  have hl : lv_has ls 2 [(0, .int x0), (1, .int x1)] := hl
  obtain ⟨hx, hb, hml, hown, hts, hr, hlk⟩ := id G
  show W p l e (rmX3_hasBit) s m _ below meth c s.heap [] 0 0 (MQ below (va_Qi (fun (r : Int32) (_ : Unit) => r = r0) (fun _ t => Wp D ad ca B M0 ov t.heap) (Ab B)) _ s 0 0 (Ab B)) (F0 m 0 ls [])
  refine lv_iload_n hx hb dX3_hasBit_0 rfl (lv_at hl 0 rfl) ?_
  refine lv_iload_n hx hb dX3_hasBit_1 rfl (lv_at hl 1 rfl) ?_
  refine lv_ishr hx hb dX3_hasBit_2 ?_
  refine lv_iconst (v := 1) hx hb dX3_hasBit_3 (by decide) ?_
  refine lv_iand hx hb dX3_hasBit_4 ?_
  refine lv_if_eq (tgt := 12) hx hb dX3_hasBit_5 (by decide) (fun h1 => ?_) (fun h1 => ?_)
  · have hf := it_t h1 hf
    refine lv_iconst (v := 0) hx hb dX3_hasBit_12 (by decide) ?_
    exact mr_Z hx hb hr hlk hC (by decide) hf dX3_hasBit_13
  · have hf := it_f h1 hf
    refine lv_iconst (v := 1) hx hb dX3_hasBit_8 (by decide) ?_
    refine lv_goto (tgt := 13) hx hb dX3_hasBit_9 (by decide) ?_
    exact mr_Z hx hb hr hlk hC (by decide) hf dX3_hasBit_13

abbrev rmX3_isSpanAt : Room := { frames := 0, cells := 0, slots := 0, locals := 0 }
def fX3_isSpanAt (N : Nat) (x0 : Int32) (x1 : Int32) (x2 : Int32) (M : Mem) : Option (Int32 × Mem) :=
    if (x2 < x0 : Prop) then (some (0, M)) else (if ((x0 + x1) ≤ x2 : Prop) then (some (0, M)) else (some (1, M)))
set_option maxHeartbeats 4000000 in
set_option maxRecDepth 100000 in
theorem kX3_isSpanAt (l : Launch) (D : va_G) (ad : Nat → Nat) (ca : Nat → ClassId) (B : Nat) (ov : Int64) (N : Nat) (x0 : Int32) (x1 : Int32) (x2 : Int32) (M : Mem) (r0 : Int32) (M0 : Mem) (hf : fX3_isSpanAt N x0 x1 x2 M = some (r0, M0)) : MtI l D ad ca B ov yX3_isSpanAt wsX3_isSpanAt (rmX3_isSpanAt) [.int x0, .int x1, .int x2] M r0 M0 := by
  unfold fX3_isSpanAt at hf
  refine Met.ofW (cc := cX3_isSpanAt) (maxL := 3) (ret := (some .boolean)) (by decide) rfl ?_
  intro p e s m args below meth c s₁ Bd hml hv
  obtain ⟨rfl, hw⟩ := hv
  have G : Mx p s m ([.int x0, .int x1, .int x2] : List Value).toArray meth c cX3_isSpanAt 3 wsX3_isSpanAt RX3 (some .boolean) := ⟨Bd.exec, Bd.bytes, hml, findClass_of_methodNamed Bd.named, atoms_spec (ws := wsX3_isSpanAt) Bd.pre, Bd.returns, Bd.notSynchronized⟩
  have hC := Cu.of hw
  have hl := lv_entry ([.int x0, .int x1, .int x2]) (n := 3) (Nat.le_of_ble_eq_true rfl)
  rw [lg_entry_eq]
  generalize (lg_sl ([.int x0, .int x1, .int x2]) ++ List.replicate (3 - (lg_sl ([.int x0, .int x1, .int x2])).length) Slot.unset).toArray = ls at hl ⊢
  have hl : lv_has ls 3 [(0, .int x0), (1, .int x1), (2, .int x2)] := hl
  obtain ⟨hx, hb, hml, hown, hts, hr, hlk⟩ := id G
  show W p l e (rmX3_isSpanAt) s m _ below meth c s.heap [] 0 0 (MQ below (va_Qi (fun (r : Int32) (_ : Unit) => r = r0) (fun _ t => Wp D ad ca B M0 ov t.heap) (Ab B)) _ s 0 0 (Ab B)) (F0 m 0 ls [])
  refine lv_iload_n hx hb dX3_isSpanAt_0 rfl (lv_at hl 2 rfl) ?_
  refine lv_iload_n hx hb dX3_isSpanAt_1 rfl (lv_at hl 0 rfl) ?_
  refine lv_icmp_lt (tgt := 16) hx hb dX3_isSpanAt_2 (by decide) (fun h1 => ?_) (fun h1 => ?_)
  · have hf := it_t h1 hf
    refine lv_iconst (v := 0) hx hb dX3_isSpanAt_16 (by decide) ?_
    exact mr_Z hx hb hr hlk hC (by decide) hf dX3_isSpanAt_17
  · have hf := it_f h1 hf
    refine lv_iload_n hx hb dX3_isSpanAt_5 rfl (lv_at hl 2 rfl) ?_
    refine lv_iload_n hx hb dX3_isSpanAt_6 rfl (lv_at hl 0 rfl) ?_
    refine lv_iload_n hx hb dX3_isSpanAt_7 rfl (lv_at hl 1 rfl) ?_
    refine lv_iadd hx hb dX3_isSpanAt_8 ?_
    refine lv_icmp_ge (tgt := 16) hx hb dX3_isSpanAt_9 (by decide) (fun h2 => ?_) (fun h2 => ?_)
    · have hf := it_t h2 hf
      refine lv_iconst (v := 0) hx hb dX3_isSpanAt_16 (by decide) ?_
      exact mr_Z hx hb hr hlk hC (by decide) hf dX3_isSpanAt_17
    · have hf := it_f h2 hf
      refine lv_iconst (v := 1) hx hb dX3_isSpanAt_12 (by decide) ?_
      refine lv_goto (tgt := 17) hx hb dX3_isSpanAt_13 (by decide) ?_
      exact mr_Z hx hb hr hlk hC (by decide) hf dX3_isSpanAt_17

abbrev rmX3_spansMeet : Room := { frames := 0, cells := 0, slots := 0, locals := 0 }
def fX3_spansMeet (N : Nat) (x0 : Int32) (x1 : Int32) (x2 : Int32) (x3 : Int32) (M : Mem) : Option (Int32 × Mem) :=
    if ((x2 + x3) ≤ x0 : Prop) then (some (0, M)) else (if ((x0 + x1) ≤ x2 : Prop) then (some (0, M)) else (some (1, M)))
set_option maxHeartbeats 4000000 in
set_option maxRecDepth 100000 in
theorem kX3_spansMeet (l : Launch) (D : va_G) (ad : Nat → Nat) (ca : Nat → ClassId) (B : Nat) (ov : Int64) (N : Nat) (x0 : Int32) (x1 : Int32) (x2 : Int32) (x3 : Int32) (M : Mem) (r0 : Int32) (M0 : Mem) (hf : fX3_spansMeet N x0 x1 x2 x3 M = some (r0, M0)) : MtI l D ad ca B ov yX3_spansMeet wsX3_spansMeet (rmX3_spansMeet) [.int x0, .int x1, .int x2, .int x3] M r0 M0 := by
  unfold fX3_spansMeet at hf
  refine Met.ofW (cc := cX3_spansMeet) (maxL := 4) (ret := (some .boolean)) (by decide) rfl ?_
  intro p e s m args below meth c s₁ Bd hml hv
  obtain ⟨rfl, hw⟩ := hv
  have G : Mx p s m ([.int x0, .int x1, .int x2, .int x3] : List Value).toArray meth c cX3_spansMeet 4 wsX3_spansMeet RX3 (some .boolean) := ⟨Bd.exec, Bd.bytes, hml, findClass_of_methodNamed Bd.named, atoms_spec (ws := wsX3_spansMeet) Bd.pre, Bd.returns, Bd.notSynchronized⟩
  have hC := Cu.of hw
  have hl := lv_entry ([.int x0, .int x1, .int x2, .int x3]) (n := 4) (Nat.le_of_ble_eq_true rfl)
  rw [lg_entry_eq]
  generalize (lg_sl ([.int x0, .int x1, .int x2, .int x3]) ++ List.replicate (4 - (lg_sl ([.int x0, .int x1, .int x2, .int x3])).length) Slot.unset).toArray = ls at hl ⊢
  have hl : lv_has ls 4 [(0, .int x0), (1, .int x1), (2, .int x2), (3, .int x3)] := hl
  obtain ⟨hx, hb, hml, hown, hts, hr, hlk⟩ := id G
  show W p l e (rmX3_spansMeet) s m _ below meth c s.heap [] 0 0 (MQ below (va_Qi (fun (r : Int32) (_ : Unit) => r = r0) (fun _ t => Wp D ad ca B M0 ov t.heap) (Ab B)) _ s 0 0 (Ab B)) (F0 m 0 ls [])
  refine lv_iload_n hx hb dX3_spansMeet_0 rfl (lv_at hl 0 rfl) ?_
  refine lv_iload_n hx hb dX3_spansMeet_1 rfl (lv_at hl 2 rfl) ?_
  refine lv_iload_n hx hb dX3_spansMeet_2 rfl (lv_at hl 3 rfl) ?_
  refine lv_iadd hx hb dX3_spansMeet_3 ?_
  refine lv_icmp_ge (tgt := 18) hx hb dX3_spansMeet_4 (by decide) (fun h1 => ?_) (fun h1 => ?_)
  · have hf := it_t h1 hf
    refine lv_iconst (v := 0) hx hb dX3_spansMeet_18 (by decide) ?_
    exact mr_Z hx hb hr hlk hC (by decide) hf dX3_spansMeet_19
  · have hf := it_f h1 hf
    refine lv_iload_n hx hb dX3_spansMeet_7 rfl (lv_at hl 2 rfl) ?_
    refine lv_iload_n hx hb dX3_spansMeet_8 rfl (lv_at hl 0 rfl) ?_
    refine lv_iload_n hx hb dX3_spansMeet_9 rfl (lv_at hl 1 rfl) ?_
    refine lv_iadd hx hb dX3_spansMeet_10 ?_
    refine lv_icmp_ge (tgt := 18) hx hb dX3_spansMeet_11 (by decide) (fun h2 => ?_) (fun h2 => ?_)
    · have hf := it_t h2 hf
      refine lv_iconst (v := 0) hx hb dX3_spansMeet_18 (by decide) ?_
      exact mr_Z hx hb hr hlk hC (by decide) hf dX3_spansMeet_19
    · have hf := it_f h2 hf
      refine lv_iconst (v := 1) hx hb dX3_spansMeet_14 (by decide) ?_
      refine lv_goto (tgt := 19) hx hb dX3_spansMeet_15 (by decide) ?_
      exact mr_Z hx hb hr hlk hC (by decide) hf dX3_spansMeet_19

abbrev rmX3_beginsBetween : Room := { frames := 0, cells := 0, slots := 0, locals := 0 }
def fX3_beginsBetween_22 (N : Nat) (x2 : Int32) (y0 : Int32) (M : Mem) : Option (Int32 × Mem) :=
    if (x2 ≤ y0 : Prop) then (some ((((1 : Int32) <<< (((y0 - x2) + (1 : Int32)) &&& 31)) - (1 : Int32)) <<< (x2 &&& 31), M)) else (some (0, M))
def fX3_beginsBetween_9 (N : Nat) (x1 : Int32) (y0 : Int32) (M : Mem) : Option (Int32 × Mem) :=
    if (15 ≤ x1 : Prop) then (fX3_beginsBetween_22 N y0 15 M) else (fX3_beginsBetween_22 N y0 x1 M)
def fX3_beginsBetween (N : Nat) (x0 : Int32) (x1 : Int32) (M : Mem) : Option (Int32 × Mem) :=
    if (x0 ≤ 0 : Prop) then (fX3_beginsBetween_9 N x1 0 M) else (fX3_beginsBetween_9 N x1 x0 M)
set_option maxHeartbeats 4000000 in
set_option maxRecDepth 100000 in
theorem wX3_beginsBetween_22 {p : Program} {l : Launch} {e : Env} {s : State} {m : MethodId} {args : Array Value} {below : List Frame} {meth : Method} {c : Code} {D : va_G} {ad : Nat → Nat} {ca : Nat → ClassId} {B : Nat} {ov : Int64} {r0 : Int32} {M0 : Mem} (G : Mx p s m args meth c cX3_beginsBetween 4 wsX3_beginsBetween RX3 (some .int)) (N : Nat) : ∀ (x2 : Int32) (y0 : Int32) (M : Mem) (H : Heap) (locs : List Loc) (ls : Array Slot), lv_has ls 4 [(2, .int x2)] → Cu D ad ca B M ov s H locs → (fX3_beginsBetween_22 N) x2 y0 M = some (r0, M0) → W p l e (rmX3_beginsBetween) s m args below meth c H locs 0 0 (MQ below (va_Qi (fun (r : Int32) (_ : Unit) => r = r0) (fun _ t => Wp D ad ca B M0 ov t.heap) (Ab B)) args s 0 0 (Ab B)) (F0 m 22 ls [.int y0]) := by
  obtain ⟨hx, hb, hml, hown, hts, hr, hlk⟩ := id G
  intro x2 y0 M H locs ls hl hC hf
  unfold fX3_beginsBetween_22 at hf
  refine lv_istore_n (lv' := [(3, .int y0), (2, .int x2)]) hx hb dX3_beginsBetween_22 rfl hl (by decide) rfl (fun ls hl => ?_)
  refine lv_iload_n hx hb dX3_beginsBetween_23 rfl (lv_at hl 1 rfl) ?_
  refine lv_iload_n hx hb dX3_beginsBetween_24 rfl (lv_at hl 0 rfl) ?_
  refine lv_icmp_le (tgt := 32) hx hb dX3_beginsBetween_25 (by decide) (fun h1 => ?_) (fun h1 => ?_)
  · have hf := it_t h1 hf
    refine lv_iconst (v := 1) hx hb dX3_beginsBetween_32 (by decide) ?_
    refine lv_iload_n hx hb dX3_beginsBetween_33 rfl (lv_at hl 0 rfl) ?_
    refine lv_iload_n hx hb dX3_beginsBetween_34 rfl (lv_at hl 1 rfl) ?_
    refine lv_isub hx hb dX3_beginsBetween_35 ?_
    refine lv_iconst (v := 1) hx hb dX3_beginsBetween_36 (by decide) ?_
    refine lv_iadd hx hb dX3_beginsBetween_37 ?_
    refine lv_ishl hx hb dX3_beginsBetween_38 ?_
    refine lv_iconst (v := 1) hx hb dX3_beginsBetween_39 (by decide) ?_
    refine lv_isub hx hb dX3_beginsBetween_40 ?_
    refine lv_iload_n hx hb dX3_beginsBetween_41 rfl (lv_at hl 1 rfl) ?_
    refine lv_ishl hx hb dX3_beginsBetween_42 ?_
    exact mr_I hx hb hr hlk hC hf dX3_beginsBetween_43
  · have hf := it_f h1 hf
    refine lv_iconst (v := 0) hx hb dX3_beginsBetween_28 (by decide) ?_
    refine lv_goto (tgt := 43) hx hb dX3_beginsBetween_29 (by decide) ?_
    exact mr_I hx hb hr hlk hC hf dX3_beginsBetween_43
set_option maxHeartbeats 4000000 in
set_option maxRecDepth 100000 in
theorem wX3_beginsBetween_9 {p : Program} {l : Launch} {e : Env} {s : State} {m : MethodId} {args : Array Value} {below : List Frame} {meth : Method} {c : Code} {D : va_G} {ad : Nat → Nat} {ca : Nat → ClassId} {B : Nat} {ov : Int64} {r0 : Int32} {M0 : Mem} (G : Mx p s m args meth c cX3_beginsBetween 4 wsX3_beginsBetween RX3 (some .int)) (N : Nat) : ∀ (x1 : Int32) (y0 : Int32) (M : Mem) (H : Heap) (locs : List Loc) (ls : Array Slot), lv_has ls 4 [(1, .int x1)] → Cu D ad ca B M ov s H locs → (fX3_beginsBetween_9 N) x1 y0 M = some (r0, M0) → W p l e (rmX3_beginsBetween) s m args below meth c H locs 0 0 (MQ below (va_Qi (fun (r : Int32) (_ : Unit) => r = r0) (fun _ t => Wp D ad ca B M0 ov t.heap) (Ab B)) args s 0 0 (Ab B)) (F0 m 9 ls [.int y0]) := by
  obtain ⟨hx, hb, hml, hown, hts, hr, hlk⟩ := id G
  intro x1 y0 M H locs ls hl hC hf
  unfold fX3_beginsBetween_9 at hf
  refine lv_istore_n (lv' := [(2, .int y0), (1, .int x1)]) hx hb dX3_beginsBetween_9 rfl hl (by decide) rfl (fun ls hl => ?_)
  refine lv_iload_n hx hb dX3_beginsBetween_10 rfl (lv_at hl 1 rfl) ?_
  refine lv_bipush (v := 15) hx hb dX3_beginsBetween_11 (by decide) ?_
  refine lv_icmp_ge (tgt := 20) hx hb dX3_beginsBetween_13 (by decide) (fun h1 => ?_) (fun h1 => ?_)
  · have hf := it_t h1 hf
    refine lv_bipush (v := 15) hx hb dX3_beginsBetween_20 (by decide) ?_
    exact wX3_beginsBetween_22 G N y0 15 M _ _ _ (lv_sub hl [0] rfl) hC hf
  · have hf := it_f h1 hf
    refine lv_iload_n hx hb dX3_beginsBetween_16 rfl (lv_at hl 1 rfl) ?_
    refine lv_goto (tgt := 22) hx hb dX3_beginsBetween_17 (by decide) ?_
    exact wX3_beginsBetween_22 G N y0 x1 M _ _ _ (lv_sub hl [0] rfl) hC hf
set_option maxHeartbeats 4000000 in
set_option maxRecDepth 100000 in
theorem kX3_beginsBetween (l : Launch) (D : va_G) (ad : Nat → Nat) (ca : Nat → ClassId) (B : Nat) (ov : Int64) (N : Nat) (x0 : Int32) (x1 : Int32) (M : Mem) (r0 : Int32) (M0 : Mem) (hf : fX3_beginsBetween N x0 x1 M = some (r0, M0)) : MtI l D ad ca B ov yX3_beginsBetween wsX3_beginsBetween (rmX3_beginsBetween) [.int x0, .int x1] M r0 M0 := by
  unfold fX3_beginsBetween at hf
  refine Met.ofW (cc := cX3_beginsBetween) (maxL := 4) (ret := (some .int)) (by decide) rfl ?_
  intro p e s m args below meth c s₁ Bd hml hv
  obtain ⟨rfl, hw⟩ := hv
  have G : Mx p s m ([.int x0, .int x1] : List Value).toArray meth c cX3_beginsBetween 4 wsX3_beginsBetween RX3 (some .int) := ⟨Bd.exec, Bd.bytes, hml, findClass_of_methodNamed Bd.named, atoms_spec (ws := wsX3_beginsBetween) Bd.pre, Bd.returns, Bd.notSynchronized⟩
  have hC := Cu.of hw
  have hl := lv_entry ([.int x0, .int x1]) (n := 4) (Nat.le_of_ble_eq_true rfl)
  rw [lg_entry_eq]
  generalize (lg_sl ([.int x0, .int x1]) ++ List.replicate (4 - (lg_sl ([.int x0, .int x1])).length) Slot.unset).toArray = ls at hl ⊢
  have hl : lv_has ls 4 [(0, .int x0), (1, .int x1)] := hl
  obtain ⟨hx, hb, hml, hown, hts, hr, hlk⟩ := id G
  show W p l e (rmX3_beginsBetween) s m _ below meth c s.heap [] 0 0 (MQ below (va_Qi (fun (r : Int32) (_ : Unit) => r = r0) (fun _ t => Wp D ad ca B M0 ov t.heap) (Ab B)) _ s 0 0 (Ab B)) (F0 m 0 ls [])
  refine lv_iload_n hx hb dX3_beginsBetween_0 rfl (lv_at hl 0 rfl) ?_
  refine lv_if_le (tgt := 8) hx hb dX3_beginsBetween_1 (by decide) (fun h1 => ?_) (fun h1 => ?_)
  · have hf := it_t h1 hf
    refine lv_iconst (v := 0) hx hb dX3_beginsBetween_8 (by decide) ?_
    exact wX3_beginsBetween_9 G N x1 0 M _ _ _ (lv_sub hl [1] rfl) hC hf
  · have hf := it_f h1 hf
    refine lv_iload_n hx hb dX3_beginsBetween_4 rfl (lv_at hl 0 rfl) ?_
    refine lv_goto (tgt := 9) hx hb dX3_beginsBetween_5 (by decide) ?_
    exact wX3_beginsBetween_9 G N x1 x0 M _ _ _ (lv_sub hl [1] rfl) hC hf

theorem lkJ6_bitCount_0f7a4_c265 : Cond.constant RJ6 265 (1431655765) ∈ wsJ6_bitCount_0f7a4 := by decide +kernel
theorem lkJ6_bitCount_0f7a4_c266 : Cond.constant RJ6 266 (858993459) ∈ wsJ6_bitCount_0f7a4 := by decide +kernel
theorem lkJ6_bitCount_0f7a4_c267 : Cond.constant RJ6 267 (252645135) ∈ wsJ6_bitCount_0f7a4 := by decide +kernel
abbrev rmJ6_bitCount_0f7a4 : Room := { frames := 0, cells := 0, slots := 0, locals := 0 }
def fJ6_bitCount_0f7a4 (N : Nat) (x0 : Int32) (M : Mem) : Option (Int32 × Mem) :=
    lq (x0 - (((x0.toUInt32 >>> ((1 : Int32).toUInt32 &&& Int32.toUInt32 31)).toInt32) &&& (1431655765 : Int32))) (fun z1 => lq ((z1 &&& (858993459 : Int32)) + (((z1.toUInt32 >>> ((2 : Int32).toUInt32 &&& Int32.toUInt32 31)).toInt32) &&& (858993459 : Int32))) (fun z2 => lq ((z2 + ((z2.toUInt32 >>> ((4 : Int32).toUInt32 &&& Int32.toUInt32 31)).toInt32)) &&& (252645135 : Int32)) (fun z3 => lq (z3 + ((z3.toUInt32 >>> ((8 : Int32).toUInt32 &&& Int32.toUInt32 31)).toInt32)) (fun z4 => lq (z4 + ((z4.toUInt32 >>> ((16 : Int32).toUInt32 &&& Int32.toUInt32 31)).toInt32)) (fun z5 => some (z5 &&& (63 : Int32), M))))))
set_option maxHeartbeats 4000000 in
set_option maxRecDepth 100000 in
theorem kJ6_bitCount_0f7a4 (l : Launch) (D : va_G) (ad : Nat → Nat) (ca : Nat → ClassId) (B : Nat) (ov : Int64) (N : Nat) (x0 : Int32) (M : Mem) (r0 : Int32) (M0 : Mem) (hf : fJ6_bitCount_0f7a4 N x0 M = some (r0, M0)) : MtI l D ad ca B ov yJ6_bitCount_0f7a4 wsJ6_bitCount_0f7a4 (rmJ6_bitCount_0f7a4) [.int x0] M r0 M0 := by
  unfold fJ6_bitCount_0f7a4 at hf
  refine Met.ofW (cc := cJ6_bitCount_0f7a4) (maxL := 1) (ret := (some .int)) (by decide) rfl ?_
  intro p e s m args below meth c s₁ Bd hml hv
  obtain ⟨rfl, hw⟩ := hv
  have G : Mx p s m ([.int x0] : List Value).toArray meth c cJ6_bitCount_0f7a4 1 wsJ6_bitCount_0f7a4 RJ6 (some .int) := ⟨Bd.exec, Bd.bytes, hml, findClass_of_methodNamed Bd.named, atoms_spec (ws := wsJ6_bitCount_0f7a4) Bd.pre, Bd.returns, Bd.notSynchronized⟩
  have hC := Cu.of hw
  have hl := lv_entry ([.int x0]) (n := 1) (Nat.le_of_ble_eq_true rfl)
  rw [lg_entry_eq]
  generalize (lg_sl ([.int x0]) ++ List.replicate (1 - (lg_sl ([.int x0])).length) Slot.unset).toArray = ls at hl ⊢
  have hl : lv_has ls 1 [(0, .int x0)] := hl
  obtain ⟨hx, hb, hml, hown, hts, hr, hlk⟩ := id G
  show W p l e (rmJ6_bitCount_0f7a4) s m _ below meth c s.heap [] 0 0 (MQ below (va_Qi (fun (r : Int32) (_ : Unit) => r = r0) (fun _ t => Wp D ad ca B M0 ov t.heap) (Ab B)) _ s 0 0 (Ab B)) (F0 m 0 ls [])
  refine lv_iload_n hx hb dJ6_bitCount_0f7a4_0 rfl (lv_at hl 0 rfl) ?_
  refine lv_iload_n hx hb dJ6_bitCount_0f7a4_1 rfl (lv_at hl 0 rfl) ?_
  refine lv_iconst (v := 1) hx hb dJ6_bitCount_0f7a4_2 (by decide) ?_
  refine lv_iushr (v := (x0.toUInt32 >>> ((1 : Int32).toUInt32 &&& Int32.toUInt32 31)).toInt32) hx hb dJ6_bitCount_0f7a4_3 rfl ?_
  refine lv_ldcw (v := 1431655765) hx hb hown (hts _ lkJ6_bitCount_0f7a4_c265) dJ6_bitCount_0f7a4_4 ?_
  refine lv_iand hx hb dJ6_bitCount_0f7a4_7 ?_
  refine lv_isub hx hb dJ6_bitCount_0f7a4_8 ?_
  refine lv_topi (fun z1 ez1 => ?_)
  have hf := lq_k ez1 hf
  refine lv_istore_n (lv' := [(0, .int z1)]) hx hb dJ6_bitCount_0f7a4_9 rfl hl (by decide) rfl (fun ls hl => ?_)
  refine lv_iload_n hx hb dJ6_bitCount_0f7a4_10 rfl (lv_at hl 0 rfl) ?_
  refine lv_ldcw (v := 858993459) hx hb hown (hts _ lkJ6_bitCount_0f7a4_c266) dJ6_bitCount_0f7a4_11 ?_
  refine lv_iand hx hb dJ6_bitCount_0f7a4_14 ?_
  refine lv_iload_n hx hb dJ6_bitCount_0f7a4_15 rfl (lv_at hl 0 rfl) ?_
  refine lv_iconst (v := 2) hx hb dJ6_bitCount_0f7a4_16 (by decide) ?_
  refine lv_iushr (v := (z1.toUInt32 >>> ((2 : Int32).toUInt32 &&& Int32.toUInt32 31)).toInt32) hx hb dJ6_bitCount_0f7a4_17 rfl ?_
  refine lv_ldcw (v := 858993459) hx hb hown (hts _ lkJ6_bitCount_0f7a4_c266) dJ6_bitCount_0f7a4_18 ?_
  refine lv_iand hx hb dJ6_bitCount_0f7a4_21 ?_
  refine lv_iadd hx hb dJ6_bitCount_0f7a4_22 ?_
  refine lv_topi (fun z2 ez2 => ?_)
  have hf := lq_k ez2 hf
  refine lv_istore_n (lv' := [(0, .int z2)]) hx hb dJ6_bitCount_0f7a4_23 rfl hl (by decide) rfl (fun ls hl => ?_)
  refine lv_iload_n hx hb dJ6_bitCount_0f7a4_24 rfl (lv_at hl 0 rfl) ?_
  refine lv_iload_n hx hb dJ6_bitCount_0f7a4_25 rfl (lv_at hl 0 rfl) ?_
  refine lv_iconst (v := 4) hx hb dJ6_bitCount_0f7a4_26 (by decide) ?_
  refine lv_iushr (v := (z2.toUInt32 >>> ((4 : Int32).toUInt32 &&& Int32.toUInt32 31)).toInt32) hx hb dJ6_bitCount_0f7a4_27 rfl ?_
  refine lv_iadd hx hb dJ6_bitCount_0f7a4_28 ?_
  refine lv_ldcw (v := 252645135) hx hb hown (hts _ lkJ6_bitCount_0f7a4_c267) dJ6_bitCount_0f7a4_29 ?_
  refine lv_iand hx hb dJ6_bitCount_0f7a4_32 ?_
  refine lv_topi (fun z3 ez3 => ?_)
  have hf := lq_k ez3 hf
  refine lv_istore_n (lv' := [(0, .int z3)]) hx hb dJ6_bitCount_0f7a4_33 rfl hl (by decide) rfl (fun ls hl => ?_)
  refine lv_iload_n hx hb dJ6_bitCount_0f7a4_34 rfl (lv_at hl 0 rfl) ?_
  refine lv_iload_n hx hb dJ6_bitCount_0f7a4_35 rfl (lv_at hl 0 rfl) ?_
  refine lv_bipush (v := 8) hx hb dJ6_bitCount_0f7a4_36 (by decide) ?_
  refine lv_iushr (v := (z3.toUInt32 >>> ((8 : Int32).toUInt32 &&& Int32.toUInt32 31)).toInt32) hx hb dJ6_bitCount_0f7a4_38 rfl ?_
  refine lv_iadd hx hb dJ6_bitCount_0f7a4_39 ?_
  refine lv_topi (fun z4 ez4 => ?_)
  have hf := lq_k ez4 hf
  refine lv_istore_n (lv' := [(0, .int z4)]) hx hb dJ6_bitCount_0f7a4_40 rfl hl (by decide) rfl (fun ls hl => ?_)
  refine lv_iload_n hx hb dJ6_bitCount_0f7a4_41 rfl (lv_at hl 0 rfl) ?_
  refine lv_iload_n hx hb dJ6_bitCount_0f7a4_42 rfl (lv_at hl 0 rfl) ?_
  refine lv_bipush (v := 16) hx hb dJ6_bitCount_0f7a4_43 (by decide) ?_
  refine lv_iushr (v := (z4.toUInt32 >>> ((16 : Int32).toUInt32 &&& Int32.toUInt32 31)).toInt32) hx hb dJ6_bitCount_0f7a4_45 rfl ?_
  refine lv_iadd hx hb dJ6_bitCount_0f7a4_46 ?_
  refine lv_topi (fun z5 ez5 => ?_)
  have hf := lq_k ez5 hf
  refine lv_istore_n (lv' := [(0, .int z5)]) hx hb dJ6_bitCount_0f7a4_47 rfl hl (by decide) rfl (fun ls hl => ?_)
  refine lv_iload_n hx hb dJ6_bitCount_0f7a4_48 rfl (lv_at hl 0 rfl) ?_
  refine lv_bipush (v := 63) hx hb dJ6_bitCount_0f7a4_49 (by decide) ?_
  refine lv_iand hx hb dJ6_bitCount_0f7a4_51 ?_
  exact mr_I hx hb hr hlk hC hf dJ6_bitCount_0f7a4_52

abbrev rmX1_index : Room := { frames := 0, cells := 0, slots := 0, locals := 0 }
def fX1_index (N : Nat) (x0 : Int32) (x1 : Int32) (x2 : Int32) (M : Mem) : Option (Int32 × Mem) :=
    some ((((x0 * (4 : Int32)) + x1) * (6 : Int32)) + x2, M)
set_option maxHeartbeats 4000000 in
set_option maxRecDepth 100000 in
theorem kX1_index (l : Launch) (D : va_G) (ad : Nat → Nat) (ca : Nat → ClassId) (B : Nat) (ov : Int64) (N : Nat) (x0 : Int32) (x1 : Int32) (x2 : Int32) (M : Mem) (r0 : Int32) (M0 : Mem) (hf : fX1_index N x0 x1 x2 M = some (r0, M0)) : MtI l D ad ca B ov yX1_index wsX1_index (rmX1_index) [.int x0, .int x1, .int x2] M r0 M0 := by
  unfold fX1_index at hf
  refine Met.ofW (cc := cX1_index) (maxL := 3) (ret := (some .int)) (by decide) rfl ?_
  intro p e s m args below meth c s₁ Bd hml hv
  obtain ⟨rfl, hw⟩ := hv
  have G : Mx p s m ([.int x0, .int x1, .int x2] : List Value).toArray meth c cX1_index 3 wsX1_index RX1 (some .int) := ⟨Bd.exec, Bd.bytes, hml, findClass_of_methodNamed Bd.named, atoms_spec (ws := wsX1_index) Bd.pre, Bd.returns, Bd.notSynchronized⟩
  have hC := Cu.of hw
  have hl := lv_entry ([.int x0, .int x1, .int x2]) (n := 3) (Nat.le_of_ble_eq_true rfl)
  rw [lg_entry_eq]
  generalize (lg_sl ([.int x0, .int x1, .int x2]) ++ List.replicate (3 - (lg_sl ([.int x0, .int x1, .int x2])).length) Slot.unset).toArray = ls at hl ⊢
  have hl : lv_has ls 3 [(0, .int x0), (1, .int x1), (2, .int x2)] := hl
  obtain ⟨hx, hb, hml, hown, hts, hr, hlk⟩ := id G
  show W p l e (rmX1_index) s m _ below meth c s.heap [] 0 0 (MQ below (va_Qi (fun (r : Int32) (_ : Unit) => r = r0) (fun _ t => Wp D ad ca B M0 ov t.heap) (Ab B)) _ s 0 0 (Ab B)) (F0 m 0 ls [])
  refine lv_iload_n hx hb dX1_index_0 rfl (lv_at hl 0 rfl) ?_
  refine lv_iconst (v := 4) hx hb dX1_index_1 (by decide) ?_
  refine lv_imul hx hb dX1_index_2 ?_
  refine lv_iload_n hx hb dX1_index_3 rfl (lv_at hl 1 rfl) ?_
  refine lv_iadd hx hb dX1_index_4 ?_
  refine lv_bipush (v := 6) hx hb dX1_index_5 (by decide) ?_
  refine lv_imul hx hb dX1_index_7 ?_
  refine lv_iload_n hx hb dX1_index_8 rfl (lv_at hl 2 rfl) ?_
  refine lv_iadd hx hb dX1_index_9 ?_
  exact mr_I hx hb hr hlk hC hf dX1_index_10

abbrev rmX1_firstOf : Room := { frames := 1, cells := 0, slots := 0, locals := 20 }
def fX1_firstOf (N : Nat) (x0 : Int32) (M : Mem) : Option (Int32 × Mem) :=
    bd (fJ6_bitCount_0f7a4 N ((x0 &&& (-x0)) - (1 : Int32)) M) (fun r1 M2 => some (r1, M2))
set_option maxHeartbeats 4000000 in
set_option maxRecDepth 100000 in
theorem kX1_firstOf (l : Launch) (D : va_G) (ad : Nat → Nat) (ca : Nat → ClassId) (B : Nat) (ov : Int64) (N : Nat) (x0 : Int32) (M : Mem) (r0 : Int32) (M0 : Mem) (hf : fX1_firstOf N x0 M = some (r0, M0)) : MtI l D ad ca B ov yX1_firstOf wsX1_firstOf (rmX1_firstOf) [.int x0] M r0 M0 := by
  unfold fX1_firstOf at hf
  refine Met.ofW (cc := cX1_firstOf) (maxL := 1) (ret := (some .int)) (by decide) rfl ?_
  intro p e s m args below meth c s₁ Bd hml hv
  obtain ⟨rfl, hw⟩ := hv
  have G : Mx p s m ([.int x0] : List Value).toArray meth c cX1_firstOf 1 wsX1_firstOf RX1 (some .int) := ⟨Bd.exec, Bd.bytes, hml, findClass_of_methodNamed Bd.named, atoms_spec (ws := wsX1_firstOf) Bd.pre, Bd.returns, Bd.notSynchronized⟩
  have hC := Cu.of hw
  have hl := lv_entry ([.int x0]) (n := 1) (Nat.le_of_ble_eq_true rfl)
  rw [lg_entry_eq]
  generalize (lg_sl ([.int x0]) ++ List.replicate (1 - (lg_sl ([.int x0])).length) Slot.unset).toArray = ls at hl ⊢
  have hl : lv_has ls 1 [(0, .int x0)] := hl
  obtain ⟨hx, hb, hml, hown, hts, hr, hlk⟩ := id G
  show W p l e (rmX1_firstOf) s m _ below meth c s.heap [] 0 0 (MQ below (va_Qi (fun (r : Int32) (_ : Unit) => r = r0) (fun _ t => Wp D ad ca B M0 ov t.heap) (Ab B)) _ s 0 0 (Ab B)) (F0 m 0 ls [])
  refine lv_iload_n hx hb dX1_firstOf_0 rfl (lv_at hl 0 rfl) ?_
  refine lv_iload_n hx hb dX1_firstOf_1 rfl (lv_at hl 0 rfl) ?_
  refine lv_ineg hx hb dX1_firstOf_2 ?_
  refine lv_iand hx hb dX1_firstOf_3 ?_
  refine lv_iconst (v := 1) hx hb dX1_firstOf_4 (by decide) ?_
  refine lv_isub hx hb dX1_firstOf_5 ?_
  obtain ⟨r1, M2, hq, hf⟩ := bd_s hf
  refine mc_Si (As := [.int ((x0 &&& (-x0)) - (1 : Int32))]) ⟨hx, hb, hml, hown, hts⟩ hC (kJ6_bitCount_0f7a4 l D ad ca B ov N ((x0 &&& (-x0)) - (1 : Int32)) M r1 M2 hq) (va_cwS 1 hts gX1_firstOf_J6_bitCount_0f7a4 rfl rfl rfl (by decide +kernel) ⟨Nat.le_of_ble_eq_true rfl, Nat.le_of_ble_eq_true rfl⟩) rfl hl.1 rfl (Nat.le_of_ble_eq_true rfl) dX1_firstOf_6 ⟨Nat.zero_le _, Nat.zero_le _⟩ (fun H locs hC => ?_)
  exact mr_I hx hb hr hlk hC hf dX1_firstOf_9

theorem lkX0_isPlace_f9 : Cond.fieldLink RX0 9 "BerthPlan$Quay" "places" "I" ∈ wsX0_isPlace := by decide +kernel
theorem inX0_isPlace_X0 : ∀ w ∈ wsX00, w ∈ wsX0_isPlace := by decide +kernel
abbrev rmX0_isPlace : Room := { frames := 0, cells := 0, slots := 0, locals := 0 }
def fX0_isPlace (N : Nat) (x1 : Int32) (M : Mem) : Option (Int32 × Mem) :=
    if (x1 < 0 : Prop) then (some (0, M)) else (if ((M 1 0) ≤ x1 : Prop) then (some (0, M)) else (some (1, M)))
set_option maxHeartbeats 4000000 in
set_option maxRecDepth 100000 in
theorem kX0_isPlace (l : Launch) (D : va_G) (ad : Nat → Nat) (ca : Nat → ClassId) (B : Nat) (ov : Int64) (N : Nat) (x1 : Int32) (M : Mem) (r0 : Int32) (M0 : Mem) (hf : fX0_isPlace N x1 M = some (r0, M0)) : MtI l D ad ca B ov yX0_isPlace wsX0_isPlace (rmX0_isPlace) [.ref (ad 1), .int x1] M r0 M0 := by
  unfold fX0_isPlace at hf
  refine Met.ofW (cc := cX0_isPlace) (maxL := 2) (ret := (some .boolean)) (by decide) rfl ?_
  intro p e s m args below meth c s₁ Bd hml hv
  obtain ⟨rfl, hw⟩ := hv
  have G : Mx p s m ([.ref (ad 1), .int x1] : List Value).toArray meth c cX0_isPlace 2 wsX0_isPlace RX0 (some .boolean) := ⟨Bd.exec, Bd.bytes, hml, findClass_of_methodNamed Bd.named, atoms_spec (ws := wsX0_isPlace) Bd.pre, Bd.returns, Bd.notSynchronized⟩
  have hC := Cu.of hw
  have hl := lv_entry ([.ref (ad 1), .int x1]) (n := 2) (Nat.le_of_ble_eq_true rfl)
  rw [lg_entry_eq]
  generalize (lg_sl ([.ref (ad 1), .int x1]) ++ List.replicate (2 - (lg_sl ([.ref (ad 1), .int x1])).length) Slot.unset).toArray = ls at hl ⊢
  have hl : lv_has ls 2 [(0, .ref (ad 1)), (1, .int x1)] := hl
  obtain ⟨hx, hb, hml, hown, hts, hr, hlk⟩ := id G
  show W p l e (rmX0_isPlace) s m _ below meth c s.heap [] 0 0 (MQ below (va_Qi (fun (r : Int32) (_ : Unit) => r = r0) (fun _ t => Wp D ad ca B M0 ov t.heap) (Ab B)) _ s 0 0 (Ab B)) (F0 m 0 ls [])
  refine lv_iload_n hx hb dX0_isPlace_0 rfl (lv_at hl 1 rfl) ?_
  refine lv_if_lt (tgt := 16) hx hb dX0_isPlace_1 (by decide) (fun h1 => ?_) (fun h1 => ?_)
  · have hf := it_t h1 hf
    refine lv_iconst (v := 0) hx hb dX0_isPlace_16 (by decide) ?_
    exact mr_Z hx hb hr hlk hC (by decide) hf dX0_isPlace_17
  · have hf := it_f h1 hf
    refine lv_iload_n hx hb dX0_isPlace_4 rfl (lv_at hl 1 rfl) ?_
    refine lv_aload_n hx hb dX0_isPlace_5 rfl (lv_at hl 0 rfl) ?_
    refine mg_get (ci := 0) (C := RX0) (T := TX0) (N := 5) (v := .int (M 1 0)) hx hb hts inX0_isPlace_X0 hown hC 1 (by decide) rfl rfl 0 (by decide) (hts _ lkX0_isPlace_f9) rfl rfl dX0_isPlace_6 ?_
    refine lv_icmp_ge (tgt := 16) hx hb dX0_isPlace_9 (by decide) (fun h2 => ?_) (fun h2 => ?_)
    · have hf := it_t h2 hf
      refine lv_iconst (v := 0) hx hb dX0_isPlace_16 (by decide) ?_
      exact mr_Z hx hb hr hlk hC (by decide) hf dX0_isPlace_17
    · have hf := it_f h2 hf
      refine lv_iconst (v := 1) hx hb dX0_isPlace_12 (by decide) ?_
      refine lv_goto (tgt := 17) hx hb dX0_isPlace_13 (by decide) ?_
      exact mr_Z hx hb hr hlk hC (by decide) hf dX0_isPlace_17

theorem lkX0_isRow_f9 : Cond.fieldLink RX0 9 "BerthPlan$Quay" "places" "I" ∈ wsX0_isRow := by decide +kernel
theorem inX0_isRow_X0 : ∀ w ∈ wsX00, w ∈ wsX0_isRow := by decide +kernel
abbrev rmX0_isRow : Room := { frames := 0, cells := 0, slots := 0, locals := 0 }
def fX0_isRow (N : Nat) (x1 : Int32) (x2 : Int32) (M : Mem) : Option (Int32 × Mem) :=
    if (x1 < 0 : Prop) then (some (0, M)) else (if (((M 1 0) - x2) < x1 : Prop) then (some (0, M)) else (some (1, M)))
set_option maxHeartbeats 4000000 in
set_option maxRecDepth 100000 in
theorem kX0_isRow (l : Launch) (D : va_G) (ad : Nat → Nat) (ca : Nat → ClassId) (B : Nat) (ov : Int64) (N : Nat) (x1 : Int32) (x2 : Int32) (M : Mem) (r0 : Int32) (M0 : Mem) (hf : fX0_isRow N x1 x2 M = some (r0, M0)) : MtI l D ad ca B ov yX0_isRow wsX0_isRow (rmX0_isRow) [.ref (ad 1), .int x1, .int x2] M r0 M0 := by
  unfold fX0_isRow at hf
  refine Met.ofW (cc := cX0_isRow) (maxL := 3) (ret := (some .boolean)) (by decide) rfl ?_
  intro p e s m args below meth c s₁ Bd hml hv
  obtain ⟨rfl, hw⟩ := hv
  have G : Mx p s m ([.ref (ad 1), .int x1, .int x2] : List Value).toArray meth c cX0_isRow 3 wsX0_isRow RX0 (some .boolean) := ⟨Bd.exec, Bd.bytes, hml, findClass_of_methodNamed Bd.named, atoms_spec (ws := wsX0_isRow) Bd.pre, Bd.returns, Bd.notSynchronized⟩
  have hC := Cu.of hw
  have hl := lv_entry ([.ref (ad 1), .int x1, .int x2]) (n := 3) (Nat.le_of_ble_eq_true rfl)
  rw [lg_entry_eq]
  generalize (lg_sl ([.ref (ad 1), .int x1, .int x2]) ++ List.replicate (3 - (lg_sl ([.ref (ad 1), .int x1, .int x2])).length) Slot.unset).toArray = ls at hl ⊢
  have hl : lv_has ls 3 [(0, .ref (ad 1)), (1, .int x1), (2, .int x2)] := hl
  obtain ⟨hx, hb, hml, hown, hts, hr, hlk⟩ := id G
  show W p l e (rmX0_isRow) s m _ below meth c s.heap [] 0 0 (MQ below (va_Qi (fun (r : Int32) (_ : Unit) => r = r0) (fun _ t => Wp D ad ca B M0 ov t.heap) (Ab B)) _ s 0 0 (Ab B)) (F0 m 0 ls [])
  refine lv_iload_n hx hb dX0_isRow_0 rfl (lv_at hl 1 rfl) ?_
  refine lv_if_lt (tgt := 18) hx hb dX0_isRow_1 (by decide) (fun h1 => ?_) (fun h1 => ?_)
  · have hf := it_t h1 hf
    refine lv_iconst (v := 0) hx hb dX0_isRow_18 (by decide) ?_
    exact mr_Z hx hb hr hlk hC (by decide) hf dX0_isRow_19
  · have hf := it_f h1 hf
    refine lv_iload_n hx hb dX0_isRow_4 rfl (lv_at hl 1 rfl) ?_
    refine lv_aload_n hx hb dX0_isRow_5 rfl (lv_at hl 0 rfl) ?_
    refine mg_get (ci := 0) (C := RX0) (T := TX0) (N := 5) (v := .int (M 1 0)) hx hb hts inX0_isRow_X0 hown hC 1 (by decide) rfl rfl 0 (by decide) (hts _ lkX0_isRow_f9) rfl rfl dX0_isRow_6 ?_
    refine lv_iload_n hx hb dX0_isRow_9 rfl (lv_at hl 2 rfl) ?_
    refine lv_isub hx hb dX0_isRow_10 ?_
    refine lv_icmp_gt (tgt := 18) hx hb dX0_isRow_11 (by decide) (fun h2 => ?_) (fun h2 => ?_)
    · have hf := it_t h2 hf
      refine lv_iconst (v := 0) hx hb dX0_isRow_18 (by decide) ?_
      exact mr_Z hx hb hr hlk hC (by decide) hf dX0_isRow_19
    · have hf := it_f h2 hf
      refine lv_iconst (v := 1) hx hb dX0_isRow_14 (by decide) ?_
      refine lv_goto (tgt := 19) hx hb dX0_isRow_15 (by decide) ?_
      exact mr_Z hx hb hr hlk hC (by decide) hf dX0_isRow_19

theorem lkX0_placesOf_f9 : Cond.fieldLink RX0 9 "BerthPlan$Quay" "places" "I" ∈ wsX0_placesOf := by decide +kernel
theorem lkX0_placesOf_f15 : Cond.fieldLink RX0 15 "BerthPlan$Quay" "depths" "[I" ∈ wsX0_placesOf := by decide +kernel
theorem inX0_placesOf_X0 : ∀ w ∈ wsX00, w ∈ wsX0_placesOf := by decide +kernel
abbrev rmX0_placesOf : Room := { frames := 0, cells := 0, slots := 0, locals := 0 }
def fX0_placesOf_4 (N : Nat) : Nat → Int32 → Int32 → Int32 → Mem → Option (Int32 × Mem)
  | 0, _, _, _, _ => none
  | n + 1, x1, x2, x3, M =>
    if ((M 1 0) ≤ x3 : Prop) then (some (x2, M)) else (gd (x3) 6 (if ((M 2 (x3 : Int32).toNatClampNeg) < x1 : Prop) then (lq (x3 + 1) (fun z4 => fX0_placesOf_4 N n x1 x2 z4 M)) else (lq (x2 + 1) (fun z5 => lq (x3 + 1) (fun z6 => fX0_placesOf_4 N n x1 z5 z6 M)))))
theorem fX0_placesOf_4_s {N n : Nat} {x1 : Int32} {x2 : Int32} {x3 : Int32} {M : Mem} : fX0_placesOf_4 N (n + 1) x1 x2 x3 M =
    if ((M 1 0) ≤ x3 : Prop) then (some (x2, M)) else (gd (x3) 6 (if ((M 2 (x3 : Int32).toNatClampNeg) < x1 : Prop) then (lq (x3 + 1) (fun z4 => fX0_placesOf_4 N n x1 x2 z4 M)) else (lq (x2 + 1) (fun z5 => lq (x3 + 1) (fun z6 => fX0_placesOf_4 N n x1 z5 z6 M))))) := rfl
def fX0_placesOf (N : Nat) (x1 : Int32) (M : Mem) : Option (Int32 × Mem) :=
    fX0_placesOf_4 N N x1 0 0 M
set_option maxHeartbeats 4000000 in
set_option maxRecDepth 100000 in
theorem wX0_placesOf_4 {p : Program} {l : Launch} {e : Env} {s : State} {m : MethodId} {args : Array Value} {below : List Frame} {meth : Method} {c : Code} {D : va_G} {ad : Nat → Nat} {ca : Nat → ClassId} {B : Nat} {ov : Int64} {r0 : Int32} {M0 : Mem} (G : Mx p s m args meth c cX0_placesOf 4 wsX0_placesOf RX0 (some .int)) (N : Nat) : ∀ (n : Nat), ∀ (x1 : Int32) (x2 : Int32) (x3 : Int32) (M : Mem) (H : Heap) (locs : List Loc) (ls : Array Slot), lv_has ls 4 [(0, .ref (ad 1)), (1, .int x1), (2, .int x2), (3, .int x3)] → Cu D ad ca B M ov s H locs → (fX0_placesOf_4 N n) x1 x2 x3 M = some (r0, M0) → W p l e (rmX0_placesOf) s m args below meth c H locs 0 0 (MQ below (va_Qi (fun (r : Int32) (_ : Unit) => r = r0) (fun _ t => Wp D ad ca B M0 ov t.heap) (Ab B)) args s 0 0 (Ab B)) (F0 m 4 ls []) := by
  obtain ⟨hx, hb, hml, hown, hts, hr, hlk⟩ := id G
  intro n
  induction n with
  | zero =>
    intro x1 x2 x3 M H locs ls hl hC hf
    cases hf
  | succ n ih =>
    intro x1 x2 x3 M H locs ls hl hC hf
    have hf := (fX0_placesOf_4_s).symm.trans hf
    refine lv_iload_n hx hb dX0_placesOf_4 rfl (lv_at hl 3 rfl) ?_
    refine lv_aload_n hx hb dX0_placesOf_5 rfl (lv_at hl 0 rfl) ?_
    refine mg_get (ci := 0) (C := RX0) (T := TX0) (N := 5) (v := .int (M 1 0)) hx hb hts inX0_placesOf_X0 hown hC 1 (by decide) rfl rfl 0 (by decide) (hts _ lkX0_placesOf_f9) rfl rfl dX0_placesOf_6 ?_
    refine lv_icmp_ge (tgt := 31) hx hb dX0_placesOf_9 (by decide) (fun h1 => ?_) (fun h1 => ?_)
    · have hf := it_t h1 hf
      refine lv_iload_n hx hb dX0_placesOf_31 rfl (lv_at hl 2 rfl) ?_
      exact mr_I hx hb hr hlk hC hf dX0_placesOf_32
    · have hf := it_f h1 hf
      refine lv_aload_n hx hb dX0_placesOf_12 rfl (lv_at hl 0 rfl) ?_
      refine mg_get (ci := 0) (C := RX0) (T := TX0) (N := 5) (v := .ref (ad 2)) hx hb hts inX0_placesOf_X0 hown hC 1 (by decide) rfl rfl 1 (by decide) (hts _ lkX0_placesOf_f15) rfl rfl dX0_placesOf_13 ?_
      refine lv_iload_n hx hb dX0_placesOf_16 rfl (lv_at hl 3 rfl) ?_
      obtain ⟨g2, hf⟩ := gd_s hf
      refine mg_iald (n := 6) (cA := ca 2) hx hb hC 2 0 (by decide) rfl rfl g2 dX0_placesOf_17 ?_
      refine lv_iload_n hx hb dX0_placesOf_18 rfl (lv_at hl 1 rfl) ?_
      refine lv_icmp_lt (tgt := 25) hx hb dX0_placesOf_19 (by decide) (fun h3 => ?_) (fun h3 => ?_)
      · have hf := it_t h3 hf
        obtain ⟨z4, ez4⟩ : ∃ y : Int32, y = x3 + 1 := ⟨_, rfl⟩
        have hf := lq_k ez4 hf
        refine lv_iinc (v := z4) (lv' := [(3, .int z4), (0, .ref (ad 1)), (1, .int x1), (2, .int x2)]) hx hb dX0_placesOf_25 hl (k := 3) rfl (by rw [ez4]; rfl) (by decide) rfl (fun ls hl => ?_)
        refine lv_goto (tgt := 4) hx hb dX0_placesOf_28 (by decide) ?_
        exact ih x1 x2 z4 M _ _ _ (lv_sub hl [1, 2, 3, 0] rfl) hC hf
      · have hf := it_f h3 hf
        obtain ⟨z5, ez5⟩ : ∃ y : Int32, y = x2 + 1 := ⟨_, rfl⟩
        have hf := lq_k ez5 hf
        refine lv_iinc (v := z5) (lv' := [(2, .int z5), (0, .ref (ad 1)), (1, .int x1), (3, .int x3)]) hx hb dX0_placesOf_22 hl (k := 2) rfl (by rw [ez5]; rfl) (by decide) rfl (fun ls hl => ?_)
        obtain ⟨z6, ez6⟩ : ∃ y : Int32, y = x3 + 1 := ⟨_, rfl⟩
        have hf := lq_k ez6 hf
        refine lv_iinc (v := z6) (lv' := [(3, .int z6), (2, .int z5), (0, .ref (ad 1)), (1, .int x1)]) hx hb dX0_placesOf_25 hl (k := 3) rfl (by rw [ez6]; rfl) (by decide) rfl (fun ls hl => ?_)
        refine lv_goto (tgt := 4) hx hb dX0_placesOf_28 (by decide) ?_
        exact ih x1 z5 z6 M _ _ _ (lv_sub hl [2, 3, 1, 0] rfl) hC hf
set_option maxHeartbeats 4000000 in
set_option maxRecDepth 100000 in
theorem kX0_placesOf (l : Launch) (D : va_G) (ad : Nat → Nat) (ca : Nat → ClassId) (B : Nat) (ov : Int64) (N : Nat) (x1 : Int32) (M : Mem) (r0 : Int32) (M0 : Mem) (hf : fX0_placesOf N x1 M = some (r0, M0)) : MtI l D ad ca B ov yX0_placesOf wsX0_placesOf (rmX0_placesOf) [.ref (ad 1), .int x1] M r0 M0 := by
  unfold fX0_placesOf at hf
  refine Met.ofW (cc := cX0_placesOf) (maxL := 4) (ret := (some .int)) (by decide) rfl ?_
  intro p e s m args below meth c s₁ Bd hml hv
  obtain ⟨rfl, hw⟩ := hv
  have G : Mx p s m ([.ref (ad 1), .int x1] : List Value).toArray meth c cX0_placesOf 4 wsX0_placesOf RX0 (some .int) := ⟨Bd.exec, Bd.bytes, hml, findClass_of_methodNamed Bd.named, atoms_spec (ws := wsX0_placesOf) Bd.pre, Bd.returns, Bd.notSynchronized⟩
  have hC := Cu.of hw
  have hl := lv_entry ([.ref (ad 1), .int x1]) (n := 4) (Nat.le_of_ble_eq_true rfl)
  rw [lg_entry_eq]
  generalize (lg_sl ([.ref (ad 1), .int x1]) ++ List.replicate (4 - (lg_sl ([.ref (ad 1), .int x1])).length) Slot.unset).toArray = ls at hl ⊢
  have hl : lv_has ls 4 [(0, .ref (ad 1)), (1, .int x1)] := hl
  obtain ⟨hx, hb, hml, hown, hts, hr, hlk⟩ := id G
  show W p l e (rmX0_placesOf) s m _ below meth c s.heap [] 0 0 (MQ below (va_Qi (fun (r : Int32) (_ : Unit) => r = r0) (fun _ t => Wp D ad ca B M0 ov t.heap) (Ab B)) _ s 0 0 (Ab B)) (F0 m 0 ls [])
  refine lv_iconst (v := 0) hx hb dX0_placesOf_0 (by decide) ?_
  refine lv_istore_n (lv' := [(2, .int 0), (0, .ref (ad 1)), (1, .int x1)]) hx hb dX0_placesOf_1 rfl hl (by decide) rfl (fun ls hl => ?_)
  refine lv_iconst (v := 0) hx hb dX0_placesOf_2 (by decide) ?_
  refine lv_istore_n (lv' := [(3, .int 0), (2, .int 0), (0, .ref (ad 1)), (1, .int x1)]) hx hb dX0_placesOf_3 rfl hl (by decide) rfl (fun ls hl => ?_)
  exact wX0_placesOf_4 G N N x1 0 0 M _ _ _ (lv_sub hl [2, 3, 1, 0] rfl) hC hf

theorem lkX0_suits_f15 : Cond.fieldLink RX0 15 "BerthPlan$Quay" "depths" "[I" ∈ wsX0_suits := by decide +kernel
theorem lkX0_suits_f19 : Cond.fieldLink RX0 19 "BerthPlan$Quay" "gears" "[I" ∈ wsX0_suits := by decide +kernel
theorem inX0_suits_X0 : ∀ w ∈ wsX00, w ∈ wsX0_suits := by decide +kernel
abbrev rmX0_suits : Room := { frames := 1, cells := 0, slots := 0, locals := 22 }
def fX0_suits_18 (N : Nat) : Nat → Int32 → Int32 → Int32 → Int32 → Int32 → Mem → Option (Int32 × Mem)
  | 0, _, _, _, _, _, _ => none
  | n + 1, x1, x2, x3, x5, x6, M =>
    if ((x1 + x2) ≤ x6 : Prop) then (if (x5 = 0 : Prop) then (some (1, M)) else (some (0, M))) else (gd (x6) 6 (if (x3 ≤ (M 2 (x6 : Int32).toNatClampNeg) : Prop) then (gd (x6) 6 (lq (x5 &&& ((M 3 (x6 : Int32).toNatClampNeg) ^^^ (-1 : Int32))) (fun z6 => lq (x6 + 1) (fun z7 => fX0_suits_18 N n x1 x2 x3 z6 z7 M)))) else (some (0, M))))
theorem fX0_suits_18_s {N n : Nat} {x1 : Int32} {x2 : Int32} {x3 : Int32} {x5 : Int32} {x6 : Int32} {M : Mem} : fX0_suits_18 N (n + 1) x1 x2 x3 x5 x6 M =
    if ((x1 + x2) ≤ x6 : Prop) then (if (x5 = 0 : Prop) then (some (1, M)) else (some (0, M))) else (gd (x6) 6 (if (x3 ≤ (M 2 (x6 : Int32).toNatClampNeg) : Prop) then (gd (x6) 6 (lq (x5 &&& ((M 3 (x6 : Int32).toNatClampNeg) ^^^ (-1 : Int32))) (fun z6 => lq (x6 + 1) (fun z7 => fX0_suits_18 N n x1 x2 x3 z6 z7 M)))) else (some (0, M)))) := rfl
def fX0_suits (N : Nat) (x1 : Int32) (x2 : Int32) (x3 : Int32) (x4 : Int32) (M : Mem) : Option (Int32 × Mem) :=
    bd (fX0_isRow N x1 x2 M) (fun r1 M2 => if (r1 = 0 : Prop) then (some (0, M2)) else (fX0_suits_18 N N x1 x2 x3 x4 x1 M2))
set_option maxHeartbeats 4000000 in
set_option maxRecDepth 100000 in
theorem wX0_suits_18 {p : Program} {l : Launch} {e : Env} {s : State} {m : MethodId} {args : Array Value} {below : List Frame} {meth : Method} {c : Code} {D : va_G} {ad : Nat → Nat} {ca : Nat → ClassId} {B : Nat} {ov : Int64} {r0 : Int32} {M0 : Mem} (G : Mx p s m args meth c cX0_suits 7 wsX0_suits RX0 (some .boolean)) (N : Nat) : ∀ (n : Nat), ∀ (x1 : Int32) (x2 : Int32) (x3 : Int32) (x5 : Int32) (x6 : Int32) (M : Mem) (H : Heap) (locs : List Loc) (ls : Array Slot), lv_has ls 7 [(0, .ref (ad 1)), (1, .int x1), (2, .int x2), (3, .int x3), (5, .int x5), (6, .int x6)] → Cu D ad ca B M ov s H locs → (fX0_suits_18 N n) x1 x2 x3 x5 x6 M = some (r0, M0) → W p l e (rmX0_suits) s m args below meth c H locs 0 0 (MQ below (va_Qi (fun (r : Int32) (_ : Unit) => r = r0) (fun _ t => Wp D ad ca B M0 ov t.heap) (Ab B)) args s 0 0 (Ab B)) (F0 m 18 ls []) := by
  obtain ⟨hx, hb, hml, hown, hts, hr, hlk⟩ := id G
  intro n
  induction n with
  | zero =>
    intro x1 x2 x3 x5 x6 M H locs ls hl hC hf
    cases hf
  | succ n ih =>
    intro x1 x2 x3 x5 x6 M H locs ls hl hC hf
    have hf := (fX0_suits_18_s).symm.trans hf
    refine lv_iload hx hb dX0_suits_18 (lv_at hl 5 rfl) ?_
    refine lv_iload_n hx hb dX0_suits_20 rfl (lv_at hl 1 rfl) ?_
    refine lv_iload_n hx hb dX0_suits_21 rfl (lv_at hl 2 rfl) ?_
    refine lv_iadd hx hb dX0_suits_22 ?_
    refine lv_icmp_ge (tgt := 59) hx hb dX0_suits_23 (by decide) (fun h1 => ?_) (fun h1 => ?_)
    · have hf := it_t h1 hf
      refine lv_iload hx hb dX0_suits_59 (lv_at hl 4 rfl) ?_
      refine lv_if_ne (tgt := 68) hx hb dX0_suits_61 (by decide) (fun h2 => ?_) (fun h2 => ?_)
      · have hf := it_f h2 hf
        refine lv_iconst (v := 0) hx hb dX0_suits_68 (by decide) ?_
        exact mr_Z hx hb hr hlk hC (by decide) hf dX0_suits_69
      · have hf := it_t h2 hf
        refine lv_iconst (v := 1) hx hb dX0_suits_64 (by decide) ?_
        refine lv_goto (tgt := 69) hx hb dX0_suits_65 (by decide) ?_
        exact mr_Z hx hb hr hlk hC (by decide) hf dX0_suits_69
    · have hf := it_f h1 hf
      refine lv_aload_n hx hb dX0_suits_26 rfl (lv_at hl 0 rfl) ?_
      refine mg_get (ci := 0) (C := RX0) (T := TX0) (N := 5) (v := .ref (ad 2)) hx hb hts inX0_suits_X0 hown hC 1 (by decide) rfl rfl 1 (by decide) (hts _ lkX0_suits_f15) rfl rfl dX0_suits_27 ?_
      refine lv_iload hx hb dX0_suits_30 (lv_at hl 5 rfl) ?_
      obtain ⟨g3, hf⟩ := gd_s hf
      refine mg_iald (n := 6) (cA := ca 2) hx hb hC 2 0 (by decide) rfl rfl g3 dX0_suits_32 ?_
      refine lv_iload_n hx hb dX0_suits_33 rfl (lv_at hl 3 rfl) ?_
      refine lv_icmp_ge (tgt := 39) hx hb dX0_suits_34 (by decide) (fun h4 => ?_) (fun h4 => ?_)
      · have hf := it_t h4 hf
        refine lv_iload hx hb dX0_suits_39 (lv_at hl 4 rfl) ?_
        refine lv_aload_n hx hb dX0_suits_41 rfl (lv_at hl 0 rfl) ?_
        refine mg_get (ci := 0) (C := RX0) (T := TX0) (N := 5) (v := .ref (ad 3)) hx hb hts inX0_suits_X0 hown hC 1 (by decide) rfl rfl 2 (by decide) (hts _ lkX0_suits_f19) rfl rfl dX0_suits_42 ?_
        refine lv_iload hx hb dX0_suits_45 (lv_at hl 5 rfl) ?_
        obtain ⟨g5, hf⟩ := gd_s hf
        refine mg_iald (n := 6) (cA := ca 3) hx hb hC 3 1 (by decide) rfl rfl g5 dX0_suits_47 ?_
        refine lv_iconst (v := (-1)) hx hb dX0_suits_48 (by decide) ?_
        refine lv_ixor hx hb dX0_suits_49 ?_
        refine lv_iand hx hb dX0_suits_50 ?_
        refine lv_topi (fun z6 ez6 => ?_)
        have hf := lq_k ez6 hf
        refine lv_istore (lv' := [(5, .int z6), (0, .ref (ad 1)), (1, .int x1), (2, .int x2), (3, .int x3), (6, .int x6)]) hx hb dX0_suits_51 hl (by decide) rfl (fun ls hl => ?_)
        obtain ⟨z7, ez7⟩ : ∃ y : Int32, y = x6 + 1 := ⟨_, rfl⟩
        have hf := lq_k ez7 hf
        refine lv_iinc (v := z7) (lv' := [(6, .int z7), (5, .int z6), (0, .ref (ad 1)), (1, .int x1), (2, .int x2), (3, .int x3)]) hx hb dX0_suits_53 hl (k := 5) rfl (by rw [ez7]; rfl) (by decide) rfl (fun ls hl => ?_)
        refine lv_goto (tgt := 18) hx hb dX0_suits_56 (by decide) ?_
        exact ih x1 x2 x3 z6 z7 M _ _ _ (lv_sub hl [2, 3, 4, 5, 1, 0] rfl) hC hf
      · have hf := it_f h4 hf
        refine lv_iconst (v := 0) hx hb dX0_suits_37 (by decide) ?_
        exact mr_Z hx hb hr hlk hC (by decide) hf dX0_suits_38
set_option maxHeartbeats 4000000 in
set_option maxRecDepth 100000 in
theorem kX0_suits (l : Launch) (D : va_G) (ad : Nat → Nat) (ca : Nat → ClassId) (B : Nat) (ov : Int64) (N : Nat) (x1 : Int32) (x2 : Int32) (x3 : Int32) (x4 : Int32) (M : Mem) (r0 : Int32) (M0 : Mem) (hf : fX0_suits N x1 x2 x3 x4 M = some (r0, M0)) : MtI l D ad ca B ov yX0_suits wsX0_suits (rmX0_suits) [.ref (ad 1), .int x1, .int x2, .int x3, .int x4] M r0 M0 := by
  unfold fX0_suits at hf
  refine Met.ofW (cc := cX0_suits) (maxL := 7) (ret := (some .boolean)) (by decide) rfl ?_
  intro p e s m args below meth c s₁ Bd hml hv
  obtain ⟨rfl, hw⟩ := hv
  have G : Mx p s m ([.ref (ad 1), .int x1, .int x2, .int x3, .int x4] : List Value).toArray meth c cX0_suits 7 wsX0_suits RX0 (some .boolean) := ⟨Bd.exec, Bd.bytes, hml, findClass_of_methodNamed Bd.named, atoms_spec (ws := wsX0_suits) Bd.pre, Bd.returns, Bd.notSynchronized⟩
  have hC := Cu.of hw
  have hl := lv_entry ([.ref (ad 1), .int x1, .int x2, .int x3, .int x4]) (n := 7) (Nat.le_of_ble_eq_true rfl)
  rw [lg_entry_eq]
  generalize (lg_sl ([.ref (ad 1), .int x1, .int x2, .int x3, .int x4]) ++ List.replicate (7 - (lg_sl ([.ref (ad 1), .int x1, .int x2, .int x3, .int x4])).length) Slot.unset).toArray = ls at hl ⊢
  have hl : lv_has ls 7 [(0, .ref (ad 1)), (1, .int x1), (2, .int x2), (3, .int x3), (4, .int x4)] := hl
  obtain ⟨hx, hb, hml, hown, hts, hr, hlk⟩ := id G
  show W p l e (rmX0_suits) s m _ below meth c s.heap [] 0 0 (MQ below (va_Qi (fun (r : Int32) (_ : Unit) => r = r0) (fun _ t => Wp D ad ca B M0 ov t.heap) (Ab B)) _ s 0 0 (Ab B)) (F0 m 0 ls [])
  refine lv_aload_n hx hb dX0_suits_0 rfl (lv_at hl 0 rfl) ?_
  refine lv_iload_n hx hb dX0_suits_1 rfl (lv_at hl 1 rfl) ?_
  refine lv_iload_n hx hb dX0_suits_2 rfl (lv_at hl 2 rfl) ?_
  obtain ⟨r1, M2, hq, hf⟩ := bd_s hf
  refine mc_Vi (As := [.int x1, .int x2]) ⟨hx, hb, hml, hown, hts⟩ hC (kX0_isRow l D ad ca B ov N x1 x2 M r1 M2 hq) (cwV 2 hts gX0_suits_X0_isRow rfl rfl rfl (by decide +kernel) ⟨Nat.le_of_ble_eq_true rfl, Nat.le_of_ble_eq_true rfl⟩) (mg_recv (ci := 0) (C := RX0) (T := TX0) (N := 5) hC 1 (by decide) rfl rfl) rfl hl.1 rfl (Nat.le_of_ble_eq_true rfl) dX0_suits_3 ⟨Nat.zero_le _, Nat.zero_le _⟩ (fun H locs hC => ?_)
  refine lv_if_ne (tgt := 11) hx hb dX0_suits_6 (by decide) (fun h3 => ?_) (fun h3 => ?_)
  · have hf := it_f h3 hf
    refine lv_iload hx hb dX0_suits_11 (lv_at hl 4 rfl) ?_
    refine lv_istore (lv' := [(5, .int x4), (0, .ref (ad 1)), (1, .int x1), (2, .int x2), (3, .int x3), (4, .int x4)]) hx hb dX0_suits_13 hl (by decide) rfl (fun ls hl => ?_)
    refine lv_iload_n hx hb dX0_suits_15 rfl (lv_at hl 2 rfl) ?_
    refine lv_istore (lv' := [(6, .int x1), (5, .int x4), (0, .ref (ad 1)), (1, .int x1), (2, .int x2), (3, .int x3), (4, .int x4)]) hx hb dX0_suits_16 hl (by decide) rfl (fun ls hl => ?_)
    exact wX0_suits_18 G N N x1 x2 x3 x4 x1 M2 _ _ _ (lv_sub hl [2, 3, 4, 5, 1, 0] rfl) hC hf
  · have hf := it_t h3 hf
    refine lv_iconst (v := 0) hx hb dX0_suits_9 (by decide) ?_
    exact mr_Z hx hb hr hlk hC (by decide) hf dX0_suits_10

theorem lkX0_hasRow_f9 : Cond.fieldLink RX0 9 "BerthPlan$Quay" "places" "I" ∈ wsX0_hasRow := by decide +kernel
theorem inX0_hasRow_X0 : ∀ w ∈ wsX00, w ∈ wsX0_hasRow := by decide +kernel
abbrev rmX0_hasRow : Room := { frames := 2, cells := 0, slots := 0, locals := 48 }
def fX0_hasRow_3 (N : Nat) : Nat → Int32 → Int32 → Int32 → Int32 → Mem → Option (Int32 × Mem)
  | 0, _, _, _, _, _ => none
  | n + 1, x1, x2, x3, x4, M =>
    if ((M 1 0) ≤ x4 : Prop) then (some (0, M)) else (bd (fX0_suits N x4 x1 x2 x3 M) (fun r2 M3 => if (r2 = 0 : Prop) then (lq (x4 + 1) (fun z5 => fX0_hasRow_3 N n x1 x2 x3 z5 M3)) else (some (1, M3))))
theorem fX0_hasRow_3_s {N n : Nat} {x1 : Int32} {x2 : Int32} {x3 : Int32} {x4 : Int32} {M : Mem} : fX0_hasRow_3 N (n + 1) x1 x2 x3 x4 M =
    if ((M 1 0) ≤ x4 : Prop) then (some (0, M)) else (bd (fX0_suits N x4 x1 x2 x3 M) (fun r2 M3 => if (r2 = 0 : Prop) then (lq (x4 + 1) (fun z5 => fX0_hasRow_3 N n x1 x2 x3 z5 M3)) else (some (1, M3)))) := rfl
def fX0_hasRow (N : Nat) (x1 : Int32) (x2 : Int32) (x3 : Int32) (M : Mem) : Option (Int32 × Mem) :=
    fX0_hasRow_3 N N x1 x2 x3 0 M
set_option maxHeartbeats 4000000 in
set_option maxRecDepth 100000 in
theorem wX0_hasRow_3 {p : Program} {l : Launch} {e : Env} {s : State} {m : MethodId} {args : Array Value} {below : List Frame} {meth : Method} {c : Code} {D : va_G} {ad : Nat → Nat} {ca : Nat → ClassId} {B : Nat} {ov : Int64} {r0 : Int32} {M0 : Mem} (G : Mx p s m args meth c cX0_hasRow 5 wsX0_hasRow RX0 (some .boolean)) (N : Nat) : ∀ (n : Nat), ∀ (x1 : Int32) (x2 : Int32) (x3 : Int32) (x4 : Int32) (M : Mem) (H : Heap) (locs : List Loc) (ls : Array Slot), lv_has ls 5 [(0, .ref (ad 1)), (1, .int x1), (2, .int x2), (3, .int x3), (4, .int x4)] → Cu D ad ca B M ov s H locs → (fX0_hasRow_3 N n) x1 x2 x3 x4 M = some (r0, M0) → W p l e (rmX0_hasRow) s m args below meth c H locs 0 0 (MQ below (va_Qi (fun (r : Int32) (_ : Unit) => r = r0) (fun _ t => Wp D ad ca B M0 ov t.heap) (Ab B)) args s 0 0 (Ab B)) (F0 m 3 ls []) := by
  obtain ⟨hx, hb, hml, hown, hts, hr, hlk⟩ := id G
  intro n
  induction n with
  | zero =>
    intro x1 x2 x3 x4 M H locs ls hl hC hf
    cases hf
  | succ n ih =>
    intro x1 x2 x3 x4 M H locs ls hl hC hf
    have hf := (fX0_hasRow_3_s).symm.trans hf
    refine lv_iload hx hb dX0_hasRow_3 (lv_at hl 4 rfl) ?_
    refine lv_aload_n hx hb dX0_hasRow_5 rfl (lv_at hl 0 rfl) ?_
    refine mg_get (ci := 0) (C := RX0) (T := TX0) (N := 5) (v := .int (M 1 0)) hx hb hts inX0_hasRow_X0 hown hC 1 (by decide) rfl rfl 0 (by decide) (hts _ lkX0_hasRow_f9) rfl rfl dX0_hasRow_6 ?_
    refine lv_icmp_ge (tgt := 32) hx hb dX0_hasRow_9 (by decide) (fun h1 => ?_) (fun h1 => ?_)
    · have hf := it_t h1 hf
      refine lv_iconst (v := 0) hx hb dX0_hasRow_32 (by decide) ?_
      exact mr_Z hx hb hr hlk hC (by decide) hf dX0_hasRow_33
    · have hf := it_f h1 hf
      refine lv_aload_n hx hb dX0_hasRow_12 rfl (lv_at hl 0 rfl) ?_
      refine lv_iload hx hb dX0_hasRow_13 (lv_at hl 4 rfl) ?_
      refine lv_iload_n hx hb dX0_hasRow_15 rfl (lv_at hl 1 rfl) ?_
      refine lv_iload_n hx hb dX0_hasRow_16 rfl (lv_at hl 2 rfl) ?_
      refine lv_iload_n hx hb dX0_hasRow_17 rfl (lv_at hl 3 rfl) ?_
      obtain ⟨r2, M3, hq, hf⟩ := bd_s hf
      refine mc_Vi (As := [.int x4, .int x1, .int x2, .int x3]) ⟨hx, hb, hml, hown, hts⟩ hC (kX0_suits l D ad ca B ov N x4 x1 x2 x3 M r2 M3 hq) (cwV 4 hts gX0_hasRow_X0_suits rfl rfl rfl (by decide +kernel) ⟨Nat.le_of_ble_eq_true rfl, Nat.le_of_ble_eq_true rfl⟩) (mg_recv (ci := 0) (C := RX0) (T := TX0) (N := 5) hC 1 (by decide) rfl rfl) rfl hl.1 rfl (Nat.le_of_ble_eq_true rfl) dX0_hasRow_18 ⟨Nat.zero_le _, Nat.zero_le _⟩ (fun H locs hC => ?_)
      refine lv_if_eq (tgt := 26) hx hb dX0_hasRow_21 (by decide) (fun h4 => ?_) (fun h4 => ?_)
      · have hf := it_t h4 hf
        obtain ⟨z5, ez5⟩ : ∃ y : Int32, y = x4 + 1 := ⟨_, rfl⟩
        have hf := lq_k ez5 hf
        refine lv_iinc (v := z5) (lv' := [(4, .int z5), (0, .ref (ad 1)), (1, .int x1), (2, .int x2), (3, .int x3)]) hx hb dX0_hasRow_26 hl (k := 4) rfl (by rw [ez5]; rfl) (by decide) rfl (fun ls hl => ?_)
        refine lv_goto (tgt := 3) hx hb dX0_hasRow_29 (by decide) ?_
        exact ih x1 x2 x3 z5 M3 _ _ _ (lv_sub hl [1, 2, 3, 4, 0] rfl) hC hf
      · have hf := it_f h4 hf
        refine lv_iconst (v := 1) hx hb dX0_hasRow_24 (by decide) ?_
        exact mr_Z hx hb hr hlk hC (by decide) hf dX0_hasRow_25
set_option maxHeartbeats 4000000 in
set_option maxRecDepth 100000 in
theorem kX0_hasRow (l : Launch) (D : va_G) (ad : Nat → Nat) (ca : Nat → ClassId) (B : Nat) (ov : Int64) (N : Nat) (x1 : Int32) (x2 : Int32) (x3 : Int32) (M : Mem) (r0 : Int32) (M0 : Mem) (hf : fX0_hasRow N x1 x2 x3 M = some (r0, M0)) : MtI l D ad ca B ov yX0_hasRow wsX0_hasRow (rmX0_hasRow) [.ref (ad 1), .int x1, .int x2, .int x3] M r0 M0 := by
  unfold fX0_hasRow at hf
  refine Met.ofW (cc := cX0_hasRow) (maxL := 5) (ret := (some .boolean)) (by decide) rfl ?_
  intro p e s m args below meth c s₁ Bd hml hv
  obtain ⟨rfl, hw⟩ := hv
  have G : Mx p s m ([.ref (ad 1), .int x1, .int x2, .int x3] : List Value).toArray meth c cX0_hasRow 5 wsX0_hasRow RX0 (some .boolean) := ⟨Bd.exec, Bd.bytes, hml, findClass_of_methodNamed Bd.named, atoms_spec (ws := wsX0_hasRow) Bd.pre, Bd.returns, Bd.notSynchronized⟩
  have hC := Cu.of hw
  have hl := lv_entry ([.ref (ad 1), .int x1, .int x2, .int x3]) (n := 5) (Nat.le_of_ble_eq_true rfl)
  rw [lg_entry_eq]
  generalize (lg_sl ([.ref (ad 1), .int x1, .int x2, .int x3]) ++ List.replicate (5 - (lg_sl ([.ref (ad 1), .int x1, .int x2, .int x3])).length) Slot.unset).toArray = ls at hl ⊢
  have hl : lv_has ls 5 [(0, .ref (ad 1)), (1, .int x1), (2, .int x2), (3, .int x3)] := hl
  obtain ⟨hx, hb, hml, hown, hts, hr, hlk⟩ := id G
  show W p l e (rmX0_hasRow) s m _ below meth c s.heap [] 0 0 (MQ below (va_Qi (fun (r : Int32) (_ : Unit) => r = r0) (fun _ t => Wp D ad ca B M0 ov t.heap) (Ab B)) _ s 0 0 (Ab B)) (F0 m 0 ls [])
  refine lv_iconst (v := 0) hx hb dX0_hasRow_0 (by decide) ?_
  refine lv_istore (lv' := [(4, .int 0), (0, .ref (ad 1)), (1, .int x1), (2, .int x2), (3, .int x3)]) hx hb dX0_hasRow_1 hl (by decide) rfl (fun ls hl => ?_)
  exact wX0_hasRow_3 G N N x1 x2 x3 0 M _ _ _ (lv_sub hl [1, 2, 3, 4, 0] rfl) hC hf

theorem lkX0_beginsFrom_f34 : Cond.fieldLink RX0 34 "BerthPlan$Quay" "tideSpans" "I" ∈ wsX0_beginsFrom := by decide +kernel
theorem lkX0_beginsFrom_f37 : Cond.fieldLink RX0 37 "BerthPlan$Quay" "tideHours" "I" ∈ wsX0_beginsFrom := by decide +kernel
theorem lkX0_beginsFrom_si30 : Cond.initialized RX3 ∈ wsX0_beginsFrom := by decide +kernel
theorem lkX0_beginsFrom_ss30 : Cond.static yX3_beginsBetween ∈ wsX0_beginsFrom := by decide +kernel
theorem inX0_beginsFrom_X0 : ∀ w ∈ wsX00, w ∈ wsX0_beginsFrom := by decide +kernel
abbrev rmX0_beginsFrom : Room := { frames := 1, cells := 0, slots := 0, locals := 23 }
def fX0_beginsFrom (N : Nat) (x1 : Int32) (M : Mem) : Option (Int32 × Mem) :=
    bd (fX3_beginsBetween N x1 15 M) (fun r1 M2 => if ((M2 1 4) = 0 : Prop) then (some (r1, M2)) else (some (r1 &&& (M2 1 3), M2)))
set_option maxHeartbeats 4000000 in
set_option maxRecDepth 100000 in
theorem kX0_beginsFrom (l : Launch) (D : va_G) (ad : Nat → Nat) (ca : Nat → ClassId) (B : Nat) (ov : Int64) (N : Nat) (x1 : Int32) (M : Mem) (r0 : Int32) (M0 : Mem) (hf : fX0_beginsFrom N x1 M = some (r0, M0)) : MtI l D ad ca B ov yX0_beginsFrom wsX0_beginsFrom (rmX0_beginsFrom) [.ref (ad 1), .int x1] M r0 M0 := by
  unfold fX0_beginsFrom at hf
  refine Met.ofW (cc := cX0_beginsFrom) (maxL := 3) (ret := (some .int)) (by decide) rfl ?_
  intro p e s m args below meth c s₁ Bd hml hv
  obtain ⟨rfl, hw⟩ := hv
  have G : Mx p s m ([.ref (ad 1), .int x1] : List Value).toArray meth c cX0_beginsFrom 3 wsX0_beginsFrom RX0 (some .int) := ⟨Bd.exec, Bd.bytes, hml, findClass_of_methodNamed Bd.named, atoms_spec (ws := wsX0_beginsFrom) Bd.pre, Bd.returns, Bd.notSynchronized⟩
  have hC := Cu.of hw
  have hl := lv_entry ([.ref (ad 1), .int x1]) (n := 3) (Nat.le_of_ble_eq_true rfl)
  rw [lg_entry_eq]
  generalize (lg_sl ([.ref (ad 1), .int x1]) ++ List.replicate (3 - (lg_sl ([.ref (ad 1), .int x1])).length) Slot.unset).toArray = ls at hl ⊢
  have hl : lv_has ls 3 [(0, .ref (ad 1)), (1, .int x1)] := hl
  obtain ⟨hx, hb, hml, hown, hts, hr, hlk⟩ := id G
  show W p l e (rmX0_beginsFrom) s m _ below meth c s.heap [] 0 0 (MQ below (va_Qi (fun (r : Int32) (_ : Unit) => r = r0) (fun _ t => Wp D ad ca B M0 ov t.heap) (Ab B)) _ s 0 0 (Ab B)) (F0 m 0 ls [])
  refine lv_iload_n hx hb dX0_beginsFrom_0 rfl (lv_at hl 1 rfl) ?_
  refine lv_bipush (v := 15) hx hb dX0_beginsFrom_1 (by decide) ?_
  obtain ⟨r1, M2, hq, hf⟩ := bd_s hf
  refine mc_Ni (As := [.int x1, .int 15]) ⟨hx, hb, hml, hown, hts⟩ hC (kX3_beginsBetween l D ad ca B ov N x1 15 M r1 M2 hq) ⟨va_cnB 2 hts gX0_beginsFrom_X3_beginsBetween_n30 rfl rfl rfl hC.2.2.1.2.1 (hts _ lkX0_beginsFrom_si30) (by decide +kernel) ⟨Nat.le_of_ble_eq_true rfl, Nat.le_of_ble_eq_true rfl⟩, hts _ lkX0_beginsFrom_ss30, trivial⟩ rfl hl.1 rfl (Nat.le_of_ble_eq_true rfl) dX0_beginsFrom_3 ⟨Nat.zero_le _, Nat.zero_le _⟩ (fun H locs hC => ?_)
  refine lv_istore_n (lv' := [(2, .int r1), (0, .ref (ad 1)), (1, .int x1)]) hx hb dX0_beginsFrom_6 rfl hl (by decide) rfl (fun ls hl => ?_)
  refine lv_aload_n hx hb dX0_beginsFrom_7 rfl (lv_at hl 1 rfl) ?_
  refine mg_get (ci := 0) (C := RX0) (T := TX0) (N := 5) (v := .int (M2 1 4)) hx hb hts inX0_beginsFrom_X0 hown hC 1 (by decide) rfl rfl 4 (by decide) (hts _ lkX0_beginsFrom_f34) rfl rfl dX0_beginsFrom_8 ?_
  refine lv_if_ne (tgt := 18) hx hb dX0_beginsFrom_11 (by decide) (fun h3 => ?_) (fun h3 => ?_)
  · have hf := it_f h3 hf
    refine lv_iload_n hx hb dX0_beginsFrom_18 rfl (lv_at hl 0 rfl) ?_
    refine lv_aload_n hx hb dX0_beginsFrom_19 rfl (lv_at hl 1 rfl) ?_
    refine mg_get (ci := 0) (C := RX0) (T := TX0) (N := 5) (v := .int (M2 1 3)) hx hb hts inX0_beginsFrom_X0 hown hC 1 (by decide) rfl rfl 3 (by decide) (hts _ lkX0_beginsFrom_f37) rfl rfl dX0_beginsFrom_20 ?_
    refine lv_iand hx hb dX0_beginsFrom_23 ?_
    exact mr_I hx hb hr hlk hC hf dX0_beginsFrom_24
  · have hf := it_t h3 hf
    refine lv_iload_n hx hb dX0_beginsFrom_14 rfl (lv_at hl 0 rfl) ?_
    refine lv_goto (tgt := 24) hx hb dX0_beginsFrom_15 (by decide) ?_
    exact mr_I hx hb hr hlk hC hf dX0_beginsFrom_24

theorem lkX2_latenessIf_f7 : Cond.fieldLink RX2 7 "BerthPlan$Ship" "weight" "I" ∈ wsX2_latenessIf := by decide +kernel
theorem lkX2_latenessIf_f13 : Cond.fieldLink RX2 13 "BerthPlan$Ship" "arrives" "I" ∈ wsX2_latenessIf := by decide +kernel
theorem inX2_latenessIf_X2 : ∀ w ∈ wsX20, w ∈ wsX2_latenessIf := by decide +kernel
abbrev rmX2_latenessIf : Room := { frames := 0, cells := 0, slots := 0, locals := 0 }
def fX2_latenessIf (N : Nat) (c0 : Nat) (x1 : Int32) (M : Mem) : Option (Int32 × Mem) :=
    some ((M c0 4) * (x1 - (M c0 3)), M)
set_option maxHeartbeats 4000000 in
set_option maxRecDepth 100000 in
theorem kX2_latenessIf (l : Launch) (D : va_G) (ad : Nat → Nat) (ca : Nat → ClassId) (B : Nat) (ov : Int64) (N : Nat) (c0 : Nat) (x1 : Int32) (hs_c0 : sh c0) (M : Mem) (r0 : Int32) (M0 : Mem) (hf : fX2_latenessIf N c0 x1 M = some (r0, M0)) : MtI l D ad ca B ov yX2_latenessIf wsX2_latenessIf (rmX2_latenessIf) [.ref (ad c0), .int x1] M r0 M0 := by
  unfold fX2_latenessIf at hf
  refine Met.ofW (cc := cX2_latenessIf) (maxL := 2) (ret := (some .int)) (by decide) rfl ?_
  intro p e s m args below meth c s₁ Bd hml hv
  obtain ⟨rfl, hw⟩ := hv
  have G : Mx p s m ([.ref (ad c0), .int x1] : List Value).toArray meth c cX2_latenessIf 2 wsX2_latenessIf RX2 (some .int) := ⟨Bd.exec, Bd.bytes, hml, findClass_of_methodNamed Bd.named, atoms_spec (ws := wsX2_latenessIf) Bd.pre, Bd.returns, Bd.notSynchronized⟩
  have hC := Cu.of hw
  have hl := lv_entry ([.ref (ad c0), .int x1]) (n := 2) (Nat.le_of_ble_eq_true rfl)
  rw [lg_entry_eq]
  generalize (lg_sl ([.ref (ad c0), .int x1]) ++ List.replicate (2 - (lg_sl ([.ref (ad c0), .int x1])).length) Slot.unset).toArray = ls at hl ⊢
  have hl : lv_has ls 2 [(0, .ref (ad c0)), (1, .int x1)] := hl
  obtain ⟨hx, hb, hml, hown, hts, hr, hlk⟩ := id G
  show W p l e (rmX2_latenessIf) s m _ below meth c s.heap [] 0 0 (MQ below (va_Qi (fun (r : Int32) (_ : Unit) => r = r0) (fun _ t => Wp D ad ca B M0 ov t.heap) (Ab B)) _ s 0 0 (Ab B)) (F0 m 0 ls [])
  refine lv_aload_n hx hb dX2_latenessIf_0 rfl (lv_at hl 0 rfl) ?_
  refine mg_get (ci := 2) (C := RX2) (T := TX2) (N := 11) (v := .int (M c0 4)) hx hb hts inX2_latenessIf_X2 hown hC c0 (sh_lt hs_c0) (cell_sh hs_c0 _) rfl 4 (by decide) (hts _ lkX2_latenessIf_f7) rfl rfl dX2_latenessIf_1 ?_
  refine lv_iload_n hx hb dX2_latenessIf_4 rfl (lv_at hl 1 rfl) ?_
  refine lv_aload_n hx hb dX2_latenessIf_5 rfl (lv_at hl 0 rfl) ?_
  refine mg_get (ci := 2) (C := RX2) (T := TX2) (N := 11) (v := .int (M c0 3)) hx hb hts inX2_latenessIf_X2 hown hC c0 (sh_lt hs_c0) (cell_sh hs_c0 _) rfl 3 (by decide) (hts _ lkX2_latenessIf_f13) rfl rfl dX2_latenessIf_6 ?_
  refine lv_isub hx hb dX2_latenessIf_9 ?_
  refine lv_imul hx hb dX2_latenessIf_10 ?_
  exact mr_I hx hb hr hlk hC hf dX2_latenessIf_11

theorem lkX2_beginsAt_f13 : Cond.fieldLink RX2 13 "BerthPlan$Ship" "arrives" "I" ∈ wsX2_beginsAt := by decide +kernel
theorem lkX2_beginsAt_f16 : Cond.fieldLink RX2 16 "BerthPlan$Ship" "isFixed" "Z" ∈ wsX2_beginsAt := by decide +kernel
theorem lkX2_beginsAt_f20 : Cond.fieldLink RX2 20 "BerthPlan$Ship" "fixedPlace" "I" ∈ wsX2_beginsAt := by decide +kernel
theorem lkX2_beginsAt_f23 : Cond.fieldLink RX2 23 "BerthPlan$Ship" "fixedHour" "I" ∈ wsX2_beginsAt := by decide +kernel
theorem lkX2_beginsAt_f26 : Cond.fieldLink RX2 26 "BerthPlan$Ship" "length" "I" ∈ wsX2_beginsAt := by decide +kernel
theorem lkX2_beginsAt_f29 : Cond.fieldLink RX2 29 "BerthPlan$Ship" "need" "I" ∈ wsX2_beginsAt := by decide +kernel
theorem lkX2_beginsAt_f32 : Cond.fieldLink RX2 32 "BerthPlan$Ship" "wanted" "I" ∈ wsX2_beginsAt := by decide +kernel
theorem inX2_beginsAt_X2 : ∀ w ∈ wsX20, w ∈ wsX2_beginsAt := by decide +kernel
abbrev rmX2_beginsAt : Room := { frames := 2, cells := 0, slots := 0, locals := 48 }
def fX2_beginsAt (N : Nat) (c0 : Nat) (x1 : Int32) (M : Mem) : Option (Int32 × Mem) :=
    if ((M c0 6) = 0 : Prop) then (bd (fX0_suits N x1 (M c0 0) (M c0 1) (M c0 5) M) (fun r2 M3 => if (r2 = 0 : Prop) then (some (0, M3)) else (bd (fX0_beginsFrom N (M3 c0 3) M3) (fun r5 M6 => some (r5, M6))))) else (if (x1 = (M c0 7) : Prop) then (some ((1 : Int32) <<< ((M c0 8) &&& 31), M)) else (some (0, M)))
set_option maxHeartbeats 4000000 in
set_option maxRecDepth 100000 in
theorem kX2_beginsAt (l : Launch) (D : va_G) (ad : Nat → Nat) (ca : Nat → ClassId) (B : Nat) (ov : Int64) (N : Nat) (c0 : Nat) (x1 : Int32) (hs_c0 : sh c0) (M : Mem) (r0 : Int32) (M0 : Mem) (hf : fX2_beginsAt N c0 x1 M = some (r0, M0)) : MtI l D ad ca B ov yX2_beginsAt wsX2_beginsAt (rmX2_beginsAt) [.ref (ad c0), .int x1, .ref (ad 1)] M r0 M0 := by
  unfold fX2_beginsAt at hf
  refine Met.ofW (cc := cX2_beginsAt) (maxL := 3) (ret := (some .int)) (by decide) rfl ?_
  intro p e s m args below meth c s₁ Bd hml hv
  obtain ⟨rfl, hw⟩ := hv
  have G : Mx p s m ([.ref (ad c0), .int x1, .ref (ad 1)] : List Value).toArray meth c cX2_beginsAt 3 wsX2_beginsAt RX2 (some .int) := ⟨Bd.exec, Bd.bytes, hml, findClass_of_methodNamed Bd.named, atoms_spec (ws := wsX2_beginsAt) Bd.pre, Bd.returns, Bd.notSynchronized⟩
  have hC := Cu.of hw
  have hl := lv_entry ([.ref (ad c0), .int x1, .ref (ad 1)]) (n := 3) (Nat.le_of_ble_eq_true rfl)
  rw [lg_entry_eq]
  generalize (lg_sl ([.ref (ad c0), .int x1, .ref (ad 1)]) ++ List.replicate (3 - (lg_sl ([.ref (ad c0), .int x1, .ref (ad 1)])).length) Slot.unset).toArray = ls at hl ⊢
  have hl : lv_has ls 3 [(0, .ref (ad c0)), (1, .int x1), (2, .ref (ad 1))] := hl
  obtain ⟨hx, hb, hml, hown, hts, hr, hlk⟩ := id G
  show W p l e (rmX2_beginsAt) s m _ below meth c s.heap [] 0 0 (MQ below (va_Qi (fun (r : Int32) (_ : Unit) => r = r0) (fun _ t => Wp D ad ca B M0 ov t.heap) (Ab B)) _ s 0 0 (Ab B)) (F0 m 0 ls [])
  refine lv_aload_n hx hb dX2_beginsAt_0 rfl (lv_at hl 0 rfl) ?_
  refine mg_get (ci := 2) (C := RX2) (T := TX2) (N := 11) (v := .int (M c0 6)) hx hb hts inX2_beginsAt_X2 hown hC c0 (sh_lt hs_c0) (cell_sh hs_c0 _) rfl 6 (by decide) (hts _ lkX2_beginsAt_f16) rfl rfl dX2_beginsAt_1 ?_
  refine lv_if_eq (tgt := 26) hx hb dX2_beginsAt_4 (by decide) (fun h1 => ?_) (fun h1 => ?_)
  · have hf := it_t h1 hf
    refine lv_aload_n hx hb dX2_beginsAt_26 rfl (lv_at hl 2 rfl) ?_
    refine lv_iload_n hx hb dX2_beginsAt_27 rfl (lv_at hl 1 rfl) ?_
    refine lv_aload_n hx hb dX2_beginsAt_28 rfl (lv_at hl 0 rfl) ?_
    refine mg_get (ci := 2) (C := RX2) (T := TX2) (N := 11) (v := .int (M c0 0)) hx hb hts inX2_beginsAt_X2 hown hC c0 (sh_lt hs_c0) (cell_sh hs_c0 _) rfl 0 (by decide) (hts _ lkX2_beginsAt_f26) rfl rfl dX2_beginsAt_29 ?_
    refine lv_aload_n hx hb dX2_beginsAt_32 rfl (lv_at hl 0 rfl) ?_
    refine mg_get (ci := 2) (C := RX2) (T := TX2) (N := 11) (v := .int (M c0 1)) hx hb hts inX2_beginsAt_X2 hown hC c0 (sh_lt hs_c0) (cell_sh hs_c0 _) rfl 1 (by decide) (hts _ lkX2_beginsAt_f29) rfl rfl dX2_beginsAt_33 ?_
    refine lv_aload_n hx hb dX2_beginsAt_36 rfl (lv_at hl 0 rfl) ?_
    refine mg_get (ci := 2) (C := RX2) (T := TX2) (N := 11) (v := .int (M c0 5)) hx hb hts inX2_beginsAt_X2 hown hC c0 (sh_lt hs_c0) (cell_sh hs_c0 _) rfl 5 (by decide) (hts _ lkX2_beginsAt_f32) rfl rfl dX2_beginsAt_37 ?_
    obtain ⟨r2, M3, hq, hf⟩ := bd_s hf
    refine mc_Vi (As := [.int x1, .int (M c0 0), .int (M c0 1), .int (M c0 5)]) ⟨hx, hb, hml, hown, hts⟩ hC (kX0_suits l D ad ca B ov N x1 (M c0 0) (M c0 1) (M c0 5) M r2 M3 hq) (cwV 4 hts gX2_beginsAt_X0_suits rfl rfl rfl (by decide +kernel) ⟨Nat.le_of_ble_eq_true rfl, Nat.le_of_ble_eq_true rfl⟩) (mg_recv (ci := 0) (C := RX0) (T := TX0) (N := 5) hC 1 (by decide) rfl rfl) rfl hl.1 rfl (Nat.le_of_ble_eq_true rfl) dX2_beginsAt_40 ⟨Nat.zero_le _, Nat.zero_le _⟩ (fun H locs hC => ?_)
    refine lv_if_eq (tgt := 57) hx hb dX2_beginsAt_43 (by decide) (fun h4 => ?_) (fun h4 => ?_)
    · have hf := it_t h4 hf
      refine lv_iconst (v := 0) hx hb dX2_beginsAt_57 (by decide) ?_
      exact mr_I hx hb hr hlk hC hf dX2_beginsAt_58
    · have hf := it_f h4 hf
      refine lv_aload_n hx hb dX2_beginsAt_46 rfl (lv_at hl 2 rfl) ?_
      refine lv_aload_n hx hb dX2_beginsAt_47 rfl (lv_at hl 0 rfl) ?_
      refine mg_get (ci := 2) (C := RX2) (T := TX2) (N := 11) (v := .int (M3 c0 3)) hx hb hts inX2_beginsAt_X2 hown hC c0 (sh_lt hs_c0) (cell_sh hs_c0 _) rfl 3 (by decide) (hts _ lkX2_beginsAt_f13) rfl rfl dX2_beginsAt_48 ?_
      obtain ⟨r5, M6, hq, hf⟩ := bd_s hf
      refine mc_Vi (As := [.int (M3 c0 3)]) ⟨hx, hb, hml, hown, hts⟩ hC (kX0_beginsFrom l D ad ca B ov N (M3 c0 3) M3 r5 M6 hq) (cwV 1 hts gX2_beginsAt_X0_beginsFrom rfl rfl rfl (by decide +kernel) ⟨Nat.le_of_ble_eq_true rfl, Nat.le_of_ble_eq_true rfl⟩) (mg_recv (ci := 0) (C := RX0) (T := TX0) (N := 5) hC 1 (by decide) rfl rfl) rfl hl.1 rfl (Nat.le_of_ble_eq_true rfl) dX2_beginsAt_51 ⟨Nat.zero_le _, Nat.zero_le _⟩ (fun H locs hC => ?_)
      refine lv_goto (tgt := 58) hx hb dX2_beginsAt_54 (by decide) ?_
      exact mr_I hx hb hr hlk hC hf dX2_beginsAt_58
  · have hf := it_f h1 hf
    refine lv_iload_n hx hb dX2_beginsAt_7 rfl (lv_at hl 1 rfl) ?_
    refine lv_aload_n hx hb dX2_beginsAt_8 rfl (lv_at hl 0 rfl) ?_
    refine mg_get (ci := 2) (C := RX2) (T := TX2) (N := 11) (v := .int (M c0 7)) hx hb hts inX2_beginsAt_X2 hown hC c0 (sh_lt hs_c0) (cell_sh hs_c0 _) rfl 7 (by decide) (hts _ lkX2_beginsAt_f20) rfl rfl dX2_beginsAt_9 ?_
    refine lv_icmp_ne (tgt := 24) hx hb dX2_beginsAt_12 (by decide) (fun h7 => ?_) (fun h7 => ?_)
    · have hf := it_f h7 hf
      refine lv_iconst (v := 0) hx hb dX2_beginsAt_24 (by decide) ?_
      exact mr_I hx hb hr hlk hC hf dX2_beginsAt_25
    · have hf := it_t h7 hf
      refine lv_iconst (v := 1) hx hb dX2_beginsAt_15 (by decide) ?_
      refine lv_aload_n hx hb dX2_beginsAt_16 rfl (lv_at hl 0 rfl) ?_
      refine mg_get (ci := 2) (C := RX2) (T := TX2) (N := 11) (v := .int (M c0 8)) hx hb hts inX2_beginsAt_X2 hown hC c0 (sh_lt hs_c0) (cell_sh hs_c0 _) rfl 8 (by decide) (hts _ lkX2_beginsAt_f23) rfl rfl dX2_beginsAt_17 ?_
      refine lv_ishl hx hb dX2_beginsAt_20 ?_
      refine lv_goto (tgt := 25) hx hb dX2_beginsAt_21 (by decide) ?_
      exact mr_I hx hb hr hlk hC hf dX2_beginsAt_25

theorem lkX2_moveTo_f45 : Cond.fieldLink RX2 45 "BerthPlan$Ship" "place" "I" ∈ wsX2_moveTo := by decide +kernel
theorem lkX2_moveTo_f48 : Cond.fieldLink RX2 48 "BerthPlan$Ship" "hour" "I" ∈ wsX2_moveTo := by decide +kernel
theorem inX2_moveTo_X2 : ∀ w ∈ wsX20, w ∈ wsX2_moveTo := by decide +kernel
abbrev rmX2_moveTo : Room := { frames := 0, cells := 0, slots := 0, locals := 0 }
def fX2_moveTo_21 (N : Nat) (c0 : Nat) (x1 : Int32) (x2 : Int32) (y0 : Int32) (M : Mem) : Option (Int32 × Mem) :=
    lq (mw M c0 9 x1) (fun M1 => lq (mw M1 c0 10 x2) (fun M2 => gp (y0 = 0 ∨ y0 = 1) (some (y0, M2))))
def fX2_moveTo (N : Nat) (c0 : Nat) (x1 : Int32) (x2 : Int32) (M : Mem) : Option (Int32 × Mem) :=
    if ((M c0 9) = x1 : Prop) then (if ((M c0 10) = x2 : Prop) then (fX2_moveTo_21 N c0 x1 x2 0 M) else (fX2_moveTo_21 N c0 x1 x2 1 M)) else (fX2_moveTo_21 N c0 x1 x2 1 M)
set_option maxHeartbeats 4000000 in
set_option maxRecDepth 100000 in
theorem wX2_moveTo_21 {p : Program} {l : Launch} {e : Env} {s : State} {m : MethodId} {args : Array Value} {below : List Frame} {meth : Method} {c : Code} {D : va_G} {ad : Nat → Nat} {ca : Nat → ClassId} {B : Nat} {ov : Int64} {r0 : Int32} {M0 : Mem} (G : Mx p s m args meth c cX2_moveTo 4 wsX2_moveTo RX2 (some .boolean)) (N : Nat) : ∀ (c0 : Nat) (x1 : Int32) (x2 : Int32) (y0 : Int32) (M : Mem) (H : Heap) (locs : List Loc) (ls : Array Slot), sh c0 → lv_has ls 4 [(0, .ref (ad c0)), (1, .int x1), (2, .int x2)] → Cu D ad ca B M ov s H locs → (fX2_moveTo_21 N) c0 x1 x2 y0 M = some (r0, M0) → W p l e (rmX2_moveTo) s m args below meth c H locs 0 0 (MQ below (va_Qi (fun (r : Int32) (_ : Unit) => r = r0) (fun _ t => Wp D ad ca B M0 ov t.heap) (Ab B)) args s 0 0 (Ab B)) (F0 m 21 ls [.int y0]) := by
  obtain ⟨hx, hb, hml, hown, hts, hr, hlk⟩ := id G
  intro c0 x1 x2 y0 M H locs ls hs_c0 hl hC hf
  unfold fX2_moveTo_21 at hf
  refine lv_istore_n (lv' := [(3, .int y0), (0, .ref (ad c0)), (1, .int x1), (2, .int x2)]) hx hb dX2_moveTo_21 rfl hl (by decide) rfl (fun ls hl => ?_)
  refine lv_aload_n hx hb dX2_moveTo_22 rfl (lv_at hl 1 rfl) ?_
  refine lv_iload_n hx hb dX2_moveTo_23 rfl (lv_at hl 2 rfl) ?_
  refine mg_put (ci := 2) (C := RX2) (T := TX2) (N := 11) (ty := .int) (v := .int x1) (x := x1) hx hb hts inX2_moveTo_X2 tyX2 tyX2_ok nmX2 hown hC c0 (sh_lt hs_c0) (cell_sh hs_c0 _) rfl 9 (by decide) (hts _ lkX2_moveTo_f45) rfl rfl (by decide +kernel) rfl rfl (Nat.le_of_ble_eq_true rfl) (cell_sh hs_c0 _) dX2_moveTo_24 (fun H locs hC => ?_)
  obtain ⟨M1, eM1⟩ : ∃ z : Mem, z = mw M c0 9 x1 := ⟨_, rfl⟩
  rw [← eM1] at hC
  have hf := lq_k eM1 hf
  refine lv_aload_n hx hb dX2_moveTo_27 rfl (lv_at hl 1 rfl) ?_
  refine lv_iload_n hx hb dX2_moveTo_28 rfl (lv_at hl 3 rfl) ?_
  refine mg_put (ci := 2) (C := RX2) (T := TX2) (N := 11) (ty := .int) (v := .int x2) (x := x2) hx hb hts inX2_moveTo_X2 tyX2 tyX2_ok nmX2 hown hC c0 (sh_lt hs_c0) (cell_sh hs_c0 _) rfl 10 (by decide) (hts _ lkX2_moveTo_f48) rfl rfl (by decide +kernel) rfl rfl (Nat.le_of_ble_eq_true rfl) (cell_sh hs_c0 _) dX2_moveTo_29 (fun H locs hC => ?_)
  obtain ⟨M2, eM2⟩ : ∃ z : Mem, z = mw M1 c0 10 x2 := ⟨_, rfl⟩
  rw [← eM2] at hC
  have hf := lq_k eM2 hf
  refine lv_iload_n hx hb dX2_moveTo_32 rfl (lv_at hl 0 rfl) ?_
  obtain ⟨g3, hf⟩ := gp_s hf
  exact mr_Z hx hb hr hlk hC g3 hf dX2_moveTo_33
set_option maxHeartbeats 4000000 in
set_option maxRecDepth 100000 in
theorem kX2_moveTo (l : Launch) (D : va_G) (ad : Nat → Nat) (ca : Nat → ClassId) (B : Nat) (ov : Int64) (N : Nat) (c0 : Nat) (x1 : Int32) (x2 : Int32) (hs_c0 : sh c0) (M : Mem) (r0 : Int32) (M0 : Mem) (hf : fX2_moveTo N c0 x1 x2 M = some (r0, M0)) : MtI l D ad ca B ov yX2_moveTo wsX2_moveTo (rmX2_moveTo) [.ref (ad c0), .int x1, .int x2] M r0 M0 := by
  unfold fX2_moveTo at hf
  refine Met.ofW (cc := cX2_moveTo) (maxL := 4) (ret := (some .boolean)) (by decide) rfl ?_
  intro p e s m args below meth c s₁ Bd hml hv
  obtain ⟨rfl, hw⟩ := hv
  have G : Mx p s m ([.ref (ad c0), .int x1, .int x2] : List Value).toArray meth c cX2_moveTo 4 wsX2_moveTo RX2 (some .boolean) := ⟨Bd.exec, Bd.bytes, hml, findClass_of_methodNamed Bd.named, atoms_spec (ws := wsX2_moveTo) Bd.pre, Bd.returns, Bd.notSynchronized⟩
  have hC := Cu.of hw
  have hl := lv_entry ([.ref (ad c0), .int x1, .int x2]) (n := 4) (Nat.le_of_ble_eq_true rfl)
  rw [lg_entry_eq]
  generalize (lg_sl ([.ref (ad c0), .int x1, .int x2]) ++ List.replicate (4 - (lg_sl ([.ref (ad c0), .int x1, .int x2])).length) Slot.unset).toArray = ls at hl ⊢
  have hl : lv_has ls 4 [(0, .ref (ad c0)), (1, .int x1), (2, .int x2)] := hl
  obtain ⟨hx, hb, hml, hown, hts, hr, hlk⟩ := id G
  show W p l e (rmX2_moveTo) s m _ below meth c s.heap [] 0 0 (MQ below (va_Qi (fun (r : Int32) (_ : Unit) => r = r0) (fun _ t => Wp D ad ca B M0 ov t.heap) (Ab B)) _ s 0 0 (Ab B)) (F0 m 0 ls [])
  refine lv_aload_n hx hb dX2_moveTo_0 rfl (lv_at hl 0 rfl) ?_
  refine mg_get (ci := 2) (C := RX2) (T := TX2) (N := 11) (v := .int (M c0 9)) hx hb hts inX2_moveTo_X2 hown hC c0 (sh_lt hs_c0) (cell_sh hs_c0 _) rfl 9 (by decide) (hts _ lkX2_moveTo_f45) rfl rfl dX2_moveTo_1 ?_
  refine lv_iload_n hx hb dX2_moveTo_4 rfl (lv_at hl 1 rfl) ?_
  refine lv_icmp_ne (tgt := 16) hx hb dX2_moveTo_5 (by decide) (fun h1 => ?_) (fun h1 => ?_)
  · have hf := it_f h1 hf
    refine lv_iconst (v := 1) hx hb dX2_moveTo_16 (by decide) ?_
    refine lv_goto (tgt := 21) hx hb dX2_moveTo_17 (by decide) ?_
    exact wX2_moveTo_21 G N c0 x1 x2 1 M _ _ _ hs_c0 (lv_sub hl [0, 1, 2] rfl) hC hf
  · have hf := it_t h1 hf
    refine lv_aload_n hx hb dX2_moveTo_8 rfl (lv_at hl 0 rfl) ?_
    refine mg_get (ci := 2) (C := RX2) (T := TX2) (N := 11) (v := .int (M c0 10)) hx hb hts inX2_moveTo_X2 hown hC c0 (sh_lt hs_c0) (cell_sh hs_c0 _) rfl 10 (by decide) (hts _ lkX2_moveTo_f48) rfl rfl dX2_moveTo_9 ?_
    refine lv_iload_n hx hb dX2_moveTo_12 rfl (lv_at hl 2 rfl) ?_
    refine lv_icmp_eq (tgt := 20) hx hb dX2_moveTo_13 (by decide) (fun h2 => ?_) (fun h2 => ?_)
    · have hf := it_t h2 hf
      refine lv_iconst (v := 0) hx hb dX2_moveTo_20 (by decide) ?_
      exact wX2_moveTo_21 G N c0 x1 x2 0 M _ _ _ hs_c0 (lv_sub hl [0, 1, 2] rfl) hC hf
    · have hf := it_f h2 hf
      refine lv_iconst (v := 1) hx hb dX2_moveTo_16 (by decide) ?_
      refine lv_goto (tgt := 21) hx hb dX2_moveTo_17 (by decide) ?_
      exact wX2_moveTo_21 G N c0 x1 x2 1 M _ _ _ hs_c0 (lv_sub hl [0, 1, 2] rfl) hC hf
