theorem lkX4_isDeep_f7 : Cond.fieldLink RX4 7 "BerthPlanModel" "depthOf" "[I" ∈ wsX4_isDeep := by decide +kernel
theorem lkX4_isDeep_f22 : Cond.fieldLink RX4 22 "BerthPlanModel" "length" "[I" ∈ wsX4_isDeep := by decide +kernel
theorem lkX4_isDeep_f25 : Cond.fieldLink RX4 25 "BerthPlanModel" "need" "[I" ∈ wsX4_isDeep := by decide +kernel
theorem lkX4_isDeep_f52 : Cond.fieldLink RX4 52 "BerthPlanModel" "places" "I" ∈ wsX4_isDeep := by decide +kernel
theorem inX4_isDeep_X4 : ∀ w ∈ wsX40, w ∈ wsX4_isDeep := by decide +kernel
abbrev rmX4_isDeep : Room := { frames := 0, cells := 0, slots := 0, locals := 0 }
def fX4_isDeep_24 (N : Nat) : Nat → Int32 → Int32 → Int32 → Int32 → Mem → Option (Int32 × Mem)
  | 0, _, _, _, _, _ => none
  | n + 1, x1, x2, x3, x4, M =>
    gd (x1) 4 (if ((x2 + (M 21 (x1 : Int32).toNatClampNeg)) ≤ x4 : Prop) then (gp (x3 = 0 ∨ x3 = 1) (some (x3, M))) else (if (x3 = 0 : Prop) then (gp (x3 = 0 ∨ x3 = 1) (some (x3, M))) else (gd (x4) 6 (gd (x1) 4 (if ((M 17 (x4 : Int32).toNatClampNeg) < (M 22 (x1 : Int32).toNatClampNeg) : Prop) then (lq (x4 + 1) (fun z9 => fX4_isDeep_24 N n x1 x2 0 z9 M)) else (lq (x4 + 1) (fun z10 => fX4_isDeep_24 N n x1 x2 1 z10 M)))))))
theorem fX4_isDeep_24_s {N n : Nat} {x1 : Int32} {x2 : Int32} {x3 : Int32} {x4 : Int32} {M : Mem} : fX4_isDeep_24 N (n + 1) x1 x2 x3 x4 M =
    gd (x1) 4 (if ((x2 + (M 21 (x1 : Int32).toNatClampNeg)) ≤ x4 : Prop) then (gp (x3 = 0 ∨ x3 = 1) (some (x3, M))) else (if (x3 = 0 : Prop) then (gp (x3 = 0 ∨ x3 = 1) (some (x3, M))) else (gd (x4) 6 (gd (x1) 4 (if ((M 17 (x4 : Int32).toNatClampNeg) < (M 22 (x1 : Int32).toNatClampNeg) : Prop) then (lq (x4 + 1) (fun z9 => fX4_isDeep_24 N n x1 x2 0 z9 M)) else (lq (x4 + 1) (fun z10 => fX4_isDeep_24 N n x1 x2 1 z10 M))))))) := rfl
def fX4_isDeep (N : Nat) (x1 : Int32) (x2 : Int32) (M : Mem) : Option (Int32 × Mem) :=
    gd (x1) 4 (if ((M 16 1) < (x2 + (M 21 (x1 : Int32).toNatClampNeg)) : Prop) then (fX4_isDeep_24 N N x1 x2 0 x2 M) else (fX4_isDeep_24 N N x1 x2 1 x2 M))
set_option maxHeartbeats 4000000 in
set_option maxRecDepth 100000 in
theorem wX4_isDeep_24 {p : Program} {l : Launch} {e : Env} {s : State} {m : MethodId} {args : Array Value} {below : List Frame} {meth : Method} {c : Code} {D : va_G} {ad : Nat → Nat} {ca : Nat → ClassId} {B : Nat} {ov : Int64} {r0 : Int32} {M0 : Mem} (G : Mx p s m args meth c cX4_isDeep 5 wsX4_isDeep RX4 (some .boolean)) (N : Nat) : ∀ (n : Nat), ∀ (x1 : Int32) (x2 : Int32) (x3 : Int32) (x4 : Int32) (M : Mem) (H : Heap) (locs : List Loc) (ls : Array Slot), lv_has ls 5 [(0, .ref (ad 16)), (1, .int x1), (2, .int x2), (3, .int x3), (4, .int x4)] → Cu D ad ca B M ov s H locs → (fX4_isDeep_24 N n) x1 x2 x3 x4 M = some (r0, M0) → W p l e (rmX4_isDeep) s m args below meth c H locs 0 0 (MQ below (va_Qi (fun (r : Int32) (_ : Unit) => r = r0) (fun _ t => Wp D ad ca B M0 ov t.heap) (Ab B)) args s 0 0 (Ab B)) (F0 m 24 ls []) := by
  obtain ⟨hx, hb, hml, hown, hts, hr, hlk⟩ := id G
  intro n
  induction n with
  | zero =>
    intro x1 x2 x3 x4 M H locs ls hl hC hf
    cases hf
  | succ n ih =>
    intro x1 x2 x3 x4 M H locs ls hl hC hf
    have hf := (fX4_isDeep_24_s).symm.trans hf
    refine lv_iload hx hb dX4_isDeep_24 (lv_at hl 4 rfl) ?_
    refine lv_iload_n hx hb dX4_isDeep_26 rfl (lv_at hl 2 rfl) ?_
    refine lv_aload_n hx hb dX4_isDeep_27 rfl (lv_at hl 0 rfl) ?_
    refine mg_get (ci := 4) (C := RX4) (T := TX4) (N := 19) (v := .ref (ad 21)) hx hb hts inX4_isDeep_X4 hown hC 16 (by decide) rfl rfl 9 (by decide) (hts _ lkX4_isDeep_f22) rfl rfl dX4_isDeep_28 ?_
    refine lv_iload_n hx hb dX4_isDeep_31 rfl (lv_at hl 1 rfl) ?_
    obtain ⟨g1, hf⟩ := gd_s hf
    refine mg_iald (n := 4) (cA := ca 21) hx hb hC 21 13 (by decide) rfl rfl g1 dX4_isDeep_32 ?_
    refine lv_iadd hx hb dX4_isDeep_33 ?_
    refine lv_icmp_ge (tgt := 69) hx hb dX4_isDeep_34 (by decide) (fun h2 => ?_) (fun h2 => ?_)
    · have hf := it_t h2 hf
      refine lv_iload_n hx hb dX4_isDeep_69 rfl (lv_at hl 3 rfl) ?_
      obtain ⟨g3, hf⟩ := gp_s hf
      exact mr_Z hx hb hr hlk hC g3 hf dX4_isDeep_70
    · have hf := it_f h2 hf
      refine lv_iload_n hx hb dX4_isDeep_37 rfl (lv_at hl 3 rfl) ?_
      refine lv_if_eq (tgt := 69) hx hb dX4_isDeep_38 (by decide) (fun h4 => ?_) (fun h4 => ?_)
      · have hf := it_t h4 hf
        refine lv_iload_n hx hb dX4_isDeep_69 rfl (lv_at hl 3 rfl) ?_
        obtain ⟨g5, hf⟩ := gp_s hf
        exact mr_Z hx hb hr hlk hC g5 hf dX4_isDeep_70
      · have hf := it_f h4 hf
        refine lv_aload_n hx hb dX4_isDeep_41 rfl (lv_at hl 0 rfl) ?_
        refine mg_get (ci := 4) (C := RX4) (T := TX4) (N := 19) (v := .ref (ad 17)) hx hb hts inX4_isDeep_X4 hown hC 16 (by decide) rfl rfl 5 (by decide) (hts _ lkX4_isDeep_f7) rfl rfl dX4_isDeep_42 ?_
        refine lv_iload hx hb dX4_isDeep_45 (lv_at hl 4 rfl) ?_
        obtain ⟨g6, hf⟩ := gd_s hf
        refine mg_iald (n := 6) (cA := ca 17) hx hb hC 17 9 (by decide) rfl rfl g6 dX4_isDeep_47 ?_
        refine lv_aload_n hx hb dX4_isDeep_48 rfl (lv_at hl 0 rfl) ?_
        refine mg_get (ci := 4) (C := RX4) (T := TX4) (N := 19) (v := .ref (ad 22)) hx hb hts inX4_isDeep_X4 hown hC 16 (by decide) rfl rfl 10 (by decide) (hts _ lkX4_isDeep_f25) rfl rfl dX4_isDeep_49 ?_
        refine lv_iload_n hx hb dX4_isDeep_52 rfl (lv_at hl 1 rfl) ?_
        obtain ⟨g7, hf⟩ := gd_s hf
        refine mg_iald (n := 4) (cA := ca 22) hx hb hC 22 14 (by decide) rfl rfl g7 dX4_isDeep_53 ?_
        refine lv_icmp_lt (tgt := 61) hx hb dX4_isDeep_54 (by decide) (fun h8 => ?_) (fun h8 => ?_)
        · have hf := it_t h8 hf
          refine lv_iconst (v := 0) hx hb dX4_isDeep_61 (by decide) ?_
          refine lv_istore_n (lv' := [(3, .int 0), (0, .ref (ad 16)), (1, .int x1), (2, .int x2), (4, .int x4)]) hx hb dX4_isDeep_62 rfl hl (by decide) rfl (fun ls hl => ?_)
          obtain ⟨z9, ez9⟩ : ∃ y : Int32, y = x4 + 1 := ⟨_, rfl⟩
          have hf := lq_k ez9 hf
          refine lv_iinc (v := z9) (lv' := [(4, .int z9), (3, .int 0), (0, .ref (ad 16)), (1, .int x1), (2, .int x2)]) hx hb dX4_isDeep_63 hl (k := 4) rfl (by rw [ez9]; rfl) (by decide) rfl (fun ls hl => ?_)
          refine lv_goto (tgt := 24) hx hb dX4_isDeep_66 (by decide) ?_
          exact ih x1 x2 0 z9 M _ _ _ (lv_sub hl [2, 3, 4, 1, 0] rfl) hC hf
        · have hf := it_f h8 hf
          refine lv_iconst (v := 1) hx hb dX4_isDeep_57 (by decide) ?_
          refine lv_goto (tgt := 62) hx hb dX4_isDeep_58 (by decide) ?_
          refine lv_istore_n (lv' := [(3, .int 1), (0, .ref (ad 16)), (1, .int x1), (2, .int x2), (4, .int x4)]) hx hb dX4_isDeep_62 rfl hl (by decide) rfl (fun ls hl => ?_)
          obtain ⟨z10, ez10⟩ : ∃ y : Int32, y = x4 + 1 := ⟨_, rfl⟩
          have hf := lq_k ez10 hf
          refine lv_iinc (v := z10) (lv' := [(4, .int z10), (3, .int 1), (0, .ref (ad 16)), (1, .int x1), (2, .int x2)]) hx hb dX4_isDeep_63 hl (k := 4) rfl (by rw [ez10]; rfl) (by decide) rfl (fun ls hl => ?_)
          refine lv_goto (tgt := 24) hx hb dX4_isDeep_66 (by decide) ?_
          exact ih x1 x2 1 z10 M _ _ _ (lv_sub hl [2, 3, 4, 1, 0] rfl) hC hf
set_option maxHeartbeats 4000000 in
set_option maxRecDepth 100000 in
theorem kX4_isDeep (l : Launch) (D : va_G) (ad : Nat → Nat) (ca : Nat → ClassId) (B : Nat) (ov : Int64) (N : Nat) (x1 : Int32) (x2 : Int32) (M : Mem) (r0 : Int32) (M0 : Mem) (hf : fX4_isDeep N x1 x2 M = some (r0, M0)) : MtI l D ad ca B ov yX4_isDeep wsX4_isDeep (rmX4_isDeep) [.ref (ad 16), .int x1, .int x2] M r0 M0 := by
  unfold fX4_isDeep at hf
  refine Met.ofW (cc := cX4_isDeep) (maxL := 5) (ret := (some .boolean)) (by decide) rfl ?_
  intro p e s m args below meth c s₁ Bd hml hv
  obtain ⟨rfl, hw⟩ := hv
  have G : Mx p s m ([.ref (ad 16), .int x1, .int x2] : List Value).toArray meth c cX4_isDeep 5 wsX4_isDeep RX4 (some .boolean) := ⟨Bd.exec, Bd.bytes, hml, findClass_of_methodNamed Bd.named, atoms_spec (ws := wsX4_isDeep) Bd.pre, Bd.returns, Bd.notSynchronized⟩
  have hC := Cu.of hw
  have hl := lv_entry ([.ref (ad 16), .int x1, .int x2]) (n := 5) (Nat.le_of_ble_eq_true rfl)
  rw [lg_entry_eq]
  generalize (lg_sl ([.ref (ad 16), .int x1, .int x2]) ++ List.replicate (5 - (lg_sl ([.ref (ad 16), .int x1, .int x2])).length) Slot.unset).toArray = ls at hl ⊢
  have hl : lv_has ls 5 [(0, .ref (ad 16)), (1, .int x1), (2, .int x2)] := hl
  obtain ⟨hx, hb, hml, hown, hts, hr, hlk⟩ := id G
  show W p l e (rmX4_isDeep) s m _ below meth c s.heap [] 0 0 (MQ below (va_Qi (fun (r : Int32) (_ : Unit) => r = r0) (fun _ t => Wp D ad ca B M0 ov t.heap) (Ab B)) _ s 0 0 (Ab B)) (F0 m 0 ls [])
  refine lv_iload_n hx hb dX4_isDeep_0 rfl (lv_at hl 2 rfl) ?_
  refine lv_aload_n hx hb dX4_isDeep_1 rfl (lv_at hl 0 rfl) ?_
  refine mg_get (ci := 4) (C := RX4) (T := TX4) (N := 19) (v := .ref (ad 21)) hx hb hts inX4_isDeep_X4 hown hC 16 (by decide) rfl rfl 9 (by decide) (hts _ lkX4_isDeep_f22) rfl rfl dX4_isDeep_2 ?_
  refine lv_iload_n hx hb dX4_isDeep_5 rfl (lv_at hl 1 rfl) ?_
  obtain ⟨g1, hf⟩ := gd_s hf
  refine mg_iald (n := 4) (cA := ca 21) hx hb hC 21 13 (by decide) rfl rfl g1 dX4_isDeep_6 ?_
  refine lv_iadd hx hb dX4_isDeep_7 ?_
  refine lv_aload_n hx hb dX4_isDeep_8 rfl (lv_at hl 0 rfl) ?_
  refine mg_get (ci := 4) (C := RX4) (T := TX4) (N := 19) (v := .int (M 16 1)) hx hb hts inX4_isDeep_X4 hown hC 16 (by decide) rfl rfl 1 (by decide) (hts _ lkX4_isDeep_f52) rfl rfl dX4_isDeep_9 ?_
  refine lv_icmp_gt (tgt := 19) hx hb dX4_isDeep_12 (by decide) (fun h2 => ?_) (fun h2 => ?_)
  · have hf := it_t h2 hf
    refine lv_iconst (v := 0) hx hb dX4_isDeep_19 (by decide) ?_
    refine lv_istore_n (lv' := [(3, .int 0), (0, .ref (ad 16)), (1, .int x1), (2, .int x2)]) hx hb dX4_isDeep_20 rfl hl (by decide) rfl (fun ls hl => ?_)
    refine lv_iload_n hx hb dX4_isDeep_21 rfl (lv_at hl 3 rfl) ?_
    refine lv_istore (lv' := [(4, .int x2), (3, .int 0), (0, .ref (ad 16)), (1, .int x1), (2, .int x2)]) hx hb dX4_isDeep_22 hl (by decide) rfl (fun ls hl => ?_)
    exact wX4_isDeep_24 G N N x1 x2 0 x2 M _ _ _ (lv_sub hl [2, 3, 4, 1, 0] rfl) hC hf
  · have hf := it_f h2 hf
    refine lv_iconst (v := 1) hx hb dX4_isDeep_15 (by decide) ?_
    refine lv_goto (tgt := 20) hx hb dX4_isDeep_16 (by decide) ?_
    refine lv_istore_n (lv' := [(3, .int 1), (0, .ref (ad 16)), (1, .int x1), (2, .int x2)]) hx hb dX4_isDeep_20 rfl hl (by decide) rfl (fun ls hl => ?_)
    refine lv_iload_n hx hb dX4_isDeep_21 rfl (lv_at hl 3 rfl) ?_
    refine lv_istore (lv' := [(4, .int x2), (3, .int 1), (0, .ref (ad 16)), (1, .int x1), (2, .int x2)]) hx hb dX4_isDeep_22 hl (by decide) rfl (fun ls hl => ?_)
    exact wX4_isDeep_24 G N N x1 x2 1 x2 M _ _ _ (lv_sub hl [2, 3, 4, 1, 0] rfl) hC hf

theorem lkX4_hasGear_f13 : Cond.fieldLink RX4 13 "BerthPlanModel" "gearOf" "[I" ∈ wsX4_hasGear := by decide +kernel
theorem lkX4_hasGear_f22 : Cond.fieldLink RX4 22 "BerthPlanModel" "length" "[I" ∈ wsX4_hasGear := by decide +kernel
theorem lkX4_hasGear_f37 : Cond.fieldLink RX4 37 "BerthPlanModel" "kinds" "[I" ∈ wsX4_hasGear := by decide +kernel
theorem lkX4_hasGear_f52 : Cond.fieldLink RX4 52 "BerthPlanModel" "places" "I" ∈ wsX4_hasGear := by decide +kernel
theorem inX4_hasGear_X4 : ∀ w ∈ wsX40, w ∈ wsX4_hasGear := by decide +kernel
abbrev rmX4_hasGear : Room := { frames := 0, cells := 0, slots := 0, locals := 0 }
def fX4_hasGear_43 (N : Nat) (x1 : Int32) (x3 : Int32) (M : Mem) : Option (Int32 × Mem) :=
    gd (x1) 4 (gd (x1) 4 (if (((M 26 (x1 : Int32).toNatClampNeg) &&& x3) = (M 26 (x1 : Int32).toNatClampNeg) : Prop) then (some (1, M)) else (some (0, M))))
def fX4_hasGear_5 (N : Nat) : Nat → Int32 → Int32 → Int32 → Int32 → Mem → Option (Int32 × Mem)
  | 0, _, _, _, _, _ => none
  | n + 1, x1, x2, x3, x4, M =>
    gd (x1) 4 (if ((x2 + (M 21 (x1 : Int32).toNatClampNeg)) ≤ x4 : Prop) then (fX4_hasGear_43 N x1 x3 M) else (if ((M 16 1) ≤ x4 : Prop) then (fX4_hasGear_43 N x1 x3 M) else (gd (x4) 6 (lq (x3 ||| (M 18 (x4 : Int32).toNatClampNeg)) (fun z5 => lq (x4 + 1) (fun z6 => fX4_hasGear_5 N n x1 x2 z5 z6 M))))))
theorem fX4_hasGear_5_s {N n : Nat} {x1 : Int32} {x2 : Int32} {x3 : Int32} {x4 : Int32} {M : Mem} : fX4_hasGear_5 N (n + 1) x1 x2 x3 x4 M =
    gd (x1) 4 (if ((x2 + (M 21 (x1 : Int32).toNatClampNeg)) ≤ x4 : Prop) then (fX4_hasGear_43 N x1 x3 M) else (if ((M 16 1) ≤ x4 : Prop) then (fX4_hasGear_43 N x1 x3 M) else (gd (x4) 6 (lq (x3 ||| (M 18 (x4 : Int32).toNatClampNeg)) (fun z5 => lq (x4 + 1) (fun z6 => fX4_hasGear_5 N n x1 x2 z5 z6 M)))))) := rfl
def fX4_hasGear (N : Nat) (x1 : Int32) (x2 : Int32) (M : Mem) : Option (Int32 × Mem) :=
    fX4_hasGear_5 N N x1 x2 0 x2 M
set_option maxHeartbeats 4000000 in
set_option maxRecDepth 100000 in
theorem wX4_hasGear_43 {p : Program} {l : Launch} {e : Env} {s : State} {m : MethodId} {args : Array Value} {below : List Frame} {meth : Method} {c : Code} {D : va_G} {ad : Nat → Nat} {ca : Nat → ClassId} {B : Nat} {ov : Int64} {r0 : Int32} {M0 : Mem} (G : Mx p s m args meth c cX4_hasGear 5 wsX4_hasGear RX4 (some .boolean)) (N : Nat) : ∀ (x1 : Int32) (x3 : Int32) (M : Mem) (H : Heap) (locs : List Loc) (ls : Array Slot), lv_has ls 5 [(0, .ref (ad 16)), (1, .int x1), (3, .int x3)] → Cu D ad ca B M ov s H locs → (fX4_hasGear_43 N) x1 x3 M = some (r0, M0) → W p l e (rmX4_hasGear) s m args below meth c H locs 0 0 (MQ below (va_Qi (fun (r : Int32) (_ : Unit) => r = r0) (fun _ t => Wp D ad ca B M0 ov t.heap) (Ab B)) args s 0 0 (Ab B)) (F0 m 43 ls []) := by
  obtain ⟨hx, hb, hml, hown, hts, hr, hlk⟩ := id G
  intro x1 x3 M H locs ls hl hC hf
  unfold fX4_hasGear_43 at hf
  refine lv_aload_n hx hb dX4_hasGear_43 rfl (lv_at hl 0 rfl) ?_
  refine mg_get (ci := 4) (C := RX4) (T := TX4) (N := 19) (v := .ref (ad 26)) hx hb hts inX4_hasGear_X4 hown hC 16 (by decide) rfl rfl 14 (by decide) (hts _ lkX4_hasGear_f37) rfl rfl dX4_hasGear_44 ?_
  refine lv_iload_n hx hb dX4_hasGear_47 rfl (lv_at hl 1 rfl) ?_
  obtain ⟨g1, hf⟩ := gd_s hf
  refine mg_iald (n := 4) (cA := ca 26) hx hb hC 26 18 (by decide) rfl rfl g1 dX4_hasGear_48 ?_
  refine lv_iload_n hx hb dX4_hasGear_49 rfl (lv_at hl 2 rfl) ?_
  refine lv_iand hx hb dX4_hasGear_50 ?_
  refine lv_aload_n hx hb dX4_hasGear_51 rfl (lv_at hl 0 rfl) ?_
  refine mg_get (ci := 4) (C := RX4) (T := TX4) (N := 19) (v := .ref (ad 26)) hx hb hts inX4_hasGear_X4 hown hC 16 (by decide) rfl rfl 14 (by decide) (hts _ lkX4_hasGear_f37) rfl rfl dX4_hasGear_52 ?_
  refine lv_iload_n hx hb dX4_hasGear_55 rfl (lv_at hl 1 rfl) ?_
  obtain ⟨g2, hf⟩ := gd_s hf
  refine mg_iald (n := 4) (cA := ca 26) hx hb hC 26 18 (by decide) rfl rfl g2 dX4_hasGear_56 ?_
  refine lv_icmp_ne (tgt := 64) hx hb dX4_hasGear_57 (by decide) (fun h3 => ?_) (fun h3 => ?_)
  · have hf := it_f h3 hf
    refine lv_iconst (v := 0) hx hb dX4_hasGear_64 (by decide) ?_
    exact mr_Z hx hb hr hlk hC (by decide) hf dX4_hasGear_65
  · have hf := it_t h3 hf
    refine lv_iconst (v := 1) hx hb dX4_hasGear_60 (by decide) ?_
    refine lv_goto (tgt := 65) hx hb dX4_hasGear_61 (by decide) ?_
    exact mr_Z hx hb hr hlk hC (by decide) hf dX4_hasGear_65
set_option maxHeartbeats 4000000 in
set_option maxRecDepth 100000 in
theorem wX4_hasGear_5 {p : Program} {l : Launch} {e : Env} {s : State} {m : MethodId} {args : Array Value} {below : List Frame} {meth : Method} {c : Code} {D : va_G} {ad : Nat → Nat} {ca : Nat → ClassId} {B : Nat} {ov : Int64} {r0 : Int32} {M0 : Mem} (G : Mx p s m args meth c cX4_hasGear 5 wsX4_hasGear RX4 (some .boolean)) (N : Nat) : ∀ (n : Nat), ∀ (x1 : Int32) (x2 : Int32) (x3 : Int32) (x4 : Int32) (M : Mem) (H : Heap) (locs : List Loc) (ls : Array Slot), lv_has ls 5 [(0, .ref (ad 16)), (1, .int x1), (2, .int x2), (3, .int x3), (4, .int x4)] → Cu D ad ca B M ov s H locs → (fX4_hasGear_5 N n) x1 x2 x3 x4 M = some (r0, M0) → W p l e (rmX4_hasGear) s m args below meth c H locs 0 0 (MQ below (va_Qi (fun (r : Int32) (_ : Unit) => r = r0) (fun _ t => Wp D ad ca B M0 ov t.heap) (Ab B)) args s 0 0 (Ab B)) (F0 m 5 ls []) := by
  obtain ⟨hx, hb, hml, hown, hts, hr, hlk⟩ := id G
  intro n
  induction n with
  | zero =>
    intro x1 x2 x3 x4 M H locs ls hl hC hf
    cases hf
  | succ n ih =>
    intro x1 x2 x3 x4 M H locs ls hl hC hf
    have hf := (fX4_hasGear_5_s).symm.trans hf
    refine lv_iload hx hb dX4_hasGear_5 (lv_at hl 4 rfl) ?_
    refine lv_iload_n hx hb dX4_hasGear_7 rfl (lv_at hl 2 rfl) ?_
    refine lv_aload_n hx hb dX4_hasGear_8 rfl (lv_at hl 0 rfl) ?_
    refine mg_get (ci := 4) (C := RX4) (T := TX4) (N := 19) (v := .ref (ad 21)) hx hb hts inX4_hasGear_X4 hown hC 16 (by decide) rfl rfl 9 (by decide) (hts _ lkX4_hasGear_f22) rfl rfl dX4_hasGear_9 ?_
    refine lv_iload_n hx hb dX4_hasGear_12 rfl (lv_at hl 1 rfl) ?_
    obtain ⟨g1, hf⟩ := gd_s hf
    refine mg_iald (n := 4) (cA := ca 21) hx hb hC 21 13 (by decide) rfl rfl g1 dX4_hasGear_13 ?_
    refine lv_iadd hx hb dX4_hasGear_14 ?_
    refine lv_icmp_ge (tgt := 43) hx hb dX4_hasGear_15 (by decide) (fun h2 => ?_) (fun h2 => ?_)
    · have hf := it_t h2 hf
      exact wX4_hasGear_43 G N x1 x3 M _ _ _ (lv_sub hl [0, 1, 3] rfl) hC hf
    · have hf := it_f h2 hf
      refine lv_iload hx hb dX4_hasGear_18 (lv_at hl 4 rfl) ?_
      refine lv_aload_n hx hb dX4_hasGear_20 rfl (lv_at hl 0 rfl) ?_
      refine mg_get (ci := 4) (C := RX4) (T := TX4) (N := 19) (v := .int (M 16 1)) hx hb hts inX4_hasGear_X4 hown hC 16 (by decide) rfl rfl 1 (by decide) (hts _ lkX4_hasGear_f52) rfl rfl dX4_hasGear_21 ?_
      refine lv_icmp_ge (tgt := 43) hx hb dX4_hasGear_24 (by decide) (fun h3 => ?_) (fun h3 => ?_)
      · have hf := it_t h3 hf
        exact wX4_hasGear_43 G N x1 x3 M _ _ _ (lv_sub hl [0, 1, 3] rfl) hC hf
      · have hf := it_f h3 hf
        refine lv_iload_n hx hb dX4_hasGear_27 rfl (lv_at hl 3 rfl) ?_
        refine lv_aload_n hx hb dX4_hasGear_28 rfl (lv_at hl 0 rfl) ?_
        refine mg_get (ci := 4) (C := RX4) (T := TX4) (N := 19) (v := .ref (ad 18)) hx hb hts inX4_hasGear_X4 hown hC 16 (by decide) rfl rfl 6 (by decide) (hts _ lkX4_hasGear_f13) rfl rfl dX4_hasGear_29 ?_
        refine lv_iload hx hb dX4_hasGear_32 (lv_at hl 4 rfl) ?_
        obtain ⟨g4, hf⟩ := gd_s hf
        refine mg_iald (n := 6) (cA := ca 18) hx hb hC 18 10 (by decide) rfl rfl g4 dX4_hasGear_34 ?_
        refine lv_ior hx hb dX4_hasGear_35 ?_
        refine lv_topi (fun z5 ez5 => ?_)
        have hf := lq_k ez5 hf
        refine lv_istore_n (lv' := [(3, .int z5), (0, .ref (ad 16)), (1, .int x1), (2, .int x2), (4, .int x4)]) hx hb dX4_hasGear_36 rfl hl (by decide) rfl (fun ls hl => ?_)
        obtain ⟨z6, ez6⟩ : ∃ y : Int32, y = x4 + 1 := ⟨_, rfl⟩
        have hf := lq_k ez6 hf
        refine lv_iinc (v := z6) (lv' := [(4, .int z6), (3, .int z5), (0, .ref (ad 16)), (1, .int x1), (2, .int x2)]) hx hb dX4_hasGear_37 hl (k := 4) rfl (by rw [ez6]; rfl) (by decide) rfl (fun ls hl => ?_)
        refine lv_goto (tgt := 5) hx hb dX4_hasGear_40 (by decide) ?_
        exact ih x1 x2 z5 z6 M _ _ _ (lv_sub hl [2, 3, 4, 1, 0] rfl) hC hf
set_option maxHeartbeats 4000000 in
set_option maxRecDepth 100000 in
theorem kX4_hasGear (l : Launch) (D : va_G) (ad : Nat → Nat) (ca : Nat → ClassId) (B : Nat) (ov : Int64) (N : Nat) (x1 : Int32) (x2 : Int32) (M : Mem) (r0 : Int32) (M0 : Mem) (hf : fX4_hasGear N x1 x2 M = some (r0, M0)) : MtI l D ad ca B ov yX4_hasGear wsX4_hasGear (rmX4_hasGear) [.ref (ad 16), .int x1, .int x2] M r0 M0 := by
  unfold fX4_hasGear at hf
  refine Met.ofW (cc := cX4_hasGear) (maxL := 5) (ret := (some .boolean)) (by decide) rfl ?_
  intro p e s m args below meth c s₁ Bd hml hv
  obtain ⟨rfl, hw⟩ := hv
  have G : Mx p s m ([.ref (ad 16), .int x1, .int x2] : List Value).toArray meth c cX4_hasGear 5 wsX4_hasGear RX4 (some .boolean) := ⟨Bd.exec, Bd.bytes, hml, findClass_of_methodNamed Bd.named, atoms_spec (ws := wsX4_hasGear) Bd.pre, Bd.returns, Bd.notSynchronized⟩
  have hC := Cu.of hw
  have hl := lv_entry ([.ref (ad 16), .int x1, .int x2]) (n := 5) (Nat.le_of_ble_eq_true rfl)
  rw [lg_entry_eq]
  generalize (lg_sl ([.ref (ad 16), .int x1, .int x2]) ++ List.replicate (5 - (lg_sl ([.ref (ad 16), .int x1, .int x2])).length) Slot.unset).toArray = ls at hl ⊢
  have hl : lv_has ls 5 [(0, .ref (ad 16)), (1, .int x1), (2, .int x2)] := hl
  obtain ⟨hx, hb, hml, hown, hts, hr, hlk⟩ := id G
  show W p l e (rmX4_hasGear) s m _ below meth c s.heap [] 0 0 (MQ below (va_Qi (fun (r : Int32) (_ : Unit) => r = r0) (fun _ t => Wp D ad ca B M0 ov t.heap) (Ab B)) _ s 0 0 (Ab B)) (F0 m 0 ls [])
  refine lv_iconst (v := 0) hx hb dX4_hasGear_0 (by decide) ?_
  refine lv_istore_n (lv' := [(3, .int 0), (0, .ref (ad 16)), (1, .int x1), (2, .int x2)]) hx hb dX4_hasGear_1 rfl hl (by decide) rfl (fun ls hl => ?_)
  refine lv_iload_n hx hb dX4_hasGear_2 rfl (lv_at hl 3 rfl) ?_
  refine lv_istore (lv' := [(4, .int x2), (3, .int 0), (0, .ref (ad 16)), (1, .int x1), (2, .int x2)]) hx hb dX4_hasGear_3 hl (by decide) rfl (fun ls hl => ?_)
  exact wX4_hasGear_5 G N N x1 x2 0 x2 M _ _ _ (lv_sub hl [2, 3, 4, 1, 0] rfl) hC hf

theorem lkX4_isTide_f16 : Cond.fieldLink RX4 16 "BerthPlanModel" "spanFrom" "[I" ∈ wsX4_isTide := by decide +kernel
theorem lkX4_isTide_f19 : Cond.fieldLink RX4 19 "BerthPlanModel" "spanTo" "[I" ∈ wsX4_isTide := by decide +kernel
theorem lkX4_isTide_f81 : Cond.fieldLink RX4 81 "BerthPlanModel" "spans" "I" ∈ wsX4_isTide := by decide +kernel
theorem inX4_isTide_X4 : ∀ w ∈ wsX40, w ∈ wsX4_isTide := by decide +kernel
abbrev rmX4_isTide : Room := { frames := 1, cells := 0, slots := 0, locals := 22 }
def fX4_isTide_15 (N : Nat) : Nat → Int32 → Int32 → Int32 → Mem → Option (Int32 × Mem)
  | 0, _, _, _, _ => none
  | n + 1, x1, x2, x3, M =>
    if ((M 16 3) ≤ x3 : Prop) then (gp (x2 = 0 ∨ x2 = 1) (some (x2, M))) else (if (x2 = 0 : Prop) then (gd (x3) 8 (gd (x3) 8 (bd (fX4_in N x1 (M 19 (x3 : Int32).toNatClampNeg) (M 20 (x3 : Int32).toNatClampNeg) M) (fun r7 M8 => if (r7 = 0 : Prop) then (lq (x3 + 1) (fun z10 => fX4_isTide_15 N n x1 0 z10 M8)) else (lq (x3 + 1) (fun z11 => fX4_isTide_15 N n x1 1 z11 M8)))))) else (lq (x3 + 1) (fun z4 => fX4_isTide_15 N n x1 1 z4 M)))
theorem fX4_isTide_15_s {N n : Nat} {x1 : Int32} {x2 : Int32} {x3 : Int32} {M : Mem} : fX4_isTide_15 N (n + 1) x1 x2 x3 M =
    if ((M 16 3) ≤ x3 : Prop) then (gp (x2 = 0 ∨ x2 = 1) (some (x2, M))) else (if (x2 = 0 : Prop) then (gd (x3) 8 (gd (x3) 8 (bd (fX4_in N x1 (M 19 (x3 : Int32).toNatClampNeg) (M 20 (x3 : Int32).toNatClampNeg) M) (fun r7 M8 => if (r7 = 0 : Prop) then (lq (x3 + 1) (fun z10 => fX4_isTide_15 N n x1 0 z10 M8)) else (lq (x3 + 1) (fun z11 => fX4_isTide_15 N n x1 1 z11 M8)))))) else (lq (x3 + 1) (fun z4 => fX4_isTide_15 N n x1 1 z4 M))) := rfl
def fX4_isTide (N : Nat) (x1 : Int32) (M : Mem) : Option (Int32 × Mem) :=
    if ((M 16 3) = 0 : Prop) then (fX4_isTide_15 N N x1 1 0 M) else (fX4_isTide_15 N N x1 0 0 M)
set_option maxHeartbeats 4000000 in
set_option maxRecDepth 100000 in
theorem wX4_isTide_15 {p : Program} {l : Launch} {e : Env} {s : State} {m : MethodId} {args : Array Value} {below : List Frame} {meth : Method} {c : Code} {D : va_G} {ad : Nat → Nat} {ca : Nat → ClassId} {B : Nat} {ov : Int64} {r0 : Int32} {M0 : Mem} (G : Mx p s m args meth c cX4_isTide 4 wsX4_isTide RX4 (some .boolean)) (N : Nat) : ∀ (n : Nat), ∀ (x1 : Int32) (x2 : Int32) (x3 : Int32) (M : Mem) (H : Heap) (locs : List Loc) (ls : Array Slot), lv_has ls 4 [(0, .ref (ad 16)), (1, .int x1), (2, .int x2), (3, .int x3)] → Cu D ad ca B M ov s H locs → (fX4_isTide_15 N n) x1 x2 x3 M = some (r0, M0) → W p l e (rmX4_isTide) s m args below meth c H locs 0 0 (MQ below (va_Qi (fun (r : Int32) (_ : Unit) => r = r0) (fun _ t => Wp D ad ca B M0 ov t.heap) (Ab B)) args s 0 0 (Ab B)) (F0 m 15 ls []) := by
  obtain ⟨hx, hb, hml, hown, hts, hr, hlk⟩ := id G
  intro n
  induction n with
  | zero =>
    intro x1 x2 x3 M H locs ls hl hC hf
    cases hf
  | succ n ih =>
    intro x1 x2 x3 M H locs ls hl hC hf
    have hf := (fX4_isTide_15_s).symm.trans hf
    refine lv_iload_n hx hb dX4_isTide_15 rfl (lv_at hl 3 rfl) ?_
    refine lv_aload_n hx hb dX4_isTide_16 rfl (lv_at hl 0 rfl) ?_
    refine mg_get (ci := 4) (C := RX4) (T := TX4) (N := 19) (v := .int (M 16 3)) hx hb hts inX4_isTide_X4 hown hC 16 (by decide) rfl rfl 3 (by decide) (hts _ lkX4_isTide_f81) rfl rfl dX4_isTide_17 ?_
    refine lv_icmp_ge (tgt := 58) hx hb dX4_isTide_20 (by decide) (fun h1 => ?_) (fun h1 => ?_)
    · have hf := it_t h1 hf
      refine lv_iload_n hx hb dX4_isTide_58 rfl (lv_at hl 2 rfl) ?_
      obtain ⟨g2, hf⟩ := gp_s hf
      exact mr_Z hx hb hr hlk hC g2 hf dX4_isTide_59
    · have hf := it_f h1 hf
      refine lv_iload_n hx hb dX4_isTide_23 rfl (lv_at hl 2 rfl) ?_
      refine lv_if_ne (tgt := 46) hx hb dX4_isTide_24 (by decide) (fun h3 => ?_) (fun h3 => ?_)
      · have hf := it_f h3 hf
        refine lv_iconst (v := 1) hx hb dX4_isTide_46 (by decide) ?_
        refine lv_goto (tgt := 51) hx hb dX4_isTide_47 (by decide) ?_
        refine lv_istore_n (lv' := [(2, .int 1), (0, .ref (ad 16)), (1, .int x1), (3, .int x3)]) hx hb dX4_isTide_51 rfl hl (by decide) rfl (fun ls hl => ?_)
        obtain ⟨z4, ez4⟩ : ∃ y : Int32, y = x3 + 1 := ⟨_, rfl⟩
        have hf := lq_k ez4 hf
        refine lv_iinc (v := z4) (lv' := [(3, .int z4), (2, .int 1), (0, .ref (ad 16)), (1, .int x1)]) hx hb dX4_isTide_52 hl (k := 3) rfl (by rw [ez4]; rfl) (by decide) rfl (fun ls hl => ?_)
        refine lv_goto (tgt := 15) hx hb dX4_isTide_55 (by decide) ?_
        exact ih x1 1 z4 M _ _ _ (lv_sub hl [2, 3, 1, 0] rfl) hC hf
      · have hf := it_t h3 hf
        refine lv_iload_n hx hb dX4_isTide_27 rfl (lv_at hl 1 rfl) ?_
        refine lv_aload_n hx hb dX4_isTide_28 rfl (lv_at hl 0 rfl) ?_
        refine mg_get (ci := 4) (C := RX4) (T := TX4) (N := 19) (v := .ref (ad 19)) hx hb hts inX4_isTide_X4 hown hC 16 (by decide) rfl rfl 7 (by decide) (hts _ lkX4_isTide_f16) rfl rfl dX4_isTide_29 ?_
        refine lv_iload_n hx hb dX4_isTide_32 rfl (lv_at hl 3 rfl) ?_
        obtain ⟨g5, hf⟩ := gd_s hf
        refine mg_iald (n := 8) (cA := ca 19) hx hb hC 19 11 (by decide) rfl rfl g5 dX4_isTide_33 ?_
        refine lv_aload_n hx hb dX4_isTide_34 rfl (lv_at hl 0 rfl) ?_
        refine mg_get (ci := 4) (C := RX4) (T := TX4) (N := 19) (v := .ref (ad 20)) hx hb hts inX4_isTide_X4 hown hC 16 (by decide) rfl rfl 8 (by decide) (hts _ lkX4_isTide_f19) rfl rfl dX4_isTide_35 ?_
        refine lv_iload_n hx hb dX4_isTide_38 rfl (lv_at hl 3 rfl) ?_
        obtain ⟨g6, hf⟩ := gd_s hf
        refine mg_iald (n := 8) (cA := ca 20) hx hb hC 20 12 (by decide) rfl rfl g6 dX4_isTide_39 ?_
        obtain ⟨r7, M8, hq, hf⟩ := bd_s hf
        refine mc_Si (As := [.int x1, .int (M 19 (x3 : Int32).toNatClampNeg), .int (M 20 (x3 : Int32).toNatClampNeg)]) ⟨hx, hb, hml, hown, hts⟩ hC (kX4_in l D ad ca B ov N x1 (M 19 (x3 : Int32).toNatClampNeg) (M 20 (x3 : Int32).toNatClampNeg) M r7 M8 hq) (va_cwS 3 hts gX4_isTide_X4_in rfl rfl rfl (by decide +kernel) ⟨Nat.le_of_ble_eq_true rfl, Nat.le_of_ble_eq_true rfl⟩) rfl hl.1 rfl (Nat.le_of_ble_eq_true rfl) dX4_isTide_40 ⟨Nat.zero_le _, Nat.zero_le _⟩ (fun H locs hC => ?_)
        refine lv_if_eq (tgt := 50) hx hb dX4_isTide_43 (by decide) (fun h9 => ?_) (fun h9 => ?_)
        · have hf := it_t h9 hf
          refine lv_iconst (v := 0) hx hb dX4_isTide_50 (by decide) ?_
          refine lv_istore_n (lv' := [(2, .int 0), (0, .ref (ad 16)), (1, .int x1), (3, .int x3)]) hx hb dX4_isTide_51 rfl hl (by decide) rfl (fun ls hl => ?_)
          obtain ⟨z10, ez10⟩ : ∃ y : Int32, y = x3 + 1 := ⟨_, rfl⟩
          have hf := lq_k ez10 hf
          refine lv_iinc (v := z10) (lv' := [(3, .int z10), (2, .int 0), (0, .ref (ad 16)), (1, .int x1)]) hx hb dX4_isTide_52 hl (k := 3) rfl (by rw [ez10]; rfl) (by decide) rfl (fun ls hl => ?_)
          refine lv_goto (tgt := 15) hx hb dX4_isTide_55 (by decide) ?_
          exact ih x1 0 z10 M8 _ _ _ (lv_sub hl [2, 3, 1, 0] rfl) hC hf
        · have hf := it_f h9 hf
          refine lv_iconst (v := 1) hx hb dX4_isTide_46 (by decide) ?_
          refine lv_goto (tgt := 51) hx hb dX4_isTide_47 (by decide) ?_
          refine lv_istore_n (lv' := [(2, .int 1), (0, .ref (ad 16)), (1, .int x1), (3, .int x3)]) hx hb dX4_isTide_51 rfl hl (by decide) rfl (fun ls hl => ?_)
          obtain ⟨z11, ez11⟩ : ∃ y : Int32, y = x3 + 1 := ⟨_, rfl⟩
          have hf := lq_k ez11 hf
          refine lv_iinc (v := z11) (lv' := [(3, .int z11), (2, .int 1), (0, .ref (ad 16)), (1, .int x1)]) hx hb dX4_isTide_52 hl (k := 3) rfl (by rw [ez11]; rfl) (by decide) rfl (fun ls hl => ?_)
          refine lv_goto (tgt := 15) hx hb dX4_isTide_55 (by decide) ?_
          exact ih x1 1 z11 M8 _ _ _ (lv_sub hl [2, 3, 1, 0] rfl) hC hf
set_option maxHeartbeats 4000000 in
set_option maxRecDepth 100000 in
theorem kX4_isTide (l : Launch) (D : va_G) (ad : Nat → Nat) (ca : Nat → ClassId) (B : Nat) (ov : Int64) (N : Nat) (x1 : Int32) (M : Mem) (r0 : Int32) (M0 : Mem) (hf : fX4_isTide N x1 M = some (r0, M0)) : MtI l D ad ca B ov yX4_isTide wsX4_isTide (rmX4_isTide) [.ref (ad 16), .int x1] M r0 M0 := by
  unfold fX4_isTide at hf
  refine Met.ofW (cc := cX4_isTide) (maxL := 4) (ret := (some .boolean)) (by decide) rfl ?_
  intro p e s m args below meth c s₁ Bd hml hv
  obtain ⟨rfl, hw⟩ := hv
  have G : Mx p s m ([.ref (ad 16), .int x1] : List Value).toArray meth c cX4_isTide 4 wsX4_isTide RX4 (some .boolean) := ⟨Bd.exec, Bd.bytes, hml, findClass_of_methodNamed Bd.named, atoms_spec (ws := wsX4_isTide) Bd.pre, Bd.returns, Bd.notSynchronized⟩
  have hC := Cu.of hw
  have hl := lv_entry ([.ref (ad 16), .int x1]) (n := 4) (Nat.le_of_ble_eq_true rfl)
  rw [lg_entry_eq]
  generalize (lg_sl ([.ref (ad 16), .int x1]) ++ List.replicate (4 - (lg_sl ([.ref (ad 16), .int x1])).length) Slot.unset).toArray = ls at hl ⊢
  have hl : lv_has ls 4 [(0, .ref (ad 16)), (1, .int x1)] := hl
  obtain ⟨hx, hb, hml, hown, hts, hr, hlk⟩ := id G
  show W p l e (rmX4_isTide) s m _ below meth c s.heap [] 0 0 (MQ below (va_Qi (fun (r : Int32) (_ : Unit) => r = r0) (fun _ t => Wp D ad ca B M0 ov t.heap) (Ab B)) _ s 0 0 (Ab B)) (F0 m 0 ls [])
  refine lv_aload_n hx hb dX4_isTide_0 rfl (lv_at hl 0 rfl) ?_
  refine mg_get (ci := 4) (C := RX4) (T := TX4) (N := 19) (v := .int (M 16 3)) hx hb hts inX4_isTide_X4 hown hC 16 (by decide) rfl rfl 3 (by decide) (hts _ lkX4_isTide_f81) rfl rfl dX4_isTide_1 ?_
  refine lv_if_ne (tgt := 11) hx hb dX4_isTide_4 (by decide) (fun h1 => ?_) (fun h1 => ?_)
  · have hf := it_f h1 hf
    refine lv_iconst (v := 0) hx hb dX4_isTide_11 (by decide) ?_
    refine lv_istore_n (lv' := [(2, .int 0), (0, .ref (ad 16)), (1, .int x1)]) hx hb dX4_isTide_12 rfl hl (by decide) rfl (fun ls hl => ?_)
    refine lv_iconst (v := 0) hx hb dX4_isTide_13 (by decide) ?_
    refine lv_istore_n (lv' := [(3, .int 0), (2, .int 0), (0, .ref (ad 16)), (1, .int x1)]) hx hb dX4_isTide_14 rfl hl (by decide) rfl (fun ls hl => ?_)
    exact wX4_isTide_15 G N N x1 0 0 M _ _ _ (lv_sub hl [2, 3, 1, 0] rfl) hC hf
  · have hf := it_t h1 hf
    refine lv_iconst (v := 1) hx hb dX4_isTide_7 (by decide) ?_
    refine lv_goto (tgt := 12) hx hb dX4_isTide_8 (by decide) ?_
    refine lv_istore_n (lv' := [(2, .int 1), (0, .ref (ad 16)), (1, .int x1)]) hx hb dX4_isTide_12 rfl hl (by decide) rfl (fun ls hl => ?_)
    refine lv_iconst (v := 0) hx hb dX4_isTide_13 (by decide) ?_
    refine lv_istore_n (lv' := [(3, .int 0), (2, .int 1), (0, .ref (ad 16)), (1, .int x1)]) hx hb dX4_isTide_14 rfl hl (by decide) rfl (fun ls hl => ?_)
    exact wX4_isTide_15 G N N x1 1 0 M _ _ _ (lv_sub hl [2, 3, 1, 0] rfl) hC hf

theorem lkX4_mayBe_f31 : Cond.fieldLink RX4 31 "BerthPlanModel" "arrives" "[I" ∈ wsX4_mayBe := by decide +kernel
theorem lkX4_mayBe_f40 : Cond.fieldLink RX4 40 "BerthPlanModel" "fixed" "[I" ∈ wsX4_mayBe := by decide +kernel
theorem lkX4_mayBe_f52 : Cond.fieldLink RX4 52 "BerthPlanModel" "places" "I" ∈ wsX4_mayBe := by decide +kernel
theorem inX4_mayBe_X4 : ∀ w ∈ wsX40, w ∈ wsX4_mayBe := by decide +kernel
abbrev rmX4_mayBe : Room := { frames := 2, cells := 0, slots := 0, locals := 45 }
def fX4_mayBe (N : Nat) (x1 : Int32) (x2 : Int32) (M : Mem) : Option (Int32 × Mem) :=
    gd (x1) 4 (if ((M 27 (x1 : Int32).toNatClampNeg) < 0 : Prop) then (if ((M 16 1) ≤ (x2 - x2 / (6 : Int32) * (6 : Int32)) : Prop) then (some (0, M)) else (gd (x1) 4 (if ((x2 / (6 : Int32)) < (M 24 (x1 : Int32).toNatClampNeg) : Prop) then (some (0, M)) else (bd (fX4_isTide N (x2 / (6 : Int32)) M) (fun r6 M7 => if (r6 = 0 : Prop) then (some (0, M7)) else (bd (fX4_isDeep N x1 (x2 - x2 / (6 : Int32) * (6 : Int32)) M7) (fun r9 M10 => if (r9 = 0 : Prop) then (some (0, M10)) else (bd (fX4_hasGear N x1 (x2 - x2 / (6 : Int32) * (6 : Int32)) M10) (fun r12 M13 => if (r12 = 0 : Prop) then (some (0, M13)) else (some (1, M13))))))))))) else (gd (x1) 4 (if (x2 = (M 27 (x1 : Int32).toNatClampNeg) : Prop) then (some (1, M)) else (some (0, M)))))
set_option maxHeartbeats 4000000 in
set_option maxRecDepth 100000 in
theorem kX4_mayBe (l : Launch) (D : va_G) (ad : Nat → Nat) (ca : Nat → ClassId) (B : Nat) (ov : Int64) (N : Nat) (x1 : Int32) (x2 : Int32) (M : Mem) (r0 : Int32) (M0 : Mem) (hf : fX4_mayBe N x1 x2 M = some (r0, M0)) : MtI l D ad ca B ov yX4_mayBe wsX4_mayBe (rmX4_mayBe) [.ref (ad 16), .int x1, .int x2] M r0 M0 := by
  unfold fX4_mayBe at hf
  refine Met.ofW (cc := cX4_mayBe) (maxL := 3) (ret := (some .boolean)) (by decide) rfl ?_
  intro p e s m args below meth c s₁ Bd hml hv
  obtain ⟨rfl, hw⟩ := hv
  have G : Mx p s m ([.ref (ad 16), .int x1, .int x2] : List Value).toArray meth c cX4_mayBe 3 wsX4_mayBe RX4 (some .boolean) := ⟨Bd.exec, Bd.bytes, hml, findClass_of_methodNamed Bd.named, atoms_spec (ws := wsX4_mayBe) Bd.pre, Bd.returns, Bd.notSynchronized⟩
  have hC := Cu.of hw
  have hl := lv_entry ([.ref (ad 16), .int x1, .int x2]) (n := 3) (Nat.le_of_ble_eq_true rfl)
  rw [lg_entry_eq]
  generalize (lg_sl ([.ref (ad 16), .int x1, .int x2]) ++ List.replicate (3 - (lg_sl ([.ref (ad 16), .int x1, .int x2])).length) Slot.unset).toArray = ls at hl ⊢
  have hl : lv_has ls 3 [(0, .ref (ad 16)), (1, .int x1), (2, .int x2)] := hl
  obtain ⟨hx, hb, hml, hown, hts, hr, hlk⟩ := id G
  show W p l e (rmX4_mayBe) s m _ below meth c s.heap [] 0 0 (MQ below (va_Qi (fun (r : Int32) (_ : Unit) => r = r0) (fun _ t => Wp D ad ca B M0 ov t.heap) (Ab B)) _ s 0 0 (Ab B)) (F0 m 0 ls [])
  refine lv_aload_n hx hb dX4_mayBe_0 rfl (lv_at hl 0 rfl) ?_
  refine mg_get (ci := 4) (C := RX4) (T := TX4) (N := 19) (v := .ref (ad 27)) hx hb hts inX4_mayBe_X4 hown hC 16 (by decide) rfl rfl 15 (by decide) (hts _ lkX4_mayBe_f40) rfl rfl dX4_mayBe_1 ?_
  refine lv_iload_n hx hb dX4_mayBe_4 rfl (lv_at hl 1 rfl) ?_
  obtain ⟨g1, hf⟩ := gd_s hf
  refine mg_iald (n := 4) (cA := ca 27) hx hb hC 27 19 (by decide) rfl rfl g1 dX4_mayBe_5 ?_
  refine lv_if_lt (tgt := 25) hx hb dX4_mayBe_6 (by decide) (fun h2 => ?_) (fun h2 => ?_)
  · have hf := it_t h2 hf
    refine lv_iload_n hx hb dX4_mayBe_25 rfl (lv_at hl 2 rfl) ?_
    refine lv_bipush (v := 6) hx hb dX4_mayBe_26 (by decide) ?_
    refine lv_irem hx hb dX4_mayBe_28 (by decide) ?_
    refine lv_aload_n hx hb dX4_mayBe_29 rfl (lv_at hl 0 rfl) ?_
    refine mg_get (ci := 4) (C := RX4) (T := TX4) (N := 19) (v := .int (M 16 1)) hx hb hts inX4_mayBe_X4 hown hC 16 (by decide) rfl rfl 1 (by decide) (hts _ lkX4_mayBe_f52) rfl rfl dX4_mayBe_30 ?_
    refine lv_icmp_ge (tgt := 88) hx hb dX4_mayBe_33 (by decide) (fun h3 => ?_) (fun h3 => ?_)
    · have hf := it_t h3 hf
      refine lv_iconst (v := 0) hx hb dX4_mayBe_88 (by decide) ?_
      exact mr_Z hx hb hr hlk hC (by decide) hf dX4_mayBe_89
    · have hf := it_f h3 hf
      refine lv_iload_n hx hb dX4_mayBe_36 rfl (lv_at hl 2 rfl) ?_
      refine lv_bipush (v := 6) hx hb dX4_mayBe_37 (by decide) ?_
      refine lv_idiv hx hb dX4_mayBe_39 (by decide) ?_
      refine lv_aload_n hx hb dX4_mayBe_40 rfl (lv_at hl 0 rfl) ?_
      refine mg_get (ci := 4) (C := RX4) (T := TX4) (N := 19) (v := .ref (ad 24)) hx hb hts inX4_mayBe_X4 hown hC 16 (by decide) rfl rfl 12 (by decide) (hts _ lkX4_mayBe_f31) rfl rfl dX4_mayBe_41 ?_
      refine lv_iload_n hx hb dX4_mayBe_44 rfl (lv_at hl 1 rfl) ?_
      obtain ⟨g4, hf⟩ := gd_s hf
      refine mg_iald (n := 4) (cA := ca 24) hx hb hC 24 16 (by decide) rfl rfl g4 dX4_mayBe_45 ?_
      refine lv_icmp_lt (tgt := 88) hx hb dX4_mayBe_46 (by decide) (fun h5 => ?_) (fun h5 => ?_)
      · have hf := it_t h5 hf
        refine lv_iconst (v := 0) hx hb dX4_mayBe_88 (by decide) ?_
        exact mr_Z hx hb hr hlk hC (by decide) hf dX4_mayBe_89
      · have hf := it_f h5 hf
        refine lv_aload_n hx hb dX4_mayBe_49 rfl (lv_at hl 0 rfl) ?_
        refine lv_iload_n hx hb dX4_mayBe_50 rfl (lv_at hl 2 rfl) ?_
        refine lv_bipush (v := 6) hx hb dX4_mayBe_51 (by decide) ?_
        refine lv_idiv hx hb dX4_mayBe_53 (by decide) ?_
        obtain ⟨r6, M7, hq, hf⟩ := bd_s hf
        refine mc_Vi (As := [.int (x2 / (6 : Int32))]) ⟨hx, hb, hml, hown, hts⟩ hC (kX4_isTide l D ad ca B ov N (x2 / (6 : Int32)) M r6 M7 hq) (cwV 1 hts gX4_mayBe_X4_isTide rfl rfl rfl (by decide +kernel) ⟨Nat.le_of_ble_eq_true rfl, Nat.le_of_ble_eq_true rfl⟩) (mg_recv (ci := 4) (C := RX4) (T := TX4) (N := 19) hC 16 (by decide) rfl rfl) rfl hl.1 rfl (Nat.le_of_ble_eq_true rfl) dX4_mayBe_54 ⟨Nat.zero_le _, Nat.zero_le _⟩ (fun H locs hC => ?_)
        refine lv_if_eq (tgt := 88) hx hb dX4_mayBe_57 (by decide) (fun h8 => ?_) (fun h8 => ?_)
        · have hf := it_t h8 hf
          refine lv_iconst (v := 0) hx hb dX4_mayBe_88 (by decide) ?_
          exact mr_Z hx hb hr hlk hC (by decide) hf dX4_mayBe_89
        · have hf := it_f h8 hf
          refine lv_aload_n hx hb dX4_mayBe_60 rfl (lv_at hl 0 rfl) ?_
          refine lv_iload_n hx hb dX4_mayBe_61 rfl (lv_at hl 1 rfl) ?_
          refine lv_iload_n hx hb dX4_mayBe_62 rfl (lv_at hl 2 rfl) ?_
          refine lv_bipush (v := 6) hx hb dX4_mayBe_63 (by decide) ?_
          refine lv_irem hx hb dX4_mayBe_65 (by decide) ?_
          obtain ⟨r9, M10, hq, hf⟩ := bd_s hf
          refine mc_Vi (As := [.int x1, .int (x2 - x2 / (6 : Int32) * (6 : Int32))]) ⟨hx, hb, hml, hown, hts⟩ hC (kX4_isDeep l D ad ca B ov N x1 (x2 - x2 / (6 : Int32) * (6 : Int32)) M7 r9 M10 hq) (cwV 2 hts gX4_mayBe_X4_isDeep rfl rfl rfl (by decide +kernel) ⟨Nat.le_of_ble_eq_true rfl, Nat.le_of_ble_eq_true rfl⟩) (mg_recv (ci := 4) (C := RX4) (T := TX4) (N := 19) hC 16 (by decide) rfl rfl) rfl hl.1 rfl (Nat.le_of_ble_eq_true rfl) dX4_mayBe_66 ⟨Nat.zero_le _, Nat.zero_le _⟩ (fun H locs hC => ?_)
          refine lv_if_eq (tgt := 88) hx hb dX4_mayBe_69 (by decide) (fun h11 => ?_) (fun h11 => ?_)
          · have hf := it_t h11 hf
            refine lv_iconst (v := 0) hx hb dX4_mayBe_88 (by decide) ?_
            exact mr_Z hx hb hr hlk hC (by decide) hf dX4_mayBe_89
          · have hf := it_f h11 hf
            refine lv_aload_n hx hb dX4_mayBe_72 rfl (lv_at hl 0 rfl) ?_
            refine lv_iload_n hx hb dX4_mayBe_73 rfl (lv_at hl 1 rfl) ?_
            refine lv_iload_n hx hb dX4_mayBe_74 rfl (lv_at hl 2 rfl) ?_
            refine lv_bipush (v := 6) hx hb dX4_mayBe_75 (by decide) ?_
            refine lv_irem hx hb dX4_mayBe_77 (by decide) ?_
            obtain ⟨r12, M13, hq, hf⟩ := bd_s hf
            refine mc_Vi (As := [.int x1, .int (x2 - x2 / (6 : Int32) * (6 : Int32))]) ⟨hx, hb, hml, hown, hts⟩ hC (kX4_hasGear l D ad ca B ov N x1 (x2 - x2 / (6 : Int32) * (6 : Int32)) M10 r12 M13 hq) (cwV 2 hts gX4_mayBe_X4_hasGear rfl rfl rfl (by decide +kernel) ⟨Nat.le_of_ble_eq_true rfl, Nat.le_of_ble_eq_true rfl⟩) (mg_recv (ci := 4) (C := RX4) (T := TX4) (N := 19) hC 16 (by decide) rfl rfl) rfl hl.1 rfl (Nat.le_of_ble_eq_true rfl) dX4_mayBe_78 ⟨Nat.zero_le _, Nat.zero_le _⟩ (fun H locs hC => ?_)
            refine lv_if_eq (tgt := 88) hx hb dX4_mayBe_81 (by decide) (fun h14 => ?_) (fun h14 => ?_)
            · have hf := it_t h14 hf
              refine lv_iconst (v := 0) hx hb dX4_mayBe_88 (by decide) ?_
              exact mr_Z hx hb hr hlk hC (by decide) hf dX4_mayBe_89
            · have hf := it_f h14 hf
              refine lv_iconst (v := 1) hx hb dX4_mayBe_84 (by decide) ?_
              refine lv_goto (tgt := 89) hx hb dX4_mayBe_85 (by decide) ?_
              exact mr_Z hx hb hr hlk hC (by decide) hf dX4_mayBe_89
  · have hf := it_f h2 hf
    refine lv_iload_n hx hb dX4_mayBe_9 rfl (lv_at hl 2 rfl) ?_
    refine lv_aload_n hx hb dX4_mayBe_10 rfl (lv_at hl 0 rfl) ?_
    refine mg_get (ci := 4) (C := RX4) (T := TX4) (N := 19) (v := .ref (ad 27)) hx hb hts inX4_mayBe_X4 hown hC 16 (by decide) rfl rfl 15 (by decide) (hts _ lkX4_mayBe_f40) rfl rfl dX4_mayBe_11 ?_
    refine lv_iload_n hx hb dX4_mayBe_14 rfl (lv_at hl 1 rfl) ?_
    obtain ⟨g15, hf⟩ := gd_s hf
    refine mg_iald (n := 4) (cA := ca 27) hx hb hC 27 19 (by decide) rfl rfl g15 dX4_mayBe_15 ?_
    refine lv_icmp_ne (tgt := 23) hx hb dX4_mayBe_16 (by decide) (fun h16 => ?_) (fun h16 => ?_)
    · have hf := it_f h16 hf
      refine lv_iconst (v := 0) hx hb dX4_mayBe_23 (by decide) ?_
      exact mr_Z hx hb hr hlk hC (by decide) hf dX4_mayBe_24
    · have hf := it_t h16 hf
      refine lv_iconst (v := 1) hx hb dX4_mayBe_19 (by decide) ?_
      refine lv_goto (tgt := 24) hx hb dX4_mayBe_20 (by decide) ?_
      exact mr_Z hx hb hr hlk hC (by decide) hf dX4_mayBe_24

theorem lkX4_cost_f31 : Cond.fieldLink RX4 31 "BerthPlanModel" "arrives" "[I" ∈ wsX4_cost := by decide +kernel
theorem lkX4_cost_f34 : Cond.fieldLink RX4 34 "BerthPlanModel" "weight" "[I" ∈ wsX4_cost := by decide +kernel
theorem inX4_cost_X4 : ∀ w ∈ wsX40, w ∈ wsX4_cost := by decide +kernel
abbrev rmX4_cost : Room := { frames := 0, cells := 0, slots := 0, locals := 0 }
def fX4_cost (N : Nat) (x1 : Int32) (x2 : Int32) (M : Mem) : Option (Int32 × Mem) :=
    gd (x1) 4 (gd (x1) 4 (some ((M 25 (x1 : Int32).toNatClampNeg) * ((x2 / (6 : Int32)) - (M 24 (x1 : Int32).toNatClampNeg)), M)))
set_option maxHeartbeats 4000000 in
set_option maxRecDepth 100000 in
theorem kX4_cost (l : Launch) (D : va_G) (ad : Nat → Nat) (ca : Nat → ClassId) (B : Nat) (ov : Int64) (N : Nat) (x1 : Int32) (x2 : Int32) (M : Mem) (r0 : Int32) (M0 : Mem) (hf : fX4_cost N x1 x2 M = some (r0, M0)) : MtI l D ad ca B ov yX4_cost wsX4_cost (rmX4_cost) [.ref (ad 16), .int x1, .int x2] M r0 M0 := by
  unfold fX4_cost at hf
  refine Met.ofW (cc := cX4_cost) (maxL := 3) (ret := (some .int)) (by decide) rfl ?_
  intro p e s m args below meth c s₁ Bd hml hv
  obtain ⟨rfl, hw⟩ := hv
  have G : Mx p s m ([.ref (ad 16), .int x1, .int x2] : List Value).toArray meth c cX4_cost 3 wsX4_cost RX4 (some .int) := ⟨Bd.exec, Bd.bytes, hml, findClass_of_methodNamed Bd.named, atoms_spec (ws := wsX4_cost) Bd.pre, Bd.returns, Bd.notSynchronized⟩
  have hC := Cu.of hw
  have hl := lv_entry ([.ref (ad 16), .int x1, .int x2]) (n := 3) (Nat.le_of_ble_eq_true rfl)
  rw [lg_entry_eq]
  generalize (lg_sl ([.ref (ad 16), .int x1, .int x2]) ++ List.replicate (3 - (lg_sl ([.ref (ad 16), .int x1, .int x2])).length) Slot.unset).toArray = ls at hl ⊢
  have hl : lv_has ls 3 [(0, .ref (ad 16)), (1, .int x1), (2, .int x2)] := hl
  obtain ⟨hx, hb, hml, hown, hts, hr, hlk⟩ := id G
  show W p l e (rmX4_cost) s m _ below meth c s.heap [] 0 0 (MQ below (va_Qi (fun (r : Int32) (_ : Unit) => r = r0) (fun _ t => Wp D ad ca B M0 ov t.heap) (Ab B)) _ s 0 0 (Ab B)) (F0 m 0 ls [])
  refine lv_aload_n hx hb dX4_cost_0 rfl (lv_at hl 0 rfl) ?_
  refine mg_get (ci := 4) (C := RX4) (T := TX4) (N := 19) (v := .ref (ad 25)) hx hb hts inX4_cost_X4 hown hC 16 (by decide) rfl rfl 13 (by decide) (hts _ lkX4_cost_f34) rfl rfl dX4_cost_1 ?_
  refine lv_iload_n hx hb dX4_cost_4 rfl (lv_at hl 1 rfl) ?_
  obtain ⟨g1, hf⟩ := gd_s hf
  refine mg_iald (n := 4) (cA := ca 25) hx hb hC 25 17 (by decide) rfl rfl g1 dX4_cost_5 ?_
  refine lv_iload_n hx hb dX4_cost_6 rfl (lv_at hl 2 rfl) ?_
  refine lv_bipush (v := 6) hx hb dX4_cost_7 (by decide) ?_
  refine lv_idiv hx hb dX4_cost_9 (by decide) ?_
  refine lv_aload_n hx hb dX4_cost_10 rfl (lv_at hl 0 rfl) ?_
  refine mg_get (ci := 4) (C := RX4) (T := TX4) (N := 19) (v := .ref (ad 24)) hx hb hts inX4_cost_X4 hown hC 16 (by decide) rfl rfl 12 (by decide) (hts _ lkX4_cost_f31) rfl rfl dX4_cost_11 ?_
  refine lv_iload_n hx hb dX4_cost_14 rfl (lv_at hl 1 rfl) ?_
  obtain ⟨g2, hf⟩ := gd_s hf
  refine mg_iald (n := 4) (cA := ca 24) hx hb hC 24 16 (by decide) rfl rfl g2 dX4_cost_15 ?_
  refine lv_isub hx hb dX4_cost_16 ?_
  refine lv_imul hx hb dX4_cost_17 ?_
  exact mr_I hx hb hr hlk hC hf dX4_cost_18

theorem lkX4_leastOf_c97 : Cond.constant RX4 97 (1000000000) ∈ wsX4_leastOf := by decide +kernel
abbrev rmX4_leastOf : Room := { frames := 3, cells := 0, slots := 0, locals := 67 }
def fX4_leastOf_5 (N : Nat) : Nat → Int32 → Int32 → Int32 → Mem → Option (Int32 × Mem)
  | 0, _, _, _, _ => none
  | n + 1, x1, x2, x3, M =>
    if (96 ≤ x3 : Prop) then (some (x2, M)) else (bd (fX4_mayBe N x1 x3 M) (fun r2 M3 => if (r2 = 0 : Prop) then (lq (x3 + 1) (fun z5 => fX4_leastOf_5 N n x1 x2 z5 M3)) else (bd (fX4_cost N x1 x3 M3) (fun r6 M7 => if (x2 ≤ r6 : Prop) then (lq (x3 + 1) (fun z9 => fX4_leastOf_5 N n x1 x2 z9 M7)) else (bd (fX4_cost N x1 x3 M7) (fun r10 M11 => lq (x3 + 1) (fun z12 => fX4_leastOf_5 N n x1 r10 z12 M11)))))))
theorem fX4_leastOf_5_s {N n : Nat} {x1 : Int32} {x2 : Int32} {x3 : Int32} {M : Mem} : fX4_leastOf_5 N (n + 1) x1 x2 x3 M =
    if (96 ≤ x3 : Prop) then (some (x2, M)) else (bd (fX4_mayBe N x1 x3 M) (fun r2 M3 => if (r2 = 0 : Prop) then (lq (x3 + 1) (fun z5 => fX4_leastOf_5 N n x1 x2 z5 M3)) else (bd (fX4_cost N x1 x3 M3) (fun r6 M7 => if (x2 ≤ r6 : Prop) then (lq (x3 + 1) (fun z9 => fX4_leastOf_5 N n x1 x2 z9 M7)) else (bd (fX4_cost N x1 x3 M7) (fun r10 M11 => lq (x3 + 1) (fun z12 => fX4_leastOf_5 N n x1 r10 z12 M11))))))) := rfl
def fX4_leastOf (N : Nat) (x1 : Int32) (M : Mem) : Option (Int32 × Mem) :=
    fX4_leastOf_5 N N x1 1000000000 0 M
set_option maxHeartbeats 4000000 in
set_option maxRecDepth 100000 in
theorem wX4_leastOf_5 {p : Program} {l : Launch} {e : Env} {s : State} {m : MethodId} {args : Array Value} {below : List Frame} {meth : Method} {c : Code} {D : va_G} {ad : Nat → Nat} {ca : Nat → ClassId} {B : Nat} {ov : Int64} {r0 : Int32} {M0 : Mem} (G : Mx p s m args meth c cX4_leastOf 4 wsX4_leastOf RX4 (some .int)) (N : Nat) : ∀ (n : Nat), ∀ (x1 : Int32) (x2 : Int32) (x3 : Int32) (M : Mem) (H : Heap) (locs : List Loc) (ls : Array Slot), lv_has ls 4 [(0, .ref (ad 16)), (1, .int x1), (2, .int x2), (3, .int x3)] → Cu D ad ca B M ov s H locs → (fX4_leastOf_5 N n) x1 x2 x3 M = some (r0, M0) → W p l e (rmX4_leastOf) s m args below meth c H locs 0 0 (MQ below (va_Qi (fun (r : Int32) (_ : Unit) => r = r0) (fun _ t => Wp D ad ca B M0 ov t.heap) (Ab B)) args s 0 0 (Ab B)) (F0 m 5 ls []) := by
  obtain ⟨hx, hb, hml, hown, hts, hr, hlk⟩ := id G
  intro n
  induction n with
  | zero =>
    intro x1 x2 x3 M H locs ls hl hC hf
    cases hf
  | succ n ih =>
    intro x1 x2 x3 M H locs ls hl hC hf
    have hf := (fX4_leastOf_5_s).symm.trans hf
    refine lv_iload_n hx hb dX4_leastOf_5 rfl (lv_at hl 3 rfl) ?_
    refine lv_bipush (v := 96) hx hb dX4_leastOf_6 (by decide) ?_
    refine lv_icmp_ge (tgt := 47) hx hb dX4_leastOf_8 (by decide) (fun h1 => ?_) (fun h1 => ?_)
    · have hf := it_t h1 hf
      refine lv_iload_n hx hb dX4_leastOf_47 rfl (lv_at hl 2 rfl) ?_
      exact mr_I hx hb hr hlk hC hf dX4_leastOf_48
    · have hf := it_f h1 hf
      refine lv_aload_n hx hb dX4_leastOf_11 rfl (lv_at hl 0 rfl) ?_
      refine lv_iload_n hx hb dX4_leastOf_12 rfl (lv_at hl 1 rfl) ?_
      refine lv_iload_n hx hb dX4_leastOf_13 rfl (lv_at hl 3 rfl) ?_
      obtain ⟨r2, M3, hq, hf⟩ := bd_s hf
      refine mc_Vi (As := [.int x1, .int x3]) ⟨hx, hb, hml, hown, hts⟩ hC (kX4_mayBe l D ad ca B ov N x1 x3 M r2 M3 hq) (cwV 2 hts gX4_leastOf_X4_mayBe rfl rfl rfl (by decide +kernel) ⟨Nat.le_of_ble_eq_true rfl, Nat.le_of_ble_eq_true rfl⟩) (mg_recv (ci := 4) (C := RX4) (T := TX4) (N := 19) hC 16 (by decide) rfl rfl) rfl hl.1 rfl (Nat.le_of_ble_eq_true rfl) dX4_leastOf_14 ⟨Nat.zero_le _, Nat.zero_le _⟩ (fun H locs hC => ?_)
      refine lv_if_eq (tgt := 39) hx hb dX4_leastOf_17 (by decide) (fun h4 => ?_) (fun h4 => ?_)
      · have hf := it_t h4 hf
        refine lv_iload_n hx hb dX4_leastOf_39 rfl (lv_at hl 2 rfl) ?_
        refine lv_istore_n (lv' := [(2, .int x2), (0, .ref (ad 16)), (1, .int x1), (3, .int x3)]) hx hb dX4_leastOf_40 rfl hl (by decide) rfl (fun ls hl => ?_)
        obtain ⟨z5, ez5⟩ : ∃ y : Int32, y = x3 + 1 := ⟨_, rfl⟩
        have hf := lq_k ez5 hf
        refine lv_iinc (v := z5) (lv' := [(3, .int z5), (2, .int x2), (0, .ref (ad 16)), (1, .int x1)]) hx hb dX4_leastOf_41 hl (k := 3) rfl (by rw [ez5]; rfl) (by decide) rfl (fun ls hl => ?_)
        refine lv_goto (tgt := 5) hx hb dX4_leastOf_44 (by decide) ?_
        exact ih x1 x2 z5 M3 _ _ _ (lv_sub hl [2, 3, 1, 0] rfl) hC hf
      · have hf := it_f h4 hf
        refine lv_aload_n hx hb dX4_leastOf_20 rfl (lv_at hl 0 rfl) ?_
        refine lv_iload_n hx hb dX4_leastOf_21 rfl (lv_at hl 1 rfl) ?_
        refine lv_iload_n hx hb dX4_leastOf_22 rfl (lv_at hl 3 rfl) ?_
        obtain ⟨r6, M7, hq, hf⟩ := bd_s hf
        refine mc_Vi (As := [.int x1, .int x3]) ⟨hx, hb, hml, hown, hts⟩ hC (kX4_cost l D ad ca B ov N x1 x3 M3 r6 M7 hq) (cwV 2 hts gX4_leastOf_X4_cost rfl rfl rfl (by decide +kernel) ⟨Nat.le_of_ble_eq_true rfl, Nat.le_of_ble_eq_true rfl⟩) (mg_recv (ci := 4) (C := RX4) (T := TX4) (N := 19) hC 16 (by decide) rfl rfl) rfl hl.1 rfl (Nat.le_of_ble_eq_true rfl) dX4_leastOf_23 ⟨Nat.zero_le _, Nat.zero_le _⟩ (fun H locs hC => ?_)
        refine lv_iload_n hx hb dX4_leastOf_26 rfl (lv_at hl 2 rfl) ?_
        refine lv_icmp_ge (tgt := 39) hx hb dX4_leastOf_27 (by decide) (fun h8 => ?_) (fun h8 => ?_)
        · have hf := it_t h8 hf
          refine lv_iload_n hx hb dX4_leastOf_39 rfl (lv_at hl 2 rfl) ?_
          refine lv_istore_n (lv' := [(2, .int x2), (0, .ref (ad 16)), (1, .int x1), (3, .int x3)]) hx hb dX4_leastOf_40 rfl hl (by decide) rfl (fun ls hl => ?_)
          obtain ⟨z9, ez9⟩ : ∃ y : Int32, y = x3 + 1 := ⟨_, rfl⟩
          have hf := lq_k ez9 hf
          refine lv_iinc (v := z9) (lv' := [(3, .int z9), (2, .int x2), (0, .ref (ad 16)), (1, .int x1)]) hx hb dX4_leastOf_41 hl (k := 3) rfl (by rw [ez9]; rfl) (by decide) rfl (fun ls hl => ?_)
          refine lv_goto (tgt := 5) hx hb dX4_leastOf_44 (by decide) ?_
          exact ih x1 x2 z9 M7 _ _ _ (lv_sub hl [2, 3, 1, 0] rfl) hC hf
        · have hf := it_f h8 hf
          refine lv_aload_n hx hb dX4_leastOf_30 rfl (lv_at hl 0 rfl) ?_
          refine lv_iload_n hx hb dX4_leastOf_31 rfl (lv_at hl 1 rfl) ?_
          refine lv_iload_n hx hb dX4_leastOf_32 rfl (lv_at hl 3 rfl) ?_
          obtain ⟨r10, M11, hq, hf⟩ := bd_s hf
          refine mc_Vi (As := [.int x1, .int x3]) ⟨hx, hb, hml, hown, hts⟩ hC (kX4_cost l D ad ca B ov N x1 x3 M7 r10 M11 hq) (cwV 2 hts gX4_leastOf_X4_cost rfl rfl rfl (by decide +kernel) ⟨Nat.le_of_ble_eq_true rfl, Nat.le_of_ble_eq_true rfl⟩) (mg_recv (ci := 4) (C := RX4) (T := TX4) (N := 19) hC 16 (by decide) rfl rfl) rfl hl.1 rfl (Nat.le_of_ble_eq_true rfl) dX4_leastOf_33 ⟨Nat.zero_le _, Nat.zero_le _⟩ (fun H locs hC => ?_)
          refine lv_goto (tgt := 40) hx hb dX4_leastOf_36 (by decide) ?_
          refine lv_istore_n (lv' := [(2, .int r10), (0, .ref (ad 16)), (1, .int x1), (3, .int x3)]) hx hb dX4_leastOf_40 rfl hl (by decide) rfl (fun ls hl => ?_)
          obtain ⟨z12, ez12⟩ : ∃ y : Int32, y = x3 + 1 := ⟨_, rfl⟩
          have hf := lq_k ez12 hf
          refine lv_iinc (v := z12) (lv' := [(3, .int z12), (2, .int r10), (0, .ref (ad 16)), (1, .int x1)]) hx hb dX4_leastOf_41 hl (k := 3) rfl (by rw [ez12]; rfl) (by decide) rfl (fun ls hl => ?_)
          refine lv_goto (tgt := 5) hx hb dX4_leastOf_44 (by decide) ?_
          exact ih x1 r10 z12 M11 _ _ _ (lv_sub hl [2, 3, 1, 0] rfl) hC hf
set_option maxHeartbeats 4000000 in
set_option maxRecDepth 100000 in
theorem kX4_leastOf (l : Launch) (D : va_G) (ad : Nat → Nat) (ca : Nat → ClassId) (B : Nat) (ov : Int64) (N : Nat) (x1 : Int32) (M : Mem) (r0 : Int32) (M0 : Mem) (hf : fX4_leastOf N x1 M = some (r0, M0)) : MtI l D ad ca B ov yX4_leastOf wsX4_leastOf (rmX4_leastOf) [.ref (ad 16), .int x1] M r0 M0 := by
  unfold fX4_leastOf at hf
  refine Met.ofW (cc := cX4_leastOf) (maxL := 4) (ret := (some .int)) (by decide) rfl ?_
  intro p e s m args below meth c s₁ Bd hml hv
  obtain ⟨rfl, hw⟩ := hv
  have G : Mx p s m ([.ref (ad 16), .int x1] : List Value).toArray meth c cX4_leastOf 4 wsX4_leastOf RX4 (some .int) := ⟨Bd.exec, Bd.bytes, hml, findClass_of_methodNamed Bd.named, atoms_spec (ws := wsX4_leastOf) Bd.pre, Bd.returns, Bd.notSynchronized⟩
  have hC := Cu.of hw
  have hl := lv_entry ([.ref (ad 16), .int x1]) (n := 4) (Nat.le_of_ble_eq_true rfl)
  rw [lg_entry_eq]
  generalize (lg_sl ([.ref (ad 16), .int x1]) ++ List.replicate (4 - (lg_sl ([.ref (ad 16), .int x1])).length) Slot.unset).toArray = ls at hl ⊢
  have hl : lv_has ls 4 [(0, .ref (ad 16)), (1, .int x1)] := hl
  obtain ⟨hx, hb, hml, hown, hts, hr, hlk⟩ := id G
  show W p l e (rmX4_leastOf) s m _ below meth c s.heap [] 0 0 (MQ below (va_Qi (fun (r : Int32) (_ : Unit) => r = r0) (fun _ t => Wp D ad ca B M0 ov t.heap) (Ab B)) _ s 0 0 (Ab B)) (F0 m 0 ls [])
  refine lv_ldc (v := 1000000000) hx hb hown (hts _ lkX4_leastOf_c97) dX4_leastOf_0 ?_
  refine lv_istore_n (lv' := [(2, .int 1000000000), (0, .ref (ad 16)), (1, .int x1)]) hx hb dX4_leastOf_2 rfl hl (by decide) rfl (fun ls hl => ?_)
  refine lv_iconst (v := 0) hx hb dX4_leastOf_3 (by decide) ?_
  refine lv_istore_n (lv' := [(3, .int 0), (2, .int 1000000000), (0, .ref (ad 16)), (1, .int x1)]) hx hb dX4_leastOf_4 rfl hl (by decide) rfl (fun ls hl => ?_)
  exact wX4_leastOf_5 G N N x1 1000000000 0 M _ _ _ (lv_sub hl [2, 3, 1, 0] rfl) hC hf

theorem lkX4_isClear_f46 : Cond.fieldLink RX4 46 "BerthPlanModel" "tried" "[I" ∈ wsX4_isClear := by decide +kernel
theorem inX4_isClear_X4 : ∀ w ∈ wsX40, w ∈ wsX4_isClear := by decide +kernel
abbrev rmX4_isClear : Room := { frames := 1, cells := 0, slots := 0, locals := 25 }
def fX4_isClear_5 (N : Nat) : Nat → Int32 → Int32 → Int32 → Int32 → Mem → Option (Int32 × Mem)
  | 0, _, _, _, _, _ => none
  | n + 1, x1, x2, x3, x4, M =>
    if (x1 ≤ x4 : Prop) then (gp (x3 = 0 ∨ x3 = 1) (some (x3, M))) else (if (x3 = 0 : Prop) then (lq (x4 + 1) (fun z4 => fX4_isClear_5 N n x1 x2 0 z4 M)) else (gd (x4) 4 (bd (fX4_meet N x1 x2 x4 (M 29 (x4 : Int32).toNatClampNeg) M) (fun r6 M7 => if (r6 = 0 : Prop) then (lq (x4 + 1) (fun z10 => fX4_isClear_5 N n x1 x2 1 z10 M7)) else (lq (x4 + 1) (fun z9 => fX4_isClear_5 N n x1 x2 0 z9 M7))))))
theorem fX4_isClear_5_s {N n : Nat} {x1 : Int32} {x2 : Int32} {x3 : Int32} {x4 : Int32} {M : Mem} : fX4_isClear_5 N (n + 1) x1 x2 x3 x4 M =
    if (x1 ≤ x4 : Prop) then (gp (x3 = 0 ∨ x3 = 1) (some (x3, M))) else (if (x3 = 0 : Prop) then (lq (x4 + 1) (fun z4 => fX4_isClear_5 N n x1 x2 0 z4 M)) else (gd (x4) 4 (bd (fX4_meet N x1 x2 x4 (M 29 (x4 : Int32).toNatClampNeg) M) (fun r6 M7 => if (r6 = 0 : Prop) then (lq (x4 + 1) (fun z10 => fX4_isClear_5 N n x1 x2 1 z10 M7)) else (lq (x4 + 1) (fun z9 => fX4_isClear_5 N n x1 x2 0 z9 M7)))))) := rfl
def fX4_isClear (N : Nat) (x1 : Int32) (x2 : Int32) (M : Mem) : Option (Int32 × Mem) :=
    fX4_isClear_5 N N x1 x2 1 0 M
set_option maxHeartbeats 4000000 in
set_option maxRecDepth 100000 in
theorem wX4_isClear_5 {p : Program} {l : Launch} {e : Env} {s : State} {m : MethodId} {args : Array Value} {below : List Frame} {meth : Method} {c : Code} {D : va_G} {ad : Nat → Nat} {ca : Nat → ClassId} {B : Nat} {ov : Int64} {r0 : Int32} {M0 : Mem} (G : Mx p s m args meth c cX4_isClear 5 wsX4_isClear RX4 (some .boolean)) (N : Nat) : ∀ (n : Nat), ∀ (x1 : Int32) (x2 : Int32) (x3 : Int32) (x4 : Int32) (M : Mem) (H : Heap) (locs : List Loc) (ls : Array Slot), lv_has ls 5 [(0, .ref (ad 16)), (1, .int x1), (2, .int x2), (3, .int x3), (4, .int x4)] → Cu D ad ca B M ov s H locs → (fX4_isClear_5 N n) x1 x2 x3 x4 M = some (r0, M0) → W p l e (rmX4_isClear) s m args below meth c H locs 0 0 (MQ below (va_Qi (fun (r : Int32) (_ : Unit) => r = r0) (fun _ t => Wp D ad ca B M0 ov t.heap) (Ab B)) args s 0 0 (Ab B)) (F0 m 5 ls []) := by
  obtain ⟨hx, hb, hml, hown, hts, hr, hlk⟩ := id G
  intro n
  induction n with
  | zero =>
    intro x1 x2 x3 x4 M H locs ls hl hC hf
    cases hf
  | succ n ih =>
    intro x1 x2 x3 x4 M H locs ls hl hC hf
    have hf := (fX4_isClear_5_s).symm.trans hf
    refine lv_iload hx hb dX4_isClear_5 (lv_at hl 4 rfl) ?_
    refine lv_iload_n hx hb dX4_isClear_7 rfl (lv_at hl 1 rfl) ?_
    refine lv_icmp_ge (tgt := 45) hx hb dX4_isClear_8 (by decide) (fun h1 => ?_) (fun h1 => ?_)
    · have hf := it_t h1 hf
      refine lv_iload_n hx hb dX4_isClear_45 rfl (lv_at hl 3 rfl) ?_
      obtain ⟨g2, hf⟩ := gp_s hf
      exact mr_Z hx hb hr hlk hC g2 hf dX4_isClear_46
    · have hf := it_f h1 hf
      refine lv_iload_n hx hb dX4_isClear_11 rfl (lv_at hl 3 rfl) ?_
      refine lv_if_eq (tgt := 37) hx hb dX4_isClear_12 (by decide) (fun h3 => ?_) (fun h3 => ?_)
      · have hf := it_t h3 hf
        refine lv_iconst (v := 0) hx hb dX4_isClear_37 (by decide) ?_
        refine lv_istore_n (lv' := [(3, .int 0), (0, .ref (ad 16)), (1, .int x1), (2, .int x2), (4, .int x4)]) hx hb dX4_isClear_38 rfl hl (by decide) rfl (fun ls hl => ?_)
        obtain ⟨z4, ez4⟩ : ∃ y : Int32, y = x4 + 1 := ⟨_, rfl⟩
        have hf := lq_k ez4 hf
        refine lv_iinc (v := z4) (lv' := [(4, .int z4), (3, .int 0), (0, .ref (ad 16)), (1, .int x1), (2, .int x2)]) hx hb dX4_isClear_39 hl (k := 4) rfl (by rw [ez4]; rfl) (by decide) rfl (fun ls hl => ?_)
        refine lv_goto (tgt := 5) hx hb dX4_isClear_42 (by decide) ?_
        exact ih x1 x2 0 z4 M _ _ _ (lv_sub hl [2, 3, 4, 1, 0] rfl) hC hf
      · have hf := it_f h3 hf
        refine lv_aload_n hx hb dX4_isClear_15 rfl (lv_at hl 0 rfl) ?_
        refine lv_iload_n hx hb dX4_isClear_16 rfl (lv_at hl 1 rfl) ?_
        refine lv_iload_n hx hb dX4_isClear_17 rfl (lv_at hl 2 rfl) ?_
        refine lv_iload hx hb dX4_isClear_18 (lv_at hl 4 rfl) ?_
        refine lv_aload_n hx hb dX4_isClear_20 rfl (lv_at hl 0 rfl) ?_
        refine mg_get (ci := 4) (C := RX4) (T := TX4) (N := 19) (v := .ref (ad 29)) hx hb hts inX4_isClear_X4 hown hC 16 (by decide) rfl rfl 17 (by decide) (hts _ lkX4_isClear_f46) rfl rfl dX4_isClear_21 ?_
        refine lv_iload hx hb dX4_isClear_24 (lv_at hl 4 rfl) ?_
        obtain ⟨g5, hf⟩ := gd_s hf
        refine mg_iald (n := 4) (cA := ca 29) hx hb hC 29 21 (by decide) rfl rfl g5 dX4_isClear_26 ?_
        obtain ⟨r6, M7, hq, hf⟩ := bd_s hf
        refine mc_Vi (As := [.int x1, .int x2, .int x4, .int (M 29 (x4 : Int32).toNatClampNeg)]) ⟨hx, hb, hml, hown, hts⟩ hC (kX4_meet l D ad ca B ov N x1 x2 x4 (M 29 (x4 : Int32).toNatClampNeg) M r6 M7 hq) (cwV 4 hts gX4_isClear_X4_meet rfl rfl rfl (by decide +kernel) ⟨Nat.le_of_ble_eq_true rfl, Nat.le_of_ble_eq_true rfl⟩) (mg_recv (ci := 4) (C := RX4) (T := TX4) (N := 19) hC 16 (by decide) rfl rfl) rfl hl.1 rfl (Nat.le_of_ble_eq_true rfl) dX4_isClear_27 ⟨Nat.zero_le _, Nat.zero_le _⟩ (fun H locs hC => ?_)
        refine lv_if_ne (tgt := 37) hx hb dX4_isClear_30 (by decide) (fun h8 => ?_) (fun h8 => ?_)
        · have hf := it_f h8 hf
          refine lv_iconst (v := 0) hx hb dX4_isClear_37 (by decide) ?_
          refine lv_istore_n (lv' := [(3, .int 0), (0, .ref (ad 16)), (1, .int x1), (2, .int x2), (4, .int x4)]) hx hb dX4_isClear_38 rfl hl (by decide) rfl (fun ls hl => ?_)
          obtain ⟨z9, ez9⟩ : ∃ y : Int32, y = x4 + 1 := ⟨_, rfl⟩
          have hf := lq_k ez9 hf
          refine lv_iinc (v := z9) (lv' := [(4, .int z9), (3, .int 0), (0, .ref (ad 16)), (1, .int x1), (2, .int x2)]) hx hb dX4_isClear_39 hl (k := 4) rfl (by rw [ez9]; rfl) (by decide) rfl (fun ls hl => ?_)
          refine lv_goto (tgt := 5) hx hb dX4_isClear_42 (by decide) ?_
          exact ih x1 x2 0 z9 M7 _ _ _ (lv_sub hl [2, 3, 4, 1, 0] rfl) hC hf
        · have hf := it_t h8 hf
          refine lv_iconst (v := 1) hx hb dX4_isClear_33 (by decide) ?_
          refine lv_goto (tgt := 38) hx hb dX4_isClear_34 (by decide) ?_
          refine lv_istore_n (lv' := [(3, .int 1), (0, .ref (ad 16)), (1, .int x1), (2, .int x2), (4, .int x4)]) hx hb dX4_isClear_38 rfl hl (by decide) rfl (fun ls hl => ?_)
          obtain ⟨z10, ez10⟩ : ∃ y : Int32, y = x4 + 1 := ⟨_, rfl⟩
          have hf := lq_k ez10 hf
          refine lv_iinc (v := z10) (lv' := [(4, .int z10), (3, .int 1), (0, .ref (ad 16)), (1, .int x1), (2, .int x2)]) hx hb dX4_isClear_39 hl (k := 4) rfl (by rw [ez10]; rfl) (by decide) rfl (fun ls hl => ?_)
          refine lv_goto (tgt := 5) hx hb dX4_isClear_42 (by decide) ?_
          exact ih x1 x2 1 z10 M7 _ _ _ (lv_sub hl [2, 3, 4, 1, 0] rfl) hC hf
set_option maxHeartbeats 4000000 in
set_option maxRecDepth 100000 in
theorem kX4_isClear (l : Launch) (D : va_G) (ad : Nat → Nat) (ca : Nat → ClassId) (B : Nat) (ov : Int64) (N : Nat) (x1 : Int32) (x2 : Int32) (M : Mem) (r0 : Int32) (M0 : Mem) (hf : fX4_isClear N x1 x2 M = some (r0, M0)) : MtI l D ad ca B ov yX4_isClear wsX4_isClear (rmX4_isClear) [.ref (ad 16), .int x1, .int x2] M r0 M0 := by
  unfold fX4_isClear at hf
  refine Met.ofW (cc := cX4_isClear) (maxL := 5) (ret := (some .boolean)) (by decide) rfl ?_
  intro p e s m args below meth c s₁ Bd hml hv
  obtain ⟨rfl, hw⟩ := hv
  have G : Mx p s m ([.ref (ad 16), .int x1, .int x2] : List Value).toArray meth c cX4_isClear 5 wsX4_isClear RX4 (some .boolean) := ⟨Bd.exec, Bd.bytes, hml, findClass_of_methodNamed Bd.named, atoms_spec (ws := wsX4_isClear) Bd.pre, Bd.returns, Bd.notSynchronized⟩
  have hC := Cu.of hw
  have hl := lv_entry ([.ref (ad 16), .int x1, .int x2]) (n := 5) (Nat.le_of_ble_eq_true rfl)
  rw [lg_entry_eq]
  generalize (lg_sl ([.ref (ad 16), .int x1, .int x2]) ++ List.replicate (5 - (lg_sl ([.ref (ad 16), .int x1, .int x2])).length) Slot.unset).toArray = ls at hl ⊢
  have hl : lv_has ls 5 [(0, .ref (ad 16)), (1, .int x1), (2, .int x2)] := hl
  obtain ⟨hx, hb, hml, hown, hts, hr, hlk⟩ := id G
  show W p l e (rmX4_isClear) s m _ below meth c s.heap [] 0 0 (MQ below (va_Qi (fun (r : Int32) (_ : Unit) => r = r0) (fun _ t => Wp D ad ca B M0 ov t.heap) (Ab B)) _ s 0 0 (Ab B)) (F0 m 0 ls [])
  refine lv_iconst (v := 1) hx hb dX4_isClear_0 (by decide) ?_
  refine lv_istore_n (lv' := [(3, .int 1), (0, .ref (ad 16)), (1, .int x1), (2, .int x2)]) hx hb dX4_isClear_1 rfl hl (by decide) rfl (fun ls hl => ?_)
  refine lv_iconst (v := 0) hx hb dX4_isClear_2 (by decide) ?_
  refine lv_istore (lv' := [(4, .int 0), (3, .int 1), (0, .ref (ad 16)), (1, .int x1), (2, .int x2)]) hx hb dX4_isClear_3 hl (by decide) rfl (fun ls hl => ?_)
  exact wX4_isClear_5 G N N x1 x2 1 0 M _ _ _ (lv_sub hl [2, 3, 4, 1, 0] rfl) hC hf

theorem lkX4_costUpTo_f46 : Cond.fieldLink RX4 46 "BerthPlanModel" "tried" "[I" ∈ wsX4_costUpTo := by decide +kernel
theorem inX4_costUpTo_X4 : ∀ w ∈ wsX40, w ∈ wsX4_costUpTo := by decide +kernel
abbrev rmX4_costUpTo : Room := { frames := 1, cells := 0, slots := 0, locals := 22 }
def fX4_costUpTo_4 (N : Nat) : Nat → Int32 → Int32 → Int32 → Mem → Option (Int32 × Mem)
  | 0, _, _, _, _ => none
  | n + 1, x1, x2, x3, M =>
    if (x1 ≤ x3 : Prop) then (some (x2, M)) else (gd (x3) 4 (bd (fX4_cost N x3 (M 29 (x3 : Int32).toNatClampNeg) M) (fun r3 M4 => lq (x2 + r3) (fun z5 => lq (x3 + 1) (fun z6 => fX4_costUpTo_4 N n x1 z5 z6 M4)))))
theorem fX4_costUpTo_4_s {N n : Nat} {x1 : Int32} {x2 : Int32} {x3 : Int32} {M : Mem} : fX4_costUpTo_4 N (n + 1) x1 x2 x3 M =
    if (x1 ≤ x3 : Prop) then (some (x2, M)) else (gd (x3) 4 (bd (fX4_cost N x3 (M 29 (x3 : Int32).toNatClampNeg) M) (fun r3 M4 => lq (x2 + r3) (fun z5 => lq (x3 + 1) (fun z6 => fX4_costUpTo_4 N n x1 z5 z6 M4))))) := rfl
def fX4_costUpTo (N : Nat) (x1 : Int32) (M : Mem) : Option (Int32 × Mem) :=
    fX4_costUpTo_4 N N x1 0 0 M
set_option maxHeartbeats 4000000 in
set_option maxRecDepth 100000 in
theorem wX4_costUpTo_4 {p : Program} {l : Launch} {e : Env} {s : State} {m : MethodId} {args : Array Value} {below : List Frame} {meth : Method} {c : Code} {D : va_G} {ad : Nat → Nat} {ca : Nat → ClassId} {B : Nat} {ov : Int64} {r0 : Int32} {M0 : Mem} (G : Mx p s m args meth c cX4_costUpTo 4 wsX4_costUpTo RX4 (some .int)) (N : Nat) : ∀ (n : Nat), ∀ (x1 : Int32) (x2 : Int32) (x3 : Int32) (M : Mem) (H : Heap) (locs : List Loc) (ls : Array Slot), lv_has ls 4 [(0, .ref (ad 16)), (1, .int x1), (2, .int x2), (3, .int x3)] → Cu D ad ca B M ov s H locs → (fX4_costUpTo_4 N n) x1 x2 x3 M = some (r0, M0) → W p l e (rmX4_costUpTo) s m args below meth c H locs 0 0 (MQ below (va_Qi (fun (r : Int32) (_ : Unit) => r = r0) (fun _ t => Wp D ad ca B M0 ov t.heap) (Ab B)) args s 0 0 (Ab B)) (F0 m 4 ls []) := by
  obtain ⟨hx, hb, hml, hown, hts, hr, hlk⟩ := id G
  intro n
  induction n with
  | zero =>
    intro x1 x2 x3 M H locs ls hl hC hf
    cases hf
  | succ n ih =>
    intro x1 x2 x3 M H locs ls hl hC hf
    have hf := (fX4_costUpTo_4_s).symm.trans hf
    refine lv_iload_n hx hb dX4_costUpTo_4 rfl (lv_at hl 3 rfl) ?_
    refine lv_iload_n hx hb dX4_costUpTo_5 rfl (lv_at hl 1 rfl) ?_
    refine lv_icmp_ge (tgt := 29) hx hb dX4_costUpTo_6 (by decide) (fun h1 => ?_) (fun h1 => ?_)
    · have hf := it_t h1 hf
      refine lv_iload_n hx hb dX4_costUpTo_29 rfl (lv_at hl 2 rfl) ?_
      exact mr_I hx hb hr hlk hC hf dX4_costUpTo_30
    · have hf := it_f h1 hf
      refine lv_iload_n hx hb dX4_costUpTo_9 rfl (lv_at hl 2 rfl) ?_
      refine lv_aload_n hx hb dX4_costUpTo_10 rfl (lv_at hl 0 rfl) ?_
      refine lv_iload_n hx hb dX4_costUpTo_11 rfl (lv_at hl 3 rfl) ?_
      refine lv_aload_n hx hb dX4_costUpTo_12 rfl (lv_at hl 0 rfl) ?_
      refine mg_get (ci := 4) (C := RX4) (T := TX4) (N := 19) (v := .ref (ad 29)) hx hb hts inX4_costUpTo_X4 hown hC 16 (by decide) rfl rfl 17 (by decide) (hts _ lkX4_costUpTo_f46) rfl rfl dX4_costUpTo_13 ?_
      refine lv_iload_n hx hb dX4_costUpTo_16 rfl (lv_at hl 3 rfl) ?_
      obtain ⟨g2, hf⟩ := gd_s hf
      refine mg_iald (n := 4) (cA := ca 29) hx hb hC 29 21 (by decide) rfl rfl g2 dX4_costUpTo_17 ?_
      obtain ⟨r3, M4, hq, hf⟩ := bd_s hf
      refine mc_Vi (As := [.int x3, .int (M 29 (x3 : Int32).toNatClampNeg)]) ⟨hx, hb, hml, hown, hts⟩ hC (kX4_cost l D ad ca B ov N x3 (M 29 (x3 : Int32).toNatClampNeg) M r3 M4 hq) (cwV 2 hts gX4_costUpTo_X4_cost rfl rfl rfl (by decide +kernel) ⟨Nat.le_of_ble_eq_true rfl, Nat.le_of_ble_eq_true rfl⟩) (mg_recv (ci := 4) (C := RX4) (T := TX4) (N := 19) hC 16 (by decide) rfl rfl) rfl hl.1 rfl (Nat.le_of_ble_eq_true rfl) dX4_costUpTo_18 ⟨Nat.zero_le _, Nat.zero_le _⟩ (fun H locs hC => ?_)
      refine lv_iadd hx hb dX4_costUpTo_21 ?_
      refine lv_topi (fun z5 ez5 => ?_)
      have hf := lq_k ez5 hf
      refine lv_istore_n (lv' := [(2, .int z5), (0, .ref (ad 16)), (1, .int x1), (3, .int x3)]) hx hb dX4_costUpTo_22 rfl hl (by decide) rfl (fun ls hl => ?_)
      obtain ⟨z6, ez6⟩ : ∃ y : Int32, y = x3 + 1 := ⟨_, rfl⟩
      have hf := lq_k ez6 hf
      refine lv_iinc (v := z6) (lv' := [(3, .int z6), (2, .int z5), (0, .ref (ad 16)), (1, .int x1)]) hx hb dX4_costUpTo_23 hl (k := 3) rfl (by rw [ez6]; rfl) (by decide) rfl (fun ls hl => ?_)
      refine lv_goto (tgt := 4) hx hb dX4_costUpTo_26 (by decide) ?_
      exact ih x1 z5 z6 M4 _ _ _ (lv_sub hl [2, 3, 1, 0] rfl) hC hf
set_option maxHeartbeats 4000000 in
set_option maxRecDepth 100000 in
theorem kX4_costUpTo (l : Launch) (D : va_G) (ad : Nat → Nat) (ca : Nat → ClassId) (B : Nat) (ov : Int64) (N : Nat) (x1 : Int32) (M : Mem) (r0 : Int32) (M0 : Mem) (hf : fX4_costUpTo N x1 M = some (r0, M0)) : MtI l D ad ca B ov yX4_costUpTo wsX4_costUpTo (rmX4_costUpTo) [.ref (ad 16), .int x1] M r0 M0 := by
  unfold fX4_costUpTo at hf
  refine Met.ofW (cc := cX4_costUpTo) (maxL := 4) (ret := (some .int)) (by decide) rfl ?_
  intro p e s m args below meth c s₁ Bd hml hv
  obtain ⟨rfl, hw⟩ := hv
  have G : Mx p s m ([.ref (ad 16), .int x1] : List Value).toArray meth c cX4_costUpTo 4 wsX4_costUpTo RX4 (some .int) := ⟨Bd.exec, Bd.bytes, hml, findClass_of_methodNamed Bd.named, atoms_spec (ws := wsX4_costUpTo) Bd.pre, Bd.returns, Bd.notSynchronized⟩
  have hC := Cu.of hw
  have hl := lv_entry ([.ref (ad 16), .int x1]) (n := 4) (Nat.le_of_ble_eq_true rfl)
  rw [lg_entry_eq]
  generalize (lg_sl ([.ref (ad 16), .int x1]) ++ List.replicate (4 - (lg_sl ([.ref (ad 16), .int x1])).length) Slot.unset).toArray = ls at hl ⊢
  have hl : lv_has ls 4 [(0, .ref (ad 16)), (1, .int x1)] := hl
  obtain ⟨hx, hb, hml, hown, hts, hr, hlk⟩ := id G
  show W p l e (rmX4_costUpTo) s m _ below meth c s.heap [] 0 0 (MQ below (va_Qi (fun (r : Int32) (_ : Unit) => r = r0) (fun _ t => Wp D ad ca B M0 ov t.heap) (Ab B)) _ s 0 0 (Ab B)) (F0 m 0 ls [])
  refine lv_iconst (v := 0) hx hb dX4_costUpTo_0 (by decide) ?_
  refine lv_istore_n (lv' := [(2, .int 0), (0, .ref (ad 16)), (1, .int x1)]) hx hb dX4_costUpTo_1 rfl hl (by decide) rfl (fun ls hl => ?_)
  refine lv_iconst (v := 0) hx hb dX4_costUpTo_2 (by decide) ?_
  refine lv_istore_n (lv' := [(3, .int 0), (2, .int 0), (0, .ref (ad 16)), (1, .int x1)]) hx hb dX4_costUpTo_3 rfl hl (by decide) rfl (fun ls hl => ?_)
  exact wX4_costUpTo_4 G N N x1 0 0 M _ _ _ (lv_sub hl [2, 3, 1, 0] rfl) hC hf

theorem lkX4_search_c97 : Cond.constant RX4 97 (1000000000) ∈ wsX4_search := by decide +kernel
theorem lkX4_search_f43 : Cond.fieldLink RX4 43 "BerthPlanModel" "berth" "[I" ∈ wsX4_search := by decide +kernel
theorem lkX4_search_f46 : Cond.fieldLink RX4 46 "BerthPlanModel" "tried" "[I" ∈ wsX4_search := by decide +kernel
theorem lkX4_search_f49 : Cond.fieldLink RX4 49 "BerthPlanModel" "least" "[I" ∈ wsX4_search := by decide +kernel
theorem lkX4_search_f59 : Cond.fieldLink RX4 59 "BerthPlanModel" "ships" "I" ∈ wsX4_search := by decide +kernel
theorem inX4_search_X4 : ∀ w ∈ wsX40, w ∈ wsX4_search := by decide +kernel
abbrev rmX4_search : Room := { frames := 4, cells := 0, slots := 0, locals := 90 }
def fX4_search_213 (N : Nat) (k71 : Int32 → Int32 → Mem → Option (Int32 × Mem)) (x1 : Int32) (x3 : Int32) (y0 : Int32) (y1 : Int32) (M : Mem) : Option (Int32 × Mem) :=
    lq (y0 + y1) (fun z1 => if (96 ≤ x3 : Prop) then (k71 x1 z1 M) else (if ((M 16 2) ≤ z1 : Prop) then (k71 x1 z1 M) else (gd (z1) 4 (lq (mw M 29 (z1 : Int32).toNatClampNeg (-1)) (fun M5 => k71 x1 z1 M5)))))
def fX4_search_194 (N : Nat) (k71 : Int32 → Int32 → Mem → Option (Int32 × Mem)) (x1 : Int32) (x2 : Int32) (x3 : Int32) (M : Mem) : Option (Int32 × Mem) :=
    gd (x2) 4 (lq (mw M 29 (x2 : Int32).toNatClampNeg x3) (fun M2 => if (96 ≤ x3 : Prop) then (fX4_search_213 N k71 x1 x3 x2 (-1) M2) else (fX4_search_213 N k71 x1 x3 x2 1 M2)))
def fX4_search_142 (N : Nat) (k71 : Int32 → Int32 → Mem → Option (Int32 × Mem)) : Nat → Int32 → Int32 → Int32 → Int32 → Mem → Option (Int32 × Mem)
  | 0, _, _, _, _, _ => none
  | n + 1, x1, x2, x3, x4, M =>
    if (96 ≤ x3 : Prop) then (fX4_search_194 N k71 x1 x2 x3 M) else (bd (fX4_mayBe N x2 x3 M) (fun r2 M3 => if (r2 = 0 : Prop) then (lq (x3 + 1) (fun z5 => fX4_search_142 N k71 n x1 x2 z5 x4 M3)) else (bd (fX4_cost N x2 x3 M3) (fun r6 M7 => gd (x2 + (1 : Int32)) 5 (if (x1 ≤ ((x4 + r6) + (M7 30 (x2 + (1 : Int32) : Int32).toNatClampNeg)) : Prop) then (lq (x3 + 1) (fun z10 => fX4_search_142 N k71 n x1 x2 z10 x4 M7)) else (bd (fX4_isClear N x2 x3 M7) (fun r11 M12 => if (r11 = 0 : Prop) then (lq (x3 + 1) (fun z14 => fX4_search_142 N k71 n x1 x2 z14 x4 M12)) else (fX4_search_194 N k71 x1 x2 x3 M12))))))))
theorem fX4_search_142_s {N n : Nat} {k71 : Int32 → Int32 → Mem → Option (Int32 × Mem)} {x1 : Int32} {x2 : Int32} {x3 : Int32} {x4 : Int32} {M : Mem} : fX4_search_142 N k71 (n + 1) x1 x2 x3 x4 M =
    if (96 ≤ x3 : Prop) then (fX4_search_194 N k71 x1 x2 x3 M) else (bd (fX4_mayBe N x2 x3 M) (fun r2 M3 => if (r2 = 0 : Prop) then (lq (x3 + 1) (fun z5 => fX4_search_142 N k71 n x1 x2 z5 x4 M3)) else (bd (fX4_cost N x2 x3 M3) (fun r6 M7 => gd (x2 + (1 : Int32)) 5 (if (x1 ≤ ((x4 + r6) + (M7 30 (x2 + (1 : Int32) : Int32).toNatClampNeg)) : Prop) then (lq (x3 + 1) (fun z10 => fX4_search_142 N k71 n x1 x2 z10 x4 M7)) else (bd (fX4_isClear N x2 x3 M7) (fun r11 M12 => if (r11 = 0 : Prop) then (lq (x3 + 1) (fun z14 => fX4_search_142 N k71 n x1 x2 z14 x4 M12)) else (fX4_search_194 N k71 x1 x2 x3 M12)))))))) := rfl
def fX4_search_94 (N : Nat) (k71 : Int32 → Int32 → Mem → Option (Int32 × Mem)) : Nat → Int32 → Int32 → Int32 → Mem → Option (Int32 × Mem)
  | 0, _, _, _, _ => none
  | n + 1, x1, x2, x3, M =>
    if ((M 16 2) ≤ x3 : Prop) then (lq (x2 + (-1)) (fun z2 => k71 x1 z2 M)) else (gd (x3) 4 (gd (x3) 4 (lq (mw M 28 (x3 : Int32).toNatClampNeg (M 29 (x3 : Int32).toNatClampNeg)) (fun M5 => lq (x3 + 1) (fun z6 => fX4_search_94 N k71 n x1 x2 z6 M5)))))
theorem fX4_search_94_s {N n : Nat} {k71 : Int32 → Int32 → Mem → Option (Int32 × Mem)} {x1 : Int32} {x2 : Int32} {x3 : Int32} {M : Mem} : fX4_search_94 N k71 (n + 1) x1 x2 x3 M =
    if ((M 16 2) ≤ x3 : Prop) then (lq (x2 + (-1)) (fun z2 => k71 x1 z2 M)) else (gd (x3) 4 (gd (x3) 4 (lq (mw M 28 (x3 : Int32).toNatClampNeg (M 29 (x3 : Int32).toNatClampNeg)) (fun M5 => lq (x3 + 1) (fun z6 => fX4_search_94 N k71 n x1 x2 z6 M5))))) := rfl
def fX4_search_71 (N : Nat) : Nat → Int32 → Int32 → Mem → Option (Int32 × Mem)
  | 0, _, _, _ => none
  | n + 1, x1, x2, M =>
    if (x2 < 0 : Prop) then (if (1000000000 ≤ x1 : Prop) then (some (0, M)) else (some (1, M))) else (if (x2 = (M 16 2) : Prop) then (bd (fX4_costUpTo N (M 16 2) M) (fun r8 M9 => fX4_search_94 N (fX4_search_71 N n) N r8 x2 0 M9)) else (gd (x2) 4 (lq ((M 29 (x2 : Int32).toNatClampNeg) + (1 : Int32)) (fun z5 => bd (fX4_costUpTo N x2 M) (fun r6 M7 => fX4_search_142 N (fX4_search_71 N n) N x1 x2 z5 r6 M7)))))
theorem fX4_search_71_s {N n : Nat} {x1 : Int32} {x2 : Int32} {M : Mem} : fX4_search_71 N (n + 1) x1 x2 M =
    if (x2 < 0 : Prop) then (if (1000000000 ≤ x1 : Prop) then (some (0, M)) else (some (1, M))) else (if (x2 = (M 16 2) : Prop) then (bd (fX4_costUpTo N (M 16 2) M) (fun r8 M9 => fX4_search_94 N (fX4_search_71 N n) N r8 x2 0 M9)) else (gd (x2) 4 (lq ((M 29 (x2 : Int32).toNatClampNeg) + (1 : Int32)) (fun z5 => bd (fX4_costUpTo N x2 M) (fun r6 M7 => fX4_search_142 N (fX4_search_71 N n) N x1 x2 z5 r6 M7))))) := rfl
def fX4_search_17 (N : Nat) : Nat → Int32 → Mem → Option (Int32 × Mem)
  | 0, _, _ => none
  | n + 1, x1, M =>
    if (x1 < 0 : Prop) then (gd (0) 4 (lq (mw M 29 (0 : Int32).toNatClampNeg (-1)) (fun M3 => fX4_search_71 N N 1000000000 0 M3))) else (bd (fX4_leastOf N x1 M) (fun r4 M5 => if (r4 = 1000000000 : Prop) then (some (0, M5)) else (gd (x1 + (1 : Int32)) 5 (bd (fX4_leastOf N x1 M5) (fun r8 M9 => gd (x1) 5 (lq (mw M9 30 (x1 : Int32).toNatClampNeg ((M5 30 (x1 + (1 : Int32) : Int32).toNatClampNeg) + r8)) (fun M11 => lq (x1 + (-1)) (fun z12 => fX4_search_17 N n z12 M11))))))))
theorem fX4_search_17_s {N n : Nat} {x1 : Int32} {M : Mem} : fX4_search_17 N (n + 1) x1 M =
    if (x1 < 0 : Prop) then (gd (0) 4 (lq (mw M 29 (0 : Int32).toNatClampNeg (-1)) (fun M3 => fX4_search_71 N N 1000000000 0 M3))) else (bd (fX4_leastOf N x1 M) (fun r4 M5 => if (r4 = 1000000000 : Prop) then (some (0, M5)) else (gd (x1 + (1 : Int32)) 5 (bd (fX4_leastOf N x1 M5) (fun r8 M9 => gd (x1) 5 (lq (mw M9 30 (x1 : Int32).toNatClampNeg ((M5 30 (x1 + (1 : Int32) : Int32).toNatClampNeg) + r8)) (fun M11 => lq (x1 + (-1)) (fun z12 => fX4_search_17 N n z12 M11)))))))) := rfl
def fX4_search (N : Nat) (M : Mem) : Option (Int32 × Mem) :=
    gd (M 16 2) 5 (lq (mw M 30 (M 16 2 : Int32).toNatClampNeg 0) (fun M2 => lq ((M2 16 2) - (1 : Int32)) (fun z3 => fX4_search_17 N N z3 M2)))
set_option maxHeartbeats 4000000 in
set_option maxRecDepth 100000 in
theorem wX4_search_213 {p : Program} {l : Launch} {e : Env} {s : State} {m : MethodId} {args : Array Value} {below : List Frame} {meth : Method} {c : Code} {D : va_G} {ad : Nat → Nat} {ca : Nat → ClassId} {B : Nat} {ov : Int64} {r0 : Int32} {M0 : Mem} (G : Mx p s m args meth c cX4_search 5 wsX4_search RX4 (some .boolean)) (N : Nat) {k71 : Int32 → Int32 → Mem → Option (Int32 × Mem)}
    (hk71 : ∀ (x1 : Int32) (x2 : Int32) (M : Mem) (H : Heap) (locs : List Loc) (ls : Array Slot), lv_has ls 5 [(0, .ref (ad 16)), (1, .int x1), (2, .int x2)] → Cu D ad ca B M ov s H locs → k71 x1 x2 M = some (r0, M0) → W p l e (rmX4_search) s m args below meth c H locs 0 0 (MQ below (va_Qi (fun (r : Int32) (_ : Unit) => r = r0) (fun _ t => Wp D ad ca B M0 ov t.heap) (Ab B)) args s 0 0 (Ab B)) (F0 m 71 ls [])) : ∀ (x1 : Int32) (x3 : Int32) (y0 : Int32) (y1 : Int32) (M : Mem) (H : Heap) (locs : List Loc) (ls : Array Slot), lv_has ls 5 [(0, .ref (ad 16)), (1, .int x1), (3, .int x3)] → Cu D ad ca B M ov s H locs → (fX4_search_213 N k71) x1 x3 y0 y1 M = some (r0, M0) → W p l e (rmX4_search) s m args below meth c H locs 0 0 (MQ below (va_Qi (fun (r : Int32) (_ : Unit) => r = r0) (fun _ t => Wp D ad ca B M0 ov t.heap) (Ab B)) args s 0 0 (Ab B)) (F0 m 213 ls [.int y1, .int y0]) := by
  obtain ⟨hx, hb, hml, hown, hts, hr, hlk⟩ := id G
  intro x1 x3 y0 y1 M H locs ls hl hC hf
  unfold fX4_search_213 at hf
  refine lv_iadd hx hb dX4_search_213 ?_
  refine lv_topi (fun z1 ez1 => ?_)
  have hf := lq_k ez1 hf
  refine lv_istore_n (lv' := [(2, .int z1), (0, .ref (ad 16)), (1, .int x1), (3, .int x3)]) hx hb dX4_search_214 rfl hl (by decide) rfl (fun ls hl => ?_)
  refine lv_iload_n hx hb dX4_search_215 rfl (lv_at hl 3 rfl) ?_
  refine lv_bipush (v := 96) hx hb dX4_search_216 (by decide) ?_
  refine lv_icmp_ge (tgt := 236) hx hb dX4_search_218 (by decide) (fun h2 => ?_) (fun h2 => ?_)
  · have hf := it_t h2 hf
    refine lv_goto (tgt := 71) hx hb dX4_search_236 (by decide) ?_
    exact hk71 x1 z1 M _ _ _ (lv_sub hl [1, 2, 0] rfl) hC hf
  · have hf := it_f h2 hf
    refine lv_iload_n hx hb dX4_search_221 rfl (lv_at hl 0 rfl) ?_
    refine lv_aload_n hx hb dX4_search_222 rfl (lv_at hl 1 rfl) ?_
    refine mg_get (ci := 4) (C := RX4) (T := TX4) (N := 19) (v := .int (M 16 2)) hx hb hts inX4_search_X4 hown hC 16 (by decide) rfl rfl 2 (by decide) (hts _ lkX4_search_f59) rfl rfl dX4_search_223 ?_
    refine lv_icmp_ge (tgt := 236) hx hb dX4_search_226 (by decide) (fun h3 => ?_) (fun h3 => ?_)
    · have hf := it_t h3 hf
      refine lv_goto (tgt := 71) hx hb dX4_search_236 (by decide) ?_
      exact hk71 x1 z1 M _ _ _ (lv_sub hl [1, 2, 0] rfl) hC hf
    · have hf := it_f h3 hf
      refine lv_aload_n hx hb dX4_search_229 rfl (lv_at hl 1 rfl) ?_
      refine mg_get (ci := 4) (C := RX4) (T := TX4) (N := 19) (v := .ref (ad 29)) hx hb hts inX4_search_X4 hown hC 16 (by decide) rfl rfl 17 (by decide) (hts _ lkX4_search_f46) rfl rfl dX4_search_230 ?_
      refine lv_iload_n hx hb dX4_search_233 rfl (lv_at hl 0 rfl) ?_
      refine lv_iconst (v := (-1)) hx hb dX4_search_234 (by decide) ?_
      obtain ⟨g4, hf⟩ := gd_s hf
      refine mg_iast (n := 4) (cA := ca 29) hx hb hC 29 21 (by decide) (fun _ => rfl) rfl g4 dX4_search_235 (fun H locs hC => ?_)
      obtain ⟨M5, eM5⟩ : ∃ z : Mem, z = mw M 29 (z1 : Int32).toNatClampNeg (-1) := ⟨_, rfl⟩
      rw [← eM5] at hC
      have hf := lq_k eM5 hf
      refine lv_goto (tgt := 71) hx hb dX4_search_236 (by decide) ?_
      exact hk71 x1 z1 M5 _ _ _ (lv_sub hl [1, 2, 0] rfl) hC hf
set_option maxHeartbeats 4000000 in
set_option maxRecDepth 100000 in
theorem wX4_search_194 {p : Program} {l : Launch} {e : Env} {s : State} {m : MethodId} {args : Array Value} {below : List Frame} {meth : Method} {c : Code} {D : va_G} {ad : Nat → Nat} {ca : Nat → ClassId} {B : Nat} {ov : Int64} {r0 : Int32} {M0 : Mem} (G : Mx p s m args meth c cX4_search 5 wsX4_search RX4 (some .boolean)) (N : Nat) {k71 : Int32 → Int32 → Mem → Option (Int32 × Mem)}
    (hk71 : ∀ (x1 : Int32) (x2 : Int32) (M : Mem) (H : Heap) (locs : List Loc) (ls : Array Slot), lv_has ls 5 [(0, .ref (ad 16)), (1, .int x1), (2, .int x2)] → Cu D ad ca B M ov s H locs → k71 x1 x2 M = some (r0, M0) → W p l e (rmX4_search) s m args below meth c H locs 0 0 (MQ below (va_Qi (fun (r : Int32) (_ : Unit) => r = r0) (fun _ t => Wp D ad ca B M0 ov t.heap) (Ab B)) args s 0 0 (Ab B)) (F0 m 71 ls [])) : ∀ (x1 : Int32) (x2 : Int32) (x3 : Int32) (M : Mem) (H : Heap) (locs : List Loc) (ls : Array Slot), lv_has ls 5 [(0, .ref (ad 16)), (1, .int x1), (2, .int x2), (3, .int x3)] → Cu D ad ca B M ov s H locs → (fX4_search_194 N k71) x1 x2 x3 M = some (r0, M0) → W p l e (rmX4_search) s m args below meth c H locs 0 0 (MQ below (va_Qi (fun (r : Int32) (_ : Unit) => r = r0) (fun _ t => Wp D ad ca B M0 ov t.heap) (Ab B)) args s 0 0 (Ab B)) (F0 m 194 ls []) := by
  obtain ⟨hx, hb, hml, hown, hts, hr, hlk⟩ := id G
  intro x1 x2 x3 M H locs ls hl hC hf
  unfold fX4_search_194 at hf
  refine lv_aload_n hx hb dX4_search_194 rfl (lv_at hl 0 rfl) ?_
  refine mg_get (ci := 4) (C := RX4) (T := TX4) (N := 19) (v := .ref (ad 29)) hx hb hts inX4_search_X4 hown hC 16 (by decide) rfl rfl 17 (by decide) (hts _ lkX4_search_f46) rfl rfl dX4_search_195 ?_
  refine lv_iload_n hx hb dX4_search_198 rfl (lv_at hl 2 rfl) ?_
  refine lv_iload_n hx hb dX4_search_199 rfl (lv_at hl 3 rfl) ?_
  obtain ⟨g1, hf⟩ := gd_s hf
  refine mg_iast (n := 4) (cA := ca 29) hx hb hC 29 21 (by decide) (fun _ => rfl) rfl g1 dX4_search_200 (fun H locs hC => ?_)
  obtain ⟨M2, eM2⟩ : ∃ z : Mem, z = mw M 29 (x2 : Int32).toNatClampNeg x3 := ⟨_, rfl⟩
  rw [← eM2] at hC
  have hf := lq_k eM2 hf
  refine lv_iload_n hx hb dX4_search_201 rfl (lv_at hl 2 rfl) ?_
  refine lv_iload_n hx hb dX4_search_202 rfl (lv_at hl 3 rfl) ?_
  refine lv_bipush (v := 96) hx hb dX4_search_203 (by decide) ?_
  refine lv_icmp_ge (tgt := 212) hx hb dX4_search_205 (by decide) (fun h3 => ?_) (fun h3 => ?_)
  · have hf := it_t h3 hf
    refine lv_iconst (v := (-1)) hx hb dX4_search_212 (by decide) ?_
    exact wX4_search_213 G N hk71 x1 x3 x2 (-1) M2 _ _ _ (lv_sub hl [0, 1, 3] rfl) hC hf
  · have hf := it_f h3 hf
    refine lv_iconst (v := 1) hx hb dX4_search_208 (by decide) ?_
    refine lv_goto (tgt := 213) hx hb dX4_search_209 (by decide) ?_
    exact wX4_search_213 G N hk71 x1 x3 x2 1 M2 _ _ _ (lv_sub hl [0, 1, 3] rfl) hC hf
set_option maxHeartbeats 4000000 in
set_option maxRecDepth 100000 in
theorem wX4_search_142 {p : Program} {l : Launch} {e : Env} {s : State} {m : MethodId} {args : Array Value} {below : List Frame} {meth : Method} {c : Code} {D : va_G} {ad : Nat → Nat} {ca : Nat → ClassId} {B : Nat} {ov : Int64} {r0 : Int32} {M0 : Mem} (G : Mx p s m args meth c cX4_search 5 wsX4_search RX4 (some .boolean)) (N : Nat) {k71 : Int32 → Int32 → Mem → Option (Int32 × Mem)}
    (hk71 : ∀ (x1 : Int32) (x2 : Int32) (M : Mem) (H : Heap) (locs : List Loc) (ls : Array Slot), lv_has ls 5 [(0, .ref (ad 16)), (1, .int x1), (2, .int x2)] → Cu D ad ca B M ov s H locs → k71 x1 x2 M = some (r0, M0) → W p l e (rmX4_search) s m args below meth c H locs 0 0 (MQ below (va_Qi (fun (r : Int32) (_ : Unit) => r = r0) (fun _ t => Wp D ad ca B M0 ov t.heap) (Ab B)) args s 0 0 (Ab B)) (F0 m 71 ls [])) : ∀ (n : Nat), ∀ (x1 : Int32) (x2 : Int32) (x3 : Int32) (x4 : Int32) (M : Mem) (H : Heap) (locs : List Loc) (ls : Array Slot), lv_has ls 5 [(0, .ref (ad 16)), (1, .int x1), (2, .int x2), (3, .int x3), (4, .int x4)] → Cu D ad ca B M ov s H locs → (fX4_search_142 N k71 n) x1 x2 x3 x4 M = some (r0, M0) → W p l e (rmX4_search) s m args below meth c H locs 0 0 (MQ below (va_Qi (fun (r : Int32) (_ : Unit) => r = r0) (fun _ t => Wp D ad ca B M0 ov t.heap) (Ab B)) args s 0 0 (Ab B)) (F0 m 142 ls []) := by
  obtain ⟨hx, hb, hml, hown, hts, hr, hlk⟩ := id G
  intro n
  induction n with
  | zero =>
    intro x1 x2 x3 x4 M H locs ls hl hC hf
    cases hf
  | succ n ih =>
    intro x1 x2 x3 x4 M H locs ls hl hC hf
    have hf := (fX4_search_142_s).symm.trans hf
    refine lv_iload_n hx hb dX4_search_142 rfl (lv_at hl 3 rfl) ?_
    refine lv_bipush (v := 96) hx hb dX4_search_143 (by decide) ?_
    refine lv_icmp_ge (tgt := 194) hx hb dX4_search_145 (by decide) (fun h1 => ?_) (fun h1 => ?_)
    · have hf := it_t h1 hf
      exact wX4_search_194 G N hk71 x1 x2 x3 M _ _ _ (lv_sub hl [0, 1, 2, 3] rfl) hC hf
    · have hf := it_f h1 hf
      refine lv_aload_n hx hb dX4_search_148 rfl (lv_at hl 0 rfl) ?_
      refine lv_iload_n hx hb dX4_search_149 rfl (lv_at hl 2 rfl) ?_
      refine lv_iload_n hx hb dX4_search_150 rfl (lv_at hl 3 rfl) ?_
      obtain ⟨r2, M3, hq, hf⟩ := bd_s hf
      refine mc_Vi (As := [.int x2, .int x3]) ⟨hx, hb, hml, hown, hts⟩ hC (kX4_mayBe l D ad ca B ov N x2 x3 M r2 M3 hq) (cwV 2 hts gX4_search_X4_mayBe rfl rfl rfl (by decide +kernel) ⟨Nat.le_of_ble_eq_true rfl, Nat.le_of_ble_eq_true rfl⟩) (mg_recv (ci := 4) (C := RX4) (T := TX4) (N := 19) hC 16 (by decide) rfl rfl) rfl hl.1 rfl (Nat.le_of_ble_eq_true rfl) dX4_search_151 ⟨Nat.zero_le _, Nat.zero_le _⟩ (fun H locs hC => ?_)
      refine lv_if_eq (tgt := 188) hx hb dX4_search_154 (by decide) (fun h4 => ?_) (fun h4 => ?_)
      · have hf := it_t h4 hf
        obtain ⟨z5, ez5⟩ : ∃ y : Int32, y = x3 + 1 := ⟨_, rfl⟩
        have hf := lq_k ez5 hf
        refine lv_iinc (v := z5) (lv' := [(3, .int z5), (0, .ref (ad 16)), (1, .int x1), (2, .int x2), (4, .int x4)]) hx hb dX4_search_188 hl (k := 3) rfl (by rw [ez5]; rfl) (by decide) rfl (fun ls hl => ?_)
        refine lv_goto (tgt := 142) hx hb dX4_search_191 (by decide) ?_
        exact ih x1 x2 z5 x4 M3 _ _ _ (lv_sub hl [1, 2, 3, 0, 4] rfl) hC hf
      · have hf := it_f h4 hf
        refine lv_iload hx hb dX4_search_157 (lv_at hl 4 rfl) ?_
        refine lv_aload_n hx hb dX4_search_159 rfl (lv_at hl 0 rfl) ?_
        refine lv_iload_n hx hb dX4_search_160 rfl (lv_at hl 2 rfl) ?_
        refine lv_iload_n hx hb dX4_search_161 rfl (lv_at hl 3 rfl) ?_
        obtain ⟨r6, M7, hq, hf⟩ := bd_s hf
        refine mc_Vi (As := [.int x2, .int x3]) ⟨hx, hb, hml, hown, hts⟩ hC (kX4_cost l D ad ca B ov N x2 x3 M3 r6 M7 hq) (cwV 2 hts gX4_search_X4_cost rfl rfl rfl (by decide +kernel) ⟨Nat.le_of_ble_eq_true rfl, Nat.le_of_ble_eq_true rfl⟩) (mg_recv (ci := 4) (C := RX4) (T := TX4) (N := 19) hC 16 (by decide) rfl rfl) rfl hl.1 rfl (Nat.le_of_ble_eq_true rfl) dX4_search_162 ⟨Nat.zero_le _, Nat.zero_le _⟩ (fun H locs hC => ?_)
        refine lv_iadd hx hb dX4_search_165 ?_
        refine lv_aload_n hx hb dX4_search_166 rfl (lv_at hl 0 rfl) ?_
        refine mg_get (ci := 4) (C := RX4) (T := TX4) (N := 19) (v := .ref (ad 30)) hx hb hts inX4_search_X4 hown hC 16 (by decide) rfl rfl 18 (by decide) (hts _ lkX4_search_f49) rfl rfl dX4_search_167 ?_
        refine lv_iload_n hx hb dX4_search_170 rfl (lv_at hl 2 rfl) ?_
        refine lv_iconst (v := 1) hx hb dX4_search_171 (by decide) ?_
        refine lv_iadd hx hb dX4_search_172 ?_
        obtain ⟨g8, hf⟩ := gd_s hf
        refine mg_iald (n := 5) (cA := ca 30) hx hb hC 30 22 (by decide) rfl rfl g8 dX4_search_173 ?_
        refine lv_iadd hx hb dX4_search_174 ?_
        refine lv_iload_n hx hb dX4_search_175 rfl (lv_at hl 1 rfl) ?_
        refine lv_icmp_ge (tgt := 188) hx hb dX4_search_176 (by decide) (fun h9 => ?_) (fun h9 => ?_)
        · have hf := it_t h9 hf
          obtain ⟨z10, ez10⟩ : ∃ y : Int32, y = x3 + 1 := ⟨_, rfl⟩
          have hf := lq_k ez10 hf
          refine lv_iinc (v := z10) (lv' := [(3, .int z10), (0, .ref (ad 16)), (1, .int x1), (2, .int x2), (4, .int x4)]) hx hb dX4_search_188 hl (k := 3) rfl (by rw [ez10]; rfl) (by decide) rfl (fun ls hl => ?_)
          refine lv_goto (tgt := 142) hx hb dX4_search_191 (by decide) ?_
          exact ih x1 x2 z10 x4 M7 _ _ _ (lv_sub hl [1, 2, 3, 0, 4] rfl) hC hf
        · have hf := it_f h9 hf
          refine lv_aload_n hx hb dX4_search_179 rfl (lv_at hl 0 rfl) ?_
          refine lv_iload_n hx hb dX4_search_180 rfl (lv_at hl 2 rfl) ?_
          refine lv_iload_n hx hb dX4_search_181 rfl (lv_at hl 3 rfl) ?_
          obtain ⟨r11, M12, hq, hf⟩ := bd_s hf
          refine mc_Vi (As := [.int x2, .int x3]) ⟨hx, hb, hml, hown, hts⟩ hC (kX4_isClear l D ad ca B ov N x2 x3 M7 r11 M12 hq) (cwV 2 hts gX4_search_X4_isClear rfl rfl rfl (by decide +kernel) ⟨Nat.le_of_ble_eq_true rfl, Nat.le_of_ble_eq_true rfl⟩) (mg_recv (ci := 4) (C := RX4) (T := TX4) (N := 19) hC 16 (by decide) rfl rfl) rfl hl.1 rfl (Nat.le_of_ble_eq_true rfl) dX4_search_182 ⟨Nat.zero_le _, Nat.zero_le _⟩ (fun H locs hC => ?_)
          refine lv_if_ne (tgt := 194) hx hb dX4_search_185 (by decide) (fun h13 => ?_) (fun h13 => ?_)
          · have hf := it_f h13 hf
            exact wX4_search_194 G N hk71 x1 x2 x3 M12 _ _ _ (lv_sub hl [0, 1, 2, 3] rfl) hC hf
          · have hf := it_t h13 hf
            obtain ⟨z14, ez14⟩ : ∃ y : Int32, y = x3 + 1 := ⟨_, rfl⟩
            have hf := lq_k ez14 hf
            refine lv_iinc (v := z14) (lv' := [(3, .int z14), (0, .ref (ad 16)), (1, .int x1), (2, .int x2), (4, .int x4)]) hx hb dX4_search_188 hl (k := 3) rfl (by rw [ez14]; rfl) (by decide) rfl (fun ls hl => ?_)
            refine lv_goto (tgt := 142) hx hb dX4_search_191 (by decide) ?_
            exact ih x1 x2 z14 x4 M12 _ _ _ (lv_sub hl [1, 2, 3, 0, 4] rfl) hC hf
set_option maxHeartbeats 4000000 in
set_option maxRecDepth 100000 in
theorem wX4_search_94 {p : Program} {l : Launch} {e : Env} {s : State} {m : MethodId} {args : Array Value} {below : List Frame} {meth : Method} {c : Code} {D : va_G} {ad : Nat → Nat} {ca : Nat → ClassId} {B : Nat} {ov : Int64} {r0 : Int32} {M0 : Mem} (G : Mx p s m args meth c cX4_search 5 wsX4_search RX4 (some .boolean)) (N : Nat) {k71 : Int32 → Int32 → Mem → Option (Int32 × Mem)}
    (hk71 : ∀ (x1 : Int32) (x2 : Int32) (M : Mem) (H : Heap) (locs : List Loc) (ls : Array Slot), lv_has ls 5 [(0, .ref (ad 16)), (1, .int x1), (2, .int x2)] → Cu D ad ca B M ov s H locs → k71 x1 x2 M = some (r0, M0) → W p l e (rmX4_search) s m args below meth c H locs 0 0 (MQ below (va_Qi (fun (r : Int32) (_ : Unit) => r = r0) (fun _ t => Wp D ad ca B M0 ov t.heap) (Ab B)) args s 0 0 (Ab B)) (F0 m 71 ls [])) : ∀ (n : Nat), ∀ (x1 : Int32) (x2 : Int32) (x3 : Int32) (M : Mem) (H : Heap) (locs : List Loc) (ls : Array Slot), lv_has ls 5 [(0, .ref (ad 16)), (1, .int x1), (2, .int x2), (3, .int x3)] → Cu D ad ca B M ov s H locs → (fX4_search_94 N k71 n) x1 x2 x3 M = some (r0, M0) → W p l e (rmX4_search) s m args below meth c H locs 0 0 (MQ below (va_Qi (fun (r : Int32) (_ : Unit) => r = r0) (fun _ t => Wp D ad ca B M0 ov t.heap) (Ab B)) args s 0 0 (Ab B)) (F0 m 94 ls []) := by
  obtain ⟨hx, hb, hml, hown, hts, hr, hlk⟩ := id G
  intro n
  induction n with
  | zero =>
    intro x1 x2 x3 M H locs ls hl hC hf
    cases hf
  | succ n ih =>
    intro x1 x2 x3 M H locs ls hl hC hf
    have hf := (fX4_search_94_s).symm.trans hf
    refine lv_iload_n hx hb dX4_search_94 rfl (lv_at hl 3 rfl) ?_
    refine lv_aload_n hx hb dX4_search_95 rfl (lv_at hl 0 rfl) ?_
    refine mg_get (ci := 4) (C := RX4) (T := TX4) (N := 19) (v := .int (M 16 2)) hx hb hts inX4_search_X4 hown hC 16 (by decide) rfl rfl 2 (by decide) (hts _ lkX4_search_f59) rfl rfl dX4_search_96 ?_
    refine lv_icmp_ge (tgt := 120) hx hb dX4_search_99 (by decide) (fun h1 => ?_) (fun h1 => ?_)
    · have hf := it_t h1 hf
      obtain ⟨z2, ez2⟩ : ∃ y : Int32, y = x2 + (-1) := ⟨_, rfl⟩
      have hf := lq_k ez2 hf
      refine lv_iinc (v := z2) (lv' := [(2, .int z2), (0, .ref (ad 16)), (1, .int x1), (3, .int x3)]) hx hb dX4_search_120 hl (k := 2) rfl (by rw [ez2]; rfl) (by decide) rfl (fun ls hl => ?_)
      refine lv_goto (tgt := 71) hx hb dX4_search_123 (by decide) ?_
      exact hk71 x1 z2 M _ _ _ (lv_sub hl [1, 2, 0] rfl) hC hf
    · have hf := it_f h1 hf
      refine lv_aload_n hx hb dX4_search_102 rfl (lv_at hl 0 rfl) ?_
      refine mg_get (ci := 4) (C := RX4) (T := TX4) (N := 19) (v := .ref (ad 28)) hx hb hts inX4_search_X4 hown hC 16 (by decide) rfl rfl 16 (by decide) (hts _ lkX4_search_f43) rfl rfl dX4_search_103 ?_
      refine lv_iload_n hx hb dX4_search_106 rfl (lv_at hl 3 rfl) ?_
      refine lv_aload_n hx hb dX4_search_107 rfl (lv_at hl 0 rfl) ?_
      refine mg_get (ci := 4) (C := RX4) (T := TX4) (N := 19) (v := .ref (ad 29)) hx hb hts inX4_search_X4 hown hC 16 (by decide) rfl rfl 17 (by decide) (hts _ lkX4_search_f46) rfl rfl dX4_search_108 ?_
      refine lv_iload_n hx hb dX4_search_111 rfl (lv_at hl 3 rfl) ?_
      obtain ⟨g3, hf⟩ := gd_s hf
      refine mg_iald (n := 4) (cA := ca 29) hx hb hC 29 21 (by decide) rfl rfl g3 dX4_search_112 ?_
      obtain ⟨g4, hf⟩ := gd_s hf
      refine mg_iast (n := 4) (cA := ca 28) hx hb hC 28 20 (by decide) (fun _ => rfl) rfl g4 dX4_search_113 (fun H locs hC => ?_)
      obtain ⟨M5, eM5⟩ : ∃ z : Mem, z = mw M 28 (x3 : Int32).toNatClampNeg (M 29 (x3 : Int32).toNatClampNeg) := ⟨_, rfl⟩
      rw [← eM5] at hC
      have hf := lq_k eM5 hf
      obtain ⟨z6, ez6⟩ : ∃ y : Int32, y = x3 + 1 := ⟨_, rfl⟩
      have hf := lq_k ez6 hf
      refine lv_iinc (v := z6) (lv' := [(3, .int z6), (0, .ref (ad 16)), (1, .int x1), (2, .int x2)]) hx hb dX4_search_114 hl (k := 3) rfl (by rw [ez6]; rfl) (by decide) rfl (fun ls hl => ?_)
      refine lv_goto (tgt := 94) hx hb dX4_search_117 (by decide) ?_
      exact ih x1 x2 z6 M5 _ _ _ (lv_sub hl [1, 2, 3, 0] rfl) hC hf
set_option maxHeartbeats 4000000 in
set_option maxRecDepth 100000 in
theorem wX4_search_71 {p : Program} {l : Launch} {e : Env} {s : State} {m : MethodId} {args : Array Value} {below : List Frame} {meth : Method} {c : Code} {D : va_G} {ad : Nat → Nat} {ca : Nat → ClassId} {B : Nat} {ov : Int64} {r0 : Int32} {M0 : Mem} (G : Mx p s m args meth c cX4_search 5 wsX4_search RX4 (some .boolean)) (N : Nat) : ∀ (n : Nat), ∀ (x1 : Int32) (x2 : Int32) (M : Mem) (H : Heap) (locs : List Loc) (ls : Array Slot), lv_has ls 5 [(0, .ref (ad 16)), (1, .int x1), (2, .int x2)] → Cu D ad ca B M ov s H locs → (fX4_search_71 N n) x1 x2 M = some (r0, M0) → W p l e (rmX4_search) s m args below meth c H locs 0 0 (MQ below (va_Qi (fun (r : Int32) (_ : Unit) => r = r0) (fun _ t => Wp D ad ca B M0 ov t.heap) (Ab B)) args s 0 0 (Ab B)) (F0 m 71 ls []) := by
  obtain ⟨hx, hb, hml, hown, hts, hr, hlk⟩ := id G
  intro n
  induction n with
  | zero =>
    intro x1 x2 M H locs ls hl hC hf
    cases hf
  | succ n ih =>
    intro x1 x2 M H locs ls hl hC hf
    have hf := (fX4_search_71_s).symm.trans hf
    refine lv_iload_n hx hb dX4_search_71 rfl (lv_at hl 2 rfl) ?_
    refine lv_if_lt (tgt := 239) hx hb dX4_search_72 (by decide) (fun h1 => ?_) (fun h1 => ?_)
    · have hf := it_t h1 hf
      refine lv_iload_n hx hb dX4_search_239 rfl (lv_at hl 1 rfl) ?_
      refine lv_ldc (v := 1000000000) hx hb hown (hts _ lkX4_search_c97) dX4_search_240 ?_
      refine lv_icmp_ge (tgt := 249) hx hb dX4_search_242 (by decide) (fun h2 => ?_) (fun h2 => ?_)
      · have hf := it_t h2 hf
        refine lv_iconst (v := 0) hx hb dX4_search_249 (by decide) ?_
        exact mr_Z hx hb hr hlk hC (by decide) hf dX4_search_250
      · have hf := it_f h2 hf
        refine lv_iconst (v := 1) hx hb dX4_search_245 (by decide) ?_
        refine lv_goto (tgt := 250) hx hb dX4_search_246 (by decide) ?_
        exact mr_Z hx hb hr hlk hC (by decide) hf dX4_search_250
    · have hf := it_f h1 hf
      refine lv_iload_n hx hb dX4_search_75 rfl (lv_at hl 2 rfl) ?_
      refine lv_aload_n hx hb dX4_search_76 rfl (lv_at hl 0 rfl) ?_
      refine mg_get (ci := 4) (C := RX4) (T := TX4) (N := 19) (v := .int (M 16 2)) hx hb hts inX4_search_X4 hown hC 16 (by decide) rfl rfl 2 (by decide) (hts _ lkX4_search_f59) rfl rfl dX4_search_77 ?_
      refine lv_icmp_ne (tgt := 126) hx hb dX4_search_80 (by decide) (fun h3 => ?_) (fun h3 => ?_)
      · have hf := it_f h3 hf
        refine lv_aload_n hx hb dX4_search_126 rfl (lv_at hl 0 rfl) ?_
        refine mg_get (ci := 4) (C := RX4) (T := TX4) (N := 19) (v := .ref (ad 29)) hx hb hts inX4_search_X4 hown hC 16 (by decide) rfl rfl 17 (by decide) (hts _ lkX4_search_f46) rfl rfl dX4_search_127 ?_
        refine lv_iload_n hx hb dX4_search_130 rfl (lv_at hl 2 rfl) ?_
        obtain ⟨g4, hf⟩ := gd_s hf
        refine mg_iald (n := 4) (cA := ca 29) hx hb hC 29 21 (by decide) rfl rfl g4 dX4_search_131 ?_
        refine lv_iconst (v := 1) hx hb dX4_search_132 (by decide) ?_
        refine lv_iadd hx hb dX4_search_133 ?_
        refine lv_topi (fun z5 ez5 => ?_)
        have hf := lq_k ez5 hf
        refine lv_istore_n (lv' := [(3, .int z5), (0, .ref (ad 16)), (1, .int x1), (2, .int x2)]) hx hb dX4_search_134 rfl hl (by decide) rfl (fun ls hl => ?_)
        refine lv_aload_n hx hb dX4_search_135 rfl (lv_at hl 1 rfl) ?_
        refine lv_iload_n hx hb dX4_search_136 rfl (lv_at hl 3 rfl) ?_
        obtain ⟨r6, M7, hq, hf⟩ := bd_s hf
        refine mc_Vi (As := [.int x2]) ⟨hx, hb, hml, hown, hts⟩ hC (kX4_costUpTo l D ad ca B ov N x2 M r6 M7 hq) (cwV 1 hts gX4_search_X4_costUpTo rfl rfl rfl (by decide +kernel) ⟨Nat.le_of_ble_eq_true rfl, Nat.le_of_ble_eq_true rfl⟩) (mg_recv (ci := 4) (C := RX4) (T := TX4) (N := 19) hC 16 (by decide) rfl rfl) rfl hl.1 rfl (Nat.le_of_ble_eq_true rfl) dX4_search_137 ⟨Nat.zero_le _, Nat.zero_le _⟩ (fun H locs hC => ?_)
        refine lv_istore (lv' := [(4, .int r6), (3, .int z5), (0, .ref (ad 16)), (1, .int x1), (2, .int x2)]) hx hb dX4_search_140 hl (by decide) rfl (fun ls hl => ?_)
        exact wX4_search_142 G N ih N x1 x2 z5 r6 M7 _ _ _ (lv_sub hl [2, 3, 4, 1, 0] rfl) hC hf
      · have hf := it_t h3 hf
        refine lv_aload_n hx hb dX4_search_83 rfl (lv_at hl 0 rfl) ?_
        refine lv_aload_n hx hb dX4_search_84 rfl (lv_at hl 0 rfl) ?_
        refine mg_get (ci := 4) (C := RX4) (T := TX4) (N := 19) (v := .int (M 16 2)) hx hb hts inX4_search_X4 hown hC 16 (by decide) rfl rfl 2 (by decide) (hts _ lkX4_search_f59) rfl rfl dX4_search_85 ?_
        obtain ⟨r8, M9, hq, hf⟩ := bd_s hf
        refine mc_Vi (As := [.int (M 16 2)]) ⟨hx, hb, hml, hown, hts⟩ hC (kX4_costUpTo l D ad ca B ov N (M 16 2) M r8 M9 hq) (cwV 1 hts gX4_search_X4_costUpTo rfl rfl rfl (by decide +kernel) ⟨Nat.le_of_ble_eq_true rfl, Nat.le_of_ble_eq_true rfl⟩) (mg_recv (ci := 4) (C := RX4) (T := TX4) (N := 19) hC 16 (by decide) rfl rfl) rfl hl.1 rfl (Nat.le_of_ble_eq_true rfl) dX4_search_88 ⟨Nat.zero_le _, Nat.zero_le _⟩ (fun H locs hC => ?_)
        refine lv_istore_n (lv' := [(1, .int r8), (0, .ref (ad 16)), (2, .int x2)]) hx hb dX4_search_91 rfl hl (by decide) rfl (fun ls hl => ?_)
        refine lv_iconst (v := 0) hx hb dX4_search_92 (by decide) ?_
        refine lv_istore_n (lv' := [(3, .int 0), (1, .int r8), (0, .ref (ad 16)), (2, .int x2)]) hx hb dX4_search_93 rfl hl (by decide) rfl (fun ls hl => ?_)
        exact wX4_search_94 G N ih N r8 x2 0 M9 _ _ _ (lv_sub hl [2, 1, 3, 0] rfl) hC hf
set_option maxHeartbeats 4000000 in
set_option maxRecDepth 100000 in
theorem wX4_search_17 {p : Program} {l : Launch} {e : Env} {s : State} {m : MethodId} {args : Array Value} {below : List Frame} {meth : Method} {c : Code} {D : va_G} {ad : Nat → Nat} {ca : Nat → ClassId} {B : Nat} {ov : Int64} {r0 : Int32} {M0 : Mem} (G : Mx p s m args meth c cX4_search 5 wsX4_search RX4 (some .boolean)) (N : Nat) : ∀ (n : Nat), ∀ (x1 : Int32) (M : Mem) (H : Heap) (locs : List Loc) (ls : Array Slot), lv_has ls 5 [(0, .ref (ad 16)), (1, .int x1)] → Cu D ad ca B M ov s H locs → (fX4_search_17 N n) x1 M = some (r0, M0) → W p l e (rmX4_search) s m args below meth c H locs 0 0 (MQ below (va_Qi (fun (r : Int32) (_ : Unit) => r = r0) (fun _ t => Wp D ad ca B M0 ov t.heap) (Ab B)) args s 0 0 (Ab B)) (F0 m 17 ls []) := by
  obtain ⟨hx, hb, hml, hown, hts, hr, hlk⟩ := id G
  intro n
  induction n with
  | zero =>
    intro x1 M H locs ls hl hC hf
    cases hf
  | succ n ih =>
    intro x1 M H locs ls hl hC hf
    have hf := (fX4_search_17_s).symm.trans hf
    refine lv_iload_n hx hb dX4_search_17 rfl (lv_at hl 1 rfl) ?_
    refine lv_if_lt (tgt := 59) hx hb dX4_search_18 (by decide) (fun h1 => ?_) (fun h1 => ?_)
    · have hf := it_t h1 hf
      refine lv_ldc (v := 1000000000) hx hb hown (hts _ lkX4_search_c97) dX4_search_59 ?_
      refine lv_istore_n (lv' := [(1, .int 1000000000), (0, .ref (ad 16))]) hx hb dX4_search_61 rfl hl (by decide) rfl (fun ls hl => ?_)
      refine lv_iconst (v := 0) hx hb dX4_search_62 (by decide) ?_
      refine lv_istore_n (lv' := [(2, .int 0), (1, .int 1000000000), (0, .ref (ad 16))]) hx hb dX4_search_63 rfl hl (by decide) rfl (fun ls hl => ?_)
      refine lv_aload_n hx hb dX4_search_64 rfl (lv_at hl 2 rfl) ?_
      refine mg_get (ci := 4) (C := RX4) (T := TX4) (N := 19) (v := .ref (ad 29)) hx hb hts inX4_search_X4 hown hC 16 (by decide) rfl rfl 17 (by decide) (hts _ lkX4_search_f46) rfl rfl dX4_search_65 ?_
      refine lv_iconst (v := 0) hx hb dX4_search_68 (by decide) ?_
      refine lv_iconst (v := (-1)) hx hb dX4_search_69 (by decide) ?_
      obtain ⟨g2, hf⟩ := gd_s hf
      refine mg_iast (n := 4) (cA := ca 29) hx hb hC 29 21 (by decide) (fun _ => rfl) rfl g2 dX4_search_70 (fun H locs hC => ?_)
      obtain ⟨M3, eM3⟩ : ∃ z : Mem, z = mw M 29 (0 : Int32).toNatClampNeg (-1) := ⟨_, rfl⟩
      rw [← eM3] at hC
      have hf := lq_k eM3 hf
      exact wX4_search_71 G N N 1000000000 0 M3 _ _ _ (lv_sub hl [2, 1, 0] rfl) hC hf
    · have hf := it_f h1 hf
      refine lv_aload_n hx hb dX4_search_21 rfl (lv_at hl 0 rfl) ?_
      refine lv_iload_n hx hb dX4_search_22 rfl (lv_at hl 1 rfl) ?_
      obtain ⟨r4, M5, hq, hf⟩ := bd_s hf
      refine mc_Vi (As := [.int x1]) ⟨hx, hb, hml, hown, hts⟩ hC (kX4_leastOf l D ad ca B ov N x1 M r4 M5 hq) (cwV 1 hts gX4_search_X4_leastOf rfl rfl rfl (by decide +kernel) ⟨Nat.le_of_ble_eq_true rfl, Nat.le_of_ble_eq_true rfl⟩) (mg_recv (ci := 4) (C := RX4) (T := TX4) (N := 19) hC 16 (by decide) rfl rfl) rfl hl.1 rfl (Nat.le_of_ble_eq_true rfl) dX4_search_23 ⟨Nat.zero_le _, Nat.zero_le _⟩ (fun H locs hC => ?_)
      refine lv_ldc (v := 1000000000) hx hb hown (hts _ lkX4_search_c97) dX4_search_26 ?_
      refine lv_icmp_ne (tgt := 33) hx hb dX4_search_28 (by decide) (fun h6 => ?_) (fun h6 => ?_)
      · have hf := it_f h6 hf
        refine lv_aload_n hx hb dX4_search_33 rfl (lv_at hl 0 rfl) ?_
        refine mg_get (ci := 4) (C := RX4) (T := TX4) (N := 19) (v := .ref (ad 30)) hx hb hts inX4_search_X4 hown hC 16 (by decide) rfl rfl 18 (by decide) (hts _ lkX4_search_f49) rfl rfl dX4_search_34 ?_
        refine lv_iload_n hx hb dX4_search_37 rfl (lv_at hl 1 rfl) ?_
        refine lv_aload_n hx hb dX4_search_38 rfl (lv_at hl 0 rfl) ?_
        refine mg_get (ci := 4) (C := RX4) (T := TX4) (N := 19) (v := .ref (ad 30)) hx hb hts inX4_search_X4 hown hC 16 (by decide) rfl rfl 18 (by decide) (hts _ lkX4_search_f49) rfl rfl dX4_search_39 ?_
        refine lv_iload_n hx hb dX4_search_42 rfl (lv_at hl 1 rfl) ?_
        refine lv_iconst (v := 1) hx hb dX4_search_43 (by decide) ?_
        refine lv_iadd hx hb dX4_search_44 ?_
        obtain ⟨g7, hf⟩ := gd_s hf
        refine mg_iald (n := 5) (cA := ca 30) hx hb hC 30 22 (by decide) rfl rfl g7 dX4_search_45 ?_
        refine lv_aload_n hx hb dX4_search_46 rfl (lv_at hl 0 rfl) ?_
        refine lv_iload_n hx hb dX4_search_47 rfl (lv_at hl 1 rfl) ?_
        obtain ⟨r8, M9, hq, hf⟩ := bd_s hf
        refine mc_Vi (As := [.int x1]) ⟨hx, hb, hml, hown, hts⟩ hC (kX4_leastOf l D ad ca B ov N x1 M5 r8 M9 hq) (cwV 1 hts gX4_search_X4_leastOf rfl rfl rfl (by decide +kernel) ⟨Nat.le_of_ble_eq_true rfl, Nat.le_of_ble_eq_true rfl⟩) (mg_recv (ci := 4) (C := RX4) (T := TX4) (N := 19) hC 16 (by decide) rfl rfl) rfl hl.1 rfl (Nat.le_of_ble_eq_true rfl) dX4_search_48 ⟨Nat.zero_le _, Nat.zero_le _⟩ (fun H locs hC => ?_)
        refine lv_iadd hx hb dX4_search_51 ?_
        obtain ⟨g10, hf⟩ := gd_s hf
        refine mg_iast (n := 5) (cA := ca 30) hx hb hC 30 22 (by decide) (fun _ => rfl) rfl g10 dX4_search_52 (fun H locs hC => ?_)
        obtain ⟨M11, eM11⟩ : ∃ z : Mem, z = mw M9 30 (x1 : Int32).toNatClampNeg ((M5 30 (x1 + (1 : Int32) : Int32).toNatClampNeg) + r8) := ⟨_, rfl⟩
        rw [← eM11] at hC
        have hf := lq_k eM11 hf
        obtain ⟨z12, ez12⟩ : ∃ y : Int32, y = x1 + (-1) := ⟨_, rfl⟩
        have hf := lq_k ez12 hf
        refine lv_iinc (v := z12) (lv' := [(1, .int z12), (0, .ref (ad 16))]) hx hb dX4_search_53 hl (k := 1) rfl (by rw [ez12]; rfl) (by decide) rfl (fun ls hl => ?_)
        refine lv_goto (tgt := 17) hx hb dX4_search_56 (by decide) ?_
        exact ih z12 M11 _ _ _ (lv_sub hl [1, 0] rfl) hC hf
      · have hf := it_t h6 hf
        refine lv_iconst (v := 0) hx hb dX4_search_31 (by decide) ?_
        exact mr_Z hx hb hr hlk hC (by decide) hf dX4_search_32
set_option maxHeartbeats 4000000 in
set_option maxRecDepth 100000 in
theorem kX4_search (l : Launch) (D : va_G) (ad : Nat → Nat) (ca : Nat → ClassId) (B : Nat) (ov : Int64) (N : Nat) (M : Mem) (r0 : Int32) (M0 : Mem) (hf : fX4_search N M = some (r0, M0)) : MtI l D ad ca B ov yX4_search wsX4_search (rmX4_search) [.ref (ad 16)] M r0 M0 := by
  unfold fX4_search at hf
  refine Met.ofW (cc := cX4_search) (maxL := 5) (ret := (some .boolean)) (by decide) rfl ?_
  intro p e s m args below meth c s₁ Bd hml hv
  obtain ⟨rfl, hw⟩ := hv
  have G : Mx p s m ([.ref (ad 16)] : List Value).toArray meth c cX4_search 5 wsX4_search RX4 (some .boolean) := ⟨Bd.exec, Bd.bytes, hml, findClass_of_methodNamed Bd.named, atoms_spec (ws := wsX4_search) Bd.pre, Bd.returns, Bd.notSynchronized⟩
  have hC := Cu.of hw
  have hl := lv_entry ([.ref (ad 16)]) (n := 5) (Nat.le_of_ble_eq_true rfl)
  rw [lg_entry_eq]
  generalize (lg_sl ([.ref (ad 16)]) ++ List.replicate (5 - (lg_sl ([.ref (ad 16)])).length) Slot.unset).toArray = ls at hl ⊢
  have hl : lv_has ls 5 [(0, .ref (ad 16))] := hl
  obtain ⟨hx, hb, hml, hown, hts, hr, hlk⟩ := id G
  show W p l e (rmX4_search) s m _ below meth c s.heap [] 0 0 (MQ below (va_Qi (fun (r : Int32) (_ : Unit) => r = r0) (fun _ t => Wp D ad ca B M0 ov t.heap) (Ab B)) _ s 0 0 (Ab B)) (F0 m 0 ls [])
  refine lv_aload_n hx hb dX4_search_0 rfl (lv_at hl 0 rfl) ?_
  refine mg_get (ci := 4) (C := RX4) (T := TX4) (N := 19) (v := .ref (ad 30)) hx hb hts inX4_search_X4 hown hC 16 (by decide) rfl rfl 18 (by decide) (hts _ lkX4_search_f49) rfl rfl dX4_search_1 ?_
  refine lv_aload_n hx hb dX4_search_4 rfl (lv_at hl 0 rfl) ?_
  refine mg_get (ci := 4) (C := RX4) (T := TX4) (N := 19) (v := .int (M 16 2)) hx hb hts inX4_search_X4 hown hC 16 (by decide) rfl rfl 2 (by decide) (hts _ lkX4_search_f59) rfl rfl dX4_search_5 ?_
  refine lv_iconst (v := 0) hx hb dX4_search_8 (by decide) ?_
  obtain ⟨g1, hf⟩ := gd_s hf
  refine mg_iast (n := 5) (cA := ca 30) hx hb hC 30 22 (by decide) (fun _ => rfl) rfl g1 dX4_search_9 (fun H locs hC => ?_)
  obtain ⟨M2, eM2⟩ : ∃ z : Mem, z = mw M 30 (M 16 2 : Int32).toNatClampNeg 0 := ⟨_, rfl⟩
  rw [← eM2] at hC
  have hf := lq_k eM2 hf
  refine lv_aload_n hx hb dX4_search_10 rfl (lv_at hl 0 rfl) ?_
  refine mg_get (ci := 4) (C := RX4) (T := TX4) (N := 19) (v := .int (M2 16 2)) hx hb hts inX4_search_X4 hown hC 16 (by decide) rfl rfl 2 (by decide) (hts _ lkX4_search_f59) rfl rfl dX4_search_11 ?_
  refine lv_iconst (v := 1) hx hb dX4_search_14 (by decide) ?_
  refine lv_isub hx hb dX4_search_15 ?_
  refine lv_topi (fun z3 ez3 => ?_)
  have hf := lq_k ez3 hf
  refine lv_istore_n (lv' := [(1, .int z3), (0, .ref (ad 16))]) hx hb dX4_search_16 rfl hl (by decide) rfl (fun ls hl => ?_)
  exact wX4_search_17 G N N z3 M2 _ _ _ (lv_sub hl [1, 0] rfl) hC hf

theorem lkX4_solve_f56 : Cond.fieldLink RX4 56 "BerthPlanModel" "thrown" "I" ∈ wsX4_solve := by decide +kernel
theorem lkX4_solve_f66 : Cond.fieldLink RX4 66 "BerthPlanModel" "isPlan" "Z" ∈ wsX4_solve := by decide +kernel
theorem inX4_solve_X4 : ∀ w ∈ wsX40, w ∈ wsX4_solve := by decide +kernel
abbrev rmX4_solve : Room := { frames := 5, cells := 0, slots := 0, locals := 114 }
def fX4_solve (N : Nat) (M : Mem) : Option (Int32 × Mem) :=
    lq (mw M 16 0 0) (fun M1 => bd (fX4_search N M1) (fun r2 M3 => gp (r2 = 0 ∨ r2 = 1) (lq (mw M3 16 4 r2) (fun M5 => if ((M5 16 4) = 0 : Prop) then (some (0, M5)) else (some (1, M5))))))
set_option maxHeartbeats 4000000 in
set_option maxRecDepth 100000 in
theorem kX4_solve (l : Launch) (D : va_G) (ad : Nat → Nat) (ca : Nat → ClassId) (B : Nat) (ov : Int64) (N : Nat) (M : Mem) (r0 : Int32) (M0 : Mem) (hf : fX4_solve N M = some (r0, M0)) : MtI l D ad ca B ov yX4_solve wsX4_solve (rmX4_solve) [.ref (ad 16)] M r0 M0 := by
  unfold fX4_solve at hf
  refine Met.ofW (cc := cX4_solve) (maxL := 1) (ret := (some .int)) (by decide) rfl ?_
  intro p e s m args below meth c s₁ Bd hml hv
  obtain ⟨rfl, hw⟩ := hv
  have G : Mx p s m ([.ref (ad 16)] : List Value).toArray meth c cX4_solve 1 wsX4_solve RX4 (some .int) := ⟨Bd.exec, Bd.bytes, hml, findClass_of_methodNamed Bd.named, atoms_spec (ws := wsX4_solve) Bd.pre, Bd.returns, Bd.notSynchronized⟩
  have hC := Cu.of hw
  have hl := lv_entry ([.ref (ad 16)]) (n := 1) (Nat.le_of_ble_eq_true rfl)
  rw [lg_entry_eq]
  generalize (lg_sl ([.ref (ad 16)]) ++ List.replicate (1 - (lg_sl ([.ref (ad 16)])).length) Slot.unset).toArray = ls at hl ⊢
  have hl : lv_has ls 1 [(0, .ref (ad 16))] := hl
  obtain ⟨hx, hb, hml, hown, hts, hr, hlk⟩ := id G
  show W p l e (rmX4_solve) s m _ below meth c s.heap [] 0 0 (MQ below (va_Qi (fun (r : Int32) (_ : Unit) => r = r0) (fun _ t => Wp D ad ca B M0 ov t.heap) (Ab B)) _ s 0 0 (Ab B)) (F0 m 0 ls [])
  refine lv_aload_n hx hb dX4_solve_0 rfl (lv_at hl 0 rfl) ?_
  refine lv_iconst (v := 0) hx hb dX4_solve_1 (by decide) ?_
  refine mg_put (ci := 4) (C := RX4) (T := TX4) (N := 19) (ty := .int) (v := .int 0) (x := 0) hx hb hts inX4_solve_X4 tyX4 tyX4_ok nmX4 hown hC 16 (by decide) rfl rfl 0 (by decide) (hts _ lkX4_solve_f56) rfl rfl (by decide +kernel) rfl rfl (Nat.le_of_ble_eq_true rfl) rfl dX4_solve_2 (fun H locs hC => ?_)
  obtain ⟨M1, eM1⟩ : ∃ z : Mem, z = mw M 16 0 0 := ⟨_, rfl⟩
  rw [← eM1] at hC
  have hf := lq_k eM1 hf
  refine lv_aload_n hx hb dX4_solve_5 rfl (lv_at hl 0 rfl) ?_
  refine lv_aload_n hx hb dX4_solve_6 rfl (lv_at hl 0 rfl) ?_
  obtain ⟨r2, M3, hq, hf⟩ := bd_s hf
  refine mc_Vi (As := []) ⟨hx, hb, hml, hown, hts⟩ hC (kX4_search l D ad ca B ov N M1 r2 M3 hq) (cwV 0 hts gX4_solve_X4_search rfl rfl rfl (by decide +kernel) ⟨Nat.le_of_ble_eq_true rfl, Nat.le_of_ble_eq_true rfl⟩) (mg_recv (ci := 4) (C := RX4) (T := TX4) (N := 19) hC 16 (by decide) rfl rfl) rfl hl.1 rfl (Nat.le_of_ble_eq_true rfl) dX4_solve_7 ⟨Nat.zero_le _, Nat.zero_le _⟩ (fun H locs hC => ?_)
  obtain ⟨g4, hf⟩ := gp_s hf
  refine mg_put (ci := 4) (C := RX4) (T := TX4) (N := 19) (ty := .boolean) (v := .int r2) (x := r2) hx hb hts inX4_solve_X4 tyX4 tyX4_ok nmX4 hown hC 16 (by decide) rfl rfl 4 (by decide) (hts _ lkX4_solve_f66) rfl rfl (by decide +kernel) (by rcases g4 with h9 | h9 <;> rw [h9] <;> decide) (by rcases g4 with h9 | h9 <;> rw [h9] <;> decide) (Nat.le_of_ble_eq_true rfl) rfl dX4_solve_10 (fun H locs hC => ?_)
  obtain ⟨M5, eM5⟩ : ∃ z : Mem, z = mw M3 16 4 r2 := ⟨_, rfl⟩
  rw [← eM5] at hC
  have hf := lq_k eM5 hf
  refine lv_aload_n hx hb dX4_solve_13 rfl (lv_at hl 0 rfl) ?_
  refine mg_get (ci := 4) (C := RX4) (T := TX4) (N := 19) (v := .int (M5 16 4)) hx hb hts inX4_solve_X4 hown hC 16 (by decide) rfl rfl 4 (by decide) (hts _ lkX4_solve_f66) rfl rfl dX4_solve_14 ?_
  refine lv_if_eq (tgt := 24) hx hb dX4_solve_17 (by decide) (fun h6 => ?_) (fun h6 => ?_)
  · have hf := it_t h6 hf
    refine lv_iconst (v := 0) hx hb dX4_solve_24 (by decide) ?_
    exact mr_I hx hb hr hlk hC hf dX4_solve_25
  · have hf := it_f h6 hf
    refine lv_iconst (v := 1) hx hb dX4_solve_20 (by decide) ?_
    refine lv_goto (tgt := 25) hx hb dX4_solve_21 (by decide) ?_
    exact mr_I hx hb hr hlk hC hf dX4_solve_25
