theorem lkX4_at_f31 : Cond.fieldLink RX4 31 "BerthPlanModel" "arrives" "[I" ∈ wsX4_at := by decide +kernel
theorem lkX4_at_f43 : Cond.fieldLink RX4 43 "BerthPlanModel" "berth" "[I" ∈ wsX4_at := by decide +kernel
theorem lkX4_at_f56 : Cond.fieldLink RX4 56 "BerthPlanModel" "thrown" "I" ∈ wsX4_at := by decide +kernel
theorem lkX4_at_f66 : Cond.fieldLink RX4 66 "BerthPlanModel" "isPlan" "Z" ∈ wsX4_at := by decide +kernel
theorem inX4_at_X4 : ∀ w ∈ wsX40, w ∈ wsX4_at := by decide +kernel
abbrev rmX4_at : Room := { frames := 1, cells := 0, slots := 0, locals := 22 }
def fX4_at_34 (N : Nat) (x1 : Int32) (x2 : Int32) (y1 : Int32) (M : Mem) : Option (Int32 × Mem) :=
    lq (mw M 16 0 y1) (fun M1 => if ((M1 16 0) ≤ 0 : Prop) then (if (x2 = 0 : Prop) then (gd (x1) 4 (some ((M1 28 (x1 : Int32).toNatClampNeg) - (M1 28 (x1 : Int32).toNatClampNeg) / (6 : Int32) * (6 : Int32), M1))) else (if (x2 = 1 : Prop) then (gd (x1) 4 (some ((M1 28 (x1 : Int32).toNatClampNeg) / (6 : Int32), M1))) else (gd (x1) 4 (gd (x1) 4 (some (((M1 28 (x1 : Int32).toNatClampNeg) / (6 : Int32)) - (M1 24 (x1 : Int32).toNatClampNeg), M1)))))) else (some (0, M1)))
def fX4_at (N : Nat) (x1 : Int32) (x2 : Int32) (M : Mem) : Option (Int32 × Mem) :=
    bd (fX4_isShip N x1 M) (fun r1 M2 => if (r1 = 0 : Prop) then (fX4_at_34 N x1 x2 1 M2) else (bd (fX4_in N x2 0 2 M2) (fun r4 M5 => if (r4 = 0 : Prop) then (fX4_at_34 N x1 x2 1 M5) else (if ((M5 16 4) = 0 : Prop) then (fX4_at_34 N x1 x2 2 M5) else (fX4_at_34 N x1 x2 0 M5)))))
set_option maxHeartbeats 4000000 in
set_option maxRecDepth 100000 in
theorem wX4_at_34 {p : Program} {l : Launch} {e : Env} {s : State} {m : MethodId} {args : Array Value} {below : List Frame} {meth : Method} {c : Code} {D : va_G} {ad : Nat → Nat} {ca : Nat → ClassId} {B : Nat} {ov : Int64} {r0 : Int32} {M0 : Mem} (G : Mx p s m args meth c cX4_at 3 wsX4_at RX4 (some .int)) (N : Nat) : ∀ (x1 : Int32) (x2 : Int32) (y1 : Int32) (M : Mem) (H : Heap) (locs : List Loc) (ls : Array Slot), lv_has ls 3 [(0, .ref (ad 16)), (1, .int x1), (2, .int x2)] → Cu D ad ca B M ov s H locs → (fX4_at_34 N) x1 x2 y1 M = some (r0, M0) → W p l e (rmX4_at) s m args below meth c H locs 0 0 (MQ below (va_Qi (fun (r : Int32) (_ : Unit) => r = r0) (fun _ t => Wp D ad ca B M0 ov t.heap) (Ab B)) args s 0 0 (Ab B)) (F0 m 34 ls [.int y1, .ref (ad 16)]) := by
  obtain ⟨hx, hb, hml, hown, hts, hr, hlk⟩ := id G
  intro x1 x2 y1 M H locs ls hl hC hf
  unfold fX4_at_34 at hf
  refine mg_put (ci := 4) (C := RX4) (T := TX4) (N := 19) (ty := .int) (v := .int y1) (x := y1) hx hb hts inX4_at_X4 tyX4 tyX4_ok nmX4 hown hC 16 (by decide) rfl rfl 0 (by decide) (hts _ lkX4_at_f56) rfl rfl (by decide +kernel) rfl rfl (Nat.le_of_ble_eq_true rfl) rfl dX4_at_34 (fun H locs hC => ?_)
  obtain ⟨M1, eM1⟩ : ∃ z : Mem, z = mw M 16 0 y1 := ⟨_, rfl⟩
  rw [← eM1] at hC
  have hf := lq_k eM1 hf
  refine lv_aload_n hx hb dX4_at_37 rfl (lv_at hl 0 rfl) ?_
  refine mg_get (ci := 4) (C := RX4) (T := TX4) (N := 19) (v := .int (M1 16 0)) hx hb hts inX4_at_X4 hown hC 16 (by decide) rfl rfl 0 (by decide) (hts _ lkX4_at_f56) rfl rfl dX4_at_38 ?_
  refine lv_if_le (tgt := 46) hx hb dX4_at_41 (by decide) (fun h2 => ?_) (fun h2 => ?_)
  · have hf := it_t h2 hf
    refine lv_iload_n hx hb dX4_at_46 rfl (lv_at hl 2 rfl) ?_
    refine lv_if_ne (tgt := 62) hx hb dX4_at_47 (by decide) (fun h3 => ?_) (fun h3 => ?_)
    · have hf := it_f h3 hf
      refine lv_iload_n hx hb dX4_at_62 rfl (lv_at hl 2 rfl) ?_
      refine lv_iconst (v := 1) hx hb dX4_at_63 (by decide) ?_
      refine lv_icmp_ne (tgt := 79) hx hb dX4_at_64 (by decide) (fun h4 => ?_) (fun h4 => ?_)
      · have hf := it_f h4 hf
        refine lv_aload_n hx hb dX4_at_79 rfl (lv_at hl 0 rfl) ?_
        refine mg_get (ci := 4) (C := RX4) (T := TX4) (N := 19) (v := .ref (ad 28)) hx hb hts inX4_at_X4 hown hC 16 (by decide) rfl rfl 16 (by decide) (hts _ lkX4_at_f43) rfl rfl dX4_at_80 ?_
        refine lv_iload_n hx hb dX4_at_83 rfl (lv_at hl 1 rfl) ?_
        obtain ⟨g5, hf⟩ := gd_s hf
        refine mg_iald (n := 4) (cA := ca 28) hx hb hC 28 20 (by decide) rfl rfl g5 dX4_at_84 ?_
        refine lv_bipush (v := 6) hx hb dX4_at_85 (by decide) ?_
        refine lv_idiv hx hb dX4_at_87 (by decide) ?_
        refine lv_aload_n hx hb dX4_at_88 rfl (lv_at hl 0 rfl) ?_
        refine mg_get (ci := 4) (C := RX4) (T := TX4) (N := 19) (v := .ref (ad 24)) hx hb hts inX4_at_X4 hown hC 16 (by decide) rfl rfl 12 (by decide) (hts _ lkX4_at_f31) rfl rfl dX4_at_89 ?_
        refine lv_iload_n hx hb dX4_at_92 rfl (lv_at hl 1 rfl) ?_
        obtain ⟨g6, hf⟩ := gd_s hf
        refine mg_iald (n := 4) (cA := ca 24) hx hb hC 24 16 (by decide) rfl rfl g6 dX4_at_93 ?_
        refine lv_isub hx hb dX4_at_94 ?_
        exact mr_I hx hb hr hlk hC hf dX4_at_95
      · have hf := it_t h4 hf
        refine lv_aload_n hx hb dX4_at_67 rfl (lv_at hl 0 rfl) ?_
        refine mg_get (ci := 4) (C := RX4) (T := TX4) (N := 19) (v := .ref (ad 28)) hx hb hts inX4_at_X4 hown hC 16 (by decide) rfl rfl 16 (by decide) (hts _ lkX4_at_f43) rfl rfl dX4_at_68 ?_
        refine lv_iload_n hx hb dX4_at_71 rfl (lv_at hl 1 rfl) ?_
        obtain ⟨g7, hf⟩ := gd_s hf
        refine mg_iald (n := 4) (cA := ca 28) hx hb hC 28 20 (by decide) rfl rfl g7 dX4_at_72 ?_
        refine lv_bipush (v := 6) hx hb dX4_at_73 (by decide) ?_
        refine lv_idiv hx hb dX4_at_75 (by decide) ?_
        refine lv_goto (tgt := 95) hx hb dX4_at_76 (by decide) ?_
        exact mr_I hx hb hr hlk hC hf dX4_at_95
    · have hf := it_t h3 hf
      refine lv_aload_n hx hb dX4_at_50 rfl (lv_at hl 0 rfl) ?_
      refine mg_get (ci := 4) (C := RX4) (T := TX4) (N := 19) (v := .ref (ad 28)) hx hb hts inX4_at_X4 hown hC 16 (by decide) rfl rfl 16 (by decide) (hts _ lkX4_at_f43) rfl rfl dX4_at_51 ?_
      refine lv_iload_n hx hb dX4_at_54 rfl (lv_at hl 1 rfl) ?_
      obtain ⟨g8, hf⟩ := gd_s hf
      refine mg_iald (n := 4) (cA := ca 28) hx hb hC 28 20 (by decide) rfl rfl g8 dX4_at_55 ?_
      refine lv_bipush (v := 6) hx hb dX4_at_56 (by decide) ?_
      refine lv_irem hx hb dX4_at_58 (by decide) ?_
      refine lv_goto (tgt := 95) hx hb dX4_at_59 (by decide) ?_
      exact mr_I hx hb hr hlk hC hf dX4_at_95
  · have hf := it_f h2 hf
    refine lv_iconst (v := 0) hx hb dX4_at_44 (by decide) ?_
    exact mr_I hx hb hr hlk hC hf dX4_at_45
set_option maxHeartbeats 4000000 in
set_option maxRecDepth 100000 in
theorem kX4_at (l : Launch) (D : va_G) (ad : Nat → Nat) (ca : Nat → ClassId) (B : Nat) (ov : Int64) (N : Nat) (x1 : Int32) (x2 : Int32) (M : Mem) (r0 : Int32) (M0 : Mem) (hf : fX4_at N x1 x2 M = some (r0, M0)) : MtI l D ad ca B ov yX4_at wsX4_at (rmX4_at) [.ref (ad 16), .int x1, .int x2] M r0 M0 := by
  unfold fX4_at at hf
  refine Met.ofW (cc := cX4_at) (maxL := 3) (ret := (some .int)) (by decide) rfl ?_
  intro p e s m args below meth c s₁ Bd hml hv
  obtain ⟨rfl, hw⟩ := hv
  have G : Mx p s m ([.ref (ad 16), .int x1, .int x2] : List Value).toArray meth c cX4_at 3 wsX4_at RX4 (some .int) := ⟨Bd.exec, Bd.bytes, hml, findClass_of_methodNamed Bd.named, atoms_spec (ws := wsX4_at) Bd.pre, Bd.returns, Bd.notSynchronized⟩
  have hC := Cu.of hw
  have hl := lv_entry ([.ref (ad 16), .int x1, .int x2]) (n := 3) (Nat.le_of_ble_eq_true rfl)
  rw [lg_entry_eq]
  generalize (lg_sl ([.ref (ad 16), .int x1, .int x2]) ++ List.replicate (3 - (lg_sl ([.ref (ad 16), .int x1, .int x2])).length) Slot.unset).toArray = ls at hl ⊢
  have hl : lv_has ls 3 [(0, .ref (ad 16)), (1, .int x1), (2, .int x2)] := hl
  obtain ⟨hx, hb, hml, hown, hts, hr, hlk⟩ := id G
  show W p l e (rmX4_at) s m _ below meth c s.heap [] 0 0 (MQ below (va_Qi (fun (r : Int32) (_ : Unit) => r = r0) (fun _ t => Wp D ad ca B M0 ov t.heap) (Ab B)) _ s 0 0 (Ab B)) (F0 m 0 ls [])
  refine lv_aload_n hx hb dX4_at_0 rfl (lv_at hl 0 rfl) ?_
  refine lv_aload_n hx hb dX4_at_1 rfl (lv_at hl 0 rfl) ?_
  refine lv_iload_n hx hb dX4_at_2 rfl (lv_at hl 1 rfl) ?_
  obtain ⟨r1, M2, hq, hf⟩ := bd_s hf
  refine mc_Vi (As := [.int x1]) ⟨hx, hb, hml, hown, hts⟩ hC (kX4_isShip l D ad ca B ov N x1 M r1 M2 hq) (cwV 1 hts gX4_at_X4_isShip rfl rfl rfl (by decide +kernel) ⟨Nat.le_of_ble_eq_true rfl, Nat.le_of_ble_eq_true rfl⟩) (mg_recv (ci := 4) (C := RX4) (T := TX4) (N := 19) hC 16 (by decide) rfl rfl) rfl hl.1 rfl (Nat.le_of_ble_eq_true rfl) dX4_at_3 ⟨Nat.zero_le _, Nat.zero_le _⟩ (fun H locs hC => ?_)
  refine lv_if_eq (tgt := 18) hx hb dX4_at_6 (by decide) (fun h3 => ?_) (fun h3 => ?_)
  · have hf := it_t h3 hf
    refine lv_iconst (v := 1) hx hb dX4_at_18 (by decide) ?_
    refine lv_goto (tgt := 34) hx hb dX4_at_19 (by decide) ?_
    exact wX4_at_34 G N x1 x2 1 M2 _ _ _ (lv_sub hl [0, 1, 2] rfl) hC hf
  · have hf := it_f h3 hf
    refine lv_iload_n hx hb dX4_at_9 rfl (lv_at hl 2 rfl) ?_
    refine lv_iconst (v := 0) hx hb dX4_at_10 (by decide) ?_
    refine lv_iconst (v := 2) hx hb dX4_at_11 (by decide) ?_
    obtain ⟨r4, M5, hq, hf⟩ := bd_s hf
    refine mc_Si (As := [.int x2, .int 0, .int 2]) ⟨hx, hb, hml, hown, hts⟩ hC (kX4_in l D ad ca B ov N x2 0 2 M2 r4 M5 hq) (va_cwS 3 hts gX4_at_X4_in rfl rfl rfl (by decide +kernel) ⟨Nat.le_of_ble_eq_true rfl, Nat.le_of_ble_eq_true rfl⟩) rfl hl.1 rfl (Nat.le_of_ble_eq_true rfl) dX4_at_12 ⟨Nat.zero_le _, Nat.zero_le _⟩ (fun H locs hC => ?_)
    refine lv_if_ne (tgt := 22) hx hb dX4_at_15 (by decide) (fun h6 => ?_) (fun h6 => ?_)
    · have hf := it_f h6 hf
      refine lv_aload_n hx hb dX4_at_22 rfl (lv_at hl 0 rfl) ?_
      refine mg_get (ci := 4) (C := RX4) (T := TX4) (N := 19) (v := .int (M5 16 4)) hx hb hts inX4_at_X4 hown hC 16 (by decide) rfl rfl 4 (by decide) (hts _ lkX4_at_f66) rfl rfl dX4_at_23 ?_
      refine lv_if_eq (tgt := 33) hx hb dX4_at_26 (by decide) (fun h7 => ?_) (fun h7 => ?_)
      · have hf := it_t h7 hf
        refine lv_iconst (v := 2) hx hb dX4_at_33 (by decide) ?_
        exact wX4_at_34 G N x1 x2 2 M5 _ _ _ (lv_sub hl [0, 1, 2] rfl) hC hf
      · have hf := it_f h7 hf
        refine lv_iconst (v := 0) hx hb dX4_at_29 (by decide) ?_
        refine lv_goto (tgt := 34) hx hb dX4_at_30 (by decide) ?_
        exact wX4_at_34 G N x1 x2 0 M5 _ _ _ (lv_sub hl [0, 1, 2] rfl) hC hf
    · have hf := it_t h6 hf
      refine lv_iconst (v := 1) hx hb dX4_at_18 (by decide) ?_
      refine lv_goto (tgt := 34) hx hb dX4_at_19 (by decide) ?_
      exact wX4_at_34 G N x1 x2 1 M5 _ _ _ (lv_sub hl [0, 1, 2] rfl) hC hf

theorem lkX4_lateness_f43 : Cond.fieldLink RX4 43 "BerthPlanModel" "berth" "[I" ∈ wsX4_lateness := by decide +kernel
theorem lkX4_lateness_f56 : Cond.fieldLink RX4 56 "BerthPlanModel" "thrown" "I" ∈ wsX4_lateness := by decide +kernel
theorem lkX4_lateness_f59 : Cond.fieldLink RX4 59 "BerthPlanModel" "ships" "I" ∈ wsX4_lateness := by decide +kernel
theorem lkX4_lateness_f66 : Cond.fieldLink RX4 66 "BerthPlanModel" "isPlan" "Z" ∈ wsX4_lateness := by decide +kernel
theorem inX4_lateness_X4 : ∀ w ∈ wsX40, w ∈ wsX4_lateness := by decide +kernel
abbrev rmX4_lateness : Room := { frames := 1, cells := 0, slots := 0, locals := 22 }
def fX4_lateness_29 (N : Nat) : Nat → Int32 → Int32 → Mem → Option (Int32 × Mem)
  | 0, _, _, _ => none
  | n + 1, x1, x2, M =>
    if ((M 16 2) ≤ x2 : Prop) then (some (x1, M)) else (gd (x2) 4 (bd (fX4_cost N x2 (M 28 (x2 : Int32).toNatClampNeg) M) (fun r3 M4 => lq (x1 + r3) (fun z5 => lq (x2 + 1) (fun z6 => fX4_lateness_29 N n z5 z6 M4)))))
theorem fX4_lateness_29_s {N n : Nat} {x1 : Int32} {x2 : Int32} {M : Mem} : fX4_lateness_29 N (n + 1) x1 x2 M =
    if ((M 16 2) ≤ x2 : Prop) then (some (x1, M)) else (gd (x2) 4 (bd (fX4_cost N x2 (M 28 (x2 : Int32).toNatClampNeg) M) (fun r3 M4 => lq (x1 + r3) (fun z5 => lq (x2 + 1) (fun z6 => fX4_lateness_29 N n z5 z6 M4))))) := rfl
def fX4_lateness_13 (N : Nat) (y1 : Int32) (M : Mem) : Option (Int32 × Mem) :=
    lq (mw M 16 0 y1) (fun M1 => if ((M1 16 0) ≤ 0 : Prop) then (fX4_lateness_29 N N 0 0 M1) else (some (0, M1)))
def fX4_lateness (N : Nat) (M : Mem) : Option (Int32 × Mem) :=
    if ((M 16 4) = 0 : Prop) then (fX4_lateness_13 N 1 M) else (fX4_lateness_13 N 0 M)
set_option maxHeartbeats 4000000 in
set_option maxRecDepth 100000 in
theorem wX4_lateness_29 {p : Program} {l : Launch} {e : Env} {s : State} {m : MethodId} {args : Array Value} {below : List Frame} {meth : Method} {c : Code} {D : va_G} {ad : Nat → Nat} {ca : Nat → ClassId} {B : Nat} {ov : Int64} {r0 : Int32} {M0 : Mem} (G : Mx p s m args meth c cX4_lateness 3 wsX4_lateness RX4 (some .int)) (N : Nat) : ∀ (n : Nat), ∀ (x1 : Int32) (x2 : Int32) (M : Mem) (H : Heap) (locs : List Loc) (ls : Array Slot), lv_has ls 3 [(0, .ref (ad 16)), (1, .int x1), (2, .int x2)] → Cu D ad ca B M ov s H locs → (fX4_lateness_29 N n) x1 x2 M = some (r0, M0) → W p l e (rmX4_lateness) s m args below meth c H locs 0 0 (MQ below (va_Qi (fun (r : Int32) (_ : Unit) => r = r0) (fun _ t => Wp D ad ca B M0 ov t.heap) (Ab B)) args s 0 0 (Ab B)) (F0 m 29 ls []) := by
  obtain ⟨hx, hb, hml, hown, hts, hr, hlk⟩ := id G
  intro n
  induction n with
  | zero =>
    intro x1 x2 M H locs ls hl hC hf
    cases hf
  | succ n ih =>
    intro x1 x2 M H locs ls hl hC hf
    have hf := (fX4_lateness_29_s).symm.trans hf
    refine lv_iload_n hx hb dX4_lateness_29 rfl (lv_at hl 2 rfl) ?_
    refine lv_aload_n hx hb dX4_lateness_30 rfl (lv_at hl 0 rfl) ?_
    refine mg_get (ci := 4) (C := RX4) (T := TX4) (N := 19) (v := .int (M 16 2)) hx hb hts inX4_lateness_X4 hown hC 16 (by decide) rfl rfl 2 (by decide) (hts _ lkX4_lateness_f59) rfl rfl dX4_lateness_31 ?_
    refine lv_icmp_ge (tgt := 57) hx hb dX4_lateness_34 (by decide) (fun h1 => ?_) (fun h1 => ?_)
    · have hf := it_t h1 hf
      refine lv_iload_n hx hb dX4_lateness_57 rfl (lv_at hl 1 rfl) ?_
      exact mr_I hx hb hr hlk hC hf dX4_lateness_58
    · have hf := it_f h1 hf
      refine lv_iload_n hx hb dX4_lateness_37 rfl (lv_at hl 1 rfl) ?_
      refine lv_aload_n hx hb dX4_lateness_38 rfl (lv_at hl 0 rfl) ?_
      refine lv_iload_n hx hb dX4_lateness_39 rfl (lv_at hl 2 rfl) ?_
      refine lv_aload_n hx hb dX4_lateness_40 rfl (lv_at hl 0 rfl) ?_
      refine mg_get (ci := 4) (C := RX4) (T := TX4) (N := 19) (v := .ref (ad 28)) hx hb hts inX4_lateness_X4 hown hC 16 (by decide) rfl rfl 16 (by decide) (hts _ lkX4_lateness_f43) rfl rfl dX4_lateness_41 ?_
      refine lv_iload_n hx hb dX4_lateness_44 rfl (lv_at hl 2 rfl) ?_
      obtain ⟨g2, hf⟩ := gd_s hf
      refine mg_iald (n := 4) (cA := ca 28) hx hb hC 28 20 (by decide) rfl rfl g2 dX4_lateness_45 ?_
      obtain ⟨r3, M4, hq, hf⟩ := bd_s hf
      refine mc_Vi (As := [.int x2, .int (M 28 (x2 : Int32).toNatClampNeg)]) ⟨hx, hb, hml, hown, hts⟩ hC (kX4_cost l D ad ca B ov N x2 (M 28 (x2 : Int32).toNatClampNeg) M r3 M4 hq) (cwV 2 hts gX4_lateness_X4_cost rfl rfl rfl (by decide +kernel) ⟨Nat.le_of_ble_eq_true rfl, Nat.le_of_ble_eq_true rfl⟩) (mg_recv (ci := 4) (C := RX4) (T := TX4) (N := 19) hC 16 (by decide) rfl rfl) rfl hl.1 rfl (Nat.le_of_ble_eq_true rfl) dX4_lateness_46 ⟨Nat.zero_le _, Nat.zero_le _⟩ (fun H locs hC => ?_)
      refine lv_iadd hx hb dX4_lateness_49 ?_
      refine lv_topi (fun z5 ez5 => ?_)
      have hf := lq_k ez5 hf
      refine lv_istore_n (lv' := [(1, .int z5), (0, .ref (ad 16)), (2, .int x2)]) hx hb dX4_lateness_50 rfl hl (by decide) rfl (fun ls hl => ?_)
      obtain ⟨z6, ez6⟩ : ∃ y : Int32, y = x2 + 1 := ⟨_, rfl⟩
      have hf := lq_k ez6 hf
      refine lv_iinc (v := z6) (lv' := [(2, .int z6), (1, .int z5), (0, .ref (ad 16))]) hx hb dX4_lateness_51 hl (k := 2) rfl (by rw [ez6]; rfl) (by decide) rfl (fun ls hl => ?_)
      refine lv_goto (tgt := 29) hx hb dX4_lateness_54 (by decide) ?_
      exact ih z5 z6 M4 _ _ _ (lv_sub hl [2, 1, 0] rfl) hC hf
set_option maxHeartbeats 4000000 in
set_option maxRecDepth 100000 in
theorem wX4_lateness_13 {p : Program} {l : Launch} {e : Env} {s : State} {m : MethodId} {args : Array Value} {below : List Frame} {meth : Method} {c : Code} {D : va_G} {ad : Nat → Nat} {ca : Nat → ClassId} {B : Nat} {ov : Int64} {r0 : Int32} {M0 : Mem} (G : Mx p s m args meth c cX4_lateness 3 wsX4_lateness RX4 (some .int)) (N : Nat) : ∀ (y1 : Int32) (M : Mem) (H : Heap) (locs : List Loc) (ls : Array Slot), lv_has ls 3 [(0, .ref (ad 16))] → Cu D ad ca B M ov s H locs → (fX4_lateness_13 N) y1 M = some (r0, M0) → W p l e (rmX4_lateness) s m args below meth c H locs 0 0 (MQ below (va_Qi (fun (r : Int32) (_ : Unit) => r = r0) (fun _ t => Wp D ad ca B M0 ov t.heap) (Ab B)) args s 0 0 (Ab B)) (F0 m 13 ls [.int y1, .ref (ad 16)]) := by
  obtain ⟨hx, hb, hml, hown, hts, hr, hlk⟩ := id G
  intro y1 M H locs ls hl hC hf
  unfold fX4_lateness_13 at hf
  refine mg_put (ci := 4) (C := RX4) (T := TX4) (N := 19) (ty := .int) (v := .int y1) (x := y1) hx hb hts inX4_lateness_X4 tyX4 tyX4_ok nmX4 hown hC 16 (by decide) rfl rfl 0 (by decide) (hts _ lkX4_lateness_f56) rfl rfl (by decide +kernel) rfl rfl (Nat.le_of_ble_eq_true rfl) rfl dX4_lateness_13 (fun H locs hC => ?_)
  obtain ⟨M1, eM1⟩ : ∃ z : Mem, z = mw M 16 0 y1 := ⟨_, rfl⟩
  rw [← eM1] at hC
  have hf := lq_k eM1 hf
  refine lv_aload_n hx hb dX4_lateness_16 rfl (lv_at hl 0 rfl) ?_
  refine mg_get (ci := 4) (C := RX4) (T := TX4) (N := 19) (v := .int (M1 16 0)) hx hb hts inX4_lateness_X4 hown hC 16 (by decide) rfl rfl 0 (by decide) (hts _ lkX4_lateness_f56) rfl rfl dX4_lateness_17 ?_
  refine lv_if_le (tgt := 25) hx hb dX4_lateness_20 (by decide) (fun h2 => ?_) (fun h2 => ?_)
  · have hf := it_t h2 hf
    refine lv_iconst (v := 0) hx hb dX4_lateness_25 (by decide) ?_
    refine lv_istore_n (lv' := [(1, .int 0), (0, .ref (ad 16))]) hx hb dX4_lateness_26 rfl hl (by decide) rfl (fun ls hl => ?_)
    refine lv_iconst (v := 0) hx hb dX4_lateness_27 (by decide) ?_
    refine lv_istore_n (lv' := [(2, .int 0), (1, .int 0), (0, .ref (ad 16))]) hx hb dX4_lateness_28 rfl hl (by decide) rfl (fun ls hl => ?_)
    exact wX4_lateness_29 G N N 0 0 M1 _ _ _ (lv_sub hl [2, 1, 0] rfl) hC hf
  · have hf := it_f h2 hf
    refine lv_iconst (v := 0) hx hb dX4_lateness_23 (by decide) ?_
    exact mr_I hx hb hr hlk hC hf dX4_lateness_24
set_option maxHeartbeats 4000000 in
set_option maxRecDepth 100000 in
theorem kX4_lateness (l : Launch) (D : va_G) (ad : Nat → Nat) (ca : Nat → ClassId) (B : Nat) (ov : Int64) (N : Nat) (M : Mem) (r0 : Int32) (M0 : Mem) (hf : fX4_lateness N M = some (r0, M0)) : MtI l D ad ca B ov yX4_lateness wsX4_lateness (rmX4_lateness) [.ref (ad 16)] M r0 M0 := by
  unfold fX4_lateness at hf
  refine Met.ofW (cc := cX4_lateness) (maxL := 3) (ret := (some .int)) (by decide) rfl ?_
  intro p e s m args below meth c s₁ Bd hml hv
  obtain ⟨rfl, hw⟩ := hv
  have G : Mx p s m ([.ref (ad 16)] : List Value).toArray meth c cX4_lateness 3 wsX4_lateness RX4 (some .int) := ⟨Bd.exec, Bd.bytes, hml, findClass_of_methodNamed Bd.named, atoms_spec (ws := wsX4_lateness) Bd.pre, Bd.returns, Bd.notSynchronized⟩
  have hC := Cu.of hw
  have hl := lv_entry ([.ref (ad 16)]) (n := 3) (Nat.le_of_ble_eq_true rfl)
  rw [lg_entry_eq]
  generalize (lg_sl ([.ref (ad 16)]) ++ List.replicate (3 - (lg_sl ([.ref (ad 16)])).length) Slot.unset).toArray = ls at hl ⊢
  have hl : lv_has ls 3 [(0, .ref (ad 16))] := hl
  obtain ⟨hx, hb, hml, hown, hts, hr, hlk⟩ := id G
  show W p l e (rmX4_lateness) s m _ below meth c s.heap [] 0 0 (MQ below (va_Qi (fun (r : Int32) (_ : Unit) => r = r0) (fun _ t => Wp D ad ca B M0 ov t.heap) (Ab B)) _ s 0 0 (Ab B)) (F0 m 0 ls [])
  refine lv_aload_n hx hb dX4_lateness_0 rfl (lv_at hl 0 rfl) ?_
  refine lv_aload_n hx hb dX4_lateness_1 rfl (lv_at hl 0 rfl) ?_
  refine mg_get (ci := 4) (C := RX4) (T := TX4) (N := 19) (v := .int (M 16 4)) hx hb hts inX4_lateness_X4 hown hC 16 (by decide) rfl rfl 4 (by decide) (hts _ lkX4_lateness_f66) rfl rfl dX4_lateness_2 ?_
  refine lv_if_eq (tgt := 12) hx hb dX4_lateness_5 (by decide) (fun h1 => ?_) (fun h1 => ?_)
  · have hf := it_t h1 hf
    refine lv_iconst (v := 1) hx hb dX4_lateness_12 (by decide) ?_
    exact wX4_lateness_13 G N 1 M _ _ _ (lv_sub hl [0] rfl) hC hf
  · have hf := it_f h1 hf
    refine lv_iconst (v := 0) hx hb dX4_lateness_8 (by decide) ?_
    refine lv_goto (tgt := 13) hx hb dX4_lateness_9 (by decide) ?_
    exact wX4_lateness_13 G N 0 M _ _ _ (lv_sub hl [0] rfl) hC hf

theorem lkX4_bound_c97 : Cond.constant RX4 97 (1000000000) ∈ wsX4_bound := by decide +kernel
theorem lkX4_bound_f56 : Cond.fieldLink RX4 56 "BerthPlanModel" "thrown" "I" ∈ wsX4_bound := by decide +kernel
theorem lkX4_bound_f59 : Cond.fieldLink RX4 59 "BerthPlanModel" "ships" "I" ∈ wsX4_bound := by decide +kernel
theorem inX4_bound_X4 : ∀ w ∈ wsX40, w ∈ wsX4_bound := by decide +kernel
abbrev rmX4_bound : Room := { frames := 4, cells := 0, slots := 0, locals := 90 }
def fX4_bound_9 (N : Nat) : Nat → Int32 → Int32 → Mem → Option (Int32 × Mem)
  | 0, _, _, _ => none
  | n + 1, x1, x2, M =>
    if ((M 16 2) ≤ x2 : Prop) then (some (x1, M)) else (bd (fX4_leastOf N x2 M) (fun r2 M3 => if (r2 = 1000000000 : Prop) then (some ((-1), M3)) else (bd (fX4_leastOf N x2 M3) (fun r5 M6 => lq (x1 + r5) (fun z7 => lq (x2 + 1) (fun z8 => fX4_bound_9 N n z7 z8 M6))))))
theorem fX4_bound_9_s {N n : Nat} {x1 : Int32} {x2 : Int32} {M : Mem} : fX4_bound_9 N (n + 1) x1 x2 M =
    if ((M 16 2) ≤ x2 : Prop) then (some (x1, M)) else (bd (fX4_leastOf N x2 M) (fun r2 M3 => if (r2 = 1000000000 : Prop) then (some ((-1), M3)) else (bd (fX4_leastOf N x2 M3) (fun r5 M6 => lq (x1 + r5) (fun z7 => lq (x2 + 1) (fun z8 => fX4_bound_9 N n z7 z8 M6)))))) := rfl
def fX4_bound (N : Nat) (M : Mem) : Option (Int32 × Mem) :=
    lq (mw M 16 0 0) (fun M1 => fX4_bound_9 N N 0 0 M1)
set_option maxHeartbeats 4000000 in
set_option maxRecDepth 100000 in
theorem wX4_bound_9 {p : Program} {l : Launch} {e : Env} {s : State} {m : MethodId} {args : Array Value} {below : List Frame} {meth : Method} {c : Code} {D : va_G} {ad : Nat → Nat} {ca : Nat → ClassId} {B : Nat} {ov : Int64} {r0 : Int32} {M0 : Mem} (G : Mx p s m args meth c cX4_bound 3 wsX4_bound RX4 (some .int)) (N : Nat) : ∀ (n : Nat), ∀ (x1 : Int32) (x2 : Int32) (M : Mem) (H : Heap) (locs : List Loc) (ls : Array Slot), lv_has ls 3 [(0, .ref (ad 16)), (1, .int x1), (2, .int x2)] → Cu D ad ca B M ov s H locs → (fX4_bound_9 N n) x1 x2 M = some (r0, M0) → W p l e (rmX4_bound) s m args below meth c H locs 0 0 (MQ below (va_Qi (fun (r : Int32) (_ : Unit) => r = r0) (fun _ t => Wp D ad ca B M0 ov t.heap) (Ab B)) args s 0 0 (Ab B)) (F0 m 9 ls []) := by
  obtain ⟨hx, hb, hml, hown, hts, hr, hlk⟩ := id G
  intro n
  induction n with
  | zero =>
    intro x1 x2 M H locs ls hl hC hf
    cases hf
  | succ n ih =>
    intro x1 x2 M H locs ls hl hC hf
    have hf := (fX4_bound_9_s).symm.trans hf
    refine lv_iload_n hx hb dX4_bound_9 rfl (lv_at hl 2 rfl) ?_
    refine lv_aload_n hx hb dX4_bound_10 rfl (lv_at hl 0 rfl) ?_
    refine mg_get (ci := 4) (C := RX4) (T := TX4) (N := 19) (v := .int (M 16 2)) hx hb hts inX4_bound_X4 hown hC 16 (by decide) rfl rfl 2 (by decide) (hts _ lkX4_bound_f59) rfl rfl dX4_bound_11 ?_
    refine lv_icmp_ge (tgt := 43) hx hb dX4_bound_14 (by decide) (fun h1 => ?_) (fun h1 => ?_)
    · have hf := it_t h1 hf
      refine lv_iload_n hx hb dX4_bound_43 rfl (lv_at hl 1 rfl) ?_
      exact mr_I hx hb hr hlk hC hf dX4_bound_44
    · have hf := it_f h1 hf
      refine lv_aload_n hx hb dX4_bound_17 rfl (lv_at hl 0 rfl) ?_
      refine lv_iload_n hx hb dX4_bound_18 rfl (lv_at hl 2 rfl) ?_
      obtain ⟨r2, M3, hq, hf⟩ := bd_s hf
      refine mc_Vi (As := [.int x2]) ⟨hx, hb, hml, hown, hts⟩ hC (kX4_leastOf l D ad ca B ov N x2 M r2 M3 hq) (cwV 1 hts gX4_bound_X4_leastOf rfl rfl rfl (by decide +kernel) ⟨Nat.le_of_ble_eq_true rfl, Nat.le_of_ble_eq_true rfl⟩) (mg_recv (ci := 4) (C := RX4) (T := TX4) (N := 19) hC 16 (by decide) rfl rfl) rfl hl.1 rfl (Nat.le_of_ble_eq_true rfl) dX4_bound_19 ⟨Nat.zero_le _, Nat.zero_le _⟩ (fun H locs hC => ?_)
      refine lv_ldc (v := 1000000000) hx hb hown (hts _ lkX4_bound_c97) dX4_bound_22 ?_
      refine lv_icmp_ne (tgt := 29) hx hb dX4_bound_24 (by decide) (fun h4 => ?_) (fun h4 => ?_)
      · have hf := it_f h4 hf
        refine lv_iload_n hx hb dX4_bound_29 rfl (lv_at hl 1 rfl) ?_
        refine lv_aload_n hx hb dX4_bound_30 rfl (lv_at hl 0 rfl) ?_
        refine lv_iload_n hx hb dX4_bound_31 rfl (lv_at hl 2 rfl) ?_
        obtain ⟨r5, M6, hq, hf⟩ := bd_s hf
        refine mc_Vi (As := [.int x2]) ⟨hx, hb, hml, hown, hts⟩ hC (kX4_leastOf l D ad ca B ov N x2 M3 r5 M6 hq) (cwV 1 hts gX4_bound_X4_leastOf rfl rfl rfl (by decide +kernel) ⟨Nat.le_of_ble_eq_true rfl, Nat.le_of_ble_eq_true rfl⟩) (mg_recv (ci := 4) (C := RX4) (T := TX4) (N := 19) hC 16 (by decide) rfl rfl) rfl hl.1 rfl (Nat.le_of_ble_eq_true rfl) dX4_bound_32 ⟨Nat.zero_le _, Nat.zero_le _⟩ (fun H locs hC => ?_)
        refine lv_iadd hx hb dX4_bound_35 ?_
        refine lv_topi (fun z7 ez7 => ?_)
        have hf := lq_k ez7 hf
        refine lv_istore_n (lv' := [(1, .int z7), (0, .ref (ad 16)), (2, .int x2)]) hx hb dX4_bound_36 rfl hl (by decide) rfl (fun ls hl => ?_)
        obtain ⟨z8, ez8⟩ : ∃ y : Int32, y = x2 + 1 := ⟨_, rfl⟩
        have hf := lq_k ez8 hf
        refine lv_iinc (v := z8) (lv' := [(2, .int z8), (1, .int z7), (0, .ref (ad 16))]) hx hb dX4_bound_37 hl (k := 2) rfl (by rw [ez8]; rfl) (by decide) rfl (fun ls hl => ?_)
        refine lv_goto (tgt := 9) hx hb dX4_bound_40 (by decide) ?_
        exact ih z7 z8 M6 _ _ _ (lv_sub hl [2, 1, 0] rfl) hC hf
      · have hf := it_t h4 hf
        refine lv_iconst (v := (-1)) hx hb dX4_bound_27 (by decide) ?_
        exact mr_I hx hb hr hlk hC hf dX4_bound_28
set_option maxHeartbeats 4000000 in
set_option maxRecDepth 100000 in
theorem kX4_bound (l : Launch) (D : va_G) (ad : Nat → Nat) (ca : Nat → ClassId) (B : Nat) (ov : Int64) (N : Nat) (M : Mem) (r0 : Int32) (M0 : Mem) (hf : fX4_bound N M = some (r0, M0)) : MtI l D ad ca B ov yX4_bound wsX4_bound (rmX4_bound) [.ref (ad 16)] M r0 M0 := by
  unfold fX4_bound at hf
  refine Met.ofW (cc := cX4_bound) (maxL := 3) (ret := (some .int)) (by decide) rfl ?_
  intro p e s m args below meth c s₁ Bd hml hv
  obtain ⟨rfl, hw⟩ := hv
  have G : Mx p s m ([.ref (ad 16)] : List Value).toArray meth c cX4_bound 3 wsX4_bound RX4 (some .int) := ⟨Bd.exec, Bd.bytes, hml, findClass_of_methodNamed Bd.named, atoms_spec (ws := wsX4_bound) Bd.pre, Bd.returns, Bd.notSynchronized⟩
  have hC := Cu.of hw
  have hl := lv_entry ([.ref (ad 16)]) (n := 3) (Nat.le_of_ble_eq_true rfl)
  rw [lg_entry_eq]
  generalize (lg_sl ([.ref (ad 16)]) ++ List.replicate (3 - (lg_sl ([.ref (ad 16)])).length) Slot.unset).toArray = ls at hl ⊢
  have hl : lv_has ls 3 [(0, .ref (ad 16))] := hl
  obtain ⟨hx, hb, hml, hown, hts, hr, hlk⟩ := id G
  show W p l e (rmX4_bound) s m _ below meth c s.heap [] 0 0 (MQ below (va_Qi (fun (r : Int32) (_ : Unit) => r = r0) (fun _ t => Wp D ad ca B M0 ov t.heap) (Ab B)) _ s 0 0 (Ab B)) (F0 m 0 ls [])
  refine lv_aload_n hx hb dX4_bound_0 rfl (lv_at hl 0 rfl) ?_
  refine lv_iconst (v := 0) hx hb dX4_bound_1 (by decide) ?_
  refine mg_put (ci := 4) (C := RX4) (T := TX4) (N := 19) (ty := .int) (v := .int 0) (x := 0) hx hb hts inX4_bound_X4 tyX4 tyX4_ok nmX4 hown hC 16 (by decide) rfl rfl 0 (by decide) (hts _ lkX4_bound_f56) rfl rfl (by decide +kernel) rfl rfl (Nat.le_of_ble_eq_true rfl) rfl dX4_bound_2 (fun H locs hC => ?_)
  obtain ⟨M1, eM1⟩ : ∃ z : Mem, z = mw M 16 0 0 := ⟨_, rfl⟩
  rw [← eM1] at hC
  have hf := lq_k eM1 hf
  refine lv_iconst (v := 0) hx hb dX4_bound_5 (by decide) ?_
  refine lv_istore_n (lv' := [(1, .int 0), (0, .ref (ad 16))]) hx hb dX4_bound_6 rfl hl (by decide) rfl (fun ls hl => ?_)
  refine lv_iconst (v := 0) hx hb dX4_bound_7 (by decide) ?_
  refine lv_istore_n (lv' := [(2, .int 0), (1, .int 0), (0, .ref (ad 16))]) hx hb dX4_bound_8 rfl hl (by decide) rfl (fun ls hl => ?_)
  exact wX4_bound_9 G N N 0 0 M1 _ _ _ (lv_sub hl [2, 1, 0] rfl) hC hf

theorem lkX4_why_c97 : Cond.constant RX4 97 (1000000000) ∈ wsX4_why := by decide +kernel
theorem lkX4_why_f22 : Cond.fieldLink RX4 22 "BerthPlanModel" "length" "[I" ∈ wsX4_why := by decide +kernel
theorem lkX4_why_f52 : Cond.fieldLink RX4 52 "BerthPlanModel" "places" "I" ∈ wsX4_why := by decide +kernel
theorem lkX4_why_f56 : Cond.fieldLink RX4 56 "BerthPlanModel" "thrown" "I" ∈ wsX4_why := by decide +kernel
theorem inX4_why_X4 : ∀ w ∈ wsX40, w ∈ wsX4_why := by decide +kernel
abbrev rmX4_why : Room := { frames := 4, cells := 0, slots := 0, locals := 90 }
def fX4_why_61 (N : Nat) (k33 : Int32 → Int32 → Int32 → Int32 → Mem → Option (Int32 × Mem)) (x1 : Int32) (x3 : Int32) (x4 : Int32) (y0 : Int32) (M : Mem) : Option (Int32 × Mem) :=
    if (x3 = 0 : Prop) then (bd (fX4_isDeep N x1 x4 M) (fun r3 M4 => if (r3 = 0 : Prop) then (lq (x4 + 1) (fun z6 => k33 x1 y0 0 z6 M4)) else (bd (fX4_hasGear N x1 x4 M4) (fun r7 M8 => if (r7 = 0 : Prop) then (lq (x4 + 1) (fun z10 => k33 x1 y0 0 z10 M8)) else (lq (x4 + 1) (fun z11 => k33 x1 y0 1 z11 M8)))))) else (lq (x4 + 1) (fun z2 => k33 x1 y0 1 z2 M))
def fX4_why_33 (N : Nat) : Nat → Int32 → Int32 → Int32 → Int32 → Mem → Option (Int32 × Mem)
  | 0, _, _, _, _, _ => none
  | n + 1, x1, x2, x3, x4, M =>
    if ((M 16 1) ≤ x4 : Prop) then (bd (fX4_leastOf N x1 M) (fun r2 M3 => if (1000000000 ≤ r2 : Prop) then (gd (x1) 4 (if ((M3 21 (x1 : Int32).toNatClampNeg) ≤ (M3 16 1) : Prop) then (if (x2 = 0 : Prop) then (some (2, M3)) else (if (x3 = 0 : Prop) then (some (3, M3)) else (some (4, M3)))) else (some (1, M3)))) else (some (0, M3)))) else (if (x2 = 0 : Prop) then (bd (fX4_isDeep N x1 x4 M) (fun r10 M11 => if (r10 = 0 : Prop) then (fX4_why_61 N (fX4_why_33 N n) x1 x3 x4 0 M11) else (fX4_why_61 N (fX4_why_33 N n) x1 x3 x4 1 M11))) else (fX4_why_61 N (fX4_why_33 N n) x1 x3 x4 1 M))
theorem fX4_why_33_s {N n : Nat} {x1 : Int32} {x2 : Int32} {x3 : Int32} {x4 : Int32} {M : Mem} : fX4_why_33 N (n + 1) x1 x2 x3 x4 M =
    if ((M 16 1) ≤ x4 : Prop) then (bd (fX4_leastOf N x1 M) (fun r2 M3 => if (1000000000 ≤ r2 : Prop) then (gd (x1) 4 (if ((M3 21 (x1 : Int32).toNatClampNeg) ≤ (M3 16 1) : Prop) then (if (x2 = 0 : Prop) then (some (2, M3)) else (if (x3 = 0 : Prop) then (some (3, M3)) else (some (4, M3)))) else (some (1, M3)))) else (some (0, M3)))) else (if (x2 = 0 : Prop) then (bd (fX4_isDeep N x1 x4 M) (fun r10 M11 => if (r10 = 0 : Prop) then (fX4_why_61 N (fX4_why_33 N n) x1 x3 x4 0 M11) else (fX4_why_61 N (fX4_why_33 N n) x1 x3 x4 1 M11))) else (fX4_why_61 N (fX4_why_33 N n) x1 x3 x4 1 M)) := rfl
def fX4_why_14 (N : Nat) (x1 : Int32) (y1 : Int32) (M : Mem) : Option (Int32 × Mem) :=
    lq (mw M 16 0 y1) (fun M1 => if ((M1 16 0) ≤ 0 : Prop) then (fX4_why_33 N N x1 0 0 0 M1) else (some (0, M1)))
def fX4_why (N : Nat) (x1 : Int32) (M : Mem) : Option (Int32 × Mem) :=
    bd (fX4_isShip N x1 M) (fun r1 M2 => if (r1 = 0 : Prop) then (fX4_why_14 N x1 1 M2) else (fX4_why_14 N x1 0 M2))
set_option maxHeartbeats 4000000 in
set_option maxRecDepth 100000 in
theorem wX4_why_61 {p : Program} {l : Launch} {e : Env} {s : State} {m : MethodId} {args : Array Value} {below : List Frame} {meth : Method} {c : Code} {D : va_G} {ad : Nat → Nat} {ca : Nat → ClassId} {B : Nat} {ov : Int64} {r0 : Int32} {M0 : Mem} (G : Mx p s m args meth c cX4_why 5 wsX4_why RX4 (some .int)) (N : Nat) {k33 : Int32 → Int32 → Int32 → Int32 → Mem → Option (Int32 × Mem)}
    (hk33 : ∀ (x1 : Int32) (x2 : Int32) (x3 : Int32) (x4 : Int32) (M : Mem) (H : Heap) (locs : List Loc) (ls : Array Slot), lv_has ls 5 [(0, .ref (ad 16)), (1, .int x1), (2, .int x2), (3, .int x3), (4, .int x4)] → Cu D ad ca B M ov s H locs → k33 x1 x2 x3 x4 M = some (r0, M0) → W p l e (rmX4_why) s m args below meth c H locs 0 0 (MQ below (va_Qi (fun (r : Int32) (_ : Unit) => r = r0) (fun _ t => Wp D ad ca B M0 ov t.heap) (Ab B)) args s 0 0 (Ab B)) (F0 m 33 ls [])) : ∀ (x1 : Int32) (x3 : Int32) (x4 : Int32) (y0 : Int32) (M : Mem) (H : Heap) (locs : List Loc) (ls : Array Slot), lv_has ls 5 [(0, .ref (ad 16)), (1, .int x1), (3, .int x3), (4, .int x4)] → Cu D ad ca B M ov s H locs → (fX4_why_61 N k33) x1 x3 x4 y0 M = some (r0, M0) → W p l e (rmX4_why) s m args below meth c H locs 0 0 (MQ below (va_Qi (fun (r : Int32) (_ : Unit) => r = r0) (fun _ t => Wp D ad ca B M0 ov t.heap) (Ab B)) args s 0 0 (Ab B)) (F0 m 61 ls [.int y0]) := by
  obtain ⟨hx, hb, hml, hown, hts, hr, hlk⟩ := id G
  intro x1 x3 x4 y0 M H locs ls hl hC hf
  unfold fX4_why_61 at hf
  refine lv_istore_n (lv' := [(2, .int y0), (0, .ref (ad 16)), (1, .int x1), (3, .int x3), (4, .int x4)]) hx hb dX4_why_61 rfl hl (by decide) rfl (fun ls hl => ?_)
  refine lv_iload_n hx hb dX4_why_62 rfl (lv_at hl 3 rfl) ?_
  refine lv_if_ne (tgt := 86) hx hb dX4_why_63 (by decide) (fun h1 => ?_) (fun h1 => ?_)
  · have hf := it_f h1 hf
    refine lv_iconst (v := 1) hx hb dX4_why_86 (by decide) ?_
    refine lv_goto (tgt := 91) hx hb dX4_why_87 (by decide) ?_
    refine lv_istore_n (lv' := [(3, .int 1), (2, .int y0), (0, .ref (ad 16)), (1, .int x1), (4, .int x4)]) hx hb dX4_why_91 rfl hl (by decide) rfl (fun ls hl => ?_)
    obtain ⟨z2, ez2⟩ : ∃ y : Int32, y = x4 + 1 := ⟨_, rfl⟩
    have hf := lq_k ez2 hf
    refine lv_iinc (v := z2) (lv' := [(4, .int z2), (3, .int 1), (2, .int y0), (0, .ref (ad 16)), (1, .int x1)]) hx hb dX4_why_92 hl (k := 4) rfl (by rw [ez2]; rfl) (by decide) rfl (fun ls hl => ?_)
    refine lv_goto (tgt := 33) hx hb dX4_why_95 (by decide) ?_
    exact hk33 x1 y0 1 z2 M _ _ _ (lv_sub hl [3, 4, 2, 1, 0] rfl) hC hf
  · have hf := it_t h1 hf
    refine lv_aload_n hx hb dX4_why_66 rfl (lv_at hl 1 rfl) ?_
    refine lv_iload_n hx hb dX4_why_67 rfl (lv_at hl 2 rfl) ?_
    refine lv_iload hx hb dX4_why_68 (lv_at hl 4 rfl) ?_
    obtain ⟨r3, M4, hq, hf⟩ := bd_s hf
    refine mc_Vi (As := [.int x1, .int x4]) ⟨hx, hb, hml, hown, hts⟩ hC (kX4_isDeep l D ad ca B ov N x1 x4 M r3 M4 hq) (cwV 2 hts gX4_why_X4_isDeep rfl rfl rfl (by decide +kernel) ⟨Nat.le_of_ble_eq_true rfl, Nat.le_of_ble_eq_true rfl⟩) (mg_recv (ci := 4) (C := RX4) (T := TX4) (N := 19) hC 16 (by decide) rfl rfl) rfl hl.1 rfl (Nat.le_of_ble_eq_true rfl) dX4_why_70 ⟨Nat.zero_le _, Nat.zero_le _⟩ (fun H locs hC => ?_)
    refine lv_if_eq (tgt := 90) hx hb dX4_why_73 (by decide) (fun h5 => ?_) (fun h5 => ?_)
    · have hf := it_t h5 hf
      refine lv_iconst (v := 0) hx hb dX4_why_90 (by decide) ?_
      refine lv_istore_n (lv' := [(3, .int 0), (2, .int y0), (0, .ref (ad 16)), (1, .int x1), (4, .int x4)]) hx hb dX4_why_91 rfl hl (by decide) rfl (fun ls hl => ?_)
      obtain ⟨z6, ez6⟩ : ∃ y : Int32, y = x4 + 1 := ⟨_, rfl⟩
      have hf := lq_k ez6 hf
      refine lv_iinc (v := z6) (lv' := [(4, .int z6), (3, .int 0), (2, .int y0), (0, .ref (ad 16)), (1, .int x1)]) hx hb dX4_why_92 hl (k := 4) rfl (by rw [ez6]; rfl) (by decide) rfl (fun ls hl => ?_)
      refine lv_goto (tgt := 33) hx hb dX4_why_95 (by decide) ?_
      exact hk33 x1 y0 0 z6 M4 _ _ _ (lv_sub hl [3, 4, 2, 1, 0] rfl) hC hf
    · have hf := it_f h5 hf
      refine lv_aload_n hx hb dX4_why_76 rfl (lv_at hl 1 rfl) ?_
      refine lv_iload_n hx hb dX4_why_77 rfl (lv_at hl 2 rfl) ?_
      refine lv_iload hx hb dX4_why_78 (lv_at hl 4 rfl) ?_
      obtain ⟨r7, M8, hq, hf⟩ := bd_s hf
      refine mc_Vi (As := [.int x1, .int x4]) ⟨hx, hb, hml, hown, hts⟩ hC (kX4_hasGear l D ad ca B ov N x1 x4 M4 r7 M8 hq) (cwV 2 hts gX4_why_X4_hasGear rfl rfl rfl (by decide +kernel) ⟨Nat.le_of_ble_eq_true rfl, Nat.le_of_ble_eq_true rfl⟩) (mg_recv (ci := 4) (C := RX4) (T := TX4) (N := 19) hC 16 (by decide) rfl rfl) rfl hl.1 rfl (Nat.le_of_ble_eq_true rfl) dX4_why_80 ⟨Nat.zero_le _, Nat.zero_le _⟩ (fun H locs hC => ?_)
      refine lv_if_eq (tgt := 90) hx hb dX4_why_83 (by decide) (fun h9 => ?_) (fun h9 => ?_)
      · have hf := it_t h9 hf
        refine lv_iconst (v := 0) hx hb dX4_why_90 (by decide) ?_
        refine lv_istore_n (lv' := [(3, .int 0), (2, .int y0), (0, .ref (ad 16)), (1, .int x1), (4, .int x4)]) hx hb dX4_why_91 rfl hl (by decide) rfl (fun ls hl => ?_)
        obtain ⟨z10, ez10⟩ : ∃ y : Int32, y = x4 + 1 := ⟨_, rfl⟩
        have hf := lq_k ez10 hf
        refine lv_iinc (v := z10) (lv' := [(4, .int z10), (3, .int 0), (2, .int y0), (0, .ref (ad 16)), (1, .int x1)]) hx hb dX4_why_92 hl (k := 4) rfl (by rw [ez10]; rfl) (by decide) rfl (fun ls hl => ?_)
        refine lv_goto (tgt := 33) hx hb dX4_why_95 (by decide) ?_
        exact hk33 x1 y0 0 z10 M8 _ _ _ (lv_sub hl [3, 4, 2, 1, 0] rfl) hC hf
      · have hf := it_f h9 hf
        refine lv_iconst (v := 1) hx hb dX4_why_86 (by decide) ?_
        refine lv_goto (tgt := 91) hx hb dX4_why_87 (by decide) ?_
        refine lv_istore_n (lv' := [(3, .int 1), (2, .int y0), (0, .ref (ad 16)), (1, .int x1), (4, .int x4)]) hx hb dX4_why_91 rfl hl (by decide) rfl (fun ls hl => ?_)
        obtain ⟨z11, ez11⟩ : ∃ y : Int32, y = x4 + 1 := ⟨_, rfl⟩
        have hf := lq_k ez11 hf
        refine lv_iinc (v := z11) (lv' := [(4, .int z11), (3, .int 1), (2, .int y0), (0, .ref (ad 16)), (1, .int x1)]) hx hb dX4_why_92 hl (k := 4) rfl (by rw [ez11]; rfl) (by decide) rfl (fun ls hl => ?_)
        refine lv_goto (tgt := 33) hx hb dX4_why_95 (by decide) ?_
        exact hk33 x1 y0 1 z11 M8 _ _ _ (lv_sub hl [3, 4, 2, 1, 0] rfl) hC hf
set_option maxHeartbeats 4000000 in
set_option maxRecDepth 100000 in
theorem wX4_why_33 {p : Program} {l : Launch} {e : Env} {s : State} {m : MethodId} {args : Array Value} {below : List Frame} {meth : Method} {c : Code} {D : va_G} {ad : Nat → Nat} {ca : Nat → ClassId} {B : Nat} {ov : Int64} {r0 : Int32} {M0 : Mem} (G : Mx p s m args meth c cX4_why 5 wsX4_why RX4 (some .int)) (N : Nat) : ∀ (n : Nat), ∀ (x1 : Int32) (x2 : Int32) (x3 : Int32) (x4 : Int32) (M : Mem) (H : Heap) (locs : List Loc) (ls : Array Slot), lv_has ls 5 [(0, .ref (ad 16)), (1, .int x1), (2, .int x2), (3, .int x3), (4, .int x4)] → Cu D ad ca B M ov s H locs → (fX4_why_33 N n) x1 x2 x3 x4 M = some (r0, M0) → W p l e (rmX4_why) s m args below meth c H locs 0 0 (MQ below (va_Qi (fun (r : Int32) (_ : Unit) => r = r0) (fun _ t => Wp D ad ca B M0 ov t.heap) (Ab B)) args s 0 0 (Ab B)) (F0 m 33 ls []) := by
  obtain ⟨hx, hb, hml, hown, hts, hr, hlk⟩ := id G
  intro n
  induction n with
  | zero =>
    intro x1 x2 x3 x4 M H locs ls hl hC hf
    cases hf
  | succ n ih =>
    intro x1 x2 x3 x4 M H locs ls hl hC hf
    have hf := (fX4_why_33_s).symm.trans hf
    refine lv_iload hx hb dX4_why_33 (lv_at hl 4 rfl) ?_
    refine lv_aload_n hx hb dX4_why_35 rfl (lv_at hl 0 rfl) ?_
    refine mg_get (ci := 4) (C := RX4) (T := TX4) (N := 19) (v := .int (M 16 1)) hx hb hts inX4_why_X4 hown hC 16 (by decide) rfl rfl 1 (by decide) (hts _ lkX4_why_f52) rfl rfl dX4_why_36 ?_
    refine lv_icmp_ge (tgt := 98) hx hb dX4_why_39 (by decide) (fun h1 => ?_) (fun h1 => ?_)
    · have hf := it_t h1 hf
      refine lv_aload_n hx hb dX4_why_98 rfl (lv_at hl 0 rfl) ?_
      refine lv_iload_n hx hb dX4_why_99 rfl (lv_at hl 1 rfl) ?_
      obtain ⟨r2, M3, hq, hf⟩ := bd_s hf
      refine mc_Vi (As := [.int x1]) ⟨hx, hb, hml, hown, hts⟩ hC (kX4_leastOf l D ad ca B ov N x1 M r2 M3 hq) (cwV 1 hts gX4_why_X4_leastOf rfl rfl rfl (by decide +kernel) ⟨Nat.le_of_ble_eq_true rfl, Nat.le_of_ble_eq_true rfl⟩) (mg_recv (ci := 4) (C := RX4) (T := TX4) (N := 19) hC 16 (by decide) rfl rfl) rfl hl.1 rfl (Nat.le_of_ble_eq_true rfl) dX4_why_100 ⟨Nat.zero_le _, Nat.zero_le _⟩ (fun H locs hC => ?_)
      refine lv_ldc (v := 1000000000) hx hb hown (hts _ lkX4_why_c97) dX4_why_103 ?_
      refine lv_icmp_ge (tgt := 112) hx hb dX4_why_105 (by decide) (fun h4 => ?_) (fun h4 => ?_)
      · have hf := it_t h4 hf
        refine lv_aload_n hx hb dX4_why_112 rfl (lv_at hl 0 rfl) ?_
        refine mg_get (ci := 4) (C := RX4) (T := TX4) (N := 19) (v := .ref (ad 21)) hx hb hts inX4_why_X4 hown hC 16 (by decide) rfl rfl 9 (by decide) (hts _ lkX4_why_f22) rfl rfl dX4_why_113 ?_
        refine lv_iload_n hx hb dX4_why_116 rfl (lv_at hl 1 rfl) ?_
        obtain ⟨g5, hf⟩ := gd_s hf
        refine mg_iald (n := 4) (cA := ca 21) hx hb hC 21 13 (by decide) rfl rfl g5 dX4_why_117 ?_
        refine lv_aload_n hx hb dX4_why_118 rfl (lv_at hl 0 rfl) ?_
        refine mg_get (ci := 4) (C := RX4) (T := TX4) (N := 19) (v := .int (M3 16 1)) hx hb hts inX4_why_X4 hown hC 16 (by decide) rfl rfl 1 (by decide) (hts _ lkX4_why_f52) rfl rfl dX4_why_119 ?_
        refine lv_icmp_le (tgt := 129) hx hb dX4_why_122 (by decide) (fun h6 => ?_) (fun h6 => ?_)
        · have hf := it_t h6 hf
          refine lv_iload_n hx hb dX4_why_129 rfl (lv_at hl 2 rfl) ?_
          refine lv_if_ne (tgt := 137) hx hb dX4_why_130 (by decide) (fun h7 => ?_) (fun h7 => ?_)
          · have hf := it_f h7 hf
            refine lv_iload_n hx hb dX4_why_137 rfl (lv_at hl 3 rfl) ?_
            refine lv_if_ne (tgt := 145) hx hb dX4_why_138 (by decide) (fun h8 => ?_) (fun h8 => ?_)
            · have hf := it_f h8 hf
              refine lv_iconst (v := 4) hx hb dX4_why_145 (by decide) ?_
              exact mr_I hx hb hr hlk hC hf dX4_why_146
            · have hf := it_t h8 hf
              refine lv_iconst (v := 3) hx hb dX4_why_141 (by decide) ?_
              refine lv_goto (tgt := 146) hx hb dX4_why_142 (by decide) ?_
              exact mr_I hx hb hr hlk hC hf dX4_why_146
          · have hf := it_t h7 hf
            refine lv_iconst (v := 2) hx hb dX4_why_133 (by decide) ?_
            refine lv_goto (tgt := 146) hx hb dX4_why_134 (by decide) ?_
            exact mr_I hx hb hr hlk hC hf dX4_why_146
        · have hf := it_f h6 hf
          refine lv_iconst (v := 1) hx hb dX4_why_125 (by decide) ?_
          refine lv_goto (tgt := 146) hx hb dX4_why_126 (by decide) ?_
          exact mr_I hx hb hr hlk hC hf dX4_why_146
      · have hf := it_f h4 hf
        refine lv_iconst (v := 0) hx hb dX4_why_108 (by decide) ?_
        refine lv_goto (tgt := 146) hx hb dX4_why_109 (by decide) ?_
        exact mr_I hx hb hr hlk hC hf dX4_why_146
    · have hf := it_f h1 hf
      refine lv_iload_n hx hb dX4_why_42 rfl (lv_at hl 2 rfl) ?_
      refine lv_if_ne (tgt := 56) hx hb dX4_why_43 (by decide) (fun h9 => ?_) (fun h9 => ?_)
      · have hf := it_f h9 hf
        refine lv_iconst (v := 1) hx hb dX4_why_56 (by decide) ?_
        refine lv_goto (tgt := 61) hx hb dX4_why_57 (by decide) ?_
        exact wX4_why_61 G N ih x1 x3 x4 1 M _ _ _ (lv_sub hl [0, 1, 3, 4] rfl) hC hf
      · have hf := it_t h9 hf
        refine lv_aload_n hx hb dX4_why_46 rfl (lv_at hl 0 rfl) ?_
        refine lv_iload_n hx hb dX4_why_47 rfl (lv_at hl 1 rfl) ?_
        refine lv_iload hx hb dX4_why_48 (lv_at hl 4 rfl) ?_
        obtain ⟨r10, M11, hq, hf⟩ := bd_s hf
        refine mc_Vi (As := [.int x1, .int x4]) ⟨hx, hb, hml, hown, hts⟩ hC (kX4_isDeep l D ad ca B ov N x1 x4 M r10 M11 hq) (cwV 2 hts gX4_why_X4_isDeep rfl rfl rfl (by decide +kernel) ⟨Nat.le_of_ble_eq_true rfl, Nat.le_of_ble_eq_true rfl⟩) (mg_recv (ci := 4) (C := RX4) (T := TX4) (N := 19) hC 16 (by decide) rfl rfl) rfl hl.1 rfl (Nat.le_of_ble_eq_true rfl) dX4_why_50 ⟨Nat.zero_le _, Nat.zero_le _⟩ (fun H locs hC => ?_)
        refine lv_if_eq (tgt := 60) hx hb dX4_why_53 (by decide) (fun h12 => ?_) (fun h12 => ?_)
        · have hf := it_t h12 hf
          refine lv_iconst (v := 0) hx hb dX4_why_60 (by decide) ?_
          exact wX4_why_61 G N ih x1 x3 x4 0 M11 _ _ _ (lv_sub hl [0, 1, 3, 4] rfl) hC hf
        · have hf := it_f h12 hf
          refine lv_iconst (v := 1) hx hb dX4_why_56 (by decide) ?_
          refine lv_goto (tgt := 61) hx hb dX4_why_57 (by decide) ?_
          exact wX4_why_61 G N ih x1 x3 x4 1 M11 _ _ _ (lv_sub hl [0, 1, 3, 4] rfl) hC hf
set_option maxHeartbeats 4000000 in
set_option maxRecDepth 100000 in
theorem wX4_why_14 {p : Program} {l : Launch} {e : Env} {s : State} {m : MethodId} {args : Array Value} {below : List Frame} {meth : Method} {c : Code} {D : va_G} {ad : Nat → Nat} {ca : Nat → ClassId} {B : Nat} {ov : Int64} {r0 : Int32} {M0 : Mem} (G : Mx p s m args meth c cX4_why 5 wsX4_why RX4 (some .int)) (N : Nat) : ∀ (x1 : Int32) (y1 : Int32) (M : Mem) (H : Heap) (locs : List Loc) (ls : Array Slot), lv_has ls 5 [(0, .ref (ad 16)), (1, .int x1)] → Cu D ad ca B M ov s H locs → (fX4_why_14 N) x1 y1 M = some (r0, M0) → W p l e (rmX4_why) s m args below meth c H locs 0 0 (MQ below (va_Qi (fun (r : Int32) (_ : Unit) => r = r0) (fun _ t => Wp D ad ca B M0 ov t.heap) (Ab B)) args s 0 0 (Ab B)) (F0 m 14 ls [.int y1, .ref (ad 16)]) := by
  obtain ⟨hx, hb, hml, hown, hts, hr, hlk⟩ := id G
  intro x1 y1 M H locs ls hl hC hf
  unfold fX4_why_14 at hf
  refine mg_put (ci := 4) (C := RX4) (T := TX4) (N := 19) (ty := .int) (v := .int y1) (x := y1) hx hb hts inX4_why_X4 tyX4 tyX4_ok nmX4 hown hC 16 (by decide) rfl rfl 0 (by decide) (hts _ lkX4_why_f56) rfl rfl (by decide +kernel) rfl rfl (Nat.le_of_ble_eq_true rfl) rfl dX4_why_14 (fun H locs hC => ?_)
  obtain ⟨M1, eM1⟩ : ∃ z : Mem, z = mw M 16 0 y1 := ⟨_, rfl⟩
  rw [← eM1] at hC
  have hf := lq_k eM1 hf
  refine lv_aload_n hx hb dX4_why_17 rfl (lv_at hl 0 rfl) ?_
  refine mg_get (ci := 4) (C := RX4) (T := TX4) (N := 19) (v := .int (M1 16 0)) hx hb hts inX4_why_X4 hown hC 16 (by decide) rfl rfl 0 (by decide) (hts _ lkX4_why_f56) rfl rfl dX4_why_18 ?_
  refine lv_if_le (tgt := 26) hx hb dX4_why_21 (by decide) (fun h2 => ?_) (fun h2 => ?_)
  · have hf := it_t h2 hf
    refine lv_iconst (v := 0) hx hb dX4_why_26 (by decide) ?_
    refine lv_istore_n (lv' := [(2, .int 0), (0, .ref (ad 16)), (1, .int x1)]) hx hb dX4_why_27 rfl hl (by decide) rfl (fun ls hl => ?_)
    refine lv_iconst (v := 0) hx hb dX4_why_28 (by decide) ?_
    refine lv_istore_n (lv' := [(3, .int 0), (2, .int 0), (0, .ref (ad 16)), (1, .int x1)]) hx hb dX4_why_29 rfl hl (by decide) rfl (fun ls hl => ?_)
    refine lv_iconst (v := 0) hx hb dX4_why_30 (by decide) ?_
    refine lv_istore (lv' := [(4, .int 0), (3, .int 0), (2, .int 0), (0, .ref (ad 16)), (1, .int x1)]) hx hb dX4_why_31 hl (by decide) rfl (fun ls hl => ?_)
    exact wX4_why_33 G N N x1 0 0 0 M1 _ _ _ (lv_sub hl [3, 4, 2, 1, 0] rfl) hC hf
  · have hf := it_f h2 hf
    refine lv_iconst (v := 0) hx hb dX4_why_24 (by decide) ?_
    exact mr_I hx hb hr hlk hC hf dX4_why_25
set_option maxHeartbeats 4000000 in
set_option maxRecDepth 100000 in
theorem kX4_why (l : Launch) (D : va_G) (ad : Nat → Nat) (ca : Nat → ClassId) (B : Nat) (ov : Int64) (N : Nat) (x1 : Int32) (M : Mem) (r0 : Int32) (M0 : Mem) (hf : fX4_why N x1 M = some (r0, M0)) : MtI l D ad ca B ov yX4_why wsX4_why (rmX4_why) [.ref (ad 16), .int x1] M r0 M0 := by
  unfold fX4_why at hf
  refine Met.ofW (cc := cX4_why) (maxL := 5) (ret := (some .int)) (by decide) rfl ?_
  intro p e s m args below meth c s₁ Bd hml hv
  obtain ⟨rfl, hw⟩ := hv
  have G : Mx p s m ([.ref (ad 16), .int x1] : List Value).toArray meth c cX4_why 5 wsX4_why RX4 (some .int) := ⟨Bd.exec, Bd.bytes, hml, findClass_of_methodNamed Bd.named, atoms_spec (ws := wsX4_why) Bd.pre, Bd.returns, Bd.notSynchronized⟩
  have hC := Cu.of hw
  have hl := lv_entry ([.ref (ad 16), .int x1]) (n := 5) (Nat.le_of_ble_eq_true rfl)
  rw [lg_entry_eq]
  generalize (lg_sl ([.ref (ad 16), .int x1]) ++ List.replicate (5 - (lg_sl ([.ref (ad 16), .int x1])).length) Slot.unset).toArray = ls at hl ⊢
  have hl : lv_has ls 5 [(0, .ref (ad 16)), (1, .int x1)] := hl
  obtain ⟨hx, hb, hml, hown, hts, hr, hlk⟩ := id G
  show W p l e (rmX4_why) s m _ below meth c s.heap [] 0 0 (MQ below (va_Qi (fun (r : Int32) (_ : Unit) => r = r0) (fun _ t => Wp D ad ca B M0 ov t.heap) (Ab B)) _ s 0 0 (Ab B)) (F0 m 0 ls [])
  refine lv_aload_n hx hb dX4_why_0 rfl (lv_at hl 0 rfl) ?_
  refine lv_aload_n hx hb dX4_why_1 rfl (lv_at hl 0 rfl) ?_
  refine lv_iload_n hx hb dX4_why_2 rfl (lv_at hl 1 rfl) ?_
  obtain ⟨r1, M2, hq, hf⟩ := bd_s hf
  refine mc_Vi (As := [.int x1]) ⟨hx, hb, hml, hown, hts⟩ hC (kX4_isShip l D ad ca B ov N x1 M r1 M2 hq) (cwV 1 hts gX4_why_X4_isShip rfl rfl rfl (by decide +kernel) ⟨Nat.le_of_ble_eq_true rfl, Nat.le_of_ble_eq_true rfl⟩) (mg_recv (ci := 4) (C := RX4) (T := TX4) (N := 19) hC 16 (by decide) rfl rfl) rfl hl.1 rfl (Nat.le_of_ble_eq_true rfl) dX4_why_3 ⟨Nat.zero_le _, Nat.zero_le _⟩ (fun H locs hC => ?_)
  refine lv_if_eq (tgt := 13) hx hb dX4_why_6 (by decide) (fun h3 => ?_) (fun h3 => ?_)
  · have hf := it_t h3 hf
    refine lv_iconst (v := 1) hx hb dX4_why_13 (by decide) ?_
    exact wX4_why_14 G N x1 1 M2 _ _ _ (lv_sub hl [0, 1] rfl) hC hf
  · have hf := it_f h3 hf
    refine lv_iconst (v := 0) hx hb dX4_why_9 (by decide) ?_
    refine lv_goto (tgt := 14) hx hb dX4_why_10 (by decide) ?_
    exact wX4_why_14 G N x1 0 M2 _ _ _ (lv_sub hl [0, 1] rfl) hC hf

theorem lkX4_change_f31 : Cond.fieldLink RX4 31 "BerthPlanModel" "arrives" "[I" ∈ wsX4_change := by decide +kernel
theorem lkX4_change_f43 : Cond.fieldLink RX4 43 "BerthPlanModel" "berth" "[I" ∈ wsX4_change := by decide +kernel
theorem lkX4_change_f56 : Cond.fieldLink RX4 56 "BerthPlanModel" "thrown" "I" ∈ wsX4_change := by decide +kernel
theorem lkX4_change_f59 : Cond.fieldLink RX4 59 "BerthPlanModel" "ships" "I" ∈ wsX4_change := by decide +kernel
theorem lkX4_change_f66 : Cond.fieldLink RX4 66 "BerthPlanModel" "isPlan" "Z" ∈ wsX4_change := by decide +kernel
theorem lkX4_change_l119 : Cond.constantLong RX4 119 (100) ∈ wsX4_change := by decide +kernel
theorem inX4_change_X4 : ∀ w ∈ wsX40, w ∈ wsX4_change := by decide +kernel
abbrev rmX4_change : Room := { frames := 5, cells := 0, slots := 0, locals := 114 }
def fX4_change_150 (N : Nat) (k121 : Int64 → Int32 → Int32 → Mem → Option (Int32 × Mem)) (x3 : Int64) (x6 : Int32) (y0 : Int32) (y1 : Int32) (M : Mem) : Option (Int32 × Mem) :=
    lq (y0 + y1) (fun z1 => lq (x3 / (100 : Int64)) (fun z2 => lq (x6 + (-1)) (fun z3 => k121 z2 z1 z3 M)))
def fX4_change_121 (N : Nat) : Nat → Int64 → Int32 → Int32 → Mem → Option (Int32 × Mem)
  | 0, _, _, _, _ => none
  | n + 1, x3, x5, x6, M =>
    if (x6 < 0 : Prop) then (some (x5, M)) else (gd (x6) 4 (if ((lg_cmp (x3 - x3 / (100 : Int64) * (100 : Int64)) ((M 28 (x6 : Int32).toNatClampNeg : Int32).toInt64)) = 0 : Prop) then (fX4_change_150 N (fX4_change_121 N n) x3 x6 x5 0 M) else (fX4_change_150 N (fX4_change_121 N n) x3 x6 x5 1 M)))
theorem fX4_change_121_s {N n : Nat} {x3 : Int64} {x5 : Int32} {x6 : Int32} {M : Mem} : fX4_change_121 N (n + 1) x3 x5 x6 M =
    if (x6 < 0 : Prop) then (some (x5, M)) else (gd (x6) 4 (if ((lg_cmp (x3 - x3 / (100 : Int64) * (100 : Int64)) ((M 28 (x6 : Int32).toNatClampNeg : Int32).toInt64)) = 0 : Prop) then (fX4_change_150 N (fX4_change_121 N n) x3 x6 x5 0 M) else (fX4_change_150 N (fX4_change_121 N n) x3 x6 x5 1 M))) := rfl
def fX4_change_56 (N : Nat) : Nat → Int32 → Int32 → Int64 → Int32 → Mem → Option (Int32 × Mem)
  | 0, _, _, _, _, _ => none
  | n + 1, x1, x2, x3, x5, M =>
    if ((M 16 2) ≤ x5 : Prop) then (gd (x1) 4 (lq (mw M 24 (x1 : Int32).toNatClampNeg x2) (fun M3 => bd (fX4_search N M3) (fun r4 M5 => gp (r4 = 0 ∨ r4 = 1) (lq (mw M5 16 4 r4) (fun M7 => if ((M7 16 4) = 0 : Prop) then (some ((-1), M7)) else (lq ((M7 16 2) - (1 : Int32)) (fun z9 => fX4_change_121 N N x3 0 z9 M7)))))))) else (gd (x5) 4 (lq (((100 : Int64) * x3) + ((M 28 (x5 : Int32).toNatClampNeg : Int32).toInt64)) (fun z11 => lq (x5 + 1) (fun z12 => fX4_change_56 N n x1 x2 z11 z12 M))))
theorem fX4_change_56_s {N n : Nat} {x1 : Int32} {x2 : Int32} {x3 : Int64} {x5 : Int32} {M : Mem} : fX4_change_56 N (n + 1) x1 x2 x3 x5 M =
    if ((M 16 2) ≤ x5 : Prop) then (gd (x1) 4 (lq (mw M 24 (x1 : Int32).toNatClampNeg x2) (fun M3 => bd (fX4_search N M3) (fun r4 M5 => gp (r4 = 0 ∨ r4 = 1) (lq (mw M5 16 4 r4) (fun M7 => if ((M7 16 4) = 0 : Prop) then (some ((-1), M7)) else (lq ((M7 16 2) - (1 : Int32)) (fun z9 => fX4_change_121 N N x3 0 z9 M7)))))))) else (gd (x5) 4 (lq (((100 : Int64) * x3) + ((M 28 (x5 : Int32).toNatClampNeg : Int32).toInt64)) (fun z11 => lq (x5 + 1) (fun z12 => fX4_change_56 N n x1 x2 z11 z12 M)))) := rfl
def fX4_change_39 (N : Nat) (x1 : Int32) (x2 : Int32) (y1 : Int32) (M : Mem) : Option (Int32 × Mem) :=
    lq (mw M 16 0 y1) (fun M1 => if ((M1 16 0) ≤ 0 : Prop) then (fX4_change_56 N N x1 x2 0 0 M1) else (some (0, M1)))
def fX4_change (N : Nat) (x1 : Int32) (x2 : Int32) (M : Mem) : Option (Int32 × Mem) :=
    bd (fX4_isShip N x1 M) (fun r1 M2 => if (r1 = 0 : Prop) then (fX4_change_39 N x1 x2 1 M2) else (bd (fX4_in N x2 0 15 M2) (fun r4 M5 => if (r4 = 0 : Prop) then (fX4_change_39 N x1 x2 2 M5) else (if ((M5 16 4) = 0 : Prop) then (fX4_change_39 N x1 x2 3 M5) else (fX4_change_39 N x1 x2 0 M5)))))
set_option maxHeartbeats 4000000 in
set_option maxRecDepth 100000 in
theorem wX4_change_150 {p : Program} {l : Launch} {e : Env} {s : State} {m : MethodId} {args : Array Value} {below : List Frame} {meth : Method} {c : Code} {D : va_G} {ad : Nat → Nat} {ca : Nat → ClassId} {B : Nat} {ov : Int64} {r0 : Int32} {M0 : Mem} (G : Mx p s m args meth c cX4_change 7 wsX4_change RX4 (some .int)) (N : Nat) {k121 : Int64 → Int32 → Int32 → Mem → Option (Int32 × Mem)}
    (hk121 : ∀ (x3 : Int64) (x5 : Int32) (x6 : Int32) (M : Mem) (H : Heap) (locs : List Loc) (ls : Array Slot), lv_has ls 7 [(0, .ref (ad 16)), (3, .long x3), (5, .int x5), (6, .int x6)] → Cu D ad ca B M ov s H locs → k121 x3 x5 x6 M = some (r0, M0) → W p l e (rmX4_change) s m args below meth c H locs 0 0 (MQ below (va_Qi (fun (r : Int32) (_ : Unit) => r = r0) (fun _ t => Wp D ad ca B M0 ov t.heap) (Ab B)) args s 0 0 (Ab B)) (F0 m 121 ls [])) : ∀ (x3 : Int64) (x6 : Int32) (y0 : Int32) (y1 : Int32) (M : Mem) (H : Heap) (locs : List Loc) (ls : Array Slot), lv_has ls 7 [(0, .ref (ad 16)), (3, .long x3), (6, .int x6)] → Cu D ad ca B M ov s H locs → (fX4_change_150 N k121) x3 x6 y0 y1 M = some (r0, M0) → W p l e (rmX4_change) s m args below meth c H locs 0 0 (MQ below (va_Qi (fun (r : Int32) (_ : Unit) => r = r0) (fun _ t => Wp D ad ca B M0 ov t.heap) (Ab B)) args s 0 0 (Ab B)) (F0 m 150 ls [.int y1, .int y0]) := by
  obtain ⟨hx, hb, hml, hown, hts, hr, hlk⟩ := id G
  intro x3 x6 y0 y1 M H locs ls hl hC hf
  unfold fX4_change_150 at hf
  refine lv_iadd hx hb dX4_change_150 ?_
  refine lv_topi (fun z1 ez1 => ?_)
  have hf := lq_k ez1 hf
  refine lv_istore (lv' := [(5, .int z1), (0, .ref (ad 16)), (3, .long x3), (6, .int x6)]) hx hb dX4_change_151 hl (by decide) rfl (fun ls hl => ?_)
  refine lv_lload_n hx hb dX4_change_153 rfl (lv_at hl 2 rfl) ?_
  refine lv_ldc2 (v := 100) hx hb hown (hts _ lkX4_change_l119) dX4_change_154 ?_
  refine lv_ldiv hx hb dX4_change_157 (by decide) ?_
  refine lv_topl (fun z2 ez2 => ?_)
  have hf := lq_k ez2 hf
  refine lv_lstore_n (lv' := [(3, .long z2), (5, .int z1), (0, .ref (ad 16)), (6, .int x6)]) hx hb dX4_change_158 rfl hl (by decide) rfl (fun ls hl => ?_)
  obtain ⟨z3, ez3⟩ : ∃ y : Int32, y = x6 + (-1) := ⟨_, rfl⟩
  have hf := lq_k ez3 hf
  refine lv_iinc (v := z3) (lv' := [(6, .int z3), (3, .long z2), (5, .int z1), (0, .ref (ad 16))]) hx hb dX4_change_159 hl (k := 3) rfl (by rw [ez3]; rfl) (by decide) rfl (fun ls hl => ?_)
  refine lv_goto (tgt := 121) hx hb dX4_change_162 (by decide) ?_
  exact hk121 z2 z1 z3 M _ _ _ (lv_sub hl [3, 1, 2, 0] rfl) hC hf
set_option maxHeartbeats 4000000 in
set_option maxRecDepth 100000 in
theorem wX4_change_121 {p : Program} {l : Launch} {e : Env} {s : State} {m : MethodId} {args : Array Value} {below : List Frame} {meth : Method} {c : Code} {D : va_G} {ad : Nat → Nat} {ca : Nat → ClassId} {B : Nat} {ov : Int64} {r0 : Int32} {M0 : Mem} (G : Mx p s m args meth c cX4_change 7 wsX4_change RX4 (some .int)) (N : Nat) : ∀ (n : Nat), ∀ (x3 : Int64) (x5 : Int32) (x6 : Int32) (M : Mem) (H : Heap) (locs : List Loc) (ls : Array Slot), lv_has ls 7 [(0, .ref (ad 16)), (3, .long x3), (5, .int x5), (6, .int x6)] → Cu D ad ca B M ov s H locs → (fX4_change_121 N n) x3 x5 x6 M = some (r0, M0) → W p l e (rmX4_change) s m args below meth c H locs 0 0 (MQ below (va_Qi (fun (r : Int32) (_ : Unit) => r = r0) (fun _ t => Wp D ad ca B M0 ov t.heap) (Ab B)) args s 0 0 (Ab B)) (F0 m 121 ls []) := by
  obtain ⟨hx, hb, hml, hown, hts, hr, hlk⟩ := id G
  intro n
  induction n with
  | zero =>
    intro x3 x5 x6 M H locs ls hl hC hf
    cases hf
  | succ n ih =>
    intro x3 x5 x6 M H locs ls hl hC hf
    have hf := (fX4_change_121_s).symm.trans hf
    refine lv_iload hx hb dX4_change_121 (lv_at hl 3 rfl) ?_
    refine lv_if_lt (tgt := 165) hx hb dX4_change_123 (by decide) (fun h1 => ?_) (fun h1 => ?_)
    · have hf := it_t h1 hf
      refine lv_iload hx hb dX4_change_165 (lv_at hl 2 rfl) ?_
      exact mr_I hx hb hr hlk hC hf dX4_change_167
    · have hf := it_f h1 hf
      refine lv_iload hx hb dX4_change_126 (lv_at hl 2 rfl) ?_
      refine lv_lload_n hx hb dX4_change_128 rfl (lv_at hl 1 rfl) ?_
      refine lv_ldc2 (v := 100) hx hb hown (hts _ lkX4_change_l119) dX4_change_129 ?_
      refine lv_lrem hx hb dX4_change_132 (by decide) ?_
      refine lv_aload_n hx hb dX4_change_133 rfl (lv_at hl 0 rfl) ?_
      refine mg_get (ci := 4) (C := RX4) (T := TX4) (N := 19) (v := .ref (ad 28)) hx hb hts inX4_change_X4 hown hC 16 (by decide) rfl rfl 16 (by decide) (hts _ lkX4_change_f43) rfl rfl dX4_change_134 ?_
      refine lv_iload hx hb dX4_change_137 (lv_at hl 3 rfl) ?_
      obtain ⟨g2, hf⟩ := gd_s hf
      refine mg_iald (n := 4) (cA := ca 28) hx hb hC 28 20 (by decide) rfl rfl g2 dX4_change_139 ?_
      refine lv_i2l (v := (M 28 (x6 : Int32).toNatClampNeg : Int32).toInt64) hx hb dX4_change_140 rfl ?_
      refine W.lcmp hx hb dX4_change_141 ?_
      refine lv_if_eq (tgt := 149) hx hb dX4_change_142 (by decide) (fun h3 => ?_) (fun h3 => ?_)
      · have hf := it_t h3 hf
        refine lv_iconst (v := 0) hx hb dX4_change_149 (by decide) ?_
        exact wX4_change_150 G N ih x3 x6 x5 0 M _ _ _ (lv_sub hl [0, 1, 3] rfl) hC hf
      · have hf := it_f h3 hf
        refine lv_iconst (v := 1) hx hb dX4_change_145 (by decide) ?_
        refine lv_goto (tgt := 150) hx hb dX4_change_146 (by decide) ?_
        exact wX4_change_150 G N ih x3 x6 x5 1 M _ _ _ (lv_sub hl [0, 1, 3] rfl) hC hf
set_option maxHeartbeats 4000000 in
set_option maxRecDepth 100000 in
theorem wX4_change_56 {p : Program} {l : Launch} {e : Env} {s : State} {m : MethodId} {args : Array Value} {below : List Frame} {meth : Method} {c : Code} {D : va_G} {ad : Nat → Nat} {ca : Nat → ClassId} {B : Nat} {ov : Int64} {r0 : Int32} {M0 : Mem} (G : Mx p s m args meth c cX4_change 7 wsX4_change RX4 (some .int)) (N : Nat) : ∀ (n : Nat), ∀ (x1 : Int32) (x2 : Int32) (x3 : Int64) (x5 : Int32) (M : Mem) (H : Heap) (locs : List Loc) (ls : Array Slot), lv_has ls 7 [(0, .ref (ad 16)), (1, .int x1), (2, .int x2), (3, .long x3), (5, .int x5)] → Cu D ad ca B M ov s H locs → (fX4_change_56 N n) x1 x2 x3 x5 M = some (r0, M0) → W p l e (rmX4_change) s m args below meth c H locs 0 0 (MQ below (va_Qi (fun (r : Int32) (_ : Unit) => r = r0) (fun _ t => Wp D ad ca B M0 ov t.heap) (Ab B)) args s 0 0 (Ab B)) (F0 m 56 ls []) := by
  obtain ⟨hx, hb, hml, hown, hts, hr, hlk⟩ := id G
  intro n
  induction n with
  | zero =>
    intro x1 x2 x3 x5 M H locs ls hl hC hf
    cases hf
  | succ n ih =>
    intro x1 x2 x3 x5 M H locs ls hl hC hf
    have hf := (fX4_change_56_s).symm.trans hf
    refine lv_iload hx hb dX4_change_56 (lv_at hl 4 rfl) ?_
    refine lv_aload_n hx hb dX4_change_58 rfl (lv_at hl 0 rfl) ?_
    refine mg_get (ci := 4) (C := RX4) (T := TX4) (N := 19) (v := .int (M 16 2)) hx hb hts inX4_change_X4 hown hC 16 (by decide) rfl rfl 2 (by decide) (hts _ lkX4_change_f59) rfl rfl dX4_change_59 ?_
    refine lv_icmp_ge (tgt := 86) hx hb dX4_change_62 (by decide) (fun h1 => ?_) (fun h1 => ?_)
    · have hf := it_t h1 hf
      refine lv_aload_n hx hb dX4_change_86 rfl (lv_at hl 0 rfl) ?_
      refine mg_get (ci := 4) (C := RX4) (T := TX4) (N := 19) (v := .ref (ad 24)) hx hb hts inX4_change_X4 hown hC 16 (by decide) rfl rfl 12 (by decide) (hts _ lkX4_change_f31) rfl rfl dX4_change_87 ?_
      refine lv_iload_n hx hb dX4_change_90 rfl (lv_at hl 1 rfl) ?_
      refine lv_iload_n hx hb dX4_change_91 rfl (lv_at hl 2 rfl) ?_
      obtain ⟨g2, hf⟩ := gd_s hf
      refine mg_iast (n := 4) (cA := ca 24) hx hb hC 24 16 (by decide) (fun _ => rfl) rfl g2 dX4_change_92 (fun H locs hC => ?_)
      obtain ⟨M3, eM3⟩ : ∃ z : Mem, z = mw M 24 (x1 : Int32).toNatClampNeg x2 := ⟨_, rfl⟩
      rw [← eM3] at hC
      have hf := lq_k eM3 hf
      refine lv_aload_n hx hb dX4_change_93 rfl (lv_at hl 0 rfl) ?_
      refine lv_aload_n hx hb dX4_change_94 rfl (lv_at hl 0 rfl) ?_
      obtain ⟨r4, M5, hq, hf⟩ := bd_s hf
      refine mc_Vi (As := []) ⟨hx, hb, hml, hown, hts⟩ hC (kX4_search l D ad ca B ov N M3 r4 M5 hq) (cwV 0 hts gX4_change_X4_search rfl rfl rfl (by decide +kernel) ⟨Nat.le_of_ble_eq_true rfl, Nat.le_of_ble_eq_true rfl⟩) (mg_recv (ci := 4) (C := RX4) (T := TX4) (N := 19) hC 16 (by decide) rfl rfl) rfl hl.1 rfl (Nat.le_of_ble_eq_true rfl) dX4_change_95 ⟨Nat.zero_le _, Nat.zero_le _⟩ (fun H locs hC => ?_)
      obtain ⟨g6, hf⟩ := gp_s hf
      refine mg_put (ci := 4) (C := RX4) (T := TX4) (N := 19) (ty := .boolean) (v := .int r4) (x := r4) hx hb hts inX4_change_X4 tyX4 tyX4_ok nmX4 hown hC 16 (by decide) rfl rfl 4 (by decide) (hts _ lkX4_change_f66) rfl rfl (by decide +kernel) (by rcases g6 with h9 | h9 <;> rw [h9] <;> decide) (by rcases g6 with h9 | h9 <;> rw [h9] <;> decide) (Nat.le_of_ble_eq_true rfl) rfl dX4_change_98 (fun H locs hC => ?_)
      obtain ⟨M7, eM7⟩ : ∃ z : Mem, z = mw M5 16 4 r4 := ⟨_, rfl⟩
      rw [← eM7] at hC
      have hf := lq_k eM7 hf
      refine lv_aload_n hx hb dX4_change_101 rfl (lv_at hl 0 rfl) ?_
      refine mg_get (ci := 4) (C := RX4) (T := TX4) (N := 19) (v := .int (M7 16 4)) hx hb hts inX4_change_X4 hown hC 16 (by decide) rfl rfl 4 (by decide) (hts _ lkX4_change_f66) rfl rfl dX4_change_102 ?_
      refine lv_if_ne (tgt := 110) hx hb dX4_change_105 (by decide) (fun h8 => ?_) (fun h8 => ?_)
      · have hf := it_f h8 hf
        refine lv_iconst (v := 0) hx hb dX4_change_110 (by decide) ?_
        refine lv_istore (lv' := [(5, .int 0), (0, .ref (ad 16)), (1, .int x1), (2, .int x2), (3, .long x3)]) hx hb dX4_change_111 hl (by decide) rfl (fun ls hl => ?_)
        refine lv_aload_n hx hb dX4_change_113 rfl (lv_at hl 1 rfl) ?_
        refine mg_get (ci := 4) (C := RX4) (T := TX4) (N := 19) (v := .int (M7 16 2)) hx hb hts inX4_change_X4 hown hC 16 (by decide) rfl rfl 2 (by decide) (hts _ lkX4_change_f59) rfl rfl dX4_change_114 ?_
        refine lv_iconst (v := 1) hx hb dX4_change_117 (by decide) ?_
        refine lv_isub hx hb dX4_change_118 ?_
        refine lv_topi (fun z9 ez9 => ?_)
        have hf := lq_k ez9 hf
        refine lv_istore (lv' := [(6, .int z9), (5, .int 0), (0, .ref (ad 16)), (1, .int x1), (2, .int x2), (3, .long x3)]) hx hb dX4_change_119 hl (by decide) rfl (fun ls hl => ?_)
        exact wX4_change_121 G N N x3 0 z9 M7 _ _ _ (lv_sub hl [2, 5, 1, 0] rfl) hC hf
      · have hf := it_t h8 hf
        refine lv_iconst (v := (-1)) hx hb dX4_change_108 (by decide) ?_
        exact mr_I hx hb hr hlk hC hf dX4_change_109
    · have hf := it_f h1 hf
      refine lv_ldc2 (v := 100) hx hb hown (hts _ lkX4_change_l119) dX4_change_65 ?_
      refine lv_lload_n hx hb dX4_change_68 rfl (lv_at hl 3 rfl) ?_
      refine lv_lmul hx hb dX4_change_69 ?_
      refine lv_aload_n hx hb dX4_change_70 rfl (lv_at hl 0 rfl) ?_
      refine mg_get (ci := 4) (C := RX4) (T := TX4) (N := 19) (v := .ref (ad 28)) hx hb hts inX4_change_X4 hown hC 16 (by decide) rfl rfl 16 (by decide) (hts _ lkX4_change_f43) rfl rfl dX4_change_71 ?_
      refine lv_iload hx hb dX4_change_74 (lv_at hl 4 rfl) ?_
      obtain ⟨g10, hf⟩ := gd_s hf
      refine mg_iald (n := 4) (cA := ca 28) hx hb hC 28 20 (by decide) rfl rfl g10 dX4_change_76 ?_
      refine lv_i2l (v := (M 28 (x5 : Int32).toNatClampNeg : Int32).toInt64) hx hb dX4_change_77 rfl ?_
      refine lv_ladd hx hb dX4_change_78 ?_
      refine lv_topl (fun z11 ez11 => ?_)
      have hf := lq_k ez11 hf
      refine lv_lstore_n (lv' := [(3, .long z11), (0, .ref (ad 16)), (1, .int x1), (2, .int x2), (5, .int x5)]) hx hb dX4_change_79 rfl hl (by decide) rfl (fun ls hl => ?_)
      obtain ⟨z12, ez12⟩ : ∃ y : Int32, y = x5 + 1 := ⟨_, rfl⟩
      have hf := lq_k ez12 hf
      refine lv_iinc (v := z12) (lv' := [(5, .int z12), (3, .long z11), (0, .ref (ad 16)), (1, .int x1), (2, .int x2)]) hx hb dX4_change_80 hl (k := 4) rfl (by rw [ez12]; rfl) (by decide) rfl (fun ls hl => ?_)
      refine lv_goto (tgt := 56) hx hb dX4_change_83 (by decide) ?_
      exact ih x1 x2 z11 z12 M _ _ _ (lv_sub hl [2, 3, 4, 1, 0] rfl) hC hf
set_option maxHeartbeats 4000000 in
set_option maxRecDepth 100000 in
theorem wX4_change_39 {p : Program} {l : Launch} {e : Env} {s : State} {m : MethodId} {args : Array Value} {below : List Frame} {meth : Method} {c : Code} {D : va_G} {ad : Nat → Nat} {ca : Nat → ClassId} {B : Nat} {ov : Int64} {r0 : Int32} {M0 : Mem} (G : Mx p s m args meth c cX4_change 7 wsX4_change RX4 (some .int)) (N : Nat) : ∀ (x1 : Int32) (x2 : Int32) (y1 : Int32) (M : Mem) (H : Heap) (locs : List Loc) (ls : Array Slot), lv_has ls 7 [(0, .ref (ad 16)), (1, .int x1), (2, .int x2)] → Cu D ad ca B M ov s H locs → (fX4_change_39 N) x1 x2 y1 M = some (r0, M0) → W p l e (rmX4_change) s m args below meth c H locs 0 0 (MQ below (va_Qi (fun (r : Int32) (_ : Unit) => r = r0) (fun _ t => Wp D ad ca B M0 ov t.heap) (Ab B)) args s 0 0 (Ab B)) (F0 m 39 ls [.int y1, .ref (ad 16)]) := by
  obtain ⟨hx, hb, hml, hown, hts, hr, hlk⟩ := id G
  intro x1 x2 y1 M H locs ls hl hC hf
  unfold fX4_change_39 at hf
  refine mg_put (ci := 4) (C := RX4) (T := TX4) (N := 19) (ty := .int) (v := .int y1) (x := y1) hx hb hts inX4_change_X4 tyX4 tyX4_ok nmX4 hown hC 16 (by decide) rfl rfl 0 (by decide) (hts _ lkX4_change_f56) rfl rfl (by decide +kernel) rfl rfl (Nat.le_of_ble_eq_true rfl) rfl dX4_change_39 (fun H locs hC => ?_)
  obtain ⟨M1, eM1⟩ : ∃ z : Mem, z = mw M 16 0 y1 := ⟨_, rfl⟩
  rw [← eM1] at hC
  have hf := lq_k eM1 hf
  refine lv_aload_n hx hb dX4_change_42 rfl (lv_at hl 0 rfl) ?_
  refine mg_get (ci := 4) (C := RX4) (T := TX4) (N := 19) (v := .int (M1 16 0)) hx hb hts inX4_change_X4 hown hC 16 (by decide) rfl rfl 0 (by decide) (hts _ lkX4_change_f56) rfl rfl dX4_change_43 ?_
  refine lv_if_le (tgt := 51) hx hb dX4_change_46 (by decide) (fun h2 => ?_) (fun h2 => ?_)
  · have hf := it_t h2 hf
    refine lv_lconst (v := 0) hx hb dX4_change_51 (by decide) ?_
    refine lv_lstore_n (lv' := [(3, .long 0), (0, .ref (ad 16)), (1, .int x1), (2, .int x2)]) hx hb dX4_change_52 rfl hl (by decide) rfl (fun ls hl => ?_)
    refine lv_iconst (v := 0) hx hb dX4_change_53 (by decide) ?_
    refine lv_istore (lv' := [(5, .int 0), (3, .long 0), (0, .ref (ad 16)), (1, .int x1), (2, .int x2)]) hx hb dX4_change_54 hl (by decide) rfl (fun ls hl => ?_)
    exact wX4_change_56 G N N x1 x2 0 0 M1 _ _ _ (lv_sub hl [2, 3, 4, 1, 0] rfl) hC hf
  · have hf := it_f h2 hf
    refine lv_iconst (v := 0) hx hb dX4_change_49 (by decide) ?_
    exact mr_I hx hb hr hlk hC hf dX4_change_50
set_option maxHeartbeats 4000000 in
set_option maxRecDepth 100000 in
theorem kX4_change (l : Launch) (D : va_G) (ad : Nat → Nat) (ca : Nat → ClassId) (B : Nat) (ov : Int64) (N : Nat) (x1 : Int32) (x2 : Int32) (M : Mem) (r0 : Int32) (M0 : Mem) (hf : fX4_change N x1 x2 M = some (r0, M0)) : MtI l D ad ca B ov yX4_change wsX4_change (rmX4_change) [.ref (ad 16), .int x1, .int x2] M r0 M0 := by
  unfold fX4_change at hf
  refine Met.ofW (cc := cX4_change) (maxL := 7) (ret := (some .int)) (by decide) rfl ?_
  intro p e s m args below meth c s₁ Bd hml hv
  obtain ⟨rfl, hw⟩ := hv
  have G : Mx p s m ([.ref (ad 16), .int x1, .int x2] : List Value).toArray meth c cX4_change 7 wsX4_change RX4 (some .int) := ⟨Bd.exec, Bd.bytes, hml, findClass_of_methodNamed Bd.named, atoms_spec (ws := wsX4_change) Bd.pre, Bd.returns, Bd.notSynchronized⟩
  have hC := Cu.of hw
  have hl := lv_entry ([.ref (ad 16), .int x1, .int x2]) (n := 7) (Nat.le_of_ble_eq_true rfl)
  rw [lg_entry_eq]
  generalize (lg_sl ([.ref (ad 16), .int x1, .int x2]) ++ List.replicate (7 - (lg_sl ([.ref (ad 16), .int x1, .int x2])).length) Slot.unset).toArray = ls at hl ⊢
  have hl : lv_has ls 7 [(0, .ref (ad 16)), (1, .int x1), (2, .int x2)] := hl
  obtain ⟨hx, hb, hml, hown, hts, hr, hlk⟩ := id G
  show W p l e (rmX4_change) s m _ below meth c s.heap [] 0 0 (MQ below (va_Qi (fun (r : Int32) (_ : Unit) => r = r0) (fun _ t => Wp D ad ca B M0 ov t.heap) (Ab B)) _ s 0 0 (Ab B)) (F0 m 0 ls [])
  refine lv_aload_n hx hb dX4_change_0 rfl (lv_at hl 0 rfl) ?_
  refine lv_aload_n hx hb dX4_change_1 rfl (lv_at hl 0 rfl) ?_
  refine lv_iload_n hx hb dX4_change_2 rfl (lv_at hl 1 rfl) ?_
  obtain ⟨r1, M2, hq, hf⟩ := bd_s hf
  refine mc_Vi (As := [.int x1]) ⟨hx, hb, hml, hown, hts⟩ hC (kX4_isShip l D ad ca B ov N x1 M r1 M2 hq) (cwV 1 hts gX4_change_X4_isShip rfl rfl rfl (by decide +kernel) ⟨Nat.le_of_ble_eq_true rfl, Nat.le_of_ble_eq_true rfl⟩) (mg_recv (ci := 4) (C := RX4) (T := TX4) (N := 19) hC 16 (by decide) rfl rfl) rfl hl.1 rfl (Nat.le_of_ble_eq_true rfl) dX4_change_3 ⟨Nat.zero_le _, Nat.zero_le _⟩ (fun H locs hC => ?_)
  refine lv_if_ne (tgt := 13) hx hb dX4_change_6 (by decide) (fun h3 => ?_) (fun h3 => ?_)
  · have hf := it_f h3 hf
    refine lv_iload_n hx hb dX4_change_13 rfl (lv_at hl 2 rfl) ?_
    refine lv_iconst (v := 0) hx hb dX4_change_14 (by decide) ?_
    refine lv_bipush (v := 15) hx hb dX4_change_15 (by decide) ?_
    obtain ⟨r4, M5, hq, hf⟩ := bd_s hf
    refine mc_Si (As := [.int x2, .int 0, .int 15]) ⟨hx, hb, hml, hown, hts⟩ hC (kX4_in l D ad ca B ov N x2 0 15 M2 r4 M5 hq) (va_cwS 3 hts gX4_change_X4_in rfl rfl rfl (by decide +kernel) ⟨Nat.le_of_ble_eq_true rfl, Nat.le_of_ble_eq_true rfl⟩) rfl hl.1 rfl (Nat.le_of_ble_eq_true rfl) dX4_change_17 ⟨Nat.zero_le _, Nat.zero_le _⟩ (fun H locs hC => ?_)
    refine lv_if_ne (tgt := 27) hx hb dX4_change_20 (by decide) (fun h6 => ?_) (fun h6 => ?_)
    · have hf := it_f h6 hf
      refine lv_aload_n hx hb dX4_change_27 rfl (lv_at hl 0 rfl) ?_
      refine mg_get (ci := 4) (C := RX4) (T := TX4) (N := 19) (v := .int (M5 16 4)) hx hb hts inX4_change_X4 hown hC 16 (by decide) rfl rfl 4 (by decide) (hts _ lkX4_change_f66) rfl rfl dX4_change_28 ?_
      refine lv_if_ne (tgt := 38) hx hb dX4_change_31 (by decide) (fun h7 => ?_) (fun h7 => ?_)
      · have hf := it_f h7 hf
        refine lv_iconst (v := 0) hx hb dX4_change_38 (by decide) ?_
        exact wX4_change_39 G N x1 x2 0 M5 _ _ _ (lv_sub hl [0, 1, 2] rfl) hC hf
      · have hf := it_t h7 hf
        refine lv_iconst (v := 3) hx hb dX4_change_34 (by decide) ?_
        refine lv_goto (tgt := 39) hx hb dX4_change_35 (by decide) ?_
        exact wX4_change_39 G N x1 x2 3 M5 _ _ _ (lv_sub hl [0, 1, 2] rfl) hC hf
    · have hf := it_t h6 hf
      refine lv_iconst (v := 2) hx hb dX4_change_23 (by decide) ?_
      refine lv_goto (tgt := 39) hx hb dX4_change_24 (by decide) ?_
      exact wX4_change_39 G N x1 x2 2 M5 _ _ _ (lv_sub hl [0, 1, 2] rfl) hC hf
  · have hf := it_t h3 hf
    refine lv_iconst (v := 1) hx hb dX4_change_9 (by decide) ?_
    refine lv_goto (tgt := 39) hx hb dX4_change_10 (by decide) ?_
    exact wX4_change_39 G N x1 x2 1 M2 _ _ _ (lv_sub hl [0, 1, 2] rfl) hC hf

theorem lkX4_lies_f22 : Cond.fieldLink RX4 22 "BerthPlanModel" "length" "[I" ∈ wsX4_lies := by decide +kernel
theorem lkX4_lies_f28 : Cond.fieldLink RX4 28 "BerthPlanModel" "time" "[I" ∈ wsX4_lies := by decide +kernel
theorem lkX4_lies_f43 : Cond.fieldLink RX4 43 "BerthPlanModel" "berth" "[I" ∈ wsX4_lies := by decide +kernel
theorem lkX4_lies_f56 : Cond.fieldLink RX4 56 "BerthPlanModel" "thrown" "I" ∈ wsX4_lies := by decide +kernel
theorem lkX4_lies_f59 : Cond.fieldLink RX4 59 "BerthPlanModel" "ships" "I" ∈ wsX4_lies := by decide +kernel
theorem lkX4_lies_f66 : Cond.fieldLink RX4 66 "BerthPlanModel" "isPlan" "Z" ∈ wsX4_lies := by decide +kernel
theorem inX4_lies_X4 : ∀ w ∈ wsX40, w ∈ wsX4_lies := by decide +kernel
abbrev rmX4_lies : Room := { frames := 0, cells := 0, slots := 0, locals := 0 }
def fX4_lies_114 (N : Nat) (k21 : Int32 → Int32 → Int32 → Int32 → Mem → Option (Int32 × Mem)) (x1 : Int32) (x2 : Int32) (x3 : Int32) (x4 : Int32) (y0 : Int32) (M : Mem) : Option (Int32 × Mem) :=
    if (y0 = 0 : Prop) then (lq (x4 + 1) (fun z2 => k21 x1 x2 x3 z2 M)) else (lq (x4 + 1) (fun z3 => k21 x1 x2 x4 z3 M))
def fX4_lies_21 (N : Nat) : Nat → Int32 → Int32 → Int32 → Int32 → Mem → Option (Int32 × Mem)
  | 0, _, _, _, _, _ => none
  | n + 1, x1, x2, x3, x4, M =>
    if ((M 16 2) ≤ x4 : Prop) then (if ((M 16 0) ≤ 0 : Prop) then (some (x3, M)) else (some (0, M))) else (if ((M 16 4) = 0 : Prop) then (if ((M 16 0) ≤ 0 : Prop) then (some (x3, M)) else (some (0, M))) else (gd (x4) 4 (if (x1 < ((M 28 (x4 : Int32).toNatClampNeg) - (M 28 (x4 : Int32).toNatClampNeg) / (6 : Int32) * (6 : Int32)) : Prop) then (fX4_lies_114 N (fX4_lies_21 N n) x1 x2 x3 x4 0 M) else (gd (x4) 4 (gd (x4) 4 (if ((((M 28 (x4 : Int32).toNatClampNeg) - (M 28 (x4 : Int32).toNatClampNeg) / (6 : Int32) * (6 : Int32)) + (M 21 (x4 : Int32).toNatClampNeg)) ≤ x1 : Prop) then (fX4_lies_114 N (fX4_lies_21 N n) x1 x2 x3 x4 0 M) else (gd (x4) 4 (if (x2 < ((M 28 (x4 : Int32).toNatClampNeg) / (6 : Int32)) : Prop) then (fX4_lies_114 N (fX4_lies_21 N n) x1 x2 x3 x4 0 M) else (gd (x4) 4 (gd (x4) 4 (if ((((M 28 (x4 : Int32).toNatClampNeg) / (6 : Int32)) + (M 23 (x4 : Int32).toNatClampNeg)) ≤ x2 : Prop) then (fX4_lies_114 N (fX4_lies_21 N n) x1 x2 x3 x4 0 M) else (fX4_lies_114 N (fX4_lies_21 N n) x1 x2 x3 x4 1 M))))))))))))
theorem fX4_lies_21_s {N n : Nat} {x1 : Int32} {x2 : Int32} {x3 : Int32} {x4 : Int32} {M : Mem} : fX4_lies_21 N (n + 1) x1 x2 x3 x4 M =
    if ((M 16 2) ≤ x4 : Prop) then (if ((M 16 0) ≤ 0 : Prop) then (some (x3, M)) else (some (0, M))) else (if ((M 16 4) = 0 : Prop) then (if ((M 16 0) ≤ 0 : Prop) then (some (x3, M)) else (some (0, M))) else (gd (x4) 4 (if (x1 < ((M 28 (x4 : Int32).toNatClampNeg) - (M 28 (x4 : Int32).toNatClampNeg) / (6 : Int32) * (6 : Int32)) : Prop) then (fX4_lies_114 N (fX4_lies_21 N n) x1 x2 x3 x4 0 M) else (gd (x4) 4 (gd (x4) 4 (if ((((M 28 (x4 : Int32).toNatClampNeg) - (M 28 (x4 : Int32).toNatClampNeg) / (6 : Int32) * (6 : Int32)) + (M 21 (x4 : Int32).toNatClampNeg)) ≤ x1 : Prop) then (fX4_lies_114 N (fX4_lies_21 N n) x1 x2 x3 x4 0 M) else (gd (x4) 4 (if (x2 < ((M 28 (x4 : Int32).toNatClampNeg) / (6 : Int32)) : Prop) then (fX4_lies_114 N (fX4_lies_21 N n) x1 x2 x3 x4 0 M) else (gd (x4) 4 (gd (x4) 4 (if ((((M 28 (x4 : Int32).toNatClampNeg) / (6 : Int32)) + (M 23 (x4 : Int32).toNatClampNeg)) ≤ x2 : Prop) then (fX4_lies_114 N (fX4_lies_21 N n) x1 x2 x3 x4 0 M) else (fX4_lies_114 N (fX4_lies_21 N n) x1 x2 x3 x4 1 M)))))))))))) := rfl
def fX4_lies (N : Nat) (x1 : Int32) (x2 : Int32) (M : Mem) : Option (Int32 × Mem) :=
    if ((M 16 4) = 0 : Prop) then (lq (mw M 16 0 1) (fun M2 => fX4_lies_21 N N x1 x2 (-1) 0 M2)) else (lq (mw M 16 0 0) (fun M3 => fX4_lies_21 N N x1 x2 (-1) 0 M3))
set_option maxHeartbeats 4000000 in
set_option maxRecDepth 100000 in
theorem wX4_lies_114 {p : Program} {l : Launch} {e : Env} {s : State} {m : MethodId} {args : Array Value} {below : List Frame} {meth : Method} {c : Code} {D : va_G} {ad : Nat → Nat} {ca : Nat → ClassId} {B : Nat} {ov : Int64} {r0 : Int32} {M0 : Mem} (G : Mx p s m args meth c cX4_lies 6 wsX4_lies RX4 (some .int)) (N : Nat) {k21 : Int32 → Int32 → Int32 → Int32 → Mem → Option (Int32 × Mem)}
    (hk21 : ∀ (x1 : Int32) (x2 : Int32) (x3 : Int32) (x4 : Int32) (M : Mem) (H : Heap) (locs : List Loc) (ls : Array Slot), lv_has ls 6 [(0, .ref (ad 16)), (1, .int x1), (2, .int x2), (3, .int x3), (4, .int x4)] → Cu D ad ca B M ov s H locs → k21 x1 x2 x3 x4 M = some (r0, M0) → W p l e (rmX4_lies) s m args below meth c H locs 0 0 (MQ below (va_Qi (fun (r : Int32) (_ : Unit) => r = r0) (fun _ t => Wp D ad ca B M0 ov t.heap) (Ab B)) args s 0 0 (Ab B)) (F0 m 21 ls [])) : ∀ (x1 : Int32) (x2 : Int32) (x3 : Int32) (x4 : Int32) (y0 : Int32) (M : Mem) (H : Heap) (locs : List Loc) (ls : Array Slot), lv_has ls 6 [(0, .ref (ad 16)), (1, .int x1), (2, .int x2), (3, .int x3), (4, .int x4)] → Cu D ad ca B M ov s H locs → (fX4_lies_114 N k21) x1 x2 x3 x4 y0 M = some (r0, M0) → W p l e (rmX4_lies) s m args below meth c H locs 0 0 (MQ below (va_Qi (fun (r : Int32) (_ : Unit) => r = r0) (fun _ t => Wp D ad ca B M0 ov t.heap) (Ab B)) args s 0 0 (Ab B)) (F0 m 114 ls [.int y0]) := by
  obtain ⟨hx, hb, hml, hown, hts, hr, hlk⟩ := id G
  intro x1 x2 x3 x4 y0 M H locs ls hl hC hf
  unfold fX4_lies_114 at hf
  refine lv_istore (lv' := [(5, .int y0), (0, .ref (ad 16)), (1, .int x1), (2, .int x2), (3, .int x3), (4, .int x4)]) hx hb dX4_lies_114 hl (by decide) rfl (fun ls hl => ?_)
  refine lv_iload hx hb dX4_lies_116 (lv_at hl 0 rfl) ?_
  refine lv_if_eq (tgt := 126) hx hb dX4_lies_118 (by decide) (fun h1 => ?_) (fun h1 => ?_)
  · have hf := it_t h1 hf
    refine lv_iload_n hx hb dX4_lies_126 rfl (lv_at hl 4 rfl) ?_
    refine lv_istore_n (lv' := [(3, .int x3), (5, .int y0), (0, .ref (ad 16)), (1, .int x1), (2, .int x2), (4, .int x4)]) hx hb dX4_lies_127 rfl hl (by decide) rfl (fun ls hl => ?_)
    obtain ⟨z2, ez2⟩ : ∃ y : Int32, y = x4 + 1 := ⟨_, rfl⟩
    have hf := lq_k ez2 hf
    refine lv_iinc (v := z2) (lv' := [(4, .int z2), (3, .int x3), (5, .int y0), (0, .ref (ad 16)), (1, .int x1), (2, .int x2)]) hx hb dX4_lies_128 hl (k := 5) rfl (by rw [ez2]; rfl) (by decide) rfl (fun ls hl => ?_)
    refine lv_goto (tgt := 21) hx hb dX4_lies_131 (by decide) ?_
    exact hk21 x1 x2 x3 z2 M _ _ _ (lv_sub hl [3, 4, 5, 1, 0] rfl) hC hf
  · have hf := it_f h1 hf
    refine lv_iload hx hb dX4_lies_121 (lv_at hl 5 rfl) ?_
    refine lv_goto (tgt := 127) hx hb dX4_lies_123 (by decide) ?_
    refine lv_istore_n (lv' := [(3, .int x4), (5, .int y0), (0, .ref (ad 16)), (1, .int x1), (2, .int x2), (4, .int x4)]) hx hb dX4_lies_127 rfl hl (by decide) rfl (fun ls hl => ?_)
    obtain ⟨z3, ez3⟩ : ∃ y : Int32, y = x4 + 1 := ⟨_, rfl⟩
    have hf := lq_k ez3 hf
    refine lv_iinc (v := z3) (lv' := [(4, .int z3), (3, .int x4), (5, .int y0), (0, .ref (ad 16)), (1, .int x1), (2, .int x2)]) hx hb dX4_lies_128 hl (k := 5) rfl (by rw [ez3]; rfl) (by decide) rfl (fun ls hl => ?_)
    refine lv_goto (tgt := 21) hx hb dX4_lies_131 (by decide) ?_
    exact hk21 x1 x2 x4 z3 M _ _ _ (lv_sub hl [3, 4, 5, 1, 0] rfl) hC hf
set_option maxHeartbeats 4000000 in
set_option maxRecDepth 100000 in
theorem wX4_lies_21 {p : Program} {l : Launch} {e : Env} {s : State} {m : MethodId} {args : Array Value} {below : List Frame} {meth : Method} {c : Code} {D : va_G} {ad : Nat → Nat} {ca : Nat → ClassId} {B : Nat} {ov : Int64} {r0 : Int32} {M0 : Mem} (G : Mx p s m args meth c cX4_lies 6 wsX4_lies RX4 (some .int)) (N : Nat) : ∀ (n : Nat), ∀ (x1 : Int32) (x2 : Int32) (x3 : Int32) (x4 : Int32) (M : Mem) (H : Heap) (locs : List Loc) (ls : Array Slot), lv_has ls 6 [(0, .ref (ad 16)), (1, .int x1), (2, .int x2), (3, .int x3), (4, .int x4)] → Cu D ad ca B M ov s H locs → (fX4_lies_21 N n) x1 x2 x3 x4 M = some (r0, M0) → W p l e (rmX4_lies) s m args below meth c H locs 0 0 (MQ below (va_Qi (fun (r : Int32) (_ : Unit) => r = r0) (fun _ t => Wp D ad ca B M0 ov t.heap) (Ab B)) args s 0 0 (Ab B)) (F0 m 21 ls []) := by
  obtain ⟨hx, hb, hml, hown, hts, hr, hlk⟩ := id G
  intro n
  induction n with
  | zero =>
    intro x1 x2 x3 x4 M H locs ls hl hC hf
    cases hf
  | succ n ih =>
    intro x1 x2 x3 x4 M H locs ls hl hC hf
    have hf := (fX4_lies_21_s).symm.trans hf
    refine lv_iload hx hb dX4_lies_21 (lv_at hl 4 rfl) ?_
    refine lv_aload_n hx hb dX4_lies_23 rfl (lv_at hl 0 rfl) ?_
    refine mg_get (ci := 4) (C := RX4) (T := TX4) (N := 19) (v := .int (M 16 2)) hx hb hts inX4_lies_X4 hown hC 16 (by decide) rfl rfl 2 (by decide) (hts _ lkX4_lies_f59) rfl rfl dX4_lies_24 ?_
    refine lv_icmp_ge (tgt := 134) hx hb dX4_lies_27 (by decide) (fun h1 => ?_) (fun h1 => ?_)
    · have hf := it_t h1 hf
      refine lv_aload_n hx hb dX4_lies_134 rfl (lv_at hl 0 rfl) ?_
      refine mg_get (ci := 4) (C := RX4) (T := TX4) (N := 19) (v := .int (M 16 0)) hx hb hts inX4_lies_X4 hown hC 16 (by decide) rfl rfl 0 (by decide) (hts _ lkX4_lies_f56) rfl rfl dX4_lies_135 ?_
      refine lv_if_le (tgt := 145) hx hb dX4_lies_138 (by decide) (fun h2 => ?_) (fun h2 => ?_)
      · have hf := it_t h2 hf
        refine lv_iload_n hx hb dX4_lies_145 rfl (lv_at hl 3 rfl) ?_
        exact mr_I hx hb hr hlk hC hf dX4_lies_146
      · have hf := it_f h2 hf
        refine lv_iconst (v := 0) hx hb dX4_lies_141 (by decide) ?_
        refine lv_goto (tgt := 146) hx hb dX4_lies_142 (by decide) ?_
        exact mr_I hx hb hr hlk hC hf dX4_lies_146
    · have hf := it_f h1 hf
      refine lv_aload_n hx hb dX4_lies_30 rfl (lv_at hl 0 rfl) ?_
      refine mg_get (ci := 4) (C := RX4) (T := TX4) (N := 19) (v := .int (M 16 4)) hx hb hts inX4_lies_X4 hown hC 16 (by decide) rfl rfl 4 (by decide) (hts _ lkX4_lies_f66) rfl rfl dX4_lies_31 ?_
      refine lv_if_eq (tgt := 134) hx hb dX4_lies_34 (by decide) (fun h3 => ?_) (fun h3 => ?_)
      · have hf := it_t h3 hf
        refine lv_aload_n hx hb dX4_lies_134 rfl (lv_at hl 0 rfl) ?_
        refine mg_get (ci := 4) (C := RX4) (T := TX4) (N := 19) (v := .int (M 16 0)) hx hb hts inX4_lies_X4 hown hC 16 (by decide) rfl rfl 0 (by decide) (hts _ lkX4_lies_f56) rfl rfl dX4_lies_135 ?_
        refine lv_if_le (tgt := 145) hx hb dX4_lies_138 (by decide) (fun h4 => ?_) (fun h4 => ?_)
        · have hf := it_t h4 hf
          refine lv_iload_n hx hb dX4_lies_145 rfl (lv_at hl 3 rfl) ?_
          exact mr_I hx hb hr hlk hC hf dX4_lies_146
        · have hf := it_f h4 hf
          refine lv_iconst (v := 0) hx hb dX4_lies_141 (by decide) ?_
          refine lv_goto (tgt := 146) hx hb dX4_lies_142 (by decide) ?_
          exact mr_I hx hb hr hlk hC hf dX4_lies_146
      · have hf := it_f h3 hf
        refine lv_iload_n hx hb dX4_lies_37 rfl (lv_at hl 1 rfl) ?_
        refine lv_aload_n hx hb dX4_lies_38 rfl (lv_at hl 0 rfl) ?_
        refine mg_get (ci := 4) (C := RX4) (T := TX4) (N := 19) (v := .ref (ad 28)) hx hb hts inX4_lies_X4 hown hC 16 (by decide) rfl rfl 16 (by decide) (hts _ lkX4_lies_f43) rfl rfl dX4_lies_39 ?_
        refine lv_iload hx hb dX4_lies_42 (lv_at hl 4 rfl) ?_
        obtain ⟨g5, hf⟩ := gd_s hf
        refine mg_iald (n := 4) (cA := ca 28) hx hb hC 28 20 (by decide) rfl rfl g5 dX4_lies_44 ?_
        refine lv_bipush (v := 6) hx hb dX4_lies_45 (by decide) ?_
        refine lv_irem hx hb dX4_lies_47 (by decide) ?_
        refine lv_icmp_lt (tgt := 113) hx hb dX4_lies_48 (by decide) (fun h6 => ?_) (fun h6 => ?_)
        · have hf := it_t h6 hf
          refine lv_iconst (v := 0) hx hb dX4_lies_113 (by decide) ?_
          exact wX4_lies_114 G N ih x1 x2 x3 x4 0 M _ _ _ (lv_sub hl [0, 1, 2, 3, 4] rfl) hC hf
        · have hf := it_f h6 hf
          refine lv_iload_n hx hb dX4_lies_51 rfl (lv_at hl 1 rfl) ?_
          refine lv_aload_n hx hb dX4_lies_52 rfl (lv_at hl 0 rfl) ?_
          refine mg_get (ci := 4) (C := RX4) (T := TX4) (N := 19) (v := .ref (ad 28)) hx hb hts inX4_lies_X4 hown hC 16 (by decide) rfl rfl 16 (by decide) (hts _ lkX4_lies_f43) rfl rfl dX4_lies_53 ?_
          refine lv_iload hx hb dX4_lies_56 (lv_at hl 4 rfl) ?_
          obtain ⟨g7, hf⟩ := gd_s hf
          refine mg_iald (n := 4) (cA := ca 28) hx hb hC 28 20 (by decide) rfl rfl g7 dX4_lies_58 ?_
          refine lv_bipush (v := 6) hx hb dX4_lies_59 (by decide) ?_
          refine lv_irem hx hb dX4_lies_61 (by decide) ?_
          refine lv_aload_n hx hb dX4_lies_62 rfl (lv_at hl 0 rfl) ?_
          refine mg_get (ci := 4) (C := RX4) (T := TX4) (N := 19) (v := .ref (ad 21)) hx hb hts inX4_lies_X4 hown hC 16 (by decide) rfl rfl 9 (by decide) (hts _ lkX4_lies_f22) rfl rfl dX4_lies_63 ?_
          refine lv_iload hx hb dX4_lies_66 (lv_at hl 4 rfl) ?_
          obtain ⟨g8, hf⟩ := gd_s hf
          refine mg_iald (n := 4) (cA := ca 21) hx hb hC 21 13 (by decide) rfl rfl g8 dX4_lies_68 ?_
          refine lv_iadd hx hb dX4_lies_69 ?_
          refine lv_icmp_ge (tgt := 113) hx hb dX4_lies_70 (by decide) (fun h9 => ?_) (fun h9 => ?_)
          · have hf := it_t h9 hf
            refine lv_iconst (v := 0) hx hb dX4_lies_113 (by decide) ?_
            exact wX4_lies_114 G N ih x1 x2 x3 x4 0 M _ _ _ (lv_sub hl [0, 1, 2, 3, 4] rfl) hC hf
          · have hf := it_f h9 hf
            refine lv_iload_n hx hb dX4_lies_73 rfl (lv_at hl 2 rfl) ?_
            refine lv_aload_n hx hb dX4_lies_74 rfl (lv_at hl 0 rfl) ?_
            refine mg_get (ci := 4) (C := RX4) (T := TX4) (N := 19) (v := .ref (ad 28)) hx hb hts inX4_lies_X4 hown hC 16 (by decide) rfl rfl 16 (by decide) (hts _ lkX4_lies_f43) rfl rfl dX4_lies_75 ?_
            refine lv_iload hx hb dX4_lies_78 (lv_at hl 4 rfl) ?_
            obtain ⟨g10, hf⟩ := gd_s hf
            refine mg_iald (n := 4) (cA := ca 28) hx hb hC 28 20 (by decide) rfl rfl g10 dX4_lies_80 ?_
            refine lv_bipush (v := 6) hx hb dX4_lies_81 (by decide) ?_
            refine lv_idiv hx hb dX4_lies_83 (by decide) ?_
            refine lv_icmp_lt (tgt := 113) hx hb dX4_lies_84 (by decide) (fun h11 => ?_) (fun h11 => ?_)
            · have hf := it_t h11 hf
              refine lv_iconst (v := 0) hx hb dX4_lies_113 (by decide) ?_
              exact wX4_lies_114 G N ih x1 x2 x3 x4 0 M _ _ _ (lv_sub hl [0, 1, 2, 3, 4] rfl) hC hf
            · have hf := it_f h11 hf
              refine lv_iload_n hx hb dX4_lies_87 rfl (lv_at hl 2 rfl) ?_
              refine lv_aload_n hx hb dX4_lies_88 rfl (lv_at hl 0 rfl) ?_
              refine mg_get (ci := 4) (C := RX4) (T := TX4) (N := 19) (v := .ref (ad 28)) hx hb hts inX4_lies_X4 hown hC 16 (by decide) rfl rfl 16 (by decide) (hts _ lkX4_lies_f43) rfl rfl dX4_lies_89 ?_
              refine lv_iload hx hb dX4_lies_92 (lv_at hl 4 rfl) ?_
              obtain ⟨g12, hf⟩ := gd_s hf
              refine mg_iald (n := 4) (cA := ca 28) hx hb hC 28 20 (by decide) rfl rfl g12 dX4_lies_94 ?_
              refine lv_bipush (v := 6) hx hb dX4_lies_95 (by decide) ?_
              refine lv_idiv hx hb dX4_lies_97 (by decide) ?_
              refine lv_aload_n hx hb dX4_lies_98 rfl (lv_at hl 0 rfl) ?_
              refine mg_get (ci := 4) (C := RX4) (T := TX4) (N := 19) (v := .ref (ad 23)) hx hb hts inX4_lies_X4 hown hC 16 (by decide) rfl rfl 11 (by decide) (hts _ lkX4_lies_f28) rfl rfl dX4_lies_99 ?_
              refine lv_iload hx hb dX4_lies_102 (lv_at hl 4 rfl) ?_
              obtain ⟨g13, hf⟩ := gd_s hf
              refine mg_iald (n := 4) (cA := ca 23) hx hb hC 23 15 (by decide) rfl rfl g13 dX4_lies_104 ?_
              refine lv_iadd hx hb dX4_lies_105 ?_
              refine lv_icmp_ge (tgt := 113) hx hb dX4_lies_106 (by decide) (fun h14 => ?_) (fun h14 => ?_)
              · have hf := it_t h14 hf
                refine lv_iconst (v := 0) hx hb dX4_lies_113 (by decide) ?_
                exact wX4_lies_114 G N ih x1 x2 x3 x4 0 M _ _ _ (lv_sub hl [0, 1, 2, 3, 4] rfl) hC hf
              · have hf := it_f h14 hf
                refine lv_iconst (v := 1) hx hb dX4_lies_109 (by decide) ?_
                refine lv_goto (tgt := 114) hx hb dX4_lies_110 (by decide) ?_
                exact wX4_lies_114 G N ih x1 x2 x3 x4 1 M _ _ _ (lv_sub hl [0, 1, 2, 3, 4] rfl) hC hf
set_option maxHeartbeats 4000000 in
set_option maxRecDepth 100000 in
theorem kX4_lies (l : Launch) (D : va_G) (ad : Nat → Nat) (ca : Nat → ClassId) (B : Nat) (ov : Int64) (N : Nat) (x1 : Int32) (x2 : Int32) (M : Mem) (r0 : Int32) (M0 : Mem) (hf : fX4_lies N x1 x2 M = some (r0, M0)) : MtI l D ad ca B ov yX4_lies wsX4_lies (rmX4_lies) [.ref (ad 16), .int x1, .int x2] M r0 M0 := by
  unfold fX4_lies at hf
  refine Met.ofW (cc := cX4_lies) (maxL := 6) (ret := (some .int)) (by decide) rfl ?_
  intro p e s m args below meth c s₁ Bd hml hv
  obtain ⟨rfl, hw⟩ := hv
  have G : Mx p s m ([.ref (ad 16), .int x1, .int x2] : List Value).toArray meth c cX4_lies 6 wsX4_lies RX4 (some .int) := ⟨Bd.exec, Bd.bytes, hml, findClass_of_methodNamed Bd.named, atoms_spec (ws := wsX4_lies) Bd.pre, Bd.returns, Bd.notSynchronized⟩
  have hC := Cu.of hw
  have hl := lv_entry ([.ref (ad 16), .int x1, .int x2]) (n := 6) (Nat.le_of_ble_eq_true rfl)
  rw [lg_entry_eq]
  generalize (lg_sl ([.ref (ad 16), .int x1, .int x2]) ++ List.replicate (6 - (lg_sl ([.ref (ad 16), .int x1, .int x2])).length) Slot.unset).toArray = ls at hl ⊢
  have hl : lv_has ls 6 [(0, .ref (ad 16)), (1, .int x1), (2, .int x2)] := hl
  obtain ⟨hx, hb, hml, hown, hts, hr, hlk⟩ := id G
  show W p l e (rmX4_lies) s m _ below meth c s.heap [] 0 0 (MQ below (va_Qi (fun (r : Int32) (_ : Unit) => r = r0) (fun _ t => Wp D ad ca B M0 ov t.heap) (Ab B)) _ s 0 0 (Ab B)) (F0 m 0 ls [])
  refine lv_aload_n hx hb dX4_lies_0 rfl (lv_at hl 0 rfl) ?_
  refine lv_aload_n hx hb dX4_lies_1 rfl (lv_at hl 0 rfl) ?_
  refine mg_get (ci := 4) (C := RX4) (T := TX4) (N := 19) (v := .int (M 16 4)) hx hb hts inX4_lies_X4 hown hC 16 (by decide) rfl rfl 4 (by decide) (hts _ lkX4_lies_f66) rfl rfl dX4_lies_2 ?_
  refine lv_if_eq (tgt := 12) hx hb dX4_lies_5 (by decide) (fun h1 => ?_) (fun h1 => ?_)
  · have hf := it_t h1 hf
    refine lv_iconst (v := 1) hx hb dX4_lies_12 (by decide) ?_
    refine mg_put (ci := 4) (C := RX4) (T := TX4) (N := 19) (ty := .int) (v := .int 1) (x := 1) hx hb hts inX4_lies_X4 tyX4 tyX4_ok nmX4 hown hC 16 (by decide) rfl rfl 0 (by decide) (hts _ lkX4_lies_f56) rfl rfl (by decide +kernel) rfl rfl (Nat.le_of_ble_eq_true rfl) rfl dX4_lies_13 (fun H locs hC => ?_)
    obtain ⟨M2, eM2⟩ : ∃ z : Mem, z = mw M 16 0 1 := ⟨_, rfl⟩
    rw [← eM2] at hC
    have hf := lq_k eM2 hf
    refine lv_iconst (v := (-1)) hx hb dX4_lies_16 (by decide) ?_
    refine lv_istore_n (lv' := [(3, .int (-1)), (0, .ref (ad 16)), (1, .int x1), (2, .int x2)]) hx hb dX4_lies_17 rfl hl (by decide) rfl (fun ls hl => ?_)
    refine lv_iconst (v := 0) hx hb dX4_lies_18 (by decide) ?_
    refine lv_istore (lv' := [(4, .int 0), (3, .int (-1)), (0, .ref (ad 16)), (1, .int x1), (2, .int x2)]) hx hb dX4_lies_19 hl (by decide) rfl (fun ls hl => ?_)
    exact wX4_lies_21 G N N x1 x2 (-1) 0 M2 _ _ _ (lv_sub hl [2, 3, 4, 1, 0] rfl) hC hf
  · have hf := it_f h1 hf
    refine lv_iconst (v := 0) hx hb dX4_lies_8 (by decide) ?_
    refine lv_goto (tgt := 13) hx hb dX4_lies_9 (by decide) ?_
    refine mg_put (ci := 4) (C := RX4) (T := TX4) (N := 19) (ty := .int) (v := .int 0) (x := 0) hx hb hts inX4_lies_X4 tyX4 tyX4_ok nmX4 hown hC 16 (by decide) rfl rfl 0 (by decide) (hts _ lkX4_lies_f56) rfl rfl (by decide +kernel) rfl rfl (Nat.le_of_ble_eq_true rfl) rfl dX4_lies_13 (fun H locs hC => ?_)
    obtain ⟨M3, eM3⟩ : ∃ z : Mem, z = mw M 16 0 0 := ⟨_, rfl⟩
    rw [← eM3] at hC
    have hf := lq_k eM3 hf
    refine lv_iconst (v := (-1)) hx hb dX4_lies_16 (by decide) ?_
    refine lv_istore_n (lv' := [(3, .int (-1)), (0, .ref (ad 16)), (1, .int x1), (2, .int x2)]) hx hb dX4_lies_17 rfl hl (by decide) rfl (fun ls hl => ?_)
    refine lv_iconst (v := 0) hx hb dX4_lies_18 (by decide) ?_
    refine lv_istore (lv' := [(4, .int 0), (3, .int (-1)), (0, .ref (ad 16)), (1, .int x1), (2, .int x2)]) hx hb dX4_lies_19 hl (by decide) rfl (fun ls hl => ?_)
    exact wX4_lies_21 G N N x1 x2 (-1) 0 M3 _ _ _ (lv_sub hl [2, 3, 4, 1, 0] rfl) hC hf

theorem lkX4_share_c121 : Cond.constant RX4 121 (1000000) ∈ wsX4_share := by decide +kernel
theorem lkX4_share_f7 : Cond.fieldLink RX4 7 "BerthPlanModel" "depthOf" "[I" ∈ wsX4_share := by decide +kernel
theorem lkX4_share_f52 : Cond.fieldLink RX4 52 "BerthPlanModel" "places" "I" ∈ wsX4_share := by decide +kernel
theorem lkX4_share_f56 : Cond.fieldLink RX4 56 "BerthPlanModel" "thrown" "I" ∈ wsX4_share := by decide +kernel
theorem inX4_share_X4 : ∀ w ∈ wsX40, w ∈ wsX4_share := by decide +kernel
abbrev rmX4_share : Room := { frames := 1, cells := 0, slots := 0, locals := 22 }
def fX4_share_77 (N : Nat) (x1 : Int32) (x2 : Int32) (x4 : Int32) (y1 : Int32) (M : Mem) : Option (Int64 × Mem) :=
    lq (mw M 16 0 y1) (fun M1 => if ((M1 16 0) ≤ 0 : Prop) then (gp (¬ ((x4 : Int32).toInt64) = 0) (some ((((x1 : Int32).toInt64) * ((x2 : Int32).toInt64)) / ((x4 : Int32).toInt64), M1))) else (some (0, M1)))
def fX4_share_6 (N : Nat) : Nat → Int32 → Int32 → Int32 → Int32 → Int32 → Mem → Option (Int64 × Mem)
  | 0, _, _, _, _, _, _ => none
  | n + 1, x1, x2, x3, x4, x5, M =>
    if ((M 16 1) ≤ x5 : Prop) then (bd (fX4_in N x1 0 1000000 M) (fun r2 M3 => if (r2 = 0 : Prop) then (fX4_share_77 N x1 x2 x4 1 M3) else (bd (fX4_in N x2 0 1000000 M3) (fun r5 M6 => if (r5 = 0 : Prop) then (fX4_share_77 N x1 x2 x4 1 M6) else (if (x4 = 0 : Prop) then (fX4_share_77 N x1 x2 x4 2 M6) else (fX4_share_77 N x1 x2 x4 0 M6)))))) else (gd (x5) 6 (if ((M 17 (x5 : Int32).toNatClampNeg) < x3 : Prop) then (lq (x4 + (0 : Int32)) (fun z11 => lq (x5 + 1) (fun z12 => fX4_share_6 N n x1 x2 x3 z11 z12 M))) else (lq (x4 + (1 : Int32)) (fun z13 => lq (x5 + 1) (fun z14 => fX4_share_6 N n x1 x2 x3 z13 z14 M)))))
theorem fX4_share_6_s {N n : Nat} {x1 : Int32} {x2 : Int32} {x3 : Int32} {x4 : Int32} {x5 : Int32} {M : Mem} : fX4_share_6 N (n + 1) x1 x2 x3 x4 x5 M =
    if ((M 16 1) ≤ x5 : Prop) then (bd (fX4_in N x1 0 1000000 M) (fun r2 M3 => if (r2 = 0 : Prop) then (fX4_share_77 N x1 x2 x4 1 M3) else (bd (fX4_in N x2 0 1000000 M3) (fun r5 M6 => if (r5 = 0 : Prop) then (fX4_share_77 N x1 x2 x4 1 M6) else (if (x4 = 0 : Prop) then (fX4_share_77 N x1 x2 x4 2 M6) else (fX4_share_77 N x1 x2 x4 0 M6)))))) else (gd (x5) 6 (if ((M 17 (x5 : Int32).toNatClampNeg) < x3 : Prop) then (lq (x4 + (0 : Int32)) (fun z11 => lq (x5 + 1) (fun z12 => fX4_share_6 N n x1 x2 x3 z11 z12 M))) else (lq (x4 + (1 : Int32)) (fun z13 => lq (x5 + 1) (fun z14 => fX4_share_6 N n x1 x2 x3 z13 z14 M))))) := rfl
def fX4_share (N : Nat) (x1 : Int32) (x2 : Int32) (x3 : Int32) (M : Mem) : Option (Int64 × Mem) :=
    fX4_share_6 N N x1 x2 x3 0 0 M
set_option maxHeartbeats 4000000 in
set_option maxRecDepth 100000 in
theorem wX4_share_77 {p : Program} {l : Launch} {e : Env} {s : State} {m : MethodId} {args : Array Value} {below : List Frame} {meth : Method} {c : Code} {D : va_G} {ad : Nat → Nat} {ca : Nat → ClassId} {B : Nat} {ov : Int64} {r0 : Int64} {M0 : Mem} (G : Mx p s m args meth c cX4_share 6 wsX4_share RX4 (some .long)) (N : Nat) : ∀ (x1 : Int32) (x2 : Int32) (x4 : Int32) (y1 : Int32) (M : Mem) (H : Heap) (locs : List Loc) (ls : Array Slot), lv_has ls 6 [(0, .ref (ad 16)), (1, .int x1), (2, .int x2), (4, .int x4)] → Cu D ad ca B M ov s H locs → (fX4_share_77 N) x1 x2 x4 y1 M = some (r0, M0) → W p l e (rmX4_share) s m args below meth c H locs 0 0 (MQ below (va_Ql (fun (r : Int64) (_ : Unit) => r = r0) (fun _ t => Wp D ad ca B M0 ov t.heap) (Ab B)) args s 0 0 (Ab B)) (F0 m 77 ls [.int y1, .ref (ad 16)]) := by
  obtain ⟨hx, hb, hml, hown, hts, hr, hlk⟩ := id G
  intro x1 x2 x4 y1 M H locs ls hl hC hf
  unfold fX4_share_77 at hf
  refine mg_put (ci := 4) (C := RX4) (T := TX4) (N := 19) (ty := .int) (v := .int y1) (x := y1) hx hb hts inX4_share_X4 tyX4 tyX4_ok nmX4 hown hC 16 (by decide) rfl rfl 0 (by decide) (hts _ lkX4_share_f56) rfl rfl (by decide +kernel) rfl rfl (Nat.le_of_ble_eq_true rfl) rfl dX4_share_77 (fun H locs hC => ?_)
  obtain ⟨M1, eM1⟩ : ∃ z : Mem, z = mw M 16 0 y1 := ⟨_, rfl⟩
  rw [← eM1] at hC
  have hf := lq_k eM1 hf
  refine lv_aload_n hx hb dX4_share_80 rfl (lv_at hl 0 rfl) ?_
  refine mg_get (ci := 4) (C := RX4) (T := TX4) (N := 19) (v := .int (M1 16 0)) hx hb hts inX4_share_X4 hown hC 16 (by decide) rfl rfl 0 (by decide) (hts _ lkX4_share_f56) rfl rfl dX4_share_81 ?_
  refine lv_if_le (tgt := 91) hx hb dX4_share_84 (by decide) (fun h2 => ?_) (fun h2 => ?_)
  · have hf := it_t h2 hf
    refine lv_iload_n hx hb dX4_share_91 rfl (lv_at hl 1 rfl) ?_
    refine lv_i2l (v := (x1 : Int32).toInt64) hx hb dX4_share_92 rfl ?_
    refine lv_iload_n hx hb dX4_share_93 rfl (lv_at hl 2 rfl) ?_
    refine lv_i2l (v := (x2 : Int32).toInt64) hx hb dX4_share_94 rfl ?_
    refine lv_lmul hx hb dX4_share_95 ?_
    refine lv_iload hx hb dX4_share_96 (lv_at hl 3 rfl) ?_
    refine lv_i2l (v := (x4 : Int32).toInt64) hx hb dX4_share_98 rfl ?_
    obtain ⟨g3, hf⟩ := gp_s hf
    refine lv_ldiv hx hb dX4_share_99 g3 ?_
    exact mr_L hx hb hr hlk hC hf dX4_share_100
  · have hf := it_f h2 hf
    refine lv_lconst (v := 0) hx hb dX4_share_87 (by decide) ?_
    refine lv_goto (tgt := 100) hx hb dX4_share_88 (by decide) ?_
    exact mr_L hx hb hr hlk hC hf dX4_share_100
set_option maxHeartbeats 4000000 in
set_option maxRecDepth 100000 in
theorem wX4_share_6 {p : Program} {l : Launch} {e : Env} {s : State} {m : MethodId} {args : Array Value} {below : List Frame} {meth : Method} {c : Code} {D : va_G} {ad : Nat → Nat} {ca : Nat → ClassId} {B : Nat} {ov : Int64} {r0 : Int64} {M0 : Mem} (G : Mx p s m args meth c cX4_share 6 wsX4_share RX4 (some .long)) (N : Nat) : ∀ (n : Nat), ∀ (x1 : Int32) (x2 : Int32) (x3 : Int32) (x4 : Int32) (x5 : Int32) (M : Mem) (H : Heap) (locs : List Loc) (ls : Array Slot), lv_has ls 6 [(0, .ref (ad 16)), (1, .int x1), (2, .int x2), (3, .int x3), (4, .int x4), (5, .int x5)] → Cu D ad ca B M ov s H locs → (fX4_share_6 N n) x1 x2 x3 x4 x5 M = some (r0, M0) → W p l e (rmX4_share) s m args below meth c H locs 0 0 (MQ below (va_Ql (fun (r : Int64) (_ : Unit) => r = r0) (fun _ t => Wp D ad ca B M0 ov t.heap) (Ab B)) args s 0 0 (Ab B)) (F0 m 6 ls []) := by
  obtain ⟨hx, hb, hml, hown, hts, hr, hlk⟩ := id G
  intro n
  induction n with
  | zero =>
    intro x1 x2 x3 x4 x5 M H locs ls hl hC hf
    cases hf
  | succ n ih =>
    intro x1 x2 x3 x4 x5 M H locs ls hl hC hf
    have hf := (fX4_share_6_s).symm.trans hf
    refine lv_iload hx hb dX4_share_6 (lv_at hl 5 rfl) ?_
    refine lv_aload_n hx hb dX4_share_8 rfl (lv_at hl 0 rfl) ?_
    refine mg_get (ci := 4) (C := RX4) (T := TX4) (N := 19) (v := .int (M 16 1)) hx hb hts inX4_share_X4 hown hC 16 (by decide) rfl rfl 1 (by decide) (hts _ lkX4_share_f52) rfl rfl dX4_share_9 ?_
    refine lv_icmp_ge (tgt := 42) hx hb dX4_share_12 (by decide) (fun h1 => ?_) (fun h1 => ?_)
    · have hf := it_t h1 hf
      refine lv_aload_n hx hb dX4_share_42 rfl (lv_at hl 0 rfl) ?_
      refine lv_iload_n hx hb dX4_share_43 rfl (lv_at hl 1 rfl) ?_
      refine lv_iconst (v := 0) hx hb dX4_share_44 (by decide) ?_
      refine lv_ldc (v := 1000000) hx hb hown (hts _ lkX4_share_c121) dX4_share_45 ?_
      obtain ⟨r2, M3, hq, hf⟩ := bd_s hf
      refine mc_Si (As := [.int x1, .int 0, .int 1000000]) ⟨hx, hb, hml, hown, hts⟩ hC (kX4_in l D ad ca B ov N x1 0 1000000 M r2 M3 hq) (va_cwS 3 hts gX4_share_X4_in rfl rfl rfl (by decide +kernel) ⟨Nat.le_of_ble_eq_true rfl, Nat.le_of_ble_eq_true rfl⟩) rfl hl.1 rfl (Nat.le_of_ble_eq_true rfl) dX4_share_47 ⟨Nat.zero_le _, Nat.zero_le _⟩ (fun H locs hC => ?_)
      refine lv_if_eq (tgt := 63) hx hb dX4_share_50 (by decide) (fun h4 => ?_) (fun h4 => ?_)
      · have hf := it_t h4 hf
        refine lv_iconst (v := 1) hx hb dX4_share_63 (by decide) ?_
        refine lv_goto (tgt := 77) hx hb dX4_share_64 (by decide) ?_
        exact wX4_share_77 G N x1 x2 x4 1 M3 _ _ _ (lv_sub hl [0, 1, 2, 4] rfl) hC hf
      · have hf := it_f h4 hf
        refine lv_iload_n hx hb dX4_share_53 rfl (lv_at hl 2 rfl) ?_
        refine lv_iconst (v := 0) hx hb dX4_share_54 (by decide) ?_
        refine lv_ldc (v := 1000000) hx hb hown (hts _ lkX4_share_c121) dX4_share_55 ?_
        obtain ⟨r5, M6, hq, hf⟩ := bd_s hf
        refine mc_Si (As := [.int x2, .int 0, .int 1000000]) ⟨hx, hb, hml, hown, hts⟩ hC (kX4_in l D ad ca B ov N x2 0 1000000 M3 r5 M6 hq) (va_cwS 3 hts gX4_share_X4_in rfl rfl rfl (by decide +kernel) ⟨Nat.le_of_ble_eq_true rfl, Nat.le_of_ble_eq_true rfl⟩) rfl hl.1 rfl (Nat.le_of_ble_eq_true rfl) dX4_share_57 ⟨Nat.zero_le _, Nat.zero_le _⟩ (fun H locs hC => ?_)
        refine lv_if_ne (tgt := 67) hx hb dX4_share_60 (by decide) (fun h7 => ?_) (fun h7 => ?_)
        · have hf := it_f h7 hf
          refine lv_iload hx hb dX4_share_67 (lv_at hl 4 rfl) ?_
          refine lv_if_ne (tgt := 76) hx hb dX4_share_69 (by decide) (fun h8 => ?_) (fun h8 => ?_)
          · have hf := it_f h8 hf
            refine lv_iconst (v := 0) hx hb dX4_share_76 (by decide) ?_
            exact wX4_share_77 G N x1 x2 x4 0 M6 _ _ _ (lv_sub hl [0, 1, 2, 4] rfl) hC hf
          · have hf := it_t h8 hf
            refine lv_iconst (v := 2) hx hb dX4_share_72 (by decide) ?_
            refine lv_goto (tgt := 77) hx hb dX4_share_73 (by decide) ?_
            exact wX4_share_77 G N x1 x2 x4 2 M6 _ _ _ (lv_sub hl [0, 1, 2, 4] rfl) hC hf
        · have hf := it_t h7 hf
          refine lv_iconst (v := 1) hx hb dX4_share_63 (by decide) ?_
          refine lv_goto (tgt := 77) hx hb dX4_share_64 (by decide) ?_
          exact wX4_share_77 G N x1 x2 x4 1 M6 _ _ _ (lv_sub hl [0, 1, 2, 4] rfl) hC hf
    · have hf := it_f h1 hf
      refine lv_iload hx hb dX4_share_15 (lv_at hl 4 rfl) ?_
      refine lv_aload_n hx hb dX4_share_17 rfl (lv_at hl 0 rfl) ?_
      refine mg_get (ci := 4) (C := RX4) (T := TX4) (N := 19) (v := .ref (ad 17)) hx hb hts inX4_share_X4 hown hC 16 (by decide) rfl rfl 5 (by decide) (hts _ lkX4_share_f7) rfl rfl dX4_share_18 ?_
      refine lv_iload hx hb dX4_share_21 (lv_at hl 5 rfl) ?_
      obtain ⟨g9, hf⟩ := gd_s hf
      refine mg_iald (n := 6) (cA := ca 17) hx hb hC 17 9 (by decide) rfl rfl g9 dX4_share_23 ?_
      refine lv_iload_n hx hb dX4_share_24 rfl (lv_at hl 3 rfl) ?_
      refine lv_icmp_lt (tgt := 32) hx hb dX4_share_25 (by decide) (fun h10 => ?_) (fun h10 => ?_)
      · have hf := it_t h10 hf
        refine lv_iconst (v := 0) hx hb dX4_share_32 (by decide) ?_
        refine lv_iadd hx hb dX4_share_33 ?_
        refine lv_topi (fun z11 ez11 => ?_)
        have hf := lq_k ez11 hf
        refine lv_istore (lv' := [(4, .int z11), (0, .ref (ad 16)), (1, .int x1), (2, .int x2), (3, .int x3), (5, .int x5)]) hx hb dX4_share_34 hl (by decide) rfl (fun ls hl => ?_)
        obtain ⟨z12, ez12⟩ : ∃ y : Int32, y = x5 + 1 := ⟨_, rfl⟩
        have hf := lq_k ez12 hf
        refine lv_iinc (v := z12) (lv' := [(5, .int z12), (4, .int z11), (0, .ref (ad 16)), (1, .int x1), (2, .int x2), (3, .int x3)]) hx hb dX4_share_36 hl (k := 5) rfl (by rw [ez12]; rfl) (by decide) rfl (fun ls hl => ?_)
        refine lv_goto (tgt := 6) hx hb dX4_share_39 (by decide) ?_
        exact ih x1 x2 x3 z11 z12 M _ _ _ (lv_sub hl [2, 3, 4, 5, 1, 0] rfl) hC hf
      · have hf := it_f h10 hf
        refine lv_iconst (v := 1) hx hb dX4_share_28 (by decide) ?_
        refine lv_goto (tgt := 33) hx hb dX4_share_29 (by decide) ?_
        refine lv_iadd hx hb dX4_share_33 ?_
        refine lv_topi (fun z13 ez13 => ?_)
        have hf := lq_k ez13 hf
        refine lv_istore (lv' := [(4, .int z13), (0, .ref (ad 16)), (1, .int x1), (2, .int x2), (3, .int x3), (5, .int x5)]) hx hb dX4_share_34 hl (by decide) rfl (fun ls hl => ?_)
        obtain ⟨z14, ez14⟩ : ∃ y : Int32, y = x5 + 1 := ⟨_, rfl⟩
        have hf := lq_k ez14 hf
        refine lv_iinc (v := z14) (lv' := [(5, .int z14), (4, .int z13), (0, .ref (ad 16)), (1, .int x1), (2, .int x2), (3, .int x3)]) hx hb dX4_share_36 hl (k := 5) rfl (by rw [ez14]; rfl) (by decide) rfl (fun ls hl => ?_)
        refine lv_goto (tgt := 6) hx hb dX4_share_39 (by decide) ?_
        exact ih x1 x2 x3 z13 z14 M _ _ _ (lv_sub hl [2, 3, 4, 5, 1, 0] rfl) hC hf
set_option maxHeartbeats 4000000 in
set_option maxRecDepth 100000 in
theorem kX4_share (l : Launch) (D : va_G) (ad : Nat → Nat) (ca : Nat → ClassId) (B : Nat) (ov : Int64) (N : Nat) (x1 : Int32) (x2 : Int32) (x3 : Int32) (M : Mem) (r0 : Int64) (M0 : Mem) (hf : fX4_share N x1 x2 x3 M = some (r0, M0)) : MtL l D ad ca B ov yX4_share wsX4_share (rmX4_share) [.ref (ad 16), .int x1, .int x2, .int x3] M r0 M0 := by
  unfold fX4_share at hf
  refine Met.ofW (cc := cX4_share) (maxL := 6) (ret := (some .long)) (by decide) rfl ?_
  intro p e s m args below meth c s₁ Bd hml hv
  obtain ⟨rfl, hw⟩ := hv
  have G : Mx p s m ([.ref (ad 16), .int x1, .int x2, .int x3] : List Value).toArray meth c cX4_share 6 wsX4_share RX4 (some .long) := ⟨Bd.exec, Bd.bytes, hml, findClass_of_methodNamed Bd.named, atoms_spec (ws := wsX4_share) Bd.pre, Bd.returns, Bd.notSynchronized⟩
  have hC := Cu.of hw
  have hl := lv_entry ([.ref (ad 16), .int x1, .int x2, .int x3]) (n := 6) (Nat.le_of_ble_eq_true rfl)
  rw [lg_entry_eq]
  generalize (lg_sl ([.ref (ad 16), .int x1, .int x2, .int x3]) ++ List.replicate (6 - (lg_sl ([.ref (ad 16), .int x1, .int x2, .int x3])).length) Slot.unset).toArray = ls at hl ⊢
  have hl : lv_has ls 6 [(0, .ref (ad 16)), (1, .int x1), (2, .int x2), (3, .int x3)] := hl
  obtain ⟨hx, hb, hml, hown, hts, hr, hlk⟩ := id G
  show W p l e (rmX4_share) s m _ below meth c s.heap [] 0 0 (MQ below (va_Ql (fun (r : Int64) (_ : Unit) => r = r0) (fun _ t => Wp D ad ca B M0 ov t.heap) (Ab B)) _ s 0 0 (Ab B)) (F0 m 0 ls [])
  refine lv_iconst (v := 0) hx hb dX4_share_0 (by decide) ?_
  refine lv_istore (lv' := [(4, .int 0), (0, .ref (ad 16)), (1, .int x1), (2, .int x2), (3, .int x3)]) hx hb dX4_share_1 hl (by decide) rfl (fun ls hl => ?_)
  refine lv_iconst (v := 0) hx hb dX4_share_3 (by decide) ?_
  refine lv_istore (lv' := [(5, .int 0), (4, .int 0), (0, .ref (ad 16)), (1, .int x1), (2, .int x2), (3, .int x3)]) hx hb dX4_share_4 hl (by decide) rfl (fun ls hl => ?_)
  exact wX4_share_6 G N N x1 x2 x3 0 0 M _ _ _ (lv_sub hl [2, 3, 4, 5, 1, 0] rfl) hC hf

theorem lkX4_count_f7 : Cond.fieldLink RX4 7 "BerthPlanModel" "depthOf" "[I" ∈ wsX4_count := by decide +kernel
theorem lkX4_count_f13 : Cond.fieldLink RX4 13 "BerthPlanModel" "gearOf" "[I" ∈ wsX4_count := by decide +kernel
theorem lkX4_count_f40 : Cond.fieldLink RX4 40 "BerthPlanModel" "fixed" "[I" ∈ wsX4_count := by decide +kernel
theorem lkX4_count_f52 : Cond.fieldLink RX4 52 "BerthPlanModel" "places" "I" ∈ wsX4_count := by decide +kernel
theorem lkX4_count_f56 : Cond.fieldLink RX4 56 "BerthPlanModel" "thrown" "I" ∈ wsX4_count := by decide +kernel
theorem lkX4_count_f59 : Cond.fieldLink RX4 59 "BerthPlanModel" "ships" "I" ∈ wsX4_count := by decide +kernel
theorem lkX4_count_f66 : Cond.fieldLink RX4 66 "BerthPlanModel" "isPlan" "Z" ∈ wsX4_count := by decide +kernel
theorem lkX4_count_f81 : Cond.fieldLink RX4 81 "BerthPlanModel" "spans" "I" ∈ wsX4_count := by decide +kernel
theorem inX4_count_X4 : ∀ w ∈ wsX40, w ∈ wsX4_count := by decide +kernel
abbrev rmX4_count : Room := { frames := 1, cells := 0, slots := 0, locals := 21 }
def fX4_count_64 (N : Nat) : Nat → Int32 → Int32 → Int32 → Mem → Option (Int32 × Mem)
  | 0, _, _, _, _ => none
  | n + 1, x1, x2, x3, M =>
    if ((M 16 2) ≤ x3 : Prop) then (if (x1 = 0 : Prop) then (some (M 16 1, M)) else (if (x1 = 1 : Prop) then (some (M 16 2, M)) else (if (x1 = 2 : Prop) then (some (M 16 3, M)) else (if (x1 = 3 : Prop) then (if ((M 16 4) = 0 : Prop) then (some (0, M)) else (some (1, M))) else (if (x1 = 4 : Prop) then (some (x2, M)) else (some ((-1), M))))))) else (gd (x3) 4 (if ((M 27 (x3 : Int32).toNatClampNeg) < 0 : Prop) then (lq (x2 + (0 : Int32)) (fun z5 => lq (x3 + 1) (fun z6 => fX4_count_64 N n x1 z5 z6 M))) else (lq (x2 + (1 : Int32)) (fun z7 => lq (x3 + 1) (fun z8 => fX4_count_64 N n x1 z7 z8 M)))))
theorem fX4_count_64_s {N n : Nat} {x1 : Int32} {x2 : Int32} {x3 : Int32} {M : Mem} : fX4_count_64 N (n + 1) x1 x2 x3 M =
    if ((M 16 2) ≤ x3 : Prop) then (if (x1 = 0 : Prop) then (some (M 16 1, M)) else (if (x1 = 1 : Prop) then (some (M 16 2, M)) else (if (x1 = 2 : Prop) then (some (M 16 3, M)) else (if (x1 = 3 : Prop) then (if ((M 16 4) = 0 : Prop) then (some (0, M)) else (some (1, M))) else (if (x1 = 4 : Prop) then (some (x2, M)) else (some ((-1), M))))))) else (gd (x3) 4 (if ((M 27 (x3 : Int32).toNatClampNeg) < 0 : Prop) then (lq (x2 + (0 : Int32)) (fun z5 => lq (x3 + 1) (fun z6 => fX4_count_64 N n x1 z5 z6 M))) else (lq (x2 + (1 : Int32)) (fun z7 => lq (x3 + 1) (fun z8 => fX4_count_64 N n x1 z7 z8 M))))) := rfl
def fX4_count (N : Nat) (x1 : Int32) (M : Mem) : Option (Int32 × Mem) :=
    lq (mw M 16 0 0) (fun M1 => if (x1 < 10 : Prop) then (fX4_count_64 N N x1 0 0 M1) else (bd (fX4_isPlace N (x1 - x1 / (10 : Int32) * (10 : Int32)) M1) (fun r3 M4 => if (r3 = 0 : Prop) then (some ((-1), M4)) else (if (x1 ≤ 29 : Prop) then (if (20 ≤ x1 : Prop) then (gd (x1 - (20 : Int32)) 6 (some (M4 18 (x1 - (20 : Int32) : Int32).toNatClampNeg, M4))) else (gd (x1 - (10 : Int32)) 6 (some (M4 17 (x1 - (10 : Int32) : Int32).toNatClampNeg, M4)))) else (some ((-1), M4))))))
set_option maxHeartbeats 4000000 in
set_option maxRecDepth 100000 in
theorem wX4_count_64 {p : Program} {l : Launch} {e : Env} {s : State} {m : MethodId} {args : Array Value} {below : List Frame} {meth : Method} {c : Code} {D : va_G} {ad : Nat → Nat} {ca : Nat → ClassId} {B : Nat} {ov : Int64} {r0 : Int32} {M0 : Mem} (G : Mx p s m args meth c cX4_count 4 wsX4_count RX4 (some .int)) (N : Nat) : ∀ (n : Nat), ∀ (x1 : Int32) (x2 : Int32) (x3 : Int32) (M : Mem) (H : Heap) (locs : List Loc) (ls : Array Slot), lv_has ls 4 [(0, .ref (ad 16)), (1, .int x1), (2, .int x2), (3, .int x3)] → Cu D ad ca B M ov s H locs → (fX4_count_64 N n) x1 x2 x3 M = some (r0, M0) → W p l e (rmX4_count) s m args below meth c H locs 0 0 (MQ below (va_Qi (fun (r : Int32) (_ : Unit) => r = r0) (fun _ t => Wp D ad ca B M0 ov t.heap) (Ab B)) args s 0 0 (Ab B)) (F0 m 64 ls []) := by
  obtain ⟨hx, hb, hml, hown, hts, hr, hlk⟩ := id G
  intro n
  induction n with
  | zero =>
    intro x1 x2 x3 M H locs ls hl hC hf
    cases hf
  | succ n ih =>
    intro x1 x2 x3 M H locs ls hl hC hf
    have hf := (fX4_count_64_s).symm.trans hf
    refine lv_iload_n hx hb dX4_count_64 rfl (lv_at hl 3 rfl) ?_
    refine lv_aload_n hx hb dX4_count_65 rfl (lv_at hl 0 rfl) ?_
    refine mg_get (ci := 4) (C := RX4) (T := TX4) (N := 19) (v := .int (M 16 2)) hx hb hts inX4_count_X4 hown hC 16 (by decide) rfl rfl 2 (by decide) (hts _ lkX4_count_f59) rfl rfl dX4_count_66 ?_
    refine lv_icmp_ge (tgt := 95) hx hb dX4_count_69 (by decide) (fun h1 => ?_) (fun h1 => ?_)
    · have hf := it_t h1 hf
      refine lv_iload_n hx hb dX4_count_95 rfl (lv_at hl 1 rfl) ?_
      by_cases hn96_0 : x1 = 0
      · have hf := it_t hn96_0 hf
        refine lv_tableIn (tgt := 132) hx hb dX4_count_96 (by rw [hn96_0]; decide) (by rw [hn96_0]; decide) (by rw [hn96_0]; rfl) (by decide) ?_
        refine lv_aload_n hx hb dX4_count_132 rfl (lv_at hl 0 rfl) ?_
        refine mg_get (ci := 4) (C := RX4) (T := TX4) (N := 19) (v := .int (M 16 1)) hx hb hts inX4_count_X4 hown hC 16 (by decide) rfl rfl 1 (by decide) (hts _ lkX4_count_f52) rfl rfl dX4_count_133 ?_
        exact mr_I hx hb hr hlk hC hf dX4_count_136
      · have hf := it_f hn96_0 hf
        by_cases hn96_1 : x1 = 1
        · have hf := it_t hn96_1 hf
          refine lv_tableIn (tgt := 137) hx hb dX4_count_96 (by rw [hn96_1]; decide) (by rw [hn96_1]; decide) (by rw [hn96_1]; rfl) (by decide) ?_
          refine lv_aload_n hx hb dX4_count_137 rfl (lv_at hl 0 rfl) ?_
          refine mg_get (ci := 4) (C := RX4) (T := TX4) (N := 19) (v := .int (M 16 2)) hx hb hts inX4_count_X4 hown hC 16 (by decide) rfl rfl 2 (by decide) (hts _ lkX4_count_f59) rfl rfl dX4_count_138 ?_
          exact mr_I hx hb hr hlk hC hf dX4_count_141
        · have hf := it_f hn96_1 hf
          by_cases hn96_2 : x1 = 2
          · have hf := it_t hn96_2 hf
            refine lv_tableIn (tgt := 142) hx hb dX4_count_96 (by rw [hn96_2]; decide) (by rw [hn96_2]; decide) (by rw [hn96_2]; rfl) (by decide) ?_
            refine lv_aload_n hx hb dX4_count_142 rfl (lv_at hl 0 rfl) ?_
            refine mg_get (ci := 4) (C := RX4) (T := TX4) (N := 19) (v := .int (M 16 3)) hx hb hts inX4_count_X4 hown hC 16 (by decide) rfl rfl 3 (by decide) (hts _ lkX4_count_f81) rfl rfl dX4_count_143 ?_
            exact mr_I hx hb hr hlk hC hf dX4_count_146
          · have hf := it_f hn96_2 hf
            by_cases hn96_3 : x1 = 3
            · have hf := it_t hn96_3 hf
              refine lv_tableIn (tgt := 147) hx hb dX4_count_96 (by rw [hn96_3]; decide) (by rw [hn96_3]; decide) (by rw [hn96_3]; rfl) (by decide) ?_
              refine lv_aload_n hx hb dX4_count_147 rfl (lv_at hl 0 rfl) ?_
              refine mg_get (ci := 4) (C := RX4) (T := TX4) (N := 19) (v := .int (M 16 4)) hx hb hts inX4_count_X4 hown hC 16 (by decide) rfl rfl 4 (by decide) (hts _ lkX4_count_f66) rfl rfl dX4_count_148 ?_
              refine lv_if_eq (tgt := 158) hx hb dX4_count_151 (by decide) (fun h2 => ?_) (fun h2 => ?_)
              · have hf := it_t h2 hf
                refine lv_iconst (v := 0) hx hb dX4_count_158 (by decide) ?_
                exact mr_I hx hb hr hlk hC hf dX4_count_159
              · have hf := it_f h2 hf
                refine lv_iconst (v := 1) hx hb dX4_count_154 (by decide) ?_
                refine lv_goto (tgt := 159) hx hb dX4_count_155 (by decide) ?_
                exact mr_I hx hb hr hlk hC hf dX4_count_159
            · have hf := it_f hn96_3 hf
              by_cases hn96_4 : x1 = 4
              · have hf := it_t hn96_4 hf
                refine lv_tableIn (tgt := 160) hx hb dX4_count_96 (by rw [hn96_4]; decide) (by rw [hn96_4]; decide) (by rw [hn96_4]; rfl) (by decide) ?_
                refine lv_iload_n hx hb dX4_count_160 rfl (lv_at hl 2 rfl) ?_
                exact mr_I hx hb hr hlk hC hf dX4_count_161
              · have hf := it_f hn96_4 hf
                refine lv_tableOut (tgt := 162) hx hb dX4_count_96 (sw_out5 x1 hn96_0 hn96_1 hn96_2 hn96_3 hn96_4) (by decide) ?_
                refine lv_iconst (v := (-1)) hx hb dX4_count_162 (by decide) ?_
                exact mr_I hx hb hr hlk hC hf dX4_count_163
    · have hf := it_f h1 hf
      refine lv_iload_n hx hb dX4_count_72 rfl (lv_at hl 2 rfl) ?_
      refine lv_aload_n hx hb dX4_count_73 rfl (lv_at hl 0 rfl) ?_
      refine mg_get (ci := 4) (C := RX4) (T := TX4) (N := 19) (v := .ref (ad 27)) hx hb hts inX4_count_X4 hown hC 16 (by decide) rfl rfl 15 (by decide) (hts _ lkX4_count_f40) rfl rfl dX4_count_74 ?_
      refine lv_iload_n hx hb dX4_count_77 rfl (lv_at hl 3 rfl) ?_
      obtain ⟨g3, hf⟩ := gd_s hf
      refine mg_iald (n := 4) (cA := ca 27) hx hb hC 27 19 (by decide) rfl rfl g3 dX4_count_78 ?_
      refine lv_if_lt (tgt := 86) hx hb dX4_count_79 (by decide) (fun h4 => ?_) (fun h4 => ?_)
      · have hf := it_t h4 hf
        refine lv_iconst (v := 0) hx hb dX4_count_86 (by decide) ?_
        refine lv_iadd hx hb dX4_count_87 ?_
        refine lv_topi (fun z5 ez5 => ?_)
        have hf := lq_k ez5 hf
        refine lv_istore_n (lv' := [(2, .int z5), (0, .ref (ad 16)), (1, .int x1), (3, .int x3)]) hx hb dX4_count_88 rfl hl (by decide) rfl (fun ls hl => ?_)
        obtain ⟨z6, ez6⟩ : ∃ y : Int32, y = x3 + 1 := ⟨_, rfl⟩
        have hf := lq_k ez6 hf
        refine lv_iinc (v := z6) (lv' := [(3, .int z6), (2, .int z5), (0, .ref (ad 16)), (1, .int x1)]) hx hb dX4_count_89 hl (k := 3) rfl (by rw [ez6]; rfl) (by decide) rfl (fun ls hl => ?_)
        refine lv_goto (tgt := 64) hx hb dX4_count_92 (by decide) ?_
        exact ih x1 z5 z6 M _ _ _ (lv_sub hl [2, 3, 1, 0] rfl) hC hf
      · have hf := it_f h4 hf
        refine lv_iconst (v := 1) hx hb dX4_count_82 (by decide) ?_
        refine lv_goto (tgt := 87) hx hb dX4_count_83 (by decide) ?_
        refine lv_iadd hx hb dX4_count_87 ?_
        refine lv_topi (fun z7 ez7 => ?_)
        have hf := lq_k ez7 hf
        refine lv_istore_n (lv' := [(2, .int z7), (0, .ref (ad 16)), (1, .int x1), (3, .int x3)]) hx hb dX4_count_88 rfl hl (by decide) rfl (fun ls hl => ?_)
        obtain ⟨z8, ez8⟩ : ∃ y : Int32, y = x3 + 1 := ⟨_, rfl⟩
        have hf := lq_k ez8 hf
        refine lv_iinc (v := z8) (lv' := [(3, .int z8), (2, .int z7), (0, .ref (ad 16)), (1, .int x1)]) hx hb dX4_count_89 hl (k := 3) rfl (by rw [ez8]; rfl) (by decide) rfl (fun ls hl => ?_)
        refine lv_goto (tgt := 64) hx hb dX4_count_92 (by decide) ?_
        exact ih x1 z7 z8 M _ _ _ (lv_sub hl [2, 3, 1, 0] rfl) hC hf
set_option maxHeartbeats 4000000 in
set_option maxRecDepth 100000 in
theorem kX4_count (l : Launch) (D : va_G) (ad : Nat → Nat) (ca : Nat → ClassId) (B : Nat) (ov : Int64) (N : Nat) (x1 : Int32) (M : Mem) (r0 : Int32) (M0 : Mem) (hf : fX4_count N x1 M = some (r0, M0)) : MtI l D ad ca B ov yX4_count wsX4_count (rmX4_count) [.ref (ad 16), .int x1] M r0 M0 := by
  unfold fX4_count at hf
  refine Met.ofW (cc := cX4_count) (maxL := 4) (ret := (some .int)) (by decide) rfl ?_
  intro p e s m args below meth c s₁ Bd hml hv
  obtain ⟨rfl, hw⟩ := hv
  have G : Mx p s m ([.ref (ad 16), .int x1] : List Value).toArray meth c cX4_count 4 wsX4_count RX4 (some .int) := ⟨Bd.exec, Bd.bytes, hml, findClass_of_methodNamed Bd.named, atoms_spec (ws := wsX4_count) Bd.pre, Bd.returns, Bd.notSynchronized⟩
  have hC := Cu.of hw
  have hl := lv_entry ([.ref (ad 16), .int x1]) (n := 4) (Nat.le_of_ble_eq_true rfl)
  rw [lg_entry_eq]
  generalize (lg_sl ([.ref (ad 16), .int x1]) ++ List.replicate (4 - (lg_sl ([.ref (ad 16), .int x1])).length) Slot.unset).toArray = ls at hl ⊢
  have hl : lv_has ls 4 [(0, .ref (ad 16)), (1, .int x1)] := hl
  obtain ⟨hx, hb, hml, hown, hts, hr, hlk⟩ := id G
  show W p l e (rmX4_count) s m _ below meth c s.heap [] 0 0 (MQ below (va_Qi (fun (r : Int32) (_ : Unit) => r = r0) (fun _ t => Wp D ad ca B M0 ov t.heap) (Ab B)) _ s 0 0 (Ab B)) (F0 m 0 ls [])
  refine lv_aload_n hx hb dX4_count_0 rfl (lv_at hl 0 rfl) ?_
  refine lv_iconst (v := 0) hx hb dX4_count_1 (by decide) ?_
  refine mg_put (ci := 4) (C := RX4) (T := TX4) (N := 19) (ty := .int) (v := .int 0) (x := 0) hx hb hts inX4_count_X4 tyX4 tyX4_ok nmX4 hown hC 16 (by decide) rfl rfl 0 (by decide) (hts _ lkX4_count_f56) rfl rfl (by decide +kernel) rfl rfl (Nat.le_of_ble_eq_true rfl) rfl dX4_count_2 (fun H locs hC => ?_)
  obtain ⟨M1, eM1⟩ : ∃ z : Mem, z = mw M 16 0 0 := ⟨_, rfl⟩
  rw [← eM1] at hC
  have hf := lq_k eM1 hf
  refine lv_iload_n hx hb dX4_count_5 rfl (lv_at hl 1 rfl) ?_
  refine lv_bipush (v := 10) hx hb dX4_count_6 (by decide) ?_
  refine lv_icmp_lt (tgt := 60) hx hb dX4_count_8 (by decide) (fun h2 => ?_) (fun h2 => ?_)
  · have hf := it_t h2 hf
    refine lv_iconst (v := 0) hx hb dX4_count_60 (by decide) ?_
    refine lv_istore_n (lv' := [(2, .int 0), (0, .ref (ad 16)), (1, .int x1)]) hx hb dX4_count_61 rfl hl (by decide) rfl (fun ls hl => ?_)
    refine lv_iconst (v := 0) hx hb dX4_count_62 (by decide) ?_
    refine lv_istore_n (lv' := [(3, .int 0), (2, .int 0), (0, .ref (ad 16)), (1, .int x1)]) hx hb dX4_count_63 rfl hl (by decide) rfl (fun ls hl => ?_)
    exact wX4_count_64 G N N x1 0 0 M1 _ _ _ (lv_sub hl [2, 3, 1, 0] rfl) hC hf
  · have hf := it_f h2 hf
    refine lv_aload_n hx hb dX4_count_11 rfl (lv_at hl 0 rfl) ?_
    refine lv_iload_n hx hb dX4_count_12 rfl (lv_at hl 1 rfl) ?_
    refine lv_bipush (v := 10) hx hb dX4_count_13 (by decide) ?_
    refine lv_irem hx hb dX4_count_15 (by decide) ?_
    obtain ⟨r3, M4, hq, hf⟩ := bd_s hf
    refine mc_Vi (As := [.int (x1 - x1 / (10 : Int32) * (10 : Int32))]) ⟨hx, hb, hml, hown, hts⟩ hC (kX4_isPlace l D ad ca B ov N (x1 - x1 / (10 : Int32) * (10 : Int32)) M1 r3 M4 hq) (cwV 1 hts gX4_count_X4_isPlace rfl rfl rfl (by decide +kernel) ⟨Nat.le_of_ble_eq_true rfl, Nat.le_of_ble_eq_true rfl⟩) (mg_recv (ci := 4) (C := RX4) (T := TX4) (N := 19) hC 16 (by decide) rfl rfl) rfl hl.1 rfl (Nat.le_of_ble_eq_true rfl) dX4_count_16 ⟨Nat.zero_le _, Nat.zero_le _⟩ (fun H locs hC => ?_)
    refine lv_if_eq (tgt := 28) hx hb dX4_count_19 (by decide) (fun h5 => ?_) (fun h5 => ?_)
    · have hf := it_t h5 hf
      refine lv_iconst (v := (-1)) hx hb dX4_count_28 (by decide) ?_
      refine lv_goto (tgt := 59) hx hb dX4_count_29 (by decide) ?_
      exact mr_I hx hb hr hlk hC hf dX4_count_59
    · have hf := it_f h5 hf
      refine lv_iload_n hx hb dX4_count_22 rfl (lv_at hl 1 rfl) ?_
      refine lv_bipush (v := 29) hx hb dX4_count_23 (by decide) ?_
      refine lv_icmp_le (tgt := 32) hx hb dX4_count_25 (by decide) (fun h6 => ?_) (fun h6 => ?_)
      · have hf := it_t h6 hf
        refine lv_iload_n hx hb dX4_count_32 rfl (lv_at hl 1 rfl) ?_
        refine lv_bipush (v := 20) hx hb dX4_count_33 (by decide) ?_
        refine lv_icmp_ge (tgt := 50) hx hb dX4_count_35 (by decide) (fun h7 => ?_) (fun h7 => ?_)
        · have hf := it_t h7 hf
          refine lv_aload_n hx hb dX4_count_50 rfl (lv_at hl 0 rfl) ?_
          refine mg_get (ci := 4) (C := RX4) (T := TX4) (N := 19) (v := .ref (ad 18)) hx hb hts inX4_count_X4 hown hC 16 (by decide) rfl rfl 6 (by decide) (hts _ lkX4_count_f13) rfl rfl dX4_count_51 ?_
          refine lv_iload_n hx hb dX4_count_54 rfl (lv_at hl 1 rfl) ?_
          refine lv_bipush (v := 20) hx hb dX4_count_55 (by decide) ?_
          refine lv_isub hx hb dX4_count_57 ?_
          obtain ⟨g8, hf⟩ := gd_s hf
          refine mg_iald (n := 6) (cA := ca 18) hx hb hC 18 10 (by decide) rfl rfl g8 dX4_count_58 ?_
          exact mr_I hx hb hr hlk hC hf dX4_count_59
        · have hf := it_f h7 hf
          refine lv_aload_n hx hb dX4_count_38 rfl (lv_at hl 0 rfl) ?_
          refine mg_get (ci := 4) (C := RX4) (T := TX4) (N := 19) (v := .ref (ad 17)) hx hb hts inX4_count_X4 hown hC 16 (by decide) rfl rfl 5 (by decide) (hts _ lkX4_count_f7) rfl rfl dX4_count_39 ?_
          refine lv_iload_n hx hb dX4_count_42 rfl (lv_at hl 1 rfl) ?_
          refine lv_bipush (v := 10) hx hb dX4_count_43 (by decide) ?_
          refine lv_isub hx hb dX4_count_45 ?_
          obtain ⟨g9, hf⟩ := gd_s hf
          refine mg_iald (n := 6) (cA := ca 17) hx hb hC 17 9 (by decide) rfl rfl g9 dX4_count_46 ?_
          refine lv_goto (tgt := 59) hx hb dX4_count_47 (by decide) ?_
          exact mr_I hx hb hr hlk hC hf dX4_count_59
      · have hf := it_f h6 hf
        refine lv_iconst (v := (-1)) hx hb dX4_count_28 (by decide) ?_
        refine lv_goto (tgt := 59) hx hb dX4_count_29 (by decide) ?_
        exact mr_I hx hb hr hlk hC hf dX4_count_59
