theorem lkX1_everyShip_f61 : Cond.fieldLink RX1 61 "BerthPlan$Search" "shipCount" "I" ∈ wsX1_everyShip := by decide +kernel
theorem inX1_everyShip_X1 : ∀ w ∈ wsX10, w ∈ wsX1_everyShip := by decide +kernel
abbrev rmX1_everyShip : Room := { frames := 0, cells := 0, slots := 0, locals := 0 }
def fX1_everyShip (N : Nat) (M : Mem) : Option (Int32 × Mem) :=
    some (((1 : Int32) <<< ((M 9 6) &&& 31)) - (1 : Int32), M)
set_option maxHeartbeats 4000000 in
set_option maxRecDepth 100000 in
theorem kX1_everyShip (l : Launch) (D : va_G) (ad : Nat → Nat) (ca : Nat → ClassId) (B : Nat) (ov : Int64) (N : Nat) (M : Mem) (r0 : Int32) (M0 : Mem) (hf : fX1_everyShip N M = some (r0, M0)) : MtI l D ad ca B ov yX1_everyShip wsX1_everyShip (rmX1_everyShip) [.ref (ad 9)] M r0 M0 := by
  unfold fX1_everyShip at hf
  refine Met.ofW (cc := cX1_everyShip) (maxL := 1) (ret := (some .int)) (by decide) rfl ?_
  intro p e s m args below meth c s₁ Bd hml hv
  obtain ⟨rfl, hw⟩ := hv
  have G : Mx p s m ([.ref (ad 9)] : List Value).toArray meth c cX1_everyShip 1 wsX1_everyShip RX1 (some .int) := ⟨Bd.exec, Bd.bytes, hml, findClass_of_methodNamed Bd.named, atoms_spec (ws := wsX1_everyShip) Bd.pre, Bd.returns, Bd.notSynchronized⟩
  have hC := Cu.of hw
  have hl := lv_entry ([.ref (ad 9)]) (n := 1) (Nat.le_of_ble_eq_true rfl)
  rw [lg_entry_eq]
  generalize (lg_sl ([.ref (ad 9)]) ++ List.replicate (1 - (lg_sl ([.ref (ad 9)])).length) Slot.unset).toArray = ls at hl ⊢
  have hl : lv_has ls 1 [(0, .ref (ad 9))] := hl
  obtain ⟨hx, hb, hml, hown, hts, hr, hlk⟩ := id G
  show W p l e (rmX1_everyShip) s m _ below meth c s.heap [] 0 0 (MQ below (va_Qi (fun (r : Int32) (_ : Unit) => r = r0) (fun _ t => Wp D ad ca B M0 ov t.heap) (Ab B)) _ s 0 0 (Ab B)) (F0 m 0 ls [])
  refine lv_iconst (v := 1) hx hb dX1_everyShip_0 (by decide) ?_
  refine lv_aload_n hx hb dX1_everyShip_1 rfl (lv_at hl 0 rfl) ?_
  refine mg_get (ci := 1) (C := RX1) (T := TX1) (N := 9) (v := .int (M 9 6)) hx hb hts inX1_everyShip_X1 hown hC 9 (by decide) rfl rfl 6 (by decide) (hts _ lkX1_everyShip_f61) rfl rfl dX1_everyShip_2 ?_
  refine lv_ishl hx hb dX1_everyShip_5 ?_
  refine lv_iconst (v := 1) hx hb dX1_everyShip_6 (by decide) ?_
  refine lv_isub hx hb dX1_everyShip_7 ?_
  exact mr_I hx hb hr hlk hC hf dX1_everyShip_8

theorem lkX1_levelOf_f61 : Cond.fieldLink RX1 61 "BerthPlan$Search" "shipCount" "I" ∈ wsX1_levelOf := by decide +kernel
theorem inX1_levelOf_X1 : ∀ w ∈ wsX10, w ∈ wsX1_levelOf := by decide +kernel
abbrev rmX1_levelOf : Room := { frames := 1, cells := 0, slots := 0, locals := 20 }
def fX1_levelOf (N : Nat) (x1 : Int32) (M : Mem) : Option (Int32 × Mem) :=
    bd (fJ6_bitCount_0f7a4 N x1 M) (fun r1 M2 => some ((M 9 6) - r1, M2))
set_option maxHeartbeats 4000000 in
set_option maxRecDepth 100000 in
theorem kX1_levelOf (l : Launch) (D : va_G) (ad : Nat → Nat) (ca : Nat → ClassId) (B : Nat) (ov : Int64) (N : Nat) (x1 : Int32) (M : Mem) (r0 : Int32) (M0 : Mem) (hf : fX1_levelOf N x1 M = some (r0, M0)) : MtI l D ad ca B ov yX1_levelOf wsX1_levelOf (rmX1_levelOf) [.ref (ad 9), .int x1] M r0 M0 := by
  unfold fX1_levelOf at hf
  refine Met.ofW (cc := cX1_levelOf) (maxL := 2) (ret := (some .int)) (by decide) rfl ?_
  intro p e s m args below meth c s₁ Bd hml hv
  obtain ⟨rfl, hw⟩ := hv
  have G : Mx p s m ([.ref (ad 9), .int x1] : List Value).toArray meth c cX1_levelOf 2 wsX1_levelOf RX1 (some .int) := ⟨Bd.exec, Bd.bytes, hml, findClass_of_methodNamed Bd.named, atoms_spec (ws := wsX1_levelOf) Bd.pre, Bd.returns, Bd.notSynchronized⟩
  have hC := Cu.of hw
  have hl := lv_entry ([.ref (ad 9), .int x1]) (n := 2) (Nat.le_of_ble_eq_true rfl)
  rw [lg_entry_eq]
  generalize (lg_sl ([.ref (ad 9), .int x1]) ++ List.replicate (2 - (lg_sl ([.ref (ad 9), .int x1])).length) Slot.unset).toArray = ls at hl ⊢
  have hl : lv_has ls 2 [(0, .ref (ad 9)), (1, .int x1)] := hl
  obtain ⟨hx, hb, hml, hown, hts, hr, hlk⟩ := id G
  show W p l e (rmX1_levelOf) s m _ below meth c s.heap [] 0 0 (MQ below (va_Qi (fun (r : Int32) (_ : Unit) => r = r0) (fun _ t => Wp D ad ca B M0 ov t.heap) (Ab B)) _ s 0 0 (Ab B)) (F0 m 0 ls [])
  refine lv_aload_n hx hb dX1_levelOf_0 rfl (lv_at hl 0 rfl) ?_
  refine mg_get (ci := 1) (C := RX1) (T := TX1) (N := 9) (v := .int (M 9 6)) hx hb hts inX1_levelOf_X1 hown hC 9 (by decide) rfl rfl 6 (by decide) (hts _ lkX1_levelOf_f61) rfl rfl dX1_levelOf_1 ?_
  refine lv_iload_n hx hb dX1_levelOf_4 rfl (lv_at hl 1 rfl) ?_
  obtain ⟨r1, M2, hq, hf⟩ := bd_s hf
  refine mc_Si (As := [.int x1]) ⟨hx, hb, hml, hown, hts⟩ hC (kJ6_bitCount_0f7a4 l D ad ca B ov N x1 M r1 M2 hq) (va_cwS 1 hts gX1_levelOf_J6_bitCount_0f7a4 rfl rfl rfl (by decide +kernel) ⟨Nat.le_of_ble_eq_true rfl, Nat.le_of_ble_eq_true rfl⟩) rfl hl.1 rfl (Nat.le_of_ble_eq_true rfl) dX1_levelOf_5 ⟨Nat.zero_le _, Nat.zero_le _⟩ (fun H locs hC => ?_)
  refine lv_isub hx hb dX1_levelOf_8 ?_
  exact mr_I hx hb hr hlk hC hf dX1_levelOf_9

theorem lkX1_leastOf_c50 : Cond.constant RX1 50 (1000000) ∈ wsX1_leastOf := by decide +kernel
theorem lkX1_leastOf_f9 : Cond.fieldLink RX1 9 "BerthPlan$Search" "begins" "[I" ∈ wsX1_leastOf := by decide +kernel
theorem lkX1_leastOf_f29 : Cond.fieldLink RX1 29 "BerthPlan$Search" "ships" "[LBerthPlan$Ship;" ∈ wsX1_leastOf := by decide +kernel
theorem lkX1_leastOf_f61 : Cond.fieldLink RX1 61 "BerthPlan$Search" "shipCount" "I" ∈ wsX1_leastOf := by decide +kernel
theorem lkX1_leastOf_f69 : Cond.fieldLink RX1 69 "BerthPlan$Search" "places" "I" ∈ wsX1_leastOf := by decide +kernel
theorem lkX1_leastOf_si86 : Cond.initialized RX3 ∈ wsX1_leastOf := by decide +kernel
theorem lkX1_leastOf_ss86 : Cond.static yX3_hasBit ∈ wsX1_leastOf := by decide +kernel
theorem inX1_leastOf_X1 : ∀ w ∈ wsX10, w ∈ wsX1_leastOf := by decide +kernel
abbrev rmX1_leastOf : Room := { frames := 2, cells := 0, slots := 0, locals := 41 }
def fX1_leastOf_35 (N : Nat) (k11 : Int32 → Int32 → Int32 → Int32 → Mem → Option (Int32 × Mem)) : Nat → Int32 → Int32 → Int32 → Int32 → Int32 → Int32 → Mem → Option (Int32 × Mem)
  | 0, _, _, _, _, _, _, _ => none
  | n + 1, x1, x2, x3, x4, x5, x6, M =>
    if ((M 9 7) ≤ x6 : Prop) then (if (x5 = 0 : Prop) then (some (1000000, M)) else (gp (¬ M 9 5 = 0) (gd (x4) 4 (bd (fX1_firstOf N x5 M) (fun r5 M6 => bd (fX2_latenessIf N (5 + (x4 : Int32).toNatClampNeg) r5 M6) (fun r7 M8 => lq (x3 + r7) (fun z9 => lq (x4 + 1) (fun z10 => k11 x1 x2 z9 z10 M8)))))))) else (bd (fX1_index N x2 x4 x6 M) (fun r11 M12 => gd (r11) 96 (lq (x5 ||| (M12 10 (r11 : Int32).toNatClampNeg)) (fun z14 => lq (x6 + 1) (fun z15 => fX1_leastOf_35 N k11 n x1 x2 x3 x4 z14 z15 M12)))))
theorem fX1_leastOf_35_s {N n : Nat} {k11 : Int32 → Int32 → Int32 → Int32 → Mem → Option (Int32 × Mem)} {x1 : Int32} {x2 : Int32} {x3 : Int32} {x4 : Int32} {x5 : Int32} {x6 : Int32} {M : Mem} : fX1_leastOf_35 N k11 (n + 1) x1 x2 x3 x4 x5 x6 M =
    if ((M 9 7) ≤ x6 : Prop) then (if (x5 = 0 : Prop) then (some (1000000, M)) else (gp (¬ M 9 5 = 0) (gd (x4) 4 (bd (fX1_firstOf N x5 M) (fun r5 M6 => bd (fX2_latenessIf N (5 + (x4 : Int32).toNatClampNeg) r5 M6) (fun r7 M8 => lq (x3 + r7) (fun z9 => lq (x4 + 1) (fun z10 => k11 x1 x2 z9 z10 M8)))))))) else (bd (fX1_index N x2 x4 x6 M) (fun r11 M12 => gd (r11) 96 (lq (x5 ||| (M12 10 (r11 : Int32).toNatClampNeg)) (fun z14 => lq (x6 + 1) (fun z15 => fX1_leastOf_35 N k11 n x1 x2 x3 x4 z14 z15 M12))))) := rfl
def fX1_leastOf_11 (N : Nat) : Nat → Int32 → Int32 → Int32 → Int32 → Mem → Option (Int32 × Mem)
  | 0, _, _, _, _, _ => none
  | n + 1, x1, x2, x3, x4, M =>
    if ((M 9 6) ≤ x4 : Prop) then (some (x3, M)) else (bd (fX3_hasBit N x1 x4 M) (fun r2 M3 => if (r2 = 0 : Prop) then (lq (x4 + 1) (fun z5 => fX1_leastOf_11 N n x1 x2 x3 z5 M3)) else (fX1_leastOf_35 N (fX1_leastOf_11 N n) N x1 x2 x3 x4 0 0 M3)))
theorem fX1_leastOf_11_s {N n : Nat} {x1 : Int32} {x2 : Int32} {x3 : Int32} {x4 : Int32} {M : Mem} : fX1_leastOf_11 N (n + 1) x1 x2 x3 x4 M =
    if ((M 9 6) ≤ x4 : Prop) then (some (x3, M)) else (bd (fX3_hasBit N x1 x4 M) (fun r2 M3 => if (r2 = 0 : Prop) then (lq (x4 + 1) (fun z5 => fX1_leastOf_11 N n x1 x2 x3 z5 M3)) else (fX1_leastOf_35 N (fX1_leastOf_11 N n) N x1 x2 x3 x4 0 0 M3))) := rfl
def fX1_leastOf (N : Nat) (x1 : Int32) (M : Mem) : Option (Int32 × Mem) :=
    bd (fX1_levelOf N x1 M) (fun r1 M2 => fX1_leastOf_11 N N x1 r1 0 0 M2)
set_option maxHeartbeats 4000000 in
set_option maxRecDepth 100000 in
theorem wX1_leastOf_35 {p : Program} {l : Launch} {e : Env} {s : State} {m : MethodId} {args : Array Value} {below : List Frame} {meth : Method} {c : Code} {D : va_G} {ad : Nat → Nat} {ca : Nat → ClassId} {B : Nat} {ov : Int64} {r0 : Int32} {M0 : Mem} (G : Mx p s m args meth c cX1_leastOf 7 wsX1_leastOf RX1 (some .int)) (N : Nat) {k11 : Int32 → Int32 → Int32 → Int32 → Mem → Option (Int32 × Mem)}
    (hk11 : ∀ (x1 : Int32) (x2 : Int32) (x3 : Int32) (x4 : Int32) (M : Mem) (H : Heap) (locs : List Loc) (ls : Array Slot), lv_has ls 7 [(0, .ref (ad 9)), (1, .int x1), (2, .int x2), (3, .int x3), (4, .int x4)] → Cu D ad ca B M ov s H locs → k11 x1 x2 x3 x4 M = some (r0, M0) → W p l e (rmX1_leastOf) s m args below meth c H locs 0 0 (MQ below (va_Qi (fun (r : Int32) (_ : Unit) => r = r0) (fun _ t => Wp D ad ca B M0 ov t.heap) (Ab B)) args s 0 0 (Ab B)) (F0 m 11 ls [])) : ∀ (n : Nat), ∀ (x1 : Int32) (x2 : Int32) (x3 : Int32) (x4 : Int32) (x5 : Int32) (x6 : Int32) (M : Mem) (H : Heap) (locs : List Loc) (ls : Array Slot), lv_has ls 7 [(0, .ref (ad 9)), (1, .int x1), (2, .int x2), (3, .int x3), (4, .int x4), (5, .int x5), (6, .int x6)] → Cu D ad ca B M ov s H locs → (fX1_leastOf_35 N k11 n) x1 x2 x3 x4 x5 x6 M = some (r0, M0) → W p l e (rmX1_leastOf) s m args below meth c H locs 0 0 (MQ below (va_Qi (fun (r : Int32) (_ : Unit) => r = r0) (fun _ t => Wp D ad ca B M0 ov t.heap) (Ab B)) args s 0 0 (Ab B)) (F0 m 35 ls []) := by
  obtain ⟨hx, hb, hml, hown, hts, hr, hlk⟩ := id G
  intro n
  induction n with
  | zero =>
    intro x1 x2 x3 x4 x5 x6 M H locs ls hl hC hf
    cases hf
  | succ n ih =>
    intro x1 x2 x3 x4 x5 x6 M H locs ls hl hC hf
    have hf := (fX1_leastOf_35_s).symm.trans hf
    refine lv_iload hx hb dX1_leastOf_35 (lv_at hl 6 rfl) ?_
    refine lv_aload_n hx hb dX1_leastOf_37 rfl (lv_at hl 0 rfl) ?_
    refine mg_get (ci := 1) (C := RX1) (T := TX1) (N := 9) (v := .int (M 9 7)) hx hb hts inX1_leastOf_X1 hown hC 9 (by decide) rfl rfl 7 (by decide) (hts _ lkX1_leastOf_f69) rfl rfl dX1_leastOf_38 ?_
    refine lv_icmp_ge (tgt := 68) hx hb dX1_leastOf_41 (by decide) (fun h1 => ?_) (fun h1 => ?_)
    · have hf := it_t h1 hf
      refine lv_iload hx hb dX1_leastOf_68 (lv_at hl 5 rfl) ?_
      refine lv_if_ne (tgt := 76) hx hb dX1_leastOf_70 (by decide) (fun h2 => ?_) (fun h2 => ?_)
      · have hf := it_f h2 hf
        refine lv_iload_n hx hb dX1_leastOf_76 rfl (lv_at hl 3 rfl) ?_
        refine lv_aload_n hx hb dX1_leastOf_77 rfl (lv_at hl 0 rfl) ?_
        obtain ⟨g3, hf⟩ := gp_s hf
        refine mg_get (ci := 1) (C := RX1) (T := TX1) (N := 9) (v := .ref (ad 4)) hx hb hts inX1_leastOf_X1 hown hC 9 (by decide) rfl rfl 5 (by decide) (hts _ lkX1_leastOf_f29) rfl (by show some (Value.ref (ad (if M 9 5 = 0 then 15 else 4))) = _; rw [if_neg g3]) dX1_leastOf_78 ?_
        refine lv_iload hx hb dX1_leastOf_81 (lv_at hl 4 rfl) ?_
        obtain ⟨g4, hf⟩ := gd_s hf
        refine mg_aald hx hb hC g4 dX1_leastOf_83 ?_
        refine lv_iload hx hb dX1_leastOf_84 (lv_at hl 5 rfl) ?_
        obtain ⟨r5, M6, hq, hf⟩ := bd_s hf
        refine mc_Si (As := [.int x5]) ⟨hx, hb, hml, hown, hts⟩ hC (kX1_firstOf l D ad ca B ov N x5 M r5 M6 hq) (va_cwS 1 hts gX1_leastOf_X1_firstOf rfl rfl rfl (by decide +kernel) ⟨Nat.le_of_ble_eq_true rfl, Nat.le_of_ble_eq_true rfl⟩) rfl hl.1 rfl (Nat.le_of_ble_eq_true rfl) dX1_leastOf_86 ⟨Nat.zero_le _, Nat.zero_le _⟩ (fun H locs hC => ?_)
        obtain ⟨r7, M8, hq, hf⟩ := bd_s hf
        refine mc_Vi (As := [.int r5]) ⟨hx, hb, hml, hown, hts⟩ hC (kX2_latenessIf l D ad ca B ov N (5 + (x4 : Int32).toNatClampNeg) r5 (sh_in g4) M6 r7 M8 hq) (cwV 1 hts gX1_leastOf_X2_latenessIf rfl rfl rfl (by decide +kernel) ⟨Nat.le_of_ble_eq_true rfl, Nat.le_of_ble_eq_true rfl⟩) (mg_recv (ci := 2) (C := RX2) (T := TX2) (N := 11) hC (5 + (x4 : Int32).toNatClampNeg) (sh_lt (sh_in g4)) (cell_sh (sh_in g4) _) rfl) rfl hl.1 rfl (Nat.le_of_ble_eq_true rfl) dX1_leastOf_89 ⟨Nat.zero_le _, Nat.zero_le _⟩ (fun H locs hC => ?_)
        refine lv_iadd hx hb dX1_leastOf_92 ?_
        refine lv_topi (fun z9 ez9 => ?_)
        have hf := lq_k ez9 hf
        refine lv_istore_n (lv' := [(3, .int z9), (0, .ref (ad 9)), (1, .int x1), (2, .int x2), (4, .int x4), (5, .int x5), (6, .int x6)]) hx hb dX1_leastOf_93 rfl hl (by decide) rfl (fun ls hl => ?_)
        obtain ⟨z10, ez10⟩ : ∃ y : Int32, y = x4 + 1 := ⟨_, rfl⟩
        have hf := lq_k ez10 hf
        refine lv_iinc (v := z10) (lv' := [(4, .int z10), (3, .int z9), (0, .ref (ad 9)), (1, .int x1), (2, .int x2), (5, .int x5), (6, .int x6)]) hx hb dX1_leastOf_94 hl (k := 4) rfl (by rw [ez10]; rfl) (by decide) rfl (fun ls hl => ?_)
        refine lv_goto (tgt := 11) hx hb dX1_leastOf_97 (by decide) ?_
        exact hk11 x1 x2 z9 z10 M8 _ _ _ (lv_sub hl [2, 3, 4, 1, 0] rfl) hC hf
      · have hf := it_t h2 hf
        refine lv_ldc (v := 1000000) hx hb hown (hts _ lkX1_leastOf_c50) dX1_leastOf_73 ?_
        exact mr_I hx hb hr hlk hC hf dX1_leastOf_75
    · have hf := it_f h1 hf
      refine lv_iload hx hb dX1_leastOf_44 (lv_at hl 5 rfl) ?_
      refine lv_aload_n hx hb dX1_leastOf_46 rfl (lv_at hl 0 rfl) ?_
      refine mg_get (ci := 1) (C := RX1) (T := TX1) (N := 9) (v := .ref (ad 10)) hx hb hts inX1_leastOf_X1 hown hC 9 (by decide) rfl rfl 0 (by decide) (hts _ lkX1_leastOf_f9) rfl rfl dX1_leastOf_47 ?_
      refine lv_iload_n hx hb dX1_leastOf_50 rfl (lv_at hl 2 rfl) ?_
      refine lv_iload hx hb dX1_leastOf_51 (lv_at hl 4 rfl) ?_
      refine lv_iload hx hb dX1_leastOf_53 (lv_at hl 6 rfl) ?_
      obtain ⟨r11, M12, hq, hf⟩ := bd_s hf
      refine mc_Si (As := [.int x2, .int x4, .int x6]) ⟨hx, hb, hml, hown, hts⟩ hC (kX1_index l D ad ca B ov N x2 x4 x6 M r11 M12 hq) (va_cwS 3 hts gX1_leastOf_X1_index rfl rfl rfl (by decide +kernel) ⟨Nat.le_of_ble_eq_true rfl, Nat.le_of_ble_eq_true rfl⟩) rfl hl.1 rfl (Nat.le_of_ble_eq_true rfl) dX1_leastOf_55 ⟨Nat.zero_le _, Nat.zero_le _⟩ (fun H locs hC => ?_)
      obtain ⟨g13, hf⟩ := gd_s hf
      refine mg_iald (n := 96) (cA := ca 10) hx hb hC 10 3 (by decide) rfl rfl g13 dX1_leastOf_58 ?_
      refine lv_ior hx hb dX1_leastOf_59 ?_
      refine lv_topi (fun z14 ez14 => ?_)
      have hf := lq_k ez14 hf
      refine lv_istore (lv' := [(5, .int z14), (0, .ref (ad 9)), (1, .int x1), (2, .int x2), (3, .int x3), (4, .int x4), (6, .int x6)]) hx hb dX1_leastOf_60 hl (by decide) rfl (fun ls hl => ?_)
      obtain ⟨z15, ez15⟩ : ∃ y : Int32, y = x6 + 1 := ⟨_, rfl⟩
      have hf := lq_k ez15 hf
      refine lv_iinc (v := z15) (lv' := [(6, .int z15), (5, .int z14), (0, .ref (ad 9)), (1, .int x1), (2, .int x2), (3, .int x3), (4, .int x4)]) hx hb dX1_leastOf_62 hl (k := 6) rfl (by rw [ez15]; rfl) (by decide) rfl (fun ls hl => ?_)
      refine lv_goto (tgt := 35) hx hb dX1_leastOf_65 (by decide) ?_
      exact ih x1 x2 x3 x4 z14 z15 M12 _ _ _ (lv_sub hl [2, 3, 4, 5, 6, 1, 0] rfl) hC hf
set_option maxHeartbeats 4000000 in
set_option maxRecDepth 100000 in
theorem wX1_leastOf_11 {p : Program} {l : Launch} {e : Env} {s : State} {m : MethodId} {args : Array Value} {below : List Frame} {meth : Method} {c : Code} {D : va_G} {ad : Nat → Nat} {ca : Nat → ClassId} {B : Nat} {ov : Int64} {r0 : Int32} {M0 : Mem} (G : Mx p s m args meth c cX1_leastOf 7 wsX1_leastOf RX1 (some .int)) (N : Nat) : ∀ (n : Nat), ∀ (x1 : Int32) (x2 : Int32) (x3 : Int32) (x4 : Int32) (M : Mem) (H : Heap) (locs : List Loc) (ls : Array Slot), lv_has ls 7 [(0, .ref (ad 9)), (1, .int x1), (2, .int x2), (3, .int x3), (4, .int x4)] → Cu D ad ca B M ov s H locs → (fX1_leastOf_11 N n) x1 x2 x3 x4 M = some (r0, M0) → W p l e (rmX1_leastOf) s m args below meth c H locs 0 0 (MQ below (va_Qi (fun (r : Int32) (_ : Unit) => r = r0) (fun _ t => Wp D ad ca B M0 ov t.heap) (Ab B)) args s 0 0 (Ab B)) (F0 m 11 ls []) := by
  obtain ⟨hx, hb, hml, hown, hts, hr, hlk⟩ := id G
  intro n
  induction n with
  | zero =>
    intro x1 x2 x3 x4 M H locs ls hl hC hf
    cases hf
  | succ n ih =>
    intro x1 x2 x3 x4 M H locs ls hl hC hf
    have hf := (fX1_leastOf_11_s).symm.trans hf
    refine lv_iload hx hb dX1_leastOf_11 (lv_at hl 4 rfl) ?_
    refine lv_aload_n hx hb dX1_leastOf_13 rfl (lv_at hl 0 rfl) ?_
    refine mg_get (ci := 1) (C := RX1) (T := TX1) (N := 9) (v := .int (M 9 6)) hx hb hts inX1_leastOf_X1 hown hC 9 (by decide) rfl rfl 6 (by decide) (hts _ lkX1_leastOf_f61) rfl rfl dX1_leastOf_14 ?_
    refine lv_icmp_ge (tgt := 100) hx hb dX1_leastOf_17 (by decide) (fun h1 => ?_) (fun h1 => ?_)
    · have hf := it_t h1 hf
      refine lv_iload_n hx hb dX1_leastOf_100 rfl (lv_at hl 3 rfl) ?_
      exact mr_I hx hb hr hlk hC hf dX1_leastOf_101
    · have hf := it_f h1 hf
      refine lv_iload_n hx hb dX1_leastOf_20 rfl (lv_at hl 1 rfl) ?_
      refine lv_iload hx hb dX1_leastOf_21 (lv_at hl 4 rfl) ?_
      obtain ⟨r2, M3, hq, hf⟩ := bd_s hf
      refine mc_Ni (As := [.int x1, .int x4]) ⟨hx, hb, hml, hown, hts⟩ hC (kX3_hasBit l D ad ca B ov N x1 x4 M r2 M3 hq) ⟨va_cnB 2 hts gX1_leastOf_X3_hasBit_n86 rfl rfl rfl hC.2.2.1.2.2.1 (hts _ lkX1_leastOf_si86) (by decide +kernel) ⟨Nat.le_of_ble_eq_true rfl, Nat.le_of_ble_eq_true rfl⟩, hts _ lkX1_leastOf_ss86, trivial⟩ rfl hl.1 rfl (Nat.le_of_ble_eq_true rfl) dX1_leastOf_23 ⟨Nat.zero_le _, Nat.zero_le _⟩ (fun H locs hC => ?_)
      refine lv_if_eq (tgt := 94) hx hb dX1_leastOf_26 (by decide) (fun h4 => ?_) (fun h4 => ?_)
      · have hf := it_t h4 hf
        obtain ⟨z5, ez5⟩ : ∃ y : Int32, y = x4 + 1 := ⟨_, rfl⟩
        have hf := lq_k ez5 hf
        refine lv_iinc (v := z5) (lv' := [(4, .int z5), (0, .ref (ad 9)), (1, .int x1), (2, .int x2), (3, .int x3)]) hx hb dX1_leastOf_94 hl (k := 4) rfl (by rw [ez5]; rfl) (by decide) rfl (fun ls hl => ?_)
        refine lv_goto (tgt := 11) hx hb dX1_leastOf_97 (by decide) ?_
        exact ih x1 x2 x3 z5 M3 _ _ _ (lv_sub hl [1, 2, 3, 4, 0] rfl) hC hf
      · have hf := it_f h4 hf
        refine lv_iconst (v := 0) hx hb dX1_leastOf_29 (by decide) ?_
        refine lv_istore (lv' := [(5, .int 0), (0, .ref (ad 9)), (1, .int x1), (2, .int x2), (3, .int x3), (4, .int x4)]) hx hb dX1_leastOf_30 hl (by decide) rfl (fun ls hl => ?_)
        refine lv_iconst (v := 0) hx hb dX1_leastOf_32 (by decide) ?_
        refine lv_istore (lv' := [(6, .int 0), (5, .int 0), (0, .ref (ad 9)), (1, .int x1), (2, .int x2), (3, .int x3), (4, .int x4)]) hx hb dX1_leastOf_33 hl (by decide) rfl (fun ls hl => ?_)
        exact wX1_leastOf_35 G N ih N x1 x2 x3 x4 0 0 M3 _ _ _ (lv_sub hl [2, 3, 4, 5, 6, 1, 0] rfl) hC hf
set_option maxHeartbeats 4000000 in
set_option maxRecDepth 100000 in
theorem kX1_leastOf (l : Launch) (D : va_G) (ad : Nat → Nat) (ca : Nat → ClassId) (B : Nat) (ov : Int64) (N : Nat) (x1 : Int32) (M : Mem) (r0 : Int32) (M0 : Mem) (hf : fX1_leastOf N x1 M = some (r0, M0)) : MtI l D ad ca B ov yX1_leastOf wsX1_leastOf (rmX1_leastOf) [.ref (ad 9), .int x1] M r0 M0 := by
  unfold fX1_leastOf at hf
  refine Met.ofW (cc := cX1_leastOf) (maxL := 7) (ret := (some .int)) (by decide) rfl ?_
  intro p e s m args below meth c s₁ Bd hml hv
  obtain ⟨rfl, hw⟩ := hv
  have G : Mx p s m ([.ref (ad 9), .int x1] : List Value).toArray meth c cX1_leastOf 7 wsX1_leastOf RX1 (some .int) := ⟨Bd.exec, Bd.bytes, hml, findClass_of_methodNamed Bd.named, atoms_spec (ws := wsX1_leastOf) Bd.pre, Bd.returns, Bd.notSynchronized⟩
  have hC := Cu.of hw
  have hl := lv_entry ([.ref (ad 9), .int x1]) (n := 7) (Nat.le_of_ble_eq_true rfl)
  rw [lg_entry_eq]
  generalize (lg_sl ([.ref (ad 9), .int x1]) ++ List.replicate (7 - (lg_sl ([.ref (ad 9), .int x1])).length) Slot.unset).toArray = ls at hl ⊢
  have hl : lv_has ls 7 [(0, .ref (ad 9)), (1, .int x1)] := hl
  obtain ⟨hx, hb, hml, hown, hts, hr, hlk⟩ := id G
  show W p l e (rmX1_leastOf) s m _ below meth c s.heap [] 0 0 (MQ below (va_Qi (fun (r : Int32) (_ : Unit) => r = r0) (fun _ t => Wp D ad ca B M0 ov t.heap) (Ab B)) _ s 0 0 (Ab B)) (F0 m 0 ls [])
  refine lv_aload_n hx hb dX1_leastOf_0 rfl (lv_at hl 0 rfl) ?_
  refine lv_iload_n hx hb dX1_leastOf_1 rfl (lv_at hl 1 rfl) ?_
  obtain ⟨r1, M2, hq, hf⟩ := bd_s hf
  refine mc_Vi (As := [.int x1]) ⟨hx, hb, hml, hown, hts⟩ hC (kX1_levelOf l D ad ca B ov N x1 M r1 M2 hq) (cwV 1 hts gX1_leastOf_X1_levelOf rfl rfl rfl (by decide +kernel) ⟨Nat.le_of_ble_eq_true rfl, Nat.le_of_ble_eq_true rfl⟩) (mg_recv (ci := 1) (C := RX1) (T := TX1) (N := 9) hC 9 (by decide) rfl rfl) rfl hl.1 rfl (Nat.le_of_ble_eq_true rfl) dX1_leastOf_2 ⟨Nat.zero_le _, Nat.zero_le _⟩ (fun H locs hC => ?_)
  refine lv_istore_n (lv' := [(2, .int r1), (0, .ref (ad 9)), (1, .int x1)]) hx hb dX1_leastOf_5 rfl hl (by decide) rfl (fun ls hl => ?_)
  refine lv_iconst (v := 0) hx hb dX1_leastOf_6 (by decide) ?_
  refine lv_istore_n (lv' := [(3, .int 0), (2, .int r1), (0, .ref (ad 9)), (1, .int x1)]) hx hb dX1_leastOf_7 rfl hl (by decide) rfl (fun ls hl => ?_)
  refine lv_iconst (v := 0) hx hb dX1_leastOf_8 (by decide) ?_
  refine lv_istore (lv' := [(4, .int 0), (3, .int 0), (2, .int r1), (0, .ref (ad 9)), (1, .int x1)]) hx hb dX1_leastOf_9 hl (by decide) rfl (fun ls hl => ?_)
  exact wX1_leastOf_11 G N N x1 r1 0 0 M2 _ _ _ (lv_sub hl [3, 4, 2, 1, 0] rfl) hC hf

theorem lkX1_openAll_f9 : Cond.fieldLink RX1 9 "BerthPlan$Search" "begins" "[I" ∈ wsX1_openAll := by decide +kernel
theorem lkX1_openAll_f29 : Cond.fieldLink RX1 29 "BerthPlan$Search" "ships" "[LBerthPlan$Ship;" ∈ wsX1_openAll := by decide +kernel
theorem lkX1_openAll_f61 : Cond.fieldLink RX1 61 "BerthPlan$Search" "shipCount" "I" ∈ wsX1_openAll := by decide +kernel
theorem lkX1_openAll_f64 : Cond.fieldLink RX1 64 "BerthPlan$Quay" "places" "I" ∈ wsX1_openAll := by decide +kernel
theorem lkX1_openAll_f69 : Cond.fieldLink RX1 69 "BerthPlan$Search" "places" "I" ∈ wsX1_openAll := by decide +kernel
theorem lkX1_openAll_mco55 : Cond.code Lib.Math.min.name Lib.Math.min.code 2 (some .int) ∈ wsX1_openAll := by decide +kernel
theorem lkX1_openAll_min55 : Cond.initialized "java/lang/Math" ∈ wsX1_openAll := by decide +kernel
theorem lkX1_openAll_mml55 : Cond.methodLink RX1 55 Lib.Math.min.name ∈ wsX1_openAll := by decide +kernel
theorem lkX1_openAll_mst55 : Cond.static Lib.Math.min.name ∈ wsX1_openAll := by decide +kernel
theorem inX1_openAll_X0 : ∀ w ∈ wsX00, w ∈ wsX1_openAll := by decide +kernel
theorem inX1_openAll_X1 : ∀ w ∈ wsX10, w ∈ wsX1_openAll := by decide +kernel
abbrev rmX1_openAll : Room := { frames := 3, cells := 0, slots := 0, locals := 70 }
def fX1_openAll_38 (N : Nat) (k26 : Int32 → Mem → Option (Int32 × Mem)) : Nat → Int32 → Int32 → Mem → Option (Int32 × Mem)
  | 0, _, _, _ => none
  | n + 1, x4, x5, M =>
    if ((M 9 7) ≤ x5 : Prop) then (lq (x4 + 1) (fun z2 => k26 z2 M)) else (bd (fX1_index N 0 x4 x5 M) (fun r3 M4 => gp (¬ M4 9 5 = 0) (gd (x4) 4 (bd (fX2_beginsAt N (5 + (x4 : Int32).toNatClampNeg) x5 M4) (fun r7 M8 => gd (r3) 96 (lq (mw M8 10 (r3 : Int32).toNatClampNeg r7) (fun M10 => lq (x5 + 1) (fun z11 => fX1_openAll_38 N k26 n x4 z11 M10))))))))
theorem fX1_openAll_38_s {N n : Nat} {k26 : Int32 → Mem → Option (Int32 × Mem)} {x4 : Int32} {x5 : Int32} {M : Mem} : fX1_openAll_38 N k26 (n + 1) x4 x5 M =
    if ((M 9 7) ≤ x5 : Prop) then (lq (x4 + 1) (fun z2 => k26 z2 M)) else (bd (fX1_index N 0 x4 x5 M) (fun r3 M4 => gp (¬ M4 9 5 = 0) (gd (x4) 4 (bd (fX2_beginsAt N (5 + (x4 : Int32).toNatClampNeg) x5 M4) (fun r7 M8 => gd (r3) 96 (lq (mw M8 10 (r3 : Int32).toNatClampNeg r7) (fun M10 => lq (x5 + 1) (fun z11 => fX1_openAll_38 N k26 n x4 z11 M10)))))))) := rfl
def fX1_openAll_26 (N : Nat) : Nat → Int32 → Mem → Option (Int32 × Mem)
  | 0, _, _ => none
  | n + 1, x4, M =>
    if ((M 9 6) ≤ x4 : Prop) then (some (0, M)) else (fX1_openAll_38 N (fX1_openAll_26 N n) N x4 0 M)
theorem fX1_openAll_26_s {N n : Nat} {x4 : Int32} {M : Mem} : fX1_openAll_26 N (n + 1) x4 M =
    if ((M 9 6) ≤ x4 : Prop) then (some (0, M)) else (fX1_openAll_38 N (fX1_openAll_26 N n) N x4 0 M) := rfl
def fX1_openAll (N : Nat) (x3 : Int32) (M : Mem) : Option (Int32 × Mem) :=
    lq (mw M 9 5 1) (fun M1 => lq (mw M1 9 6 (if (4 : Int32) < x3 then (4 : Int32) else x3)) (fun M2 => lq (mw M2 9 7 (M2 1 0)) (fun M3 => fX1_openAll_26 N N 0 M3)))
set_option maxHeartbeats 4000000 in
set_option maxRecDepth 100000 in
theorem wX1_openAll_38 {p : Program} {l : Launch} {e : Env} {s : State} {m : MethodId} {args : Array Value} {below : List Frame} {meth : Method} {c : Code} {D : va_G} {ad : Nat → Nat} {ca : Nat → ClassId} {B : Nat} {ov : Int64} {r0 : Int32} {M0 : Mem} (G : Mx p s m args meth c cX1_openAll 6 wsX1_openAll RX1 none) (N : Nat) {k26 : Int32 → Mem → Option (Int32 × Mem)}
    (hk26 : ∀ (x4 : Int32) (M : Mem) (H : Heap) (locs : List Loc) (ls : Array Slot), lv_has ls 6 [(0, .ref (ad 9)), (1, .ref (ad 1)), (4, .int x4)] → Cu D ad ca B M ov s H locs → k26 x4 M = some (r0, M0) → W p l e (rmX1_openAll) s m args below meth c H locs 0 0 (MQ below (va_Qv (fun (_ : Unit) => True) (fun _ t => Wp D ad ca B M0 ov t.heap) (Ab B)) args s 0 0 (Ab B)) (F0 m 26 ls [])) : ∀ (n : Nat), ∀ (x4 : Int32) (x5 : Int32) (M : Mem) (H : Heap) (locs : List Loc) (ls : Array Slot), lv_has ls 6 [(0, .ref (ad 9)), (1, .ref (ad 1)), (4, .int x4), (5, .int x5)] → Cu D ad ca B M ov s H locs → (fX1_openAll_38 N k26 n) x4 x5 M = some (r0, M0) → W p l e (rmX1_openAll) s m args below meth c H locs 0 0 (MQ below (va_Qv (fun (_ : Unit) => True) (fun _ t => Wp D ad ca B M0 ov t.heap) (Ab B)) args s 0 0 (Ab B)) (F0 m 38 ls []) := by
  obtain ⟨hx, hb, hml, hown, hts, hr, hlk⟩ := id G
  intro n
  induction n with
  | zero =>
    intro x4 x5 M H locs ls hl hC hf
    cases hf
  | succ n ih =>
    intro x4 x5 M H locs ls hl hC hf
    have hf := (fX1_openAll_38_s).symm.trans hf
    refine lv_iload hx hb dX1_openAll_38 (lv_at hl 3 rfl) ?_
    refine lv_aload_n hx hb dX1_openAll_40 rfl (lv_at hl 0 rfl) ?_
    refine mg_get (ci := 1) (C := RX1) (T := TX1) (N := 9) (v := .int (M 9 7)) hx hb hts inX1_openAll_X1 hown hC 9 (by decide) rfl rfl 7 (by decide) (hts _ lkX1_openAll_f69) rfl rfl dX1_openAll_41 ?_
    refine lv_icmp_ge (tgt := 79) hx hb dX1_openAll_44 (by decide) (fun h1 => ?_) (fun h1 => ?_)
    · have hf := it_t h1 hf
      obtain ⟨z2, ez2⟩ : ∃ y : Int32, y = x4 + 1 := ⟨_, rfl⟩
      have hf := lq_k ez2 hf
      refine lv_iinc (v := z2) (lv' := [(4, .int z2), (0, .ref (ad 9)), (1, .ref (ad 1)), (5, .int x5)]) hx hb dX1_openAll_79 hl (k := 2) rfl (by rw [ez2]; rfl) (by decide) rfl (fun ls hl => ?_)
      refine lv_goto (tgt := 26) hx hb dX1_openAll_82 (by decide) ?_
      exact hk26 z2 M _ _ _ (lv_sub hl [1, 2, 0] rfl) hC hf
    · have hf := it_f h1 hf
      refine lv_aload_n hx hb dX1_openAll_47 rfl (lv_at hl 0 rfl) ?_
      refine mg_get (ci := 1) (C := RX1) (T := TX1) (N := 9) (v := .ref (ad 10)) hx hb hts inX1_openAll_X1 hown hC 9 (by decide) rfl rfl 0 (by decide) (hts _ lkX1_openAll_f9) rfl rfl dX1_openAll_48 ?_
      refine lv_iconst (v := 0) hx hb dX1_openAll_51 (by decide) ?_
      refine lv_iload hx hb dX1_openAll_52 (lv_at hl 2 rfl) ?_
      refine lv_iload hx hb dX1_openAll_54 (lv_at hl 3 rfl) ?_
      obtain ⟨r3, M4, hq, hf⟩ := bd_s hf
      refine mc_Si (As := [.int 0, .int x4, .int x5]) ⟨hx, hb, hml, hown, hts⟩ hC (kX1_index l D ad ca B ov N 0 x4 x5 M r3 M4 hq) (va_cwS 3 hts gX1_openAll_X1_index rfl rfl rfl (by decide +kernel) ⟨Nat.le_of_ble_eq_true rfl, Nat.le_of_ble_eq_true rfl⟩) rfl hl.1 rfl (Nat.le_of_ble_eq_true rfl) dX1_openAll_56 ⟨Nat.zero_le _, Nat.zero_le _⟩ (fun H locs hC => ?_)
      refine lv_aload_n hx hb dX1_openAll_59 rfl (lv_at hl 0 rfl) ?_
      obtain ⟨g5, hf⟩ := gp_s hf
      refine mg_get (ci := 1) (C := RX1) (T := TX1) (N := 9) (v := .ref (ad 4)) hx hb hts inX1_openAll_X1 hown hC 9 (by decide) rfl rfl 5 (by decide) (hts _ lkX1_openAll_f29) rfl (by show some (Value.ref (ad (if M4 9 5 = 0 then 15 else 4))) = _; rw [if_neg g5]) dX1_openAll_60 ?_
      refine lv_iload hx hb dX1_openAll_63 (lv_at hl 2 rfl) ?_
      obtain ⟨g6, hf⟩ := gd_s hf
      refine mg_aald hx hb hC g6 dX1_openAll_65 ?_
      refine lv_iload hx hb dX1_openAll_66 (lv_at hl 3 rfl) ?_
      refine lv_aload_n hx hb dX1_openAll_68 rfl (lv_at hl 1 rfl) ?_
      obtain ⟨r7, M8, hq, hf⟩ := bd_s hf
      refine mc_Vi (As := [.int x5, .ref (ad 1)]) ⟨hx, hb, hml, hown, hts⟩ hC (kX2_beginsAt l D ad ca B ov N (5 + (x4 : Int32).toNatClampNeg) x5 (sh_in g6) M4 r7 M8 hq) (cwV 2 hts gX1_openAll_X2_beginsAt rfl rfl rfl (by decide +kernel) ⟨Nat.le_of_ble_eq_true rfl, Nat.le_of_ble_eq_true rfl⟩) (mg_recv (ci := 2) (C := RX2) (T := TX2) (N := 11) hC (5 + (x4 : Int32).toNatClampNeg) (sh_lt (sh_in g6)) (cell_sh (sh_in g6) _) rfl) rfl hl.1 rfl (Nat.le_of_ble_eq_true rfl) dX1_openAll_69 ⟨Nat.zero_le _, Nat.zero_le _⟩ (fun H locs hC => ?_)
      obtain ⟨g9, hf⟩ := gd_s hf
      refine mg_iast (n := 96) (cA := ca 10) hx hb hC 10 3 (by decide) (fun _ => rfl) rfl g9 dX1_openAll_72 (fun H locs hC => ?_)
      obtain ⟨M10, eM10⟩ : ∃ z : Mem, z = mw M8 10 (r3 : Int32).toNatClampNeg r7 := ⟨_, rfl⟩
      rw [← eM10] at hC
      have hf := lq_k eM10 hf
      obtain ⟨z11, ez11⟩ : ∃ y : Int32, y = x5 + 1 := ⟨_, rfl⟩
      have hf := lq_k ez11 hf
      refine lv_iinc (v := z11) (lv' := [(5, .int z11), (0, .ref (ad 9)), (1, .ref (ad 1)), (4, .int x4)]) hx hb dX1_openAll_73 hl (k := 3) rfl (by rw [ez11]; rfl) (by decide) rfl (fun ls hl => ?_)
      refine lv_goto (tgt := 38) hx hb dX1_openAll_76 (by decide) ?_
      exact ih x4 z11 M10 _ _ _ (lv_sub hl [1, 2, 3, 0] rfl) hC hf
set_option maxHeartbeats 4000000 in
set_option maxRecDepth 100000 in
theorem wX1_openAll_26 {p : Program} {l : Launch} {e : Env} {s : State} {m : MethodId} {args : Array Value} {below : List Frame} {meth : Method} {c : Code} {D : va_G} {ad : Nat → Nat} {ca : Nat → ClassId} {B : Nat} {ov : Int64} {r0 : Int32} {M0 : Mem} (G : Mx p s m args meth c cX1_openAll 6 wsX1_openAll RX1 none) (N : Nat) : ∀ (n : Nat), ∀ (x4 : Int32) (M : Mem) (H : Heap) (locs : List Loc) (ls : Array Slot), lv_has ls 6 [(0, .ref (ad 9)), (1, .ref (ad 1)), (4, .int x4)] → Cu D ad ca B M ov s H locs → (fX1_openAll_26 N n) x4 M = some (r0, M0) → W p l e (rmX1_openAll) s m args below meth c H locs 0 0 (MQ below (va_Qv (fun (_ : Unit) => True) (fun _ t => Wp D ad ca B M0 ov t.heap) (Ab B)) args s 0 0 (Ab B)) (F0 m 26 ls []) := by
  obtain ⟨hx, hb, hml, hown, hts, hr, hlk⟩ := id G
  intro n
  induction n with
  | zero =>
    intro x4 M H locs ls hl hC hf
    cases hf
  | succ n ih =>
    intro x4 M H locs ls hl hC hf
    have hf := (fX1_openAll_26_s).symm.trans hf
    refine lv_iload hx hb dX1_openAll_26 (lv_at hl 2 rfl) ?_
    refine lv_aload_n hx hb dX1_openAll_28 rfl (lv_at hl 0 rfl) ?_
    refine mg_get (ci := 1) (C := RX1) (T := TX1) (N := 9) (v := .int (M 9 6)) hx hb hts inX1_openAll_X1 hown hC 9 (by decide) rfl rfl 6 (by decide) (hts _ lkX1_openAll_f61) rfl rfl dX1_openAll_29 ?_
    refine lv_icmp_ge (tgt := 85) hx hb dX1_openAll_32 (by decide) (fun h1 => ?_) (fun h1 => ?_)
    · have hf := it_t h1 hf
      exact mr_V hx hb hr hlk hC hf dX1_openAll_85
    · have hf := it_f h1 hf
      refine lv_iconst (v := 0) hx hb dX1_openAll_35 (by decide) ?_
      refine lv_istore (lv' := [(5, .int 0), (0, .ref (ad 9)), (1, .ref (ad 1)), (4, .int x4)]) hx hb dX1_openAll_36 hl (by decide) rfl (fun ls hl => ?_)
      exact wX1_openAll_38 G N ih N x4 0 M _ _ _ (lv_sub hl [1, 2, 3, 0] rfl) hC hf
set_option maxHeartbeats 4000000 in
set_option maxRecDepth 100000 in
theorem kX1_openAll (l : Launch) (D : va_G) (ad : Nat → Nat) (ca : Nat → ClassId) (B : Nat) (ov : Int64) (N : Nat) (x3 : Int32) (M : Mem) (r0 : Int32) (M0 : Mem) (hf : fX1_openAll N x3 M = some (r0, M0)) : MtV l D ad ca B ov yX1_openAll wsX1_openAll (rmX1_openAll) [.ref (ad 9), .ref (ad 1), .ref (ad 4), .int x3] M M0 := by
  unfold fX1_openAll at hf
  refine Met.ofW (cc := cX1_openAll) (maxL := 6) (ret := none) (by decide) rfl ?_
  intro p e s m args below meth c s₁ Bd hml hv
  obtain ⟨rfl, hw⟩ := hv
  have G : Mx p s m ([.ref (ad 9), .ref (ad 1), .ref (ad 4), .int x3] : List Value).toArray meth c cX1_openAll 6 wsX1_openAll RX1 none := ⟨Bd.exec, Bd.bytes, hml, findClass_of_methodNamed Bd.named, atoms_spec (ws := wsX1_openAll) Bd.pre, Bd.returns, Bd.notSynchronized⟩
  have hC := Cu.of hw
  have hl := lv_entry ([.ref (ad 9), .ref (ad 1), .ref (ad 4), .int x3]) (n := 6) (Nat.le_of_ble_eq_true rfl)
  rw [lg_entry_eq]
  generalize (lg_sl ([.ref (ad 9), .ref (ad 1), .ref (ad 4), .int x3]) ++ List.replicate (6 - (lg_sl ([.ref (ad 9), .ref (ad 1), .ref (ad 4), .int x3])).length) Slot.unset).toArray = ls at hl ⊢
  have hl : lv_has ls 6 [(0, .ref (ad 9)), (1, .ref (ad 1)), (2, .ref (ad 4)), (3, .int x3)] := hl
  obtain ⟨hx, hb, hml, hown, hts, hr, hlk⟩ := id G
  show W p l e (rmX1_openAll) s m _ below meth c s.heap [] 0 0 (MQ below (va_Qv (fun (_ : Unit) => True) (fun _ t => Wp D ad ca B M0 ov t.heap) (Ab B)) _ s 0 0 (Ab B)) (F0 m 0 ls [])
  refine lv_aload_n hx hb dX1_openAll_0 rfl (lv_at hl 0 rfl) ?_
  refine lv_aload_n hx hb dX1_openAll_1 rfl (lv_at hl 2 rfl) ?_
  refine mg_put (ci := 1) (C := RX1) (T := TX1) (N := 9) (ty := .array (.object "BerthPlan$Ship")) (v := .ref (ad 4)) (x := 1) hx hb hts inX1_openAll_X1 tyX1 tyX1_ok nmX1 hown hC 9 (by decide) rfl rfl 5 (by decide) (hts _ lkX1_openAll_f29) rfl rfl (by decide +kernel) rfl rfl (Nat.le_of_ble_eq_true rfl) rfl dX1_openAll_2 (fun H locs hC => ?_)
  obtain ⟨M1, eM1⟩ : ∃ z : Mem, z = mw M 9 5 1 := ⟨_, rfl⟩
  rw [← eM1] at hC
  have hf := lq_k eM1 hf
  refine lv_aload_n hx hb dX1_openAll_5 rfl (lv_at hl 0 rfl) ?_
  refine lv_iload_n hx hb dX1_openAll_6 rfl (lv_at hl 3 rfl) ?_
  refine lv_aload_n hx hb dX1_openAll_7 rfl (lv_at hl 2 rfl) ?_
  refine mg_alen4 hx hb hC dX1_openAll_8 ?_
  refine va_mmin hx hb (hml.trans hl.1.symm) hown (hts _ lkX1_openAll_mml55) (hts _ lkX1_openAll_mst55) (hts _ lkX1_openAll_min55) (hts _ lkX1_openAll_mco55) (Nat.le_of_ble_eq_true rfl) (Nat.le_of_ble_eq_true rfl) (Nat.zero_le _) (Nat.zero_le _) dX1_openAll_9 ?_
  refine mg_put (ci := 1) (C := RX1) (T := TX1) (N := 9) (ty := .int) (v := .int (if (4 : Int32) < x3 then (4 : Int32) else x3)) (x := (if (4 : Int32) < x3 then (4 : Int32) else x3)) hx hb hts inX1_openAll_X1 tyX1 tyX1_ok nmX1 hown hC 9 (by decide) rfl rfl 6 (by decide) (hts _ lkX1_openAll_f61) rfl rfl (by decide +kernel) rfl rfl (Nat.le_of_ble_eq_true rfl) rfl dX1_openAll_12 (fun H locs hC => ?_)
  obtain ⟨M2, eM2⟩ : ∃ z : Mem, z = mw M1 9 6 (if (4 : Int32) < x3 then (4 : Int32) else x3) := ⟨_, rfl⟩
  rw [← eM2] at hC
  have hf := lq_k eM2 hf
  refine lv_aload_n hx hb dX1_openAll_15 rfl (lv_at hl 0 rfl) ?_
  refine lv_aload_n hx hb dX1_openAll_16 rfl (lv_at hl 1 rfl) ?_
  refine mg_get (ci := 0) (C := RX0) (T := TX0) (N := 5) (v := .int (M2 1 0)) hx hb hts inX1_openAll_X0 hown hC 1 (by decide) rfl rfl 0 (by decide) (hts _ lkX1_openAll_f64) rfl rfl dX1_openAll_17 ?_
  refine mg_put (ci := 1) (C := RX1) (T := TX1) (N := 9) (ty := .int) (v := .int (M2 1 0)) (x := M2 1 0) hx hb hts inX1_openAll_X1 tyX1 tyX1_ok nmX1 hown hC 9 (by decide) rfl rfl 7 (by decide) (hts _ lkX1_openAll_f69) rfl rfl (by decide +kernel) rfl rfl (Nat.le_of_ble_eq_true rfl) rfl dX1_openAll_20 (fun H locs hC => ?_)
  obtain ⟨M3, eM3⟩ : ∃ z : Mem, z = mw M2 9 7 (M2 1 0) := ⟨_, rfl⟩
  rw [← eM3] at hC
  have hf := lq_k eM3 hf
  refine lv_iconst (v := 0) hx hb dX1_openAll_23 (by decide) ?_
  refine lv_istore (lv' := [(4, .int 0), (0, .ref (ad 9)), (1, .ref (ad 1)), (2, .ref (ad 4)), (3, .int x3)]) hx hb dX1_openAll_24 hl (by decide) rfl (fun ls hl => ?_)
  exact wX1_openAll_26 G N N 0 M3 _ _ _ (lv_sub hl [1, 2, 0] rfl) hC hf

theorem lkX1_isTriedAhead_f15 : Cond.fieldLink RX1 15 "BerthPlan$Search" "triedPlaces" "[I" ∈ wsX1_isTriedAhead := by decide +kernel
theorem lkX1_isTriedAhead_f18 : Cond.fieldLink RX1 18 "BerthPlan$Search" "triedHours" "[I" ∈ wsX1_isTriedAhead := by decide +kernel
theorem lkX1_isTriedAhead_f21 : Cond.fieldLink RX1 21 "BerthPlan$Search" "bestPlaces" "[I" ∈ wsX1_isTriedAhead := by decide +kernel
theorem lkX1_isTriedAhead_f24 : Cond.fieldLink RX1 24 "BerthPlan$Search" "bestHours" "[I" ∈ wsX1_isTriedAhead := by decide +kernel
theorem lkX1_isTriedAhead_f61 : Cond.fieldLink RX1 61 "BerthPlan$Search" "shipCount" "I" ∈ wsX1_isTriedAhead := by decide +kernel
theorem inX1_isTriedAhead_X1 : ∀ w ∈ wsX10, w ∈ wsX1_isTriedAhead := by decide +kernel
abbrev rmX1_isTriedAhead : Room := { frames := 0, cells := 0, slots := 0, locals := 0 }
def fX1_isTriedAhead_2 (N : Nat) : Nat → Int32 → Mem → Option (Int32 × Mem)
  | 0, _, _ => none
  | n + 1, x1, M =>
    if ((M 9 6) ≤ x1 : Prop) then (some (0, M)) else (gd (x1) 4 (gd (x1) 4 (if ((M 12 (x1 : Int32).toNatClampNeg) = (M 14 (x1 : Int32).toNatClampNeg) : Prop) then (gd (x1) 4 (gd (x1) 4 (if ((M 11 (x1 : Int32).toNatClampNeg) = (M 13 (x1 : Int32).toNatClampNeg) : Prop) then (lq (x1 + 1) (fun z8 => fX1_isTriedAhead_2 N n z8 M)) else (gd (x1) 4 (gd (x1) 4 (if ((M 13 (x1 : Int32).toNatClampNeg) ≤ (M 11 (x1 : Int32).toNatClampNeg) : Prop) then (some (0, M)) else (some (1, M)))))))) else (gd (x1) 4 (gd (x1) 4 (if ((M 14 (x1 : Int32).toNatClampNeg) ≤ (M 12 (x1 : Int32).toNatClampNeg) : Prop) then (some (0, M)) else (some (1, M))))))))
theorem fX1_isTriedAhead_2_s {N n : Nat} {x1 : Int32} {M : Mem} : fX1_isTriedAhead_2 N (n + 1) x1 M =
    if ((M 9 6) ≤ x1 : Prop) then (some (0, M)) else (gd (x1) 4 (gd (x1) 4 (if ((M 12 (x1 : Int32).toNatClampNeg) = (M 14 (x1 : Int32).toNatClampNeg) : Prop) then (gd (x1) 4 (gd (x1) 4 (if ((M 11 (x1 : Int32).toNatClampNeg) = (M 13 (x1 : Int32).toNatClampNeg) : Prop) then (lq (x1 + 1) (fun z8 => fX1_isTriedAhead_2 N n z8 M)) else (gd (x1) 4 (gd (x1) 4 (if ((M 13 (x1 : Int32).toNatClampNeg) ≤ (M 11 (x1 : Int32).toNatClampNeg) : Prop) then (some (0, M)) else (some (1, M)))))))) else (gd (x1) 4 (gd (x1) 4 (if ((M 14 (x1 : Int32).toNatClampNeg) ≤ (M 12 (x1 : Int32).toNatClampNeg) : Prop) then (some (0, M)) else (some (1, M)))))))) := rfl
def fX1_isTriedAhead (N : Nat) (M : Mem) : Option (Int32 × Mem) :=
    fX1_isTriedAhead_2 N N 0 M
set_option maxHeartbeats 4000000 in
set_option maxRecDepth 100000 in
theorem wX1_isTriedAhead_2 {p : Program} {l : Launch} {e : Env} {s : State} {m : MethodId} {args : Array Value} {below : List Frame} {meth : Method} {c : Code} {D : va_G} {ad : Nat → Nat} {ca : Nat → ClassId} {B : Nat} {ov : Int64} {r0 : Int32} {M0 : Mem} (G : Mx p s m args meth c cX1_isTriedAhead 2 wsX1_isTriedAhead RX1 (some .boolean)) (N : Nat) : ∀ (n : Nat), ∀ (x1 : Int32) (M : Mem) (H : Heap) (locs : List Loc) (ls : Array Slot), lv_has ls 2 [(0, .ref (ad 9)), (1, .int x1)] → Cu D ad ca B M ov s H locs → (fX1_isTriedAhead_2 N n) x1 M = some (r0, M0) → W p l e (rmX1_isTriedAhead) s m args below meth c H locs 0 0 (MQ below (va_Qi (fun (r : Int32) (_ : Unit) => r = r0) (fun _ t => Wp D ad ca B M0 ov t.heap) (Ab B)) args s 0 0 (Ab B)) (F0 m 2 ls []) := by
  obtain ⟨hx, hb, hml, hown, hts, hr, hlk⟩ := id G
  intro n
  induction n with
  | zero =>
    intro x1 M H locs ls hl hC hf
    cases hf
  | succ n ih =>
    intro x1 M H locs ls hl hC hf
    have hf := (fX1_isTriedAhead_2_s).symm.trans hf
    refine lv_iload_n hx hb dX1_isTriedAhead_2 rfl (lv_at hl 1 rfl) ?_
    refine lv_aload_n hx hb dX1_isTriedAhead_3 rfl (lv_at hl 0 rfl) ?_
    refine mg_get (ci := 1) (C := RX1) (T := TX1) (N := 9) (v := .int (M 9 6)) hx hb hts inX1_isTriedAhead_X1 hown hC 9 (by decide) rfl rfl 6 (by decide) (hts _ lkX1_isTriedAhead_f61) rfl rfl dX1_isTriedAhead_4 ?_
    refine lv_icmp_ge (tgt := 88) hx hb dX1_isTriedAhead_7 (by decide) (fun h1 => ?_) (fun h1 => ?_)
    · have hf := it_t h1 hf
      refine lv_iconst (v := 0) hx hb dX1_isTriedAhead_88 (by decide) ?_
      exact mr_Z hx hb hr hlk hC (by decide) hf dX1_isTriedAhead_89
    · have hf := it_f h1 hf
      refine lv_aload_n hx hb dX1_isTriedAhead_10 rfl (lv_at hl 0 rfl) ?_
      refine mg_get (ci := 1) (C := RX1) (T := TX1) (N := 9) (v := .ref (ad 12)) hx hb hts inX1_isTriedAhead_X1 hown hC 9 (by decide) rfl rfl 2 (by decide) (hts _ lkX1_isTriedAhead_f18) rfl rfl dX1_isTriedAhead_11 ?_
      refine lv_iload_n hx hb dX1_isTriedAhead_14 rfl (lv_at hl 1 rfl) ?_
      obtain ⟨g2, hf⟩ := gd_s hf
      refine mg_iald (n := 4) (cA := ca 12) hx hb hC 12 5 (by decide) rfl rfl g2 dX1_isTriedAhead_15 ?_
      refine lv_aload_n hx hb dX1_isTriedAhead_16 rfl (lv_at hl 0 rfl) ?_
      refine mg_get (ci := 1) (C := RX1) (T := TX1) (N := 9) (v := .ref (ad 14)) hx hb hts inX1_isTriedAhead_X1 hown hC 9 (by decide) rfl rfl 4 (by decide) (hts _ lkX1_isTriedAhead_f24) rfl rfl dX1_isTriedAhead_17 ?_
      refine lv_iload_n hx hb dX1_isTriedAhead_20 rfl (lv_at hl 1 rfl) ?_
      obtain ⟨g3, hf⟩ := gd_s hf
      refine mg_iald (n := 4) (cA := ca 14) hx hb hC 14 7 (by decide) rfl rfl g3 dX1_isTriedAhead_21 ?_
      refine lv_icmp_eq (tgt := 46) hx hb dX1_isTriedAhead_22 (by decide) (fun h4 => ?_) (fun h4 => ?_)
      · have hf := it_t h4 hf
        refine lv_aload_n hx hb dX1_isTriedAhead_46 rfl (lv_at hl 0 rfl) ?_
        refine mg_get (ci := 1) (C := RX1) (T := TX1) (N := 9) (v := .ref (ad 11)) hx hb hts inX1_isTriedAhead_X1 hown hC 9 (by decide) rfl rfl 1 (by decide) (hts _ lkX1_isTriedAhead_f15) rfl rfl dX1_isTriedAhead_47 ?_
        refine lv_iload_n hx hb dX1_isTriedAhead_50 rfl (lv_at hl 1 rfl) ?_
        obtain ⟨g5, hf⟩ := gd_s hf
        refine mg_iald (n := 4) (cA := ca 11) hx hb hC 11 4 (by decide) rfl rfl g5 dX1_isTriedAhead_51 ?_
        refine lv_aload_n hx hb dX1_isTriedAhead_52 rfl (lv_at hl 0 rfl) ?_
        refine mg_get (ci := 1) (C := RX1) (T := TX1) (N := 9) (v := .ref (ad 13)) hx hb hts inX1_isTriedAhead_X1 hown hC 9 (by decide) rfl rfl 3 (by decide) (hts _ lkX1_isTriedAhead_f21) rfl rfl dX1_isTriedAhead_53 ?_
        refine lv_iload_n hx hb dX1_isTriedAhead_56 rfl (lv_at hl 1 rfl) ?_
        obtain ⟨g6, hf⟩ := gd_s hf
        refine mg_iald (n := 4) (cA := ca 13) hx hb hC 13 6 (by decide) rfl rfl g6 dX1_isTriedAhead_57 ?_
        refine lv_icmp_eq (tgt := 82) hx hb dX1_isTriedAhead_58 (by decide) (fun h7 => ?_) (fun h7 => ?_)
        · have hf := it_t h7 hf
          obtain ⟨z8, ez8⟩ : ∃ y : Int32, y = x1 + 1 := ⟨_, rfl⟩
          have hf := lq_k ez8 hf
          refine lv_iinc (v := z8) (lv' := [(1, .int z8), (0, .ref (ad 9))]) hx hb dX1_isTriedAhead_82 hl (k := 1) rfl (by rw [ez8]; rfl) (by decide) rfl (fun ls hl => ?_)
          refine lv_goto (tgt := 2) hx hb dX1_isTriedAhead_85 (by decide) ?_
          exact ih z8 M _ _ _ (lv_sub hl [1, 0] rfl) hC hf
        · have hf := it_f h7 hf
          refine lv_aload_n hx hb dX1_isTriedAhead_61 rfl (lv_at hl 0 rfl) ?_
          refine mg_get (ci := 1) (C := RX1) (T := TX1) (N := 9) (v := .ref (ad 11)) hx hb hts inX1_isTriedAhead_X1 hown hC 9 (by decide) rfl rfl 1 (by decide) (hts _ lkX1_isTriedAhead_f15) rfl rfl dX1_isTriedAhead_62 ?_
          refine lv_iload_n hx hb dX1_isTriedAhead_65 rfl (lv_at hl 1 rfl) ?_
          obtain ⟨g9, hf⟩ := gd_s hf
          refine mg_iald (n := 4) (cA := ca 11) hx hb hC 11 4 (by decide) rfl rfl g9 dX1_isTriedAhead_66 ?_
          refine lv_aload_n hx hb dX1_isTriedAhead_67 rfl (lv_at hl 0 rfl) ?_
          refine mg_get (ci := 1) (C := RX1) (T := TX1) (N := 9) (v := .ref (ad 13)) hx hb hts inX1_isTriedAhead_X1 hown hC 9 (by decide) rfl rfl 3 (by decide) (hts _ lkX1_isTriedAhead_f21) rfl rfl dX1_isTriedAhead_68 ?_
          refine lv_iload_n hx hb dX1_isTriedAhead_71 rfl (lv_at hl 1 rfl) ?_
          obtain ⟨g10, hf⟩ := gd_s hf
          refine mg_iald (n := 4) (cA := ca 13) hx hb hC 13 6 (by decide) rfl rfl g10 dX1_isTriedAhead_72 ?_
          refine lv_icmp_ge (tgt := 80) hx hb dX1_isTriedAhead_73 (by decide) (fun h11 => ?_) (fun h11 => ?_)
          · have hf := it_t h11 hf
            refine lv_iconst (v := 0) hx hb dX1_isTriedAhead_80 (by decide) ?_
            exact mr_Z hx hb hr hlk hC (by decide) hf dX1_isTriedAhead_81
          · have hf := it_f h11 hf
            refine lv_iconst (v := 1) hx hb dX1_isTriedAhead_76 (by decide) ?_
            refine lv_goto (tgt := 81) hx hb dX1_isTriedAhead_77 (by decide) ?_
            exact mr_Z hx hb hr hlk hC (by decide) hf dX1_isTriedAhead_81
      · have hf := it_f h4 hf
        refine lv_aload_n hx hb dX1_isTriedAhead_25 rfl (lv_at hl 0 rfl) ?_
        refine mg_get (ci := 1) (C := RX1) (T := TX1) (N := 9) (v := .ref (ad 12)) hx hb hts inX1_isTriedAhead_X1 hown hC 9 (by decide) rfl rfl 2 (by decide) (hts _ lkX1_isTriedAhead_f18) rfl rfl dX1_isTriedAhead_26 ?_
        refine lv_iload_n hx hb dX1_isTriedAhead_29 rfl (lv_at hl 1 rfl) ?_
        obtain ⟨g12, hf⟩ := gd_s hf
        refine mg_iald (n := 4) (cA := ca 12) hx hb hC 12 5 (by decide) rfl rfl g12 dX1_isTriedAhead_30 ?_
        refine lv_aload_n hx hb dX1_isTriedAhead_31 rfl (lv_at hl 0 rfl) ?_
        refine mg_get (ci := 1) (C := RX1) (T := TX1) (N := 9) (v := .ref (ad 14)) hx hb hts inX1_isTriedAhead_X1 hown hC 9 (by decide) rfl rfl 4 (by decide) (hts _ lkX1_isTriedAhead_f24) rfl rfl dX1_isTriedAhead_32 ?_
        refine lv_iload_n hx hb dX1_isTriedAhead_35 rfl (lv_at hl 1 rfl) ?_
        obtain ⟨g13, hf⟩ := gd_s hf
        refine mg_iald (n := 4) (cA := ca 14) hx hb hC 14 7 (by decide) rfl rfl g13 dX1_isTriedAhead_36 ?_
        refine lv_icmp_ge (tgt := 44) hx hb dX1_isTriedAhead_37 (by decide) (fun h14 => ?_) (fun h14 => ?_)
        · have hf := it_t h14 hf
          refine lv_iconst (v := 0) hx hb dX1_isTriedAhead_44 (by decide) ?_
          exact mr_Z hx hb hr hlk hC (by decide) hf dX1_isTriedAhead_45
        · have hf := it_f h14 hf
          refine lv_iconst (v := 1) hx hb dX1_isTriedAhead_40 (by decide) ?_
          refine lv_goto (tgt := 45) hx hb dX1_isTriedAhead_41 (by decide) ?_
          exact mr_Z hx hb hr hlk hC (by decide) hf dX1_isTriedAhead_45
set_option maxHeartbeats 4000000 in
set_option maxRecDepth 100000 in
theorem kX1_isTriedAhead (l : Launch) (D : va_G) (ad : Nat → Nat) (ca : Nat → ClassId) (B : Nat) (ov : Int64) (N : Nat) (M : Mem) (r0 : Int32) (M0 : Mem) (hf : fX1_isTriedAhead N M = some (r0, M0)) : MtI l D ad ca B ov yX1_isTriedAhead wsX1_isTriedAhead (rmX1_isTriedAhead) [.ref (ad 9)] M r0 M0 := by
  unfold fX1_isTriedAhead at hf
  refine Met.ofW (cc := cX1_isTriedAhead) (maxL := 2) (ret := (some .boolean)) (by decide) rfl ?_
  intro p e s m args below meth c s₁ Bd hml hv
  obtain ⟨rfl, hw⟩ := hv
  have G : Mx p s m ([.ref (ad 9)] : List Value).toArray meth c cX1_isTriedAhead 2 wsX1_isTriedAhead RX1 (some .boolean) := ⟨Bd.exec, Bd.bytes, hml, findClass_of_methodNamed Bd.named, atoms_spec (ws := wsX1_isTriedAhead) Bd.pre, Bd.returns, Bd.notSynchronized⟩
  have hC := Cu.of hw
  have hl := lv_entry ([.ref (ad 9)]) (n := 2) (Nat.le_of_ble_eq_true rfl)
  rw [lg_entry_eq]
  generalize (lg_sl ([.ref (ad 9)]) ++ List.replicate (2 - (lg_sl ([.ref (ad 9)])).length) Slot.unset).toArray = ls at hl ⊢
  have hl : lv_has ls 2 [(0, .ref (ad 9))] := hl
  obtain ⟨hx, hb, hml, hown, hts, hr, hlk⟩ := id G
  show W p l e (rmX1_isTriedAhead) s m _ below meth c s.heap [] 0 0 (MQ below (va_Qi (fun (r : Int32) (_ : Unit) => r = r0) (fun _ t => Wp D ad ca B M0 ov t.heap) (Ab B)) _ s 0 0 (Ab B)) (F0 m 0 ls [])
  refine lv_iconst (v := 0) hx hb dX1_isTriedAhead_0 (by decide) ?_
  refine lv_istore_n (lv' := [(1, .int 0), (0, .ref (ad 9))]) hx hb dX1_isTriedAhead_1 rfl hl (by decide) rfl (fun ls hl => ?_)
  exact wX1_isTriedAhead_2 G N N 0 M _ _ _ (lv_sub hl [1, 0] rfl) hC hf

theorem lkX1_keepIfAhead_f15 : Cond.fieldLink RX1 15 "BerthPlan$Search" "triedPlaces" "[I" ∈ wsX1_keepIfAhead := by decide +kernel
theorem lkX1_keepIfAhead_f18 : Cond.fieldLink RX1 18 "BerthPlan$Search" "triedHours" "[I" ∈ wsX1_keepIfAhead := by decide +kernel
theorem lkX1_keepIfAhead_f21 : Cond.fieldLink RX1 21 "BerthPlan$Search" "bestPlaces" "[I" ∈ wsX1_keepIfAhead := by decide +kernel
theorem lkX1_keepIfAhead_f24 : Cond.fieldLink RX1 24 "BerthPlan$Search" "bestHours" "[I" ∈ wsX1_keepIfAhead := by decide +kernel
theorem lkX1_keepIfAhead_f38 : Cond.fieldLink RX1 38 "BerthPlan$Search" "best" "I" ∈ wsX1_keepIfAhead := by decide +kernel
theorem lkX1_keepIfAhead_f61 : Cond.fieldLink RX1 61 "BerthPlan$Search" "shipCount" "I" ∈ wsX1_keepIfAhead := by decide +kernel
theorem inX1_keepIfAhead_X1 : ∀ w ∈ wsX10, w ∈ wsX1_keepIfAhead := by decide +kernel
abbrev rmX1_keepIfAhead : Room := { frames := 1, cells := 0, slots := 0, locals := 21 }
def fX1_keepIfAhead_23 (N : Nat) : Nat → Int32 → Mem → Option (Int32 × Mem)
  | 0, _, _ => none
  | n + 1, x2, M =>
    if ((M 9 6) ≤ x2 : Prop) then (some (0, M)) else (gd (x2) 4 (gd (x2) 4 (lq (mw M 13 (x2 : Int32).toNatClampNeg (M 11 (x2 : Int32).toNatClampNeg)) (fun M4 => gd (x2) 4 (gd (x2) 4 (lq (mw M4 14 (x2 : Int32).toNatClampNeg (M4 12 (x2 : Int32).toNatClampNeg)) (fun M7 => lq (x2 + 1) (fun z8 => fX1_keepIfAhead_23 N n z8 M7))))))))
theorem fX1_keepIfAhead_23_s {N n : Nat} {x2 : Int32} {M : Mem} : fX1_keepIfAhead_23 N (n + 1) x2 M =
    if ((M 9 6) ≤ x2 : Prop) then (some (0, M)) else (gd (x2) 4 (gd (x2) 4 (lq (mw M 13 (x2 : Int32).toNatClampNeg (M 11 (x2 : Int32).toNatClampNeg)) (fun M4 => gd (x2) 4 (gd (x2) 4 (lq (mw M4 14 (x2 : Int32).toNatClampNeg (M4 12 (x2 : Int32).toNatClampNeg)) (fun M7 => lq (x2 + 1) (fun z8 => fX1_keepIfAhead_23 N n z8 M7)))))))) := rfl
def fX1_keepIfAhead (N : Nat) (x1 : Int32) (M : Mem) : Option (Int32 × Mem) :=
    if (x1 < (M 9 8) : Prop) then (lq (mw M 9 8 x1) (fun M2 => fX1_keepIfAhead_23 N N 0 M2)) else (bd (fX1_isTriedAhead N M) (fun r3 M4 => if (r3 = 0 : Prop) then (some (0, M4)) else (lq (mw M4 9 8 x1) (fun M6 => fX1_keepIfAhead_23 N N 0 M6))))
set_option maxHeartbeats 4000000 in
set_option maxRecDepth 100000 in
theorem wX1_keepIfAhead_23 {p : Program} {l : Launch} {e : Env} {s : State} {m : MethodId} {args : Array Value} {below : List Frame} {meth : Method} {c : Code} {D : va_G} {ad : Nat → Nat} {ca : Nat → ClassId} {B : Nat} {ov : Int64} {r0 : Int32} {M0 : Mem} (G : Mx p s m args meth c cX1_keepIfAhead 3 wsX1_keepIfAhead RX1 none) (N : Nat) : ∀ (n : Nat), ∀ (x2 : Int32) (M : Mem) (H : Heap) (locs : List Loc) (ls : Array Slot), lv_has ls 3 [(0, .ref (ad 9)), (2, .int x2)] → Cu D ad ca B M ov s H locs → (fX1_keepIfAhead_23 N n) x2 M = some (r0, M0) → W p l e (rmX1_keepIfAhead) s m args below meth c H locs 0 0 (MQ below (va_Qv (fun (_ : Unit) => True) (fun _ t => Wp D ad ca B M0 ov t.heap) (Ab B)) args s 0 0 (Ab B)) (F0 m 23 ls []) := by
  obtain ⟨hx, hb, hml, hown, hts, hr, hlk⟩ := id G
  intro n
  induction n with
  | zero =>
    intro x2 M H locs ls hl hC hf
    cases hf
  | succ n ih =>
    intro x2 M H locs ls hl hC hf
    have hf := (fX1_keepIfAhead_23_s).symm.trans hf
    refine lv_iload_n hx hb dX1_keepIfAhead_23 rfl (lv_at hl 1 rfl) ?_
    refine lv_aload_n hx hb dX1_keepIfAhead_24 rfl (lv_at hl 0 rfl) ?_
    refine mg_get (ci := 1) (C := RX1) (T := TX1) (N := 9) (v := .int (M 9 6)) hx hb hts inX1_keepIfAhead_X1 hown hC 9 (by decide) rfl rfl 6 (by decide) (hts _ lkX1_keepIfAhead_f61) rfl rfl dX1_keepIfAhead_25 ?_
    refine lv_icmp_ge (tgt := 61) hx hb dX1_keepIfAhead_28 (by decide) (fun h1 => ?_) (fun h1 => ?_)
    · have hf := it_t h1 hf
      exact mr_V hx hb hr hlk hC hf dX1_keepIfAhead_61
    · have hf := it_f h1 hf
      refine lv_aload_n hx hb dX1_keepIfAhead_31 rfl (lv_at hl 0 rfl) ?_
      refine mg_get (ci := 1) (C := RX1) (T := TX1) (N := 9) (v := .ref (ad 13)) hx hb hts inX1_keepIfAhead_X1 hown hC 9 (by decide) rfl rfl 3 (by decide) (hts _ lkX1_keepIfAhead_f21) rfl rfl dX1_keepIfAhead_32 ?_
      refine lv_iload_n hx hb dX1_keepIfAhead_35 rfl (lv_at hl 1 rfl) ?_
      refine lv_aload_n hx hb dX1_keepIfAhead_36 rfl (lv_at hl 0 rfl) ?_
      refine mg_get (ci := 1) (C := RX1) (T := TX1) (N := 9) (v := .ref (ad 11)) hx hb hts inX1_keepIfAhead_X1 hown hC 9 (by decide) rfl rfl 1 (by decide) (hts _ lkX1_keepIfAhead_f15) rfl rfl dX1_keepIfAhead_37 ?_
      refine lv_iload_n hx hb dX1_keepIfAhead_40 rfl (lv_at hl 1 rfl) ?_
      obtain ⟨g2, hf⟩ := gd_s hf
      refine mg_iald (n := 4) (cA := ca 11) hx hb hC 11 4 (by decide) rfl rfl g2 dX1_keepIfAhead_41 ?_
      obtain ⟨g3, hf⟩ := gd_s hf
      refine mg_iast (n := 4) (cA := ca 13) hx hb hC 13 6 (by decide) (fun _ => rfl) rfl g3 dX1_keepIfAhead_42 (fun H locs hC => ?_)
      obtain ⟨M4, eM4⟩ : ∃ z : Mem, z = mw M 13 (x2 : Int32).toNatClampNeg (M 11 (x2 : Int32).toNatClampNeg) := ⟨_, rfl⟩
      rw [← eM4] at hC
      have hf := lq_k eM4 hf
      refine lv_aload_n hx hb dX1_keepIfAhead_43 rfl (lv_at hl 0 rfl) ?_
      refine mg_get (ci := 1) (C := RX1) (T := TX1) (N := 9) (v := .ref (ad 14)) hx hb hts inX1_keepIfAhead_X1 hown hC 9 (by decide) rfl rfl 4 (by decide) (hts _ lkX1_keepIfAhead_f24) rfl rfl dX1_keepIfAhead_44 ?_
      refine lv_iload_n hx hb dX1_keepIfAhead_47 rfl (lv_at hl 1 rfl) ?_
      refine lv_aload_n hx hb dX1_keepIfAhead_48 rfl (lv_at hl 0 rfl) ?_
      refine mg_get (ci := 1) (C := RX1) (T := TX1) (N := 9) (v := .ref (ad 12)) hx hb hts inX1_keepIfAhead_X1 hown hC 9 (by decide) rfl rfl 2 (by decide) (hts _ lkX1_keepIfAhead_f18) rfl rfl dX1_keepIfAhead_49 ?_
      refine lv_iload_n hx hb dX1_keepIfAhead_52 rfl (lv_at hl 1 rfl) ?_
      obtain ⟨g5, hf⟩ := gd_s hf
      refine mg_iald (n := 4) (cA := ca 12) hx hb hC 12 5 (by decide) rfl rfl g5 dX1_keepIfAhead_53 ?_
      obtain ⟨g6, hf⟩ := gd_s hf
      refine mg_iast (n := 4) (cA := ca 14) hx hb hC 14 7 (by decide) (fun _ => rfl) rfl g6 dX1_keepIfAhead_54 (fun H locs hC => ?_)
      obtain ⟨M7, eM7⟩ : ∃ z : Mem, z = mw M4 14 (x2 : Int32).toNatClampNeg (M4 12 (x2 : Int32).toNatClampNeg) := ⟨_, rfl⟩
      rw [← eM7] at hC
      have hf := lq_k eM7 hf
      obtain ⟨z8, ez8⟩ : ∃ y : Int32, y = x2 + 1 := ⟨_, rfl⟩
      have hf := lq_k ez8 hf
      refine lv_iinc (v := z8) (lv' := [(2, .int z8), (0, .ref (ad 9))]) hx hb dX1_keepIfAhead_55 hl (k := 1) rfl (by rw [ez8]; rfl) (by decide) rfl (fun ls hl => ?_)
      refine lv_goto (tgt := 23) hx hb dX1_keepIfAhead_58 (by decide) ?_
      exact ih z8 M7 _ _ _ (lv_sub hl [1, 0] rfl) hC hf
set_option maxHeartbeats 4000000 in
set_option maxRecDepth 100000 in
theorem kX1_keepIfAhead (l : Launch) (D : va_G) (ad : Nat → Nat) (ca : Nat → ClassId) (B : Nat) (ov : Int64) (N : Nat) (x1 : Int32) (M : Mem) (r0 : Int32) (M0 : Mem) (hf : fX1_keepIfAhead N x1 M = some (r0, M0)) : MtV l D ad ca B ov yX1_keepIfAhead wsX1_keepIfAhead (rmX1_keepIfAhead) [.ref (ad 9), .int x1] M M0 := by
  unfold fX1_keepIfAhead at hf
  refine Met.ofW (cc := cX1_keepIfAhead) (maxL := 3) (ret := none) (by decide) rfl ?_
  intro p e s m args below meth c s₁ Bd hml hv
  obtain ⟨rfl, hw⟩ := hv
  have G : Mx p s m ([.ref (ad 9), .int x1] : List Value).toArray meth c cX1_keepIfAhead 3 wsX1_keepIfAhead RX1 none := ⟨Bd.exec, Bd.bytes, hml, findClass_of_methodNamed Bd.named, atoms_spec (ws := wsX1_keepIfAhead) Bd.pre, Bd.returns, Bd.notSynchronized⟩
  have hC := Cu.of hw
  have hl := lv_entry ([.ref (ad 9), .int x1]) (n := 3) (Nat.le_of_ble_eq_true rfl)
  rw [lg_entry_eq]
  generalize (lg_sl ([.ref (ad 9), .int x1]) ++ List.replicate (3 - (lg_sl ([.ref (ad 9), .int x1])).length) Slot.unset).toArray = ls at hl ⊢
  have hl : lv_has ls 3 [(0, .ref (ad 9)), (1, .int x1)] := hl
  obtain ⟨hx, hb, hml, hown, hts, hr, hlk⟩ := id G
  show W p l e (rmX1_keepIfAhead) s m _ below meth c s.heap [] 0 0 (MQ below (va_Qv (fun (_ : Unit) => True) (fun _ t => Wp D ad ca B M0 ov t.heap) (Ab B)) _ s 0 0 (Ab B)) (F0 m 0 ls [])
  refine lv_iload_n hx hb dX1_keepIfAhead_0 rfl (lv_at hl 1 rfl) ?_
  refine lv_aload_n hx hb dX1_keepIfAhead_1 rfl (lv_at hl 0 rfl) ?_
  refine mg_get (ci := 1) (C := RX1) (T := TX1) (N := 9) (v := .int (M 9 8)) hx hb hts inX1_keepIfAhead_X1 hown hC 9 (by decide) rfl rfl 8 (by decide) (hts _ lkX1_keepIfAhead_f38) rfl rfl dX1_keepIfAhead_2 ?_
  refine lv_icmp_lt (tgt := 16) hx hb dX1_keepIfAhead_5 (by decide) (fun h1 => ?_) (fun h1 => ?_)
  · have hf := it_t h1 hf
    refine lv_aload_n hx hb dX1_keepIfAhead_16 rfl (lv_at hl 0 rfl) ?_
    refine lv_iload_n hx hb dX1_keepIfAhead_17 rfl (lv_at hl 1 rfl) ?_
    refine mg_put (ci := 1) (C := RX1) (T := TX1) (N := 9) (ty := .int) (v := .int x1) (x := x1) hx hb hts inX1_keepIfAhead_X1 tyX1 tyX1_ok nmX1 hown hC 9 (by decide) rfl rfl 8 (by decide) (hts _ lkX1_keepIfAhead_f38) rfl rfl (by decide +kernel) rfl rfl (Nat.le_of_ble_eq_true rfl) rfl dX1_keepIfAhead_18 (fun H locs hC => ?_)
    obtain ⟨M2, eM2⟩ : ∃ z : Mem, z = mw M 9 8 x1 := ⟨_, rfl⟩
    rw [← eM2] at hC
    have hf := lq_k eM2 hf
    refine lv_iconst (v := 0) hx hb dX1_keepIfAhead_21 (by decide) ?_
    refine lv_istore_n (lv' := [(2, .int 0), (0, .ref (ad 9)), (1, .int x1)]) hx hb dX1_keepIfAhead_22 rfl hl (by decide) rfl (fun ls hl => ?_)
    exact wX1_keepIfAhead_23 G N N 0 M2 _ _ _ (lv_sub hl [1, 0] rfl) hC hf
  · have hf := it_f h1 hf
    refine lv_aload_n hx hb dX1_keepIfAhead_8 rfl (lv_at hl 0 rfl) ?_
    obtain ⟨r3, M4, hq, hf⟩ := bd_s hf
    refine mc_Vi (As := []) ⟨hx, hb, hml, hown, hts⟩ hC (kX1_isTriedAhead l D ad ca B ov N M r3 M4 hq) (cwV 0 hts gX1_keepIfAhead_X1_isTriedAhead rfl rfl rfl (by decide +kernel) ⟨Nat.le_of_ble_eq_true rfl, Nat.le_of_ble_eq_true rfl⟩) (mg_recv (ci := 1) (C := RX1) (T := TX1) (N := 9) hC 9 (by decide) rfl rfl) rfl hl.1 rfl (Nat.le_of_ble_eq_true rfl) dX1_keepIfAhead_9 ⟨Nat.zero_le _, Nat.zero_le _⟩ (fun H locs hC => ?_)
    refine lv_if_ne (tgt := 16) hx hb dX1_keepIfAhead_12 (by decide) (fun h5 => ?_) (fun h5 => ?_)
    · have hf := it_f h5 hf
      refine lv_aload_n hx hb dX1_keepIfAhead_16 rfl (lv_at hl 0 rfl) ?_
      refine lv_iload_n hx hb dX1_keepIfAhead_17 rfl (lv_at hl 1 rfl) ?_
      refine mg_put (ci := 1) (C := RX1) (T := TX1) (N := 9) (ty := .int) (v := .int x1) (x := x1) hx hb hts inX1_keepIfAhead_X1 tyX1 tyX1_ok nmX1 hown hC 9 (by decide) rfl rfl 8 (by decide) (hts _ lkX1_keepIfAhead_f38) rfl rfl (by decide +kernel) rfl rfl (Nat.le_of_ble_eq_true rfl) rfl dX1_keepIfAhead_18 (fun H locs hC => ?_)
      obtain ⟨M6, eM6⟩ : ∃ z : Mem, z = mw M4 9 8 x1 := ⟨_, rfl⟩
      rw [← eM6] at hC
      have hf := lq_k eM6 hf
      refine lv_iconst (v := 0) hx hb dX1_keepIfAhead_21 (by decide) ?_
      refine lv_istore_n (lv' := [(2, .int 0), (0, .ref (ad 9)), (1, .int x1)]) hx hb dX1_keepIfAhead_22 rfl hl (by decide) rfl (fun ls hl => ?_)
      exact wX1_keepIfAhead_23 G N N 0 M6 _ _ _ (lv_sub hl [1, 0] rfl) hC hf
    · have hf := it_t h5 hf
      exact mr_V hx hb hr hlk hC hf dX1_keepIfAhead_15
