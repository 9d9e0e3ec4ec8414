theorem lkX3_isShip_f52 : Cond.fieldLink RX3 52 "BerthPlan" "shipCount" "I" ∈ wsX3_isShip := by decide +kernel
theorem inX3_isShip_X3 : ∀ w ∈ wsX30, w ∈ wsX3_isShip := by decide +kernel
abbrev rmX3_isShip : Room := { frames := 0, cells := 0, slots := 0, locals := 0 }
def fX3_isShip (N : Nat) (x1 : Int32) (M : Mem) : Option (Int32 × Mem) :=
    if (x1 < 0 : Prop) then (some (0, M)) else (if ((M 0 3) ≤ x1 : Prop) then (some (0, M)) else (some (1, M)))
set_option maxHeartbeats 4000000 in
set_option maxRecDepth 100000 in
theorem kX3_isShip (l : Launch) (D : va_G) (ad : Nat → Nat) (ca : Nat → ClassId) (B : Nat) (ov : Int64) (N : Nat) (x1 : Int32) (M : Mem) (r0 : Int32) (M0 : Mem) (hf : fX3_isShip N x1 M = some (r0, M0)) : MtI l D ad ca B ov yX3_isShip wsX3_isShip (rmX3_isShip) [.ref (ad 0), .int x1] M r0 M0 := by
  unfold fX3_isShip at hf
  refine Met.ofW (cc := cX3_isShip) (maxL := 2) (ret := (some .boolean)) (by decide) rfl ?_
  intro p e s m args below meth c s₁ Bd hml hv
  obtain ⟨rfl, hw⟩ := hv
  have G : Mx p s m ([.ref (ad 0), .int x1] : List Value).toArray meth c cX3_isShip 2 wsX3_isShip RX3 (some .boolean) := ⟨Bd.exec, Bd.bytes, hml, findClass_of_methodNamed Bd.named, atoms_spec (ws := wsX3_isShip) Bd.pre, Bd.returns, Bd.notSynchronized⟩
  have hC := Cu.of hw
  have hl := lv_entry ([.ref (ad 0), .int x1]) (n := 2) (Nat.le_of_ble_eq_true rfl)
  rw [lg_entry_eq]
  generalize (lg_sl ([.ref (ad 0), .int x1]) ++ List.replicate (2 - (lg_sl ([.ref (ad 0), .int x1])).length) Slot.unset).toArray = ls at hl ⊢
  have hl : lv_has ls 2 [(0, .ref (ad 0)), (1, .int x1)] := hl
  obtain ⟨hx, hb, hml, hown, hts, hr, hlk⟩ := id G
  show W p l e (rmX3_isShip) s m _ below meth c s.heap [] 0 0 (MQ below (va_Qi (fun (r : Int32) (_ : Unit) => r = r0) (fun _ t => Wp D ad ca B M0 ov t.heap) (Ab B)) _ s 0 0 (Ab B)) (F0 m 0 ls [])
  refine lv_iload_n hx hb dX3_isShip_0 rfl (lv_at hl 1 rfl) ?_
  refine lv_if_lt (tgt := 16) hx hb dX3_isShip_1 (by decide) (fun h1 => ?_) (fun h1 => ?_)
  · have hf := it_t h1 hf
    refine lv_iconst (v := 0) hx hb dX3_isShip_16 (by decide) ?_
    exact mr_Z hx hb hr hlk hC (by decide) hf dX3_isShip_17
  · have hf := it_f h1 hf
    refine lv_iload_n hx hb dX3_isShip_4 rfl (lv_at hl 1 rfl) ?_
    refine lv_aload_n hx hb dX3_isShip_5 rfl (lv_at hl 0 rfl) ?_
    refine mg_get (ci := 3) (C := RX3) (T := TX3) (N := 5) (v := .int (M 0 3)) hx hb hts inX3_isShip_X3 hown hC 0 (by decide) rfl rfl 3 (by decide) (hts _ lkX3_isShip_f52) rfl rfl dX3_isShip_6 ?_
    refine lv_icmp_ge (tgt := 16) hx hb dX3_isShip_9 (by decide) (fun h2 => ?_) (fun h2 => ?_)
    · have hf := it_t h2 hf
      refine lv_iconst (v := 0) hx hb dX3_isShip_16 (by decide) ?_
      exact mr_Z hx hb hr hlk hC (by decide) hf dX3_isShip_17
    · have hf := it_f h2 hf
      refine lv_iconst (v := 1) hx hb dX3_isShip_12 (by decide) ?_
      refine lv_goto (tgt := 17) hx hb dX3_isShip_13 (by decide) ?_
      exact mr_Z hx hb hr hlk hC (by decide) hf dX3_isShip_17

theorem lkX3_meetsFixed_f29 : Cond.fieldLink RX3 29 "BerthPlan" "ships" "[LBerthPlan$Ship;" ∈ wsX3_meetsFixed := by decide +kernel
theorem lkX3_meetsFixed_f52 : Cond.fieldLink RX3 52 "BerthPlan" "shipCount" "I" ∈ wsX3_meetsFixed := by decide +kernel
theorem lkX3_meetsFixed_f61 : Cond.fieldLink RX3 61 "BerthPlan$Ship" "length" "I" ∈ wsX3_meetsFixed := by decide +kernel
theorem lkX3_meetsFixed_f67 : Cond.fieldLink RX3 67 "BerthPlan$Ship" "time" "I" ∈ wsX3_meetsFixed := by decide +kernel
theorem lkX3_meetsFixed_f119 : Cond.fieldLink RX3 119 "BerthPlan$Ship" "isFixed" "Z" ∈ wsX3_meetsFixed := by decide +kernel
theorem lkX3_meetsFixed_f122 : Cond.fieldLink RX3 122 "BerthPlan$Ship" "fixedPlace" "I" ∈ wsX3_meetsFixed := by decide +kernel
theorem lkX3_meetsFixed_f125 : Cond.fieldLink RX3 125 "BerthPlan$Ship" "fixedHour" "I" ∈ wsX3_meetsFixed := by decide +kernel
theorem inX3_meetsFixed_X2 : ∀ w ∈ wsX20, w ∈ wsX3_meetsFixed := by decide +kernel
theorem inX3_meetsFixed_X3 : ∀ w ∈ wsX30, w ∈ wsX3_meetsFixed := by decide +kernel
abbrev rmX3_meetsFixed : Room := { frames := 1, cells := 0, slots := 0, locals := 23 }
def fX3_meetsFixed_11 (N : Nat) : Nat → Int32 → Int32 → Int32 → Nat → Int32 → Mem → Option (Int32 × Mem)
  | 0, _, _, _, _, _, _ => none
  | n + 1, x1, x2, x3, c4, x5, M =>
    if ((M 0 3) ≤ x5 : Prop) then (some (0, M)) else (gd (x5) 4 (if (x5 = x1 : Prop) then (lq (x5 + 1) (fun z4 => fX3_meetsFixed_11 N n x1 x2 x3 c4 z4 M)) else (if ((M (5 + (x5 : Int32).toNatClampNeg) 6) = 0 : Prop) then (lq (x5 + 1) (fun z6 => fX3_meetsFixed_11 N n x1 x2 x3 c4 z6 M)) else (bd (fX3_spansMeet N x2 (M c4 0) (M (5 + (x5 : Int32).toNatClampNeg) 7) (M (5 + (x5 : Int32).toNatClampNeg) 0) M) (fun r7 M8 => if (r7 = 0 : Prop) then (lq (x5 + 1) (fun z10 => fX3_meetsFixed_11 N n x1 x2 x3 c4 z10 M8)) else (bd (fX3_spansMeet N x3 (M8 c4 2) (M8 (5 + (x5 : Int32).toNatClampNeg) 8) (M8 (5 + (x5 : Int32).toNatClampNeg) 2) M8) (fun r11 M12 => if (r11 = 0 : Prop) then (lq (x5 + 1) (fun z14 => fX3_meetsFixed_11 N n x1 x2 x3 c4 z14 M12)) else (some (1, M12)))))))))
theorem fX3_meetsFixed_11_s {N n : Nat} {x1 : Int32} {x2 : Int32} {x3 : Int32} {c4 : Nat} {x5 : Int32} {M : Mem} : fX3_meetsFixed_11 N (n + 1) x1 x2 x3 c4 x5 M =
    if ((M 0 3) ≤ x5 : Prop) then (some (0, M)) else (gd (x5) 4 (if (x5 = x1 : Prop) then (lq (x5 + 1) (fun z4 => fX3_meetsFixed_11 N n x1 x2 x3 c4 z4 M)) else (if ((M (5 + (x5 : Int32).toNatClampNeg) 6) = 0 : Prop) then (lq (x5 + 1) (fun z6 => fX3_meetsFixed_11 N n x1 x2 x3 c4 z6 M)) else (bd (fX3_spansMeet N x2 (M c4 0) (M (5 + (x5 : Int32).toNatClampNeg) 7) (M (5 + (x5 : Int32).toNatClampNeg) 0) M) (fun r7 M8 => if (r7 = 0 : Prop) then (lq (x5 + 1) (fun z10 => fX3_meetsFixed_11 N n x1 x2 x3 c4 z10 M8)) else (bd (fX3_spansMeet N x3 (M8 c4 2) (M8 (5 + (x5 : Int32).toNatClampNeg) 8) (M8 (5 + (x5 : Int32).toNatClampNeg) 2) M8) (fun r11 M12 => if (r11 = 0 : Prop) then (lq (x5 + 1) (fun z14 => fX3_meetsFixed_11 N n x1 x2 x3 c4 z14 M12)) else (some (1, M12))))))))) := rfl
def fX3_meetsFixed (N : Nat) (x1 : Int32) (x2 : Int32) (x3 : Int32) (M : Mem) : Option (Int32 × Mem) :=
    gd (x1) 4 (fX3_meetsFixed_11 N N x1 x2 x3 (5 + (x1 : Int32).toNatClampNeg) 0 M)
set_option maxHeartbeats 4000000 in
set_option maxRecDepth 100000 in
theorem wX3_meetsFixed_11 {p : Program} {l : Launch} {e : Env} {s : State} {m : MethodId} {args : Array Value} {below : List Frame} {meth : Method} {c : Code} {D : va_G} {ad : Nat → Nat} {ca : Nat → ClassId} {B : Nat} {ov : Int64} {r0 : Int32} {M0 : Mem} (G : Mx p s m args meth c cX3_meetsFixed 7 wsX3_meetsFixed RX3 (some .boolean)) (N : Nat) : ∀ (n : Nat), ∀ (x1 : Int32) (x2 : Int32) (x3 : Int32) (c4 : Nat) (x5 : Int32) (M : Mem) (H : Heap) (locs : List Loc) (ls : Array Slot), sh c4 → lv_has ls 7 [(0, .ref (ad 0)), (1, .int x1), (2, .int x2), (3, .int x3), (4, .ref (ad c4)), (5, .int x5)] → Cu D ad ca B M ov s H locs → (fX3_meetsFixed_11 N n) x1 x2 x3 c4 x5 M = some (r0, M0) → W p l e (rmX3_meetsFixed) s m args below meth c H locs 0 0 (MQ below (va_Qi (fun (r : Int32) (_ : Unit) => r = r0) (fun _ t => Wp D ad ca B M0 ov t.heap) (Ab B)) args s 0 0 (Ab B)) (F0 m 11 ls []) := by
  obtain ⟨hx, hb, hml, hown, hts, hr, hlk⟩ := id G
  intro n
  induction n with
  | zero =>
    intro x1 x2 x3 c4 x5 M H locs ls hs_c4 hl hC hf
    cases hf
  | succ n ih =>
    intro x1 x2 x3 c4 x5 M H locs ls hs_c4 hl hC hf
    have hf := (fX3_meetsFixed_11_s).symm.trans hf
    refine lv_iload hx hb dX3_meetsFixed_11 (lv_at hl 5 rfl) ?_
    refine lv_aload_n hx hb dX3_meetsFixed_13 rfl (lv_at hl 0 rfl) ?_
    refine mg_get (ci := 3) (C := RX3) (T := TX3) (N := 5) (v := .int (M 0 3)) hx hb hts inX3_meetsFixed_X3 hown hC 0 (by decide) rfl rfl 3 (by decide) (hts _ lkX3_meetsFixed_f52) rfl rfl dX3_meetsFixed_14 ?_
    refine lv_icmp_ge (tgt := 95) hx hb dX3_meetsFixed_17 (by decide) (fun h1 => ?_) (fun h1 => ?_)
    · have hf := it_t h1 hf
      refine lv_iconst (v := 0) hx hb dX3_meetsFixed_95 (by decide) ?_
      exact mr_Z hx hb hr hlk hC (by decide) hf dX3_meetsFixed_96
    · have hf := it_f h1 hf
      refine lv_aload_n hx hb dX3_meetsFixed_20 rfl (lv_at hl 0 rfl) ?_
      refine mg_get (ci := 3) (C := RX3) (T := TX3) (N := 5) (v := .ref (ad 4)) hx hb hts inX3_meetsFixed_X3 hown hC 0 (by decide) rfl rfl 1 (by decide) (hts _ lkX3_meetsFixed_f29) rfl rfl dX3_meetsFixed_21 ?_
      refine lv_iload hx hb dX3_meetsFixed_24 (lv_at hl 5 rfl) ?_
      obtain ⟨g2, hf⟩ := gd_s hf
      refine mg_aald hx hb hC g2 dX3_meetsFixed_26 ?_
      refine lv_astore (lv' := [(6, .ref (ad (5 + (x5 : Int32).toNatClampNeg))), (0, .ref (ad 0)), (1, .int x1), (2, .int x2), (3, .int x3), (4, .ref (ad c4)), (5, .int x5)]) hx hb dX3_meetsFixed_27 hl (by decide) rfl (fun ls hl => ?_)
      refine lv_iload hx hb dX3_meetsFixed_29 (lv_at hl 6 rfl) ?_
      refine lv_iload_n hx hb dX3_meetsFixed_31 rfl (lv_at hl 2 rfl) ?_
      refine lv_icmp_eq (tgt := 89) hx hb dX3_meetsFixed_32 (by decide) (fun h3 => ?_) (fun h3 => ?_)
      · have hf := it_t h3 hf
        obtain ⟨z4, ez4⟩ : ∃ y : Int32, y = x5 + 1 := ⟨_, rfl⟩
        have hf := lq_k ez4 hf
        refine lv_iinc (v := z4) (lv' := [(5, .int z4), (6, .ref (ad (5 + (x5 : Int32).toNatClampNeg))), (0, .ref (ad 0)), (1, .int x1), (2, .int x2), (3, .int x3), (4, .ref (ad c4))]) hx hb dX3_meetsFixed_89 hl (k := 6) rfl (by rw [ez4]; rfl) (by decide) rfl (fun ls hl => ?_)
        refine lv_goto (tgt := 11) hx hb dX3_meetsFixed_92 (by decide) ?_
        exact ih x1 x2 x3 c4 z4 M _ _ _ hs_c4 (lv_sub hl [2, 3, 4, 5, 6, 0] rfl) hC hf
      · have hf := it_f h3 hf
        refine lv_aload hx hb dX3_meetsFixed_35 (lv_at hl 0 rfl) ?_
        refine mg_get (ci := 2) (C := RX2) (T := TX2) (N := 11) (v := .int (M (5 + (x5 : Int32).toNatClampNeg) 6)) hx hb hts inX3_meetsFixed_X2 hown hC (5 + (x5 : Int32).toNatClampNeg) (sh_lt (sh_in g2)) (cell_sh (sh_in g2) _) rfl 6 (by decide) (hts _ lkX3_meetsFixed_f119) rfl rfl dX3_meetsFixed_37 ?_
        refine lv_if_eq (tgt := 89) hx hb dX3_meetsFixed_40 (by decide) (fun h5 => ?_) (fun h5 => ?_)
        · have hf := it_t h5 hf
          obtain ⟨z6, ez6⟩ : ∃ y : Int32, y = x5 + 1 := ⟨_, rfl⟩
          have hf := lq_k ez6 hf
          refine lv_iinc (v := z6) (lv' := [(5, .int z6), (6, .ref (ad (5 + (x5 : Int32).toNatClampNeg))), (0, .ref (ad 0)), (1, .int x1), (2, .int x2), (3, .int x3), (4, .ref (ad c4))]) hx hb dX3_meetsFixed_89 hl (k := 6) rfl (by rw [ez6]; rfl) (by decide) rfl (fun ls hl => ?_)
          refine lv_goto (tgt := 11) hx hb dX3_meetsFixed_92 (by decide) ?_
          exact ih x1 x2 x3 c4 z6 M _ _ _ hs_c4 (lv_sub hl [2, 3, 4, 5, 6, 0] rfl) hC hf
        · have hf := it_f h5 hf
          refine lv_iload_n hx hb dX3_meetsFixed_43 rfl (lv_at hl 3 rfl) ?_
          refine lv_aload hx hb dX3_meetsFixed_44 (lv_at hl 5 rfl) ?_
          refine mg_get (ci := 2) (C := RX2) (T := TX2) (N := 11) (v := .int (M c4 0)) hx hb hts inX3_meetsFixed_X2 hown hC c4 (sh_lt hs_c4) (cell_sh hs_c4 _) rfl 0 (by decide) (hts _ lkX3_meetsFixed_f61) rfl rfl dX3_meetsFixed_46 ?_
          refine lv_aload hx hb dX3_meetsFixed_49 (lv_at hl 0 rfl) ?_
          refine mg_get (ci := 2) (C := RX2) (T := TX2) (N := 11) (v := .int (M (5 + (x5 : Int32).toNatClampNeg) 7)) hx hb hts inX3_meetsFixed_X2 hown hC (5 + (x5 : Int32).toNatClampNeg) (sh_lt (sh_in g2)) (cell_sh (sh_in g2) _) rfl 7 (by decide) (hts _ lkX3_meetsFixed_f122) rfl rfl dX3_meetsFixed_51 ?_
          refine lv_aload hx hb dX3_meetsFixed_54 (lv_at hl 0 rfl) ?_
          refine mg_get (ci := 2) (C := RX2) (T := TX2) (N := 11) (v := .int (M (5 + (x5 : Int32).toNatClampNeg) 0)) hx hb hts inX3_meetsFixed_X2 hown hC (5 + (x5 : Int32).toNatClampNeg) (sh_lt (sh_in g2)) (cell_sh (sh_in g2) _) rfl 0 (by decide) (hts _ lkX3_meetsFixed_f61) rfl rfl dX3_meetsFixed_56 ?_
          obtain ⟨r7, M8, hq, hf⟩ := bd_s hf
          refine mc_Si (As := [.int x2, .int (M c4 0), .int (M (5 + (x5 : Int32).toNatClampNeg) 7), .int (M (5 + (x5 : Int32).toNatClampNeg) 0)]) ⟨hx, hb, hml, hown, hts⟩ hC (kX3_spansMeet l D ad ca B ov N x2 (M c4 0) (M (5 + (x5 : Int32).toNatClampNeg) 7) (M (5 + (x5 : Int32).toNatClampNeg) 0) M r7 M8 hq) (va_cwS 4 hts gX3_meetsFixed_X3_spansMeet rfl rfl rfl (by decide +kernel) ⟨Nat.le_of_ble_eq_true rfl, Nat.le_of_ble_eq_true rfl⟩) rfl hl.1 rfl (Nat.le_of_ble_eq_true rfl) dX3_meetsFixed_59 ⟨Nat.zero_le _, Nat.zero_le _⟩ (fun H locs hC => ?_)
          refine lv_if_eq (tgt := 89) hx hb dX3_meetsFixed_62 (by decide) (fun h9 => ?_) (fun h9 => ?_)
          · have hf := it_t h9 hf
            obtain ⟨z10, ez10⟩ : ∃ y : Int32, y = x5 + 1 := ⟨_, rfl⟩
            have hf := lq_k ez10 hf
            refine lv_iinc (v := z10) (lv' := [(5, .int z10), (6, .ref (ad (5 + (x5 : Int32).toNatClampNeg))), (0, .ref (ad 0)), (1, .int x1), (2, .int x2), (3, .int x3), (4, .ref (ad c4))]) hx hb dX3_meetsFixed_89 hl (k := 6) rfl (by rw [ez10]; rfl) (by decide) rfl (fun ls hl => ?_)
            refine lv_goto (tgt := 11) hx hb dX3_meetsFixed_92 (by decide) ?_
            exact ih x1 x2 x3 c4 z10 M8 _ _ _ hs_c4 (lv_sub hl [2, 3, 4, 5, 6, 0] rfl) hC hf
          · have hf := it_f h9 hf
            refine lv_iload_n hx hb dX3_meetsFixed_65 rfl (lv_at hl 4 rfl) ?_
            refine lv_aload hx hb dX3_meetsFixed_66 (lv_at hl 5 rfl) ?_
            refine mg_get (ci := 2) (C := RX2) (T := TX2) (N := 11) (v := .int (M8 c4 2)) hx hb hts inX3_meetsFixed_X2 hown hC c4 (sh_lt hs_c4) (cell_sh hs_c4 _) rfl 2 (by decide) (hts _ lkX3_meetsFixed_f67) rfl rfl dX3_meetsFixed_68 ?_
            refine lv_aload hx hb dX3_meetsFixed_71 (lv_at hl 0 rfl) ?_
            refine mg_get (ci := 2) (C := RX2) (T := TX2) (N := 11) (v := .int (M8 (5 + (x5 : Int32).toNatClampNeg) 8)) hx hb hts inX3_meetsFixed_X2 hown hC (5 + (x5 : Int32).toNatClampNeg) (sh_lt (sh_in g2)) (cell_sh (sh_in g2) _) rfl 8 (by decide) (hts _ lkX3_meetsFixed_f125) rfl rfl dX3_meetsFixed_73 ?_
            refine lv_aload hx hb dX3_meetsFixed_76 (lv_at hl 0 rfl) ?_
            refine mg_get (ci := 2) (C := RX2) (T := TX2) (N := 11) (v := .int (M8 (5 + (x5 : Int32).toNatClampNeg) 2)) hx hb hts inX3_meetsFixed_X2 hown hC (5 + (x5 : Int32).toNatClampNeg) (sh_lt (sh_in g2)) (cell_sh (sh_in g2) _) rfl 2 (by decide) (hts _ lkX3_meetsFixed_f67) rfl rfl dX3_meetsFixed_78 ?_
            obtain ⟨r11, M12, hq, hf⟩ := bd_s hf
            refine mc_Si (As := [.int x3, .int (M8 c4 2), .int (M8 (5 + (x5 : Int32).toNatClampNeg) 8), .int (M8 (5 + (x5 : Int32).toNatClampNeg) 2)]) ⟨hx, hb, hml, hown, hts⟩ hC (kX3_spansMeet l D ad ca B ov N x3 (M8 c4 2) (M8 (5 + (x5 : Int32).toNatClampNeg) 8) (M8 (5 + (x5 : Int32).toNatClampNeg) 2) M8 r11 M12 hq) (va_cwS 4 hts gX3_meetsFixed_X3_spansMeet rfl rfl rfl (by decide +kernel) ⟨Nat.le_of_ble_eq_true rfl, Nat.le_of_ble_eq_true rfl⟩) rfl hl.1 rfl (Nat.le_of_ble_eq_true rfl) dX3_meetsFixed_81 ⟨Nat.zero_le _, Nat.zero_le _⟩ (fun H locs hC => ?_)
            refine lv_if_eq (tgt := 89) hx hb dX3_meetsFixed_84 (by decide) (fun h13 => ?_) (fun h13 => ?_)
            · have hf := it_t h13 hf
              obtain ⟨z14, ez14⟩ : ∃ y : Int32, y = x5 + 1 := ⟨_, rfl⟩
              have hf := lq_k ez14 hf
              refine lv_iinc (v := z14) (lv' := [(5, .int z14), (6, .ref (ad (5 + (x5 : Int32).toNatClampNeg))), (0, .ref (ad 0)), (1, .int x1), (2, .int x2), (3, .int x3), (4, .ref (ad c4))]) hx hb dX3_meetsFixed_89 hl (k := 6) rfl (by rw [ez14]; rfl) (by decide) rfl (fun ls hl => ?_)
              refine lv_goto (tgt := 11) hx hb dX3_meetsFixed_92 (by decide) ?_
              exact ih x1 x2 x3 c4 z14 M12 _ _ _ hs_c4 (lv_sub hl [2, 3, 4, 5, 6, 0] rfl) hC hf
            · have hf := it_f h13 hf
              refine lv_iconst (v := 1) hx hb dX3_meetsFixed_87 (by decide) ?_
              exact mr_Z hx hb hr hlk hC (by decide) hf dX3_meetsFixed_88
set_option maxHeartbeats 4000000 in
set_option maxRecDepth 100000 in
theorem kX3_meetsFixed (l : Launch) (D : va_G) (ad : Nat → Nat) (ca : Nat → ClassId) (B : Nat) (ov : Int64) (N : Nat) (x1 : Int32) (x2 : Int32) (x3 : Int32) (M : Mem) (r0 : Int32) (M0 : Mem) (hf : fX3_meetsFixed N x1 x2 x3 M = some (r0, M0)) : MtI l D ad ca B ov yX3_meetsFixed wsX3_meetsFixed (rmX3_meetsFixed) [.ref (ad 0), .int x1, .int x2, .int x3] M r0 M0 := by
  unfold fX3_meetsFixed at hf
  refine Met.ofW (cc := cX3_meetsFixed) (maxL := 7) (ret := (some .boolean)) (by decide) rfl ?_
  intro p e s m args below meth c s₁ Bd hml hv
  obtain ⟨rfl, hw⟩ := hv
  have G : Mx p s m ([.ref (ad 0), .int x1, .int x2, .int x3] : List Value).toArray meth c cX3_meetsFixed 7 wsX3_meetsFixed RX3 (some .boolean) := ⟨Bd.exec, Bd.bytes, hml, findClass_of_methodNamed Bd.named, atoms_spec (ws := wsX3_meetsFixed) Bd.pre, Bd.returns, Bd.notSynchronized⟩
  have hC := Cu.of hw
  have hl := lv_entry ([.ref (ad 0), .int x1, .int x2, .int x3]) (n := 7) (Nat.le_of_ble_eq_true rfl)
  rw [lg_entry_eq]
  generalize (lg_sl ([.ref (ad 0), .int x1, .int x2, .int x3]) ++ List.replicate (7 - (lg_sl ([.ref (ad 0), .int x1, .int x2, .int x3])).length) Slot.unset).toArray = ls at hl ⊢
  have hl : lv_has ls 7 [(0, .ref (ad 0)), (1, .int x1), (2, .int x2), (3, .int x3)] := hl
  obtain ⟨hx, hb, hml, hown, hts, hr, hlk⟩ := id G
  show W p l e (rmX3_meetsFixed) s m _ below meth c s.heap [] 0 0 (MQ below (va_Qi (fun (r : Int32) (_ : Unit) => r = r0) (fun _ t => Wp D ad ca B M0 ov t.heap) (Ab B)) _ s 0 0 (Ab B)) (F0 m 0 ls [])
  refine lv_aload_n hx hb dX3_meetsFixed_0 rfl (lv_at hl 0 rfl) ?_
  refine mg_get (ci := 3) (C := RX3) (T := TX3) (N := 5) (v := .ref (ad 4)) hx hb hts inX3_meetsFixed_X3 hown hC 0 (by decide) rfl rfl 1 (by decide) (hts _ lkX3_meetsFixed_f29) rfl rfl dX3_meetsFixed_1 ?_
  refine lv_iload_n hx hb dX3_meetsFixed_4 rfl (lv_at hl 1 rfl) ?_
  obtain ⟨g1, hf⟩ := gd_s hf
  refine mg_aald hx hb hC g1 dX3_meetsFixed_5 ?_
  refine lv_astore (lv' := [(4, .ref (ad (5 + (x1 : Int32).toNatClampNeg))), (0, .ref (ad 0)), (1, .int x1), (2, .int x2), (3, .int x3)]) hx hb dX3_meetsFixed_6 hl (by decide) rfl (fun ls hl => ?_)
  refine lv_iconst (v := 0) hx hb dX3_meetsFixed_8 (by decide) ?_
  refine lv_istore (lv' := [(5, .int 0), (4, .ref (ad (5 + (x1 : Int32).toNatClampNeg))), (0, .ref (ad 0)), (1, .int x1), (2, .int x2), (3, .int x3)]) hx hb dX3_meetsFixed_9 hl (by decide) rfl (fun ls hl => ?_)
  exact wX3_meetsFixed_11 G N N x1 x2 x3 (5 + (x1 : Int32).toNatClampNeg) 0 M _ _ _ (sh_in g1) (lv_sub hl [2, 3, 4, 5, 1, 0] rfl) hC hf

theorem lkX3_moveShips_f29 : Cond.fieldLink RX3 29 "BerthPlan" "ships" "[LBerthPlan$Ship;" ∈ wsX3_moveShips := by decide +kernel
theorem lkX3_moveShips_f37 : Cond.fieldLink RX3 37 "BerthPlan" "search" "LBerthPlan$Search;" ∈ wsX3_moveShips := by decide +kernel
theorem lkX3_moveShips_f52 : Cond.fieldLink RX3 52 "BerthPlan" "shipCount" "I" ∈ wsX3_moveShips := by decide +kernel
theorem lkX3_moveShips_f194 : Cond.fieldLink RX3 194 "BerthPlan$Search" "bestPlaces" "[I" ∈ wsX3_moveShips := by decide +kernel
theorem lkX3_moveShips_f197 : Cond.fieldLink RX3 197 "BerthPlan$Search" "bestHours" "[I" ∈ wsX3_moveShips := by decide +kernel
theorem inX3_moveShips_X1 : ∀ w ∈ wsX10, w ∈ wsX3_moveShips := by decide +kernel
theorem inX3_moveShips_X3 : ∀ w ∈ wsX30, w ∈ wsX3_moveShips := by decide +kernel
abbrev rmX3_moveShips : Room := { frames := 1, cells := 0, slots := 0, locals := 23 }
def fX3_moveShips_4 (N : Nat) : Nat → Int32 → Int32 → Mem → Option (Int32 × Mem)
  | 0, _, _, _ => none
  | n + 1, x1, x2, M =>
    if ((M 0 3) ≤ x2 : Prop) then (some (x1, M)) else (gd (x2) 4 (gd (x2) 4 (gd (x2) 4 (bd (fX2_moveTo N (5 + (x2 : Int32).toNatClampNeg) (M 13 (x2 : Int32).toNatClampNeg) (M 14 (x2 : Int32).toNatClampNeg) M) (fun r5 M6 => if (r5 = 0 : Prop) then (lq (x2 + 1) (fun z8 => fX3_moveShips_4 N n x1 z8 M6)) else (lq (x1 + 1) (fun z9 => lq (x2 + 1) (fun z10 => fX3_moveShips_4 N n z9 z10 M6))))))))
theorem fX3_moveShips_4_s {N n : Nat} {x1 : Int32} {x2 : Int32} {M : Mem} : fX3_moveShips_4 N (n + 1) x1 x2 M =
    if ((M 0 3) ≤ x2 : Prop) then (some (x1, M)) else (gd (x2) 4 (gd (x2) 4 (gd (x2) 4 (bd (fX2_moveTo N (5 + (x2 : Int32).toNatClampNeg) (M 13 (x2 : Int32).toNatClampNeg) (M 14 (x2 : Int32).toNatClampNeg) M) (fun r5 M6 => if (r5 = 0 : Prop) then (lq (x2 + 1) (fun z8 => fX3_moveShips_4 N n x1 z8 M6)) else (lq (x1 + 1) (fun z9 => lq (x2 + 1) (fun z10 => fX3_moveShips_4 N n z9 z10 M6)))))))) := rfl
def fX3_moveShips (N : Nat) (M : Mem) : Option (Int32 × Mem) :=
    fX3_moveShips_4 N N 0 0 M
set_option maxHeartbeats 4000000 in
set_option maxRecDepth 100000 in
theorem wX3_moveShips_4 {p : Program} {l : Launch} {e : Env} {s : State} {m : MethodId} {args : Array Value} {below : List Frame} {meth : Method} {c : Code} {D : va_G} {ad : Nat → Nat} {ca : Nat → ClassId} {B : Nat} {ov : Int64} {r0 : Int32} {M0 : Mem} (G : Mx p s m args meth c cX3_moveShips 3 wsX3_moveShips RX3 (some .int)) (N : Nat) : ∀ (n : Nat), ∀ (x1 : Int32) (x2 : Int32) (M : Mem) (H : Heap) (locs : List Loc) (ls : Array Slot), lv_has ls 3 [(0, .ref (ad 0)), (1, .int x1), (2, .int x2)] → Cu D ad ca B M ov s H locs → (fX3_moveShips_4 N n) x1 x2 M = some (r0, M0) → W p l e (rmX3_moveShips) s m args below meth c H locs 0 0 (MQ below (va_Qi (fun (r : Int32) (_ : Unit) => r = r0) (fun _ t => Wp D ad ca B M0 ov t.heap) (Ab B)) args s 0 0 (Ab B)) (F0 m 4 ls []) := by
  obtain ⟨hx, hb, hml, hown, hts, hr, hlk⟩ := id G
  intro n
  induction n with
  | zero =>
    intro x1 x2 M H locs ls hl hC hf
    cases hf
  | succ n ih =>
    intro x1 x2 M H locs ls hl hC hf
    have hf := (fX3_moveShips_4_s).symm.trans hf
    refine lv_iload_n hx hb dX3_moveShips_4 rfl (lv_at hl 2 rfl) ?_
    refine lv_aload_n hx hb dX3_moveShips_5 rfl (lv_at hl 0 rfl) ?_
    refine mg_get (ci := 3) (C := RX3) (T := TX3) (N := 5) (v := .int (M 0 3)) hx hb hts inX3_moveShips_X3 hown hC 0 (by decide) rfl rfl 3 (by decide) (hts _ lkX3_moveShips_f52) rfl rfl dX3_moveShips_6 ?_
    refine lv_icmp_ge (tgt := 51) hx hb dX3_moveShips_9 (by decide) (fun h1 => ?_) (fun h1 => ?_)
    · have hf := it_t h1 hf
      refine lv_iload_n hx hb dX3_moveShips_51 rfl (lv_at hl 1 rfl) ?_
      exact mr_I hx hb hr hlk hC hf dX3_moveShips_52
    · have hf := it_f h1 hf
      refine lv_aload_n hx hb dX3_moveShips_12 rfl (lv_at hl 0 rfl) ?_
      refine mg_get (ci := 3) (C := RX3) (T := TX3) (N := 5) (v := .ref (ad 4)) hx hb hts inX3_moveShips_X3 hown hC 0 (by decide) rfl rfl 1 (by decide) (hts _ lkX3_moveShips_f29) rfl rfl dX3_moveShips_13 ?_
      refine lv_iload_n hx hb dX3_moveShips_16 rfl (lv_at hl 2 rfl) ?_
      obtain ⟨g2, hf⟩ := gd_s hf
      refine mg_aald hx hb hC g2 dX3_moveShips_17 ?_
      refine lv_aload_n hx hb dX3_moveShips_18 rfl (lv_at hl 0 rfl) ?_
      refine mg_get (ci := 3) (C := RX3) (T := TX3) (N := 5) (v := .ref (ad 9)) hx hb hts inX3_moveShips_X3 hown hC 0 (by decide) rfl rfl 2 (by decide) (hts _ lkX3_moveShips_f37) rfl rfl dX3_moveShips_19 ?_
      refine mg_get (ci := 1) (C := RX1) (T := TX1) (N := 9) (v := .ref (ad 13)) hx hb hts inX3_moveShips_X1 hown hC 9 (by decide) rfl rfl 3 (by decide) (hts _ lkX3_moveShips_f194) rfl rfl dX3_moveShips_22 ?_
      refine lv_iload_n hx hb dX3_moveShips_25 rfl (lv_at hl 2 rfl) ?_
      obtain ⟨g3, hf⟩ := gd_s hf
      refine mg_iald (n := 4) (cA := ca 13) hx hb hC 13 6 (by decide) rfl rfl g3 dX3_moveShips_26 ?_
      refine lv_aload_n hx hb dX3_moveShips_27 rfl (lv_at hl 0 rfl) ?_
      refine mg_get (ci := 3) (C := RX3) (T := TX3) (N := 5) (v := .ref (ad 9)) hx hb hts inX3_moveShips_X3 hown hC 0 (by decide) rfl rfl 2 (by decide) (hts _ lkX3_moveShips_f37) rfl rfl dX3_moveShips_28 ?_
      refine mg_get (ci := 1) (C := RX1) (T := TX1) (N := 9) (v := .ref (ad 14)) hx hb hts inX3_moveShips_X1 hown hC 9 (by decide) rfl rfl 4 (by decide) (hts _ lkX3_moveShips_f197) rfl rfl dX3_moveShips_31 ?_
      refine lv_iload_n hx hb dX3_moveShips_34 rfl (lv_at hl 2 rfl) ?_
      obtain ⟨g4, hf⟩ := gd_s hf
      refine mg_iald (n := 4) (cA := ca 14) hx hb hC 14 7 (by decide) rfl rfl g4 dX3_moveShips_35 ?_
      obtain ⟨r5, M6, hq, hf⟩ := bd_s hf
      refine mc_Vi (As := [.int (M 13 (x2 : Int32).toNatClampNeg), .int (M 14 (x2 : Int32).toNatClampNeg)]) ⟨hx, hb, hml, hown, hts⟩ hC (kX2_moveTo l D ad ca B ov N (5 + (x2 : Int32).toNatClampNeg) (M 13 (x2 : Int32).toNatClampNeg) (M 14 (x2 : Int32).toNatClampNeg) (sh_in g2) M r5 M6 hq) (cwV 2 hts gX3_moveShips_X2_moveTo rfl rfl rfl (by decide +kernel) ⟨Nat.le_of_ble_eq_true rfl, Nat.le_of_ble_eq_true rfl⟩) (mg_recv (ci := 2) (C := RX2) (T := TX2) (N := 11) hC (5 + (x2 : Int32).toNatClampNeg) (sh_lt (sh_in g2)) (cell_sh (sh_in g2) _) rfl) rfl hl.1 rfl (Nat.le_of_ble_eq_true rfl) dX3_moveShips_36 ⟨Nat.zero_le _, Nat.zero_le _⟩ (fun H locs hC => ?_)
      refine lv_if_eq (tgt := 45) hx hb dX3_moveShips_39 (by decide) (fun h7 => ?_) (fun h7 => ?_)
      · have hf := it_t h7 hf
        obtain ⟨z8, ez8⟩ : ∃ y : Int32, y = x2 + 1 := ⟨_, rfl⟩
        have hf := lq_k ez8 hf
        refine lv_iinc (v := z8) (lv' := [(2, .int z8), (0, .ref (ad 0)), (1, .int x1)]) hx hb dX3_moveShips_45 hl (k := 2) rfl (by rw [ez8]; rfl) (by decide) rfl (fun ls hl => ?_)
        refine lv_goto (tgt := 4) hx hb dX3_moveShips_48 (by decide) ?_
        exact ih x1 z8 M6 _ _ _ (lv_sub hl [1, 2, 0] rfl) hC hf
      · have hf := it_f h7 hf
        obtain ⟨z9, ez9⟩ : ∃ y : Int32, y = x1 + 1 := ⟨_, rfl⟩
        have hf := lq_k ez9 hf
        refine lv_iinc (v := z9) (lv' := [(1, .int z9), (0, .ref (ad 0)), (2, .int x2)]) hx hb dX3_moveShips_42 hl (k := 1) rfl (by rw [ez9]; rfl) (by decide) rfl (fun ls hl => ?_)
        obtain ⟨z10, ez10⟩ : ∃ y : Int32, y = x2 + 1 := ⟨_, rfl⟩
        have hf := lq_k ez10 hf
        refine lv_iinc (v := z10) (lv' := [(2, .int z10), (1, .int z9), (0, .ref (ad 0))]) hx hb dX3_moveShips_45 hl (k := 2) rfl (by rw [ez10]; rfl) (by decide) rfl (fun ls hl => ?_)
        refine lv_goto (tgt := 4) hx hb dX3_moveShips_48 (by decide) ?_
        exact ih z9 z10 M6 _ _ _ (lv_sub hl [2, 1, 0] rfl) hC hf
set_option maxHeartbeats 4000000 in
set_option maxRecDepth 100000 in
theorem kX3_moveShips (l : Launch) (D : va_G) (ad : Nat → Nat) (ca : Nat → ClassId) (B : Nat) (ov : Int64) (N : Nat) (M : Mem) (r0 : Int32) (M0 : Mem) (hf : fX3_moveShips N M = some (r0, M0)) : MtI l D ad ca B ov yX3_moveShips wsX3_moveShips (rmX3_moveShips) [.ref (ad 0)] M r0 M0 := by
  unfold fX3_moveShips at hf
  refine Met.ofW (cc := cX3_moveShips) (maxL := 3) (ret := (some .int)) (by decide) rfl ?_
  intro p e s m args below meth c s₁ Bd hml hv
  obtain ⟨rfl, hw⟩ := hv
  have G : Mx p s m ([.ref (ad 0)] : List Value).toArray meth c cX3_moveShips 3 wsX3_moveShips RX3 (some .int) := ⟨Bd.exec, Bd.bytes, hml, findClass_of_methodNamed Bd.named, atoms_spec (ws := wsX3_moveShips) Bd.pre, Bd.returns, Bd.notSynchronized⟩
  have hC := Cu.of hw
  have hl := lv_entry ([.ref (ad 0)]) (n := 3) (Nat.le_of_ble_eq_true rfl)
  rw [lg_entry_eq]
  generalize (lg_sl ([.ref (ad 0)]) ++ List.replicate (3 - (lg_sl ([.ref (ad 0)])).length) Slot.unset).toArray = ls at hl ⊢
  have hl : lv_has ls 3 [(0, .ref (ad 0))] := hl
  obtain ⟨hx, hb, hml, hown, hts, hr, hlk⟩ := id G
  show W p l e (rmX3_moveShips) s m _ below meth c s.heap [] 0 0 (MQ below (va_Qi (fun (r : Int32) (_ : Unit) => r = r0) (fun _ t => Wp D ad ca B M0 ov t.heap) (Ab B)) _ s 0 0 (Ab B)) (F0 m 0 ls [])
  refine lv_iconst (v := 0) hx hb dX3_moveShips_0 (by decide) ?_
  refine lv_istore_n (lv' := [(1, .int 0), (0, .ref (ad 0))]) hx hb dX3_moveShips_1 rfl hl (by decide) rfl (fun ls hl => ?_)
  refine lv_iconst (v := 0) hx hb dX3_moveShips_2 (by decide) ?_
  refine lv_istore_n (lv' := [(2, .int 0), (1, .int 0), (0, .ref (ad 0))]) hx hb dX3_moveShips_3 rfl hl (by decide) rfl (fun ls hl => ?_)
  exact wX3_moveShips_4 G N N 0 0 M _ _ _ (lv_sub hl [2, 1, 0] rfl) hC hf

theorem lkX3_fixedShips_f29 : Cond.fieldLink RX3 29 "BerthPlan" "ships" "[LBerthPlan$Ship;" ∈ wsX3_fixedShips := by decide +kernel
theorem lkX3_fixedShips_f52 : Cond.fieldLink RX3 52 "BerthPlan" "shipCount" "I" ∈ wsX3_fixedShips := by decide +kernel
theorem lkX3_fixedShips_f119 : Cond.fieldLink RX3 119 "BerthPlan$Ship" "isFixed" "Z" ∈ wsX3_fixedShips := by decide +kernel
theorem inX3_fixedShips_X2 : ∀ w ∈ wsX20, w ∈ wsX3_fixedShips := by decide +kernel
theorem inX3_fixedShips_X3 : ∀ w ∈ wsX30, w ∈ wsX3_fixedShips := by decide +kernel
abbrev rmX3_fixedShips : Room := { frames := 0, cells := 0, slots := 0, locals := 0 }
def fX3_fixedShips_4 (N : Nat) : Nat → Int32 → Int32 → Mem → Option (Int32 × Mem)
  | 0, _, _, _ => none
  | n + 1, x1, x2, M =>
    if ((M 0 3) ≤ x2 : Prop) then (some (x1, M)) else (gd (x2) 4 (if ((M (5 + (x2 : Int32).toNatClampNeg) 6) = 0 : Prop) then (lq (x2 + 1) (fun z4 => fX3_fixedShips_4 N n x1 z4 M)) else (lq (x1 + 1) (fun z5 => lq (x2 + 1) (fun z6 => fX3_fixedShips_4 N n z5 z6 M)))))
theorem fX3_fixedShips_4_s {N n : Nat} {x1 : Int32} {x2 : Int32} {M : Mem} : fX3_fixedShips_4 N (n + 1) x1 x2 M =
    if ((M 0 3) ≤ x2 : Prop) then (some (x1, M)) else (gd (x2) 4 (if ((M (5 + (x2 : Int32).toNatClampNeg) 6) = 0 : Prop) then (lq (x2 + 1) (fun z4 => fX3_fixedShips_4 N n x1 z4 M)) else (lq (x1 + 1) (fun z5 => lq (x2 + 1) (fun z6 => fX3_fixedShips_4 N n z5 z6 M))))) := rfl
def fX3_fixedShips (N : Nat) (M : Mem) : Option (Int32 × Mem) :=
    fX3_fixedShips_4 N N 0 0 M
set_option maxHeartbeats 4000000 in
set_option maxRecDepth 100000 in
theorem wX3_fixedShips_4 {p : Program} {l : Launch} {e : Env} {s : State} {m : MethodId} {args : Array Value} {below : List Frame} {meth : Method} {c : Code} {D : va_G} {ad : Nat → Nat} {ca : Nat → ClassId} {B : Nat} {ov : Int64} {r0 : Int32} {M0 : Mem} (G : Mx p s m args meth c cX3_fixedShips 3 wsX3_fixedShips RX3 (some .int)) (N : Nat) : ∀ (n : Nat), ∀ (x1 : Int32) (x2 : Int32) (M : Mem) (H : Heap) (locs : List Loc) (ls : Array Slot), lv_has ls 3 [(0, .ref (ad 0)), (1, .int x1), (2, .int x2)] → Cu D ad ca B M ov s H locs → (fX3_fixedShips_4 N n) x1 x2 M = some (r0, M0) → W p l e (rmX3_fixedShips) s m args below meth c H locs 0 0 (MQ below (va_Qi (fun (r : Int32) (_ : Unit) => r = r0) (fun _ t => Wp D ad ca B M0 ov t.heap) (Ab B)) args s 0 0 (Ab B)) (F0 m 4 ls []) := by
  obtain ⟨hx, hb, hml, hown, hts, hr, hlk⟩ := id G
  intro n
  induction n with
  | zero =>
    intro x1 x2 M H locs ls hl hC hf
    cases hf
  | succ n ih =>
    intro x1 x2 M H locs ls hl hC hf
    have hf := (fX3_fixedShips_4_s).symm.trans hf
    refine lv_iload_n hx hb dX3_fixedShips_4 rfl (lv_at hl 2 rfl) ?_
    refine lv_aload_n hx hb dX3_fixedShips_5 rfl (lv_at hl 0 rfl) ?_
    refine mg_get (ci := 3) (C := RX3) (T := TX3) (N := 5) (v := .int (M 0 3)) hx hb hts inX3_fixedShips_X3 hown hC 0 (by decide) rfl rfl 3 (by decide) (hts _ lkX3_fixedShips_f52) rfl rfl dX3_fixedShips_6 ?_
    refine lv_icmp_ge (tgt := 33) hx hb dX3_fixedShips_9 (by decide) (fun h1 => ?_) (fun h1 => ?_)
    · have hf := it_t h1 hf
      refine lv_iload_n hx hb dX3_fixedShips_33 rfl (lv_at hl 1 rfl) ?_
      exact mr_I hx hb hr hlk hC hf dX3_fixedShips_34
    · have hf := it_f h1 hf
      refine lv_aload_n hx hb dX3_fixedShips_12 rfl (lv_at hl 0 rfl) ?_
      refine mg_get (ci := 3) (C := RX3) (T := TX3) (N := 5) (v := .ref (ad 4)) hx hb hts inX3_fixedShips_X3 hown hC 0 (by decide) rfl rfl 1 (by decide) (hts _ lkX3_fixedShips_f29) rfl rfl dX3_fixedShips_13 ?_
      refine lv_iload_n hx hb dX3_fixedShips_16 rfl (lv_at hl 2 rfl) ?_
      obtain ⟨g2, hf⟩ := gd_s hf
      refine mg_aald hx hb hC g2 dX3_fixedShips_17 ?_
      refine mg_get (ci := 2) (C := RX2) (T := TX2) (N := 11) (v := .int (M (5 + (x2 : Int32).toNatClampNeg) 6)) hx hb hts inX3_fixedShips_X2 hown hC (5 + (x2 : Int32).toNatClampNeg) (sh_lt (sh_in g2)) (cell_sh (sh_in g2) _) rfl 6 (by decide) (hts _ lkX3_fixedShips_f119) rfl rfl dX3_fixedShips_18 ?_
      refine lv_if_eq (tgt := 27) hx hb dX3_fixedShips_21 (by decide) (fun h3 => ?_) (fun h3 => ?_)
      · have hf := it_t h3 hf
        obtain ⟨z4, ez4⟩ : ∃ y : Int32, y = x2 + 1 := ⟨_, rfl⟩
        have hf := lq_k ez4 hf
        refine lv_iinc (v := z4) (lv' := [(2, .int z4), (0, .ref (ad 0)), (1, .int x1)]) hx hb dX3_fixedShips_27 hl (k := 2) rfl (by rw [ez4]; rfl) (by decide) rfl (fun ls hl => ?_)
        refine lv_goto (tgt := 4) hx hb dX3_fixedShips_30 (by decide) ?_
        exact ih x1 z4 M _ _ _ (lv_sub hl [1, 2, 0] rfl) hC hf
      · have hf := it_f h3 hf
        obtain ⟨z5, ez5⟩ : ∃ y : Int32, y = x1 + 1 := ⟨_, rfl⟩
        have hf := lq_k ez5 hf
        refine lv_iinc (v := z5) (lv' := [(1, .int z5), (0, .ref (ad 0)), (2, .int x2)]) hx hb dX3_fixedShips_24 hl (k := 1) rfl (by rw [ez5]; rfl) (by decide) rfl (fun ls hl => ?_)
        obtain ⟨z6, ez6⟩ : ∃ y : Int32, y = x2 + 1 := ⟨_, rfl⟩
        have hf := lq_k ez6 hf
        refine lv_iinc (v := z6) (lv' := [(2, .int z6), (1, .int z5), (0, .ref (ad 0))]) hx hb dX3_fixedShips_27 hl (k := 2) rfl (by rw [ez6]; rfl) (by decide) rfl (fun ls hl => ?_)
        refine lv_goto (tgt := 4) hx hb dX3_fixedShips_30 (by decide) ?_
        exact ih z5 z6 M _ _ _ (lv_sub hl [2, 1, 0] rfl) hC hf
set_option maxHeartbeats 4000000 in
set_option maxRecDepth 100000 in
theorem kX3_fixedShips (l : Launch) (D : va_G) (ad : Nat → Nat) (ca : Nat → ClassId) (B : Nat) (ov : Int64) (N : Nat) (M : Mem) (r0 : Int32) (M0 : Mem) (hf : fX3_fixedShips N M = some (r0, M0)) : MtI l D ad ca B ov yX3_fixedShips wsX3_fixedShips (rmX3_fixedShips) [.ref (ad 0)] M r0 M0 := by
  unfold fX3_fixedShips at hf
  refine Met.ofW (cc := cX3_fixedShips) (maxL := 3) (ret := (some .int)) (by decide) rfl ?_
  intro p e s m args below meth c s₁ Bd hml hv
  obtain ⟨rfl, hw⟩ := hv
  have G : Mx p s m ([.ref (ad 0)] : List Value).toArray meth c cX3_fixedShips 3 wsX3_fixedShips RX3 (some .int) := ⟨Bd.exec, Bd.bytes, hml, findClass_of_methodNamed Bd.named, atoms_spec (ws := wsX3_fixedShips) Bd.pre, Bd.returns, Bd.notSynchronized⟩
  have hC := Cu.of hw
  have hl := lv_entry ([.ref (ad 0)]) (n := 3) (Nat.le_of_ble_eq_true rfl)
  rw [lg_entry_eq]
  generalize (lg_sl ([.ref (ad 0)]) ++ List.replicate (3 - (lg_sl ([.ref (ad 0)])).length) Slot.unset).toArray = ls at hl ⊢
  have hl : lv_has ls 3 [(0, .ref (ad 0))] := hl
  obtain ⟨hx, hb, hml, hown, hts, hr, hlk⟩ := id G
  show W p l e (rmX3_fixedShips) s m _ below meth c s.heap [] 0 0 (MQ below (va_Qi (fun (r : Int32) (_ : Unit) => r = r0) (fun _ t => Wp D ad ca B M0 ov t.heap) (Ab B)) _ s 0 0 (Ab B)) (F0 m 0 ls [])
  refine lv_iconst (v := 0) hx hb dX3_fixedShips_0 (by decide) ?_
  refine lv_istore_n (lv' := [(1, .int 0), (0, .ref (ad 0))]) hx hb dX3_fixedShips_1 rfl hl (by decide) rfl (fun ls hl => ?_)
  refine lv_iconst (v := 0) hx hb dX3_fixedShips_2 (by decide) ?_
  refine lv_istore_n (lv' := [(2, .int 0), (1, .int 0), (0, .ref (ad 0))]) hx hb dX3_fixedShips_3 rfl hl (by decide) rfl (fun ls hl => ?_)
  exact wX3_fixedShips_4 G N N 0 0 M _ _ _ (lv_sub hl [2, 1, 0] rfl) hC hf

theorem lkX3_countOfPlace_f23 : Cond.fieldLink RX3 23 "BerthPlan" "quay" "LBerthPlan$Quay;" ∈ wsX3_countOfPlace := by decide +kernel
theorem lkX3_countOfPlace_f84 : Cond.fieldLink RX3 84 "BerthPlan$Quay" "depths" "[I" ∈ wsX3_countOfPlace := by decide +kernel
theorem lkX3_countOfPlace_f91 : Cond.fieldLink RX3 91 "BerthPlan$Quay" "gears" "[I" ∈ wsX3_countOfPlace := by decide +kernel
theorem lkX3_countOfPlace_f160 : Cond.fieldLink RX3 160 "BerthPlan$Quay" "places" "I" ∈ wsX3_countOfPlace := by decide +kernel
theorem inX3_countOfPlace_X0 : ∀ w ∈ wsX00, w ∈ wsX3_countOfPlace := by decide +kernel
theorem inX3_countOfPlace_X3 : ∀ w ∈ wsX30, w ∈ wsX3_countOfPlace := by decide +kernel
abbrev rmX3_countOfPlace : Room := { frames := 1, cells := 0, slots := 0, locals := 22 }
def fX3_countOfPlace (N : Nat) (x1 : Int32) (M : Mem) : Option (Int32 × Mem) :=
    bd (fX3_isWithin N x1 10 (((10 : Int32) + (M 1 0)) - (1 : Int32)) M) (fun r1 M2 => if (r1 = 0 : Prop) then (bd (fX3_isWithin N x1 20 (((20 : Int32) + (M2 1 0)) - (1 : Int32)) M2) (fun r4 M5 => if (r4 = 0 : Prop) then (some ((-1), M5)) else (gd (x1 - (20 : Int32)) 6 (some (M5 3 (x1 - (20 : Int32) : Int32).toNatClampNeg, M5))))) else (gd (x1 - (10 : Int32)) 6 (some (M2 2 (x1 - (10 : Int32) : Int32).toNatClampNeg, M2))))
set_option maxHeartbeats 4000000 in
set_option maxRecDepth 100000 in
theorem kX3_countOfPlace (l : Launch) (D : va_G) (ad : Nat → Nat) (ca : Nat → ClassId) (B : Nat) (ov : Int64) (N : Nat) (x1 : Int32) (M : Mem) (r0 : Int32) (M0 : Mem) (hf : fX3_countOfPlace N x1 M = some (r0, M0)) : MtI l D ad ca B ov yX3_countOfPlace wsX3_countOfPlace (rmX3_countOfPlace) [.ref (ad 0), .int x1] M r0 M0 := by
  unfold fX3_countOfPlace at hf
  refine Met.ofW (cc := cX3_countOfPlace) (maxL := 2) (ret := (some .int)) (by decide) rfl ?_
  intro p e s m args below meth c s₁ Bd hml hv
  obtain ⟨rfl, hw⟩ := hv
  have G : Mx p s m ([.ref (ad 0), .int x1] : List Value).toArray meth c cX3_countOfPlace 2 wsX3_countOfPlace RX3 (some .int) := ⟨Bd.exec, Bd.bytes, hml, findClass_of_methodNamed Bd.named, atoms_spec (ws := wsX3_countOfPlace) Bd.pre, Bd.returns, Bd.notSynchronized⟩
  have hC := Cu.of hw
  have hl := lv_entry ([.ref (ad 0), .int x1]) (n := 2) (Nat.le_of_ble_eq_true rfl)
  rw [lg_entry_eq]
  generalize (lg_sl ([.ref (ad 0), .int x1]) ++ List.replicate (2 - (lg_sl ([.ref (ad 0), .int x1])).length) Slot.unset).toArray = ls at hl ⊢
  have hl : lv_has ls 2 [(0, .ref (ad 0)), (1, .int x1)] := hl
  obtain ⟨hx, hb, hml, hown, hts, hr, hlk⟩ := id G
  show W p l e (rmX3_countOfPlace) s m _ below meth c s.heap [] 0 0 (MQ below (va_Qi (fun (r : Int32) (_ : Unit) => r = r0) (fun _ t => Wp D ad ca B M0 ov t.heap) (Ab B)) _ s 0 0 (Ab B)) (F0 m 0 ls [])
  refine lv_iload_n hx hb dX3_countOfPlace_0 rfl (lv_at hl 1 rfl) ?_
  refine lv_bipush (v := 10) hx hb dX3_countOfPlace_1 (by decide) ?_
  refine lv_bipush (v := 10) hx hb dX3_countOfPlace_3 (by decide) ?_
  refine lv_aload_n hx hb dX3_countOfPlace_5 rfl (lv_at hl 0 rfl) ?_
  refine mg_get (ci := 3) (C := RX3) (T := TX3) (N := 5) (v := .ref (ad 1)) hx hb hts inX3_countOfPlace_X3 hown hC 0 (by decide) rfl rfl 0 (by decide) (hts _ lkX3_countOfPlace_f23) rfl rfl dX3_countOfPlace_6 ?_
  refine mg_get (ci := 0) (C := RX0) (T := TX0) (N := 5) (v := .int (M 1 0)) hx hb hts inX3_countOfPlace_X0 hown hC 1 (by decide) rfl rfl 0 (by decide) (hts _ lkX3_countOfPlace_f160) rfl rfl dX3_countOfPlace_9 ?_
  refine lv_iadd hx hb dX3_countOfPlace_12 ?_
  refine lv_iconst (v := 1) hx hb dX3_countOfPlace_13 (by decide) ?_
  refine lv_isub hx hb dX3_countOfPlace_14 ?_
  obtain ⟨r1, M2, hq, hf⟩ := bd_s hf
  refine mc_Si (As := [.int x1, .int 10, .int (((10 : Int32) + (M 1 0)) - (1 : Int32))]) ⟨hx, hb, hml, hown, hts⟩ hC (kX3_isWithin l D ad ca B ov N x1 10 (((10 : Int32) + (M 1 0)) - (1 : Int32)) M r1 M2 hq) (va_cwS 3 hts gX3_countOfPlace_X3_isWithin rfl rfl rfl (by decide +kernel) ⟨Nat.le_of_ble_eq_true rfl, Nat.le_of_ble_eq_true rfl⟩) rfl hl.1 rfl (Nat.le_of_ble_eq_true rfl) dX3_countOfPlace_15 ⟨Nat.zero_le _, Nat.zero_le _⟩ (fun H locs hC => ?_)
  refine lv_if_eq (tgt := 34) hx hb dX3_countOfPlace_18 (by decide) (fun h3 => ?_) (fun h3 => ?_)
  · have hf := it_t h3 hf
    refine lv_iload_n hx hb dX3_countOfPlace_34 rfl (lv_at hl 1 rfl) ?_
    refine lv_bipush (v := 20) hx hb dX3_countOfPlace_35 (by decide) ?_
    refine lv_bipush (v := 20) hx hb dX3_countOfPlace_37 (by decide) ?_
    refine lv_aload_n hx hb dX3_countOfPlace_39 rfl (lv_at hl 0 rfl) ?_
    refine mg_get (ci := 3) (C := RX3) (T := TX3) (N := 5) (v := .ref (ad 1)) hx hb hts inX3_countOfPlace_X3 hown hC 0 (by decide) rfl rfl 0 (by decide) (hts _ lkX3_countOfPlace_f23) rfl rfl dX3_countOfPlace_40 ?_
    refine mg_get (ci := 0) (C := RX0) (T := TX0) (N := 5) (v := .int (M2 1 0)) hx hb hts inX3_countOfPlace_X0 hown hC 1 (by decide) rfl rfl 0 (by decide) (hts _ lkX3_countOfPlace_f160) rfl rfl dX3_countOfPlace_43 ?_
    refine lv_iadd hx hb dX3_countOfPlace_46 ?_
    refine lv_iconst (v := 1) hx hb dX3_countOfPlace_47 (by decide) ?_
    refine lv_isub hx hb dX3_countOfPlace_48 ?_
    obtain ⟨r4, M5, hq, hf⟩ := bd_s hf
    refine mc_Si (As := [.int x1, .int 20, .int (((20 : Int32) + (M2 1 0)) - (1 : Int32))]) ⟨hx, hb, hml, hown, hts⟩ hC (kX3_isWithin l D ad ca B ov N x1 20 (((20 : Int32) + (M2 1 0)) - (1 : Int32)) M2 r4 M5 hq) (va_cwS 3 hts gX3_countOfPlace_X3_isWithin rfl rfl rfl (by decide +kernel) ⟨Nat.le_of_ble_eq_true rfl, Nat.le_of_ble_eq_true rfl⟩) rfl hl.1 rfl (Nat.le_of_ble_eq_true rfl) dX3_countOfPlace_49 ⟨Nat.zero_le _, Nat.zero_le _⟩ (fun H locs hC => ?_)
    refine lv_if_eq (tgt := 68) hx hb dX3_countOfPlace_52 (by decide) (fun h6 => ?_) (fun h6 => ?_)
    · have hf := it_t h6 hf
      refine lv_iconst (v := (-1)) hx hb dX3_countOfPlace_68 (by decide) ?_
      exact mr_I hx hb hr hlk hC hf dX3_countOfPlace_69
    · have hf := it_f h6 hf
      refine lv_aload_n hx hb dX3_countOfPlace_55 rfl (lv_at hl 0 rfl) ?_
      refine mg_get (ci := 3) (C := RX3) (T := TX3) (N := 5) (v := .ref (ad 1)) hx hb hts inX3_countOfPlace_X3 hown hC 0 (by decide) rfl rfl 0 (by decide) (hts _ lkX3_countOfPlace_f23) rfl rfl dX3_countOfPlace_56 ?_
      refine mg_get (ci := 0) (C := RX0) (T := TX0) (N := 5) (v := .ref (ad 3)) hx hb hts inX3_countOfPlace_X0 hown hC 1 (by decide) rfl rfl 2 (by decide) (hts _ lkX3_countOfPlace_f91) rfl rfl dX3_countOfPlace_59 ?_
      refine lv_iload_n hx hb dX3_countOfPlace_62 rfl (lv_at hl 1 rfl) ?_
      refine lv_bipush (v := 20) hx hb dX3_countOfPlace_63 (by decide) ?_
      refine lv_isub hx hb dX3_countOfPlace_65 ?_
      obtain ⟨g7, hf⟩ := gd_s hf
      refine mg_iald (n := 6) (cA := ca 3) hx hb hC 3 1 (by decide) rfl rfl g7 dX3_countOfPlace_66 ?_
      exact mr_I hx hb hr hlk hC hf dX3_countOfPlace_67
  · have hf := it_f h3 hf
    refine lv_aload_n hx hb dX3_countOfPlace_21 rfl (lv_at hl 0 rfl) ?_
    refine mg_get (ci := 3) (C := RX3) (T := TX3) (N := 5) (v := .ref (ad 1)) hx hb hts inX3_countOfPlace_X3 hown hC 0 (by decide) rfl rfl 0 (by decide) (hts _ lkX3_countOfPlace_f23) rfl rfl dX3_countOfPlace_22 ?_
    refine mg_get (ci := 0) (C := RX0) (T := TX0) (N := 5) (v := .ref (ad 2)) hx hb hts inX3_countOfPlace_X0 hown hC 1 (by decide) rfl rfl 1 (by decide) (hts _ lkX3_countOfPlace_f84) rfl rfl dX3_countOfPlace_25 ?_
    refine lv_iload_n hx hb dX3_countOfPlace_28 rfl (lv_at hl 1 rfl) ?_
    refine lv_bipush (v := 10) hx hb dX3_countOfPlace_29 (by decide) ?_
    refine lv_isub hx hb dX3_countOfPlace_31 ?_
    obtain ⟨g8, hf⟩ := gd_s hf
    refine mg_iald (n := 6) (cA := ca 2) hx hb hC 2 0 (by decide) rfl rfl g8 dX3_countOfPlace_32 ?_
    exact mr_I hx hb hr hlk hC hf dX3_countOfPlace_33

theorem lkX3_count_f23 : Cond.fieldLink RX3 23 "BerthPlan" "quay" "LBerthPlan$Quay;" ∈ wsX3_count := by decide +kernel
theorem lkX3_count_f52 : Cond.fieldLink RX3 52 "BerthPlan" "shipCount" "I" ∈ wsX3_count := by decide +kernel
theorem lkX3_count_f76 : Cond.fieldLink RX3 76 "BerthPlan" "planned" "Z" ∈ wsX3_count := by decide +kernel
theorem lkX3_count_f104 : Cond.fieldLink RX3 104 "BerthPlan$Quay" "tideSpans" "I" ∈ wsX3_count := by decide +kernel
theorem lkX3_count_f160 : Cond.fieldLink RX3 160 "BerthPlan$Quay" "places" "I" ∈ wsX3_count := by decide +kernel
theorem inX3_count_X0 : ∀ w ∈ wsX00, w ∈ wsX3_count := by decide +kernel
theorem inX3_count_X3 : ∀ w ∈ wsX30, w ∈ wsX3_count := by decide +kernel
abbrev rmX3_count : Room := { frames := 2, cells := 0, slots := 0, locals := 43 }
def fX3_count (N : Nat) (x1 : Int32) (M : Mem) : Option (Int32 × Mem) :=
    if (x1 = 0 : Prop) then (some (M 1 0, M)) else (if (x1 = 1 : Prop) then (some (M 0 3, M)) else (if (x1 = 2 : Prop) then (some (M 1 4, M)) else (if (x1 = 3 : Prop) then (if ((M 0 4) = 0 : Prop) then (some (0, M)) else (some (1, M))) else (if (x1 = 4 : Prop) then (bd (fX3_fixedShips N M) (fun r2 M3 => some (r2, M3))) else (bd (fX3_countOfPlace N x1 M) (fun r4 M5 => some (r4, M5)))))))
set_option maxHeartbeats 4000000 in
set_option maxRecDepth 100000 in
theorem kX3_count (l : Launch) (D : va_G) (ad : Nat → Nat) (ca : Nat → ClassId) (B : Nat) (ov : Int64) (N : Nat) (x1 : Int32) (M : Mem) (r0 : Int32) (M0 : Mem) (hf : fX3_count N x1 M = some (r0, M0)) : MtI l D ad ca B ov yX3_count wsX3_count (rmX3_count) [.ref (ad 0), .int x1] M r0 M0 := by
  unfold fX3_count at hf
  refine Met.ofW (cc := cX3_count) (maxL := 2) (ret := (some .int)) (by decide) rfl ?_
  intro p e s m args below meth c s₁ Bd hml hv
  obtain ⟨rfl, hw⟩ := hv
  have G : Mx p s m ([.ref (ad 0), .int x1] : List Value).toArray meth c cX3_count 2 wsX3_count RX3 (some .int) := ⟨Bd.exec, Bd.bytes, hml, findClass_of_methodNamed Bd.named, atoms_spec (ws := wsX3_count) Bd.pre, Bd.returns, Bd.notSynchronized⟩
  have hC := Cu.of hw
  have hl := lv_entry ([.ref (ad 0), .int x1]) (n := 2) (Nat.le_of_ble_eq_true rfl)
  rw [lg_entry_eq]
  generalize (lg_sl ([.ref (ad 0), .int x1]) ++ List.replicate (2 - (lg_sl ([.ref (ad 0), .int x1])).length) Slot.unset).toArray = ls at hl ⊢
  have hl : lv_has ls 2 [(0, .ref (ad 0)), (1, .int x1)] := hl
  obtain ⟨hx, hb, hml, hown, hts, hr, hlk⟩ := id G
  show W p l e (rmX3_count) s m _ below meth c s.heap [] 0 0 (MQ below (va_Qi (fun (r : Int32) (_ : Unit) => r = r0) (fun _ t => Wp D ad ca B M0 ov t.heap) (Ab B)) _ s 0 0 (Ab B)) (F0 m 0 ls [])
  refine lv_iload_n hx hb dX3_count_0 rfl (lv_at hl 1 rfl) ?_
  by_cases hn1_0 : x1 = 0
  · have hf := it_t hn1_0 hf
    refine lv_tableIn (tgt := 36) hx hb dX3_count_1 (by rw [hn1_0]; decide) (by rw [hn1_0]; decide) (by rw [hn1_0]; rfl) (by decide) ?_
    refine lv_aload_n hx hb dX3_count_36 rfl (lv_at hl 0 rfl) ?_
    refine mg_get (ci := 3) (C := RX3) (T := TX3) (N := 5) (v := .ref (ad 1)) hx hb hts inX3_count_X3 hown hC 0 (by decide) rfl rfl 0 (by decide) (hts _ lkX3_count_f23) rfl rfl dX3_count_37 ?_
    refine mg_get (ci := 0) (C := RX0) (T := TX0) (N := 5) (v := .int (M 1 0)) hx hb hts inX3_count_X0 hown hC 1 (by decide) rfl rfl 0 (by decide) (hts _ lkX3_count_f160) rfl rfl dX3_count_40 ?_
    exact mr_I hx hb hr hlk hC hf dX3_count_43
  · have hf := it_f hn1_0 hf
    by_cases hn1_1 : x1 = 1
    · have hf := it_t hn1_1 hf
      refine lv_tableIn (tgt := 44) hx hb dX3_count_1 (by rw [hn1_1]; decide) (by rw [hn1_1]; decide) (by rw [hn1_1]; rfl) (by decide) ?_
      refine lv_aload_n hx hb dX3_count_44 rfl (lv_at hl 0 rfl) ?_
      refine mg_get (ci := 3) (C := RX3) (T := TX3) (N := 5) (v := .int (M 0 3)) hx hb hts inX3_count_X3 hown hC 0 (by decide) rfl rfl 3 (by decide) (hts _ lkX3_count_f52) rfl rfl dX3_count_45 ?_
      exact mr_I hx hb hr hlk hC hf dX3_count_48
    · have hf := it_f hn1_1 hf
      by_cases hn1_2 : x1 = 2
      · have hf := it_t hn1_2 hf
        refine lv_tableIn (tgt := 49) hx hb dX3_count_1 (by rw [hn1_2]; decide) (by rw [hn1_2]; decide) (by rw [hn1_2]; rfl) (by decide) ?_
        refine lv_aload_n hx hb dX3_count_49 rfl (lv_at hl 0 rfl) ?_
        refine mg_get (ci := 3) (C := RX3) (T := TX3) (N := 5) (v := .ref (ad 1)) hx hb hts inX3_count_X3 hown hC 0 (by decide) rfl rfl 0 (by decide) (hts _ lkX3_count_f23) rfl rfl dX3_count_50 ?_
        refine mg_get (ci := 0) (C := RX0) (T := TX0) (N := 5) (v := .int (M 1 4)) hx hb hts inX3_count_X0 hown hC 1 (by decide) rfl rfl 4 (by decide) (hts _ lkX3_count_f104) rfl rfl dX3_count_53 ?_
        exact mr_I hx hb hr hlk hC hf dX3_count_56
      · have hf := it_f hn1_2 hf
        by_cases hn1_3 : x1 = 3
        · have hf := it_t hn1_3 hf
          refine lv_tableIn (tgt := 57) hx hb dX3_count_1 (by rw [hn1_3]; decide) (by rw [hn1_3]; decide) (by rw [hn1_3]; rfl) (by decide) ?_
          refine lv_aload_n hx hb dX3_count_57 rfl (lv_at hl 0 rfl) ?_
          refine mg_get (ci := 3) (C := RX3) (T := TX3) (N := 5) (v := .int (M 0 4)) hx hb hts inX3_count_X3 hown hC 0 (by decide) rfl rfl 4 (by decide) (hts _ lkX3_count_f76) rfl rfl dX3_count_58 ?_
          refine lv_if_eq (tgt := 68) hx hb dX3_count_61 (by decide) (fun h1 => ?_) (fun h1 => ?_)
          · have hf := it_t h1 hf
            refine lv_iconst (v := 0) hx hb dX3_count_68 (by decide) ?_
            exact mr_I hx hb hr hlk hC hf dX3_count_69
          · have hf := it_f h1 hf
            refine lv_iconst (v := 1) hx hb dX3_count_64 (by decide) ?_
            refine lv_goto (tgt := 69) hx hb dX3_count_65 (by decide) ?_
            exact mr_I hx hb hr hlk hC hf dX3_count_69
        · have hf := it_f hn1_3 hf
          by_cases hn1_4 : x1 = 4
          · have hf := it_t hn1_4 hf
            refine lv_tableIn (tgt := 70) hx hb dX3_count_1 (by rw [hn1_4]; decide) (by rw [hn1_4]; decide) (by rw [hn1_4]; rfl) (by decide) ?_
            refine lv_aload_n hx hb dX3_count_70 rfl (lv_at hl 0 rfl) ?_
            obtain ⟨r2, M3, hq, hf⟩ := bd_s hf
            refine mc_Vi (As := []) ⟨hx, hb, hml, hown, hts⟩ hC (kX3_fixedShips l D ad ca B ov N M r2 M3 hq) (cwV 0 hts gX3_count_X3_fixedShips rfl rfl rfl (by decide +kernel) ⟨Nat.le_of_ble_eq_true rfl, Nat.le_of_ble_eq_true rfl⟩) (mg_recv (ci := 3) (C := RX3) (T := TX3) (N := 5) hC 0 (by decide) rfl rfl) rfl hl.1 rfl (Nat.le_of_ble_eq_true rfl) dX3_count_71 ⟨Nat.zero_le _, Nat.zero_le _⟩ (fun H locs hC => ?_)
            exact mr_I hx hb hr hlk hC hf dX3_count_74
          · have hf := it_f hn1_4 hf
            refine lv_tableOut (tgt := 75) hx hb dX3_count_1 (sw_out5 x1 hn1_0 hn1_1 hn1_2 hn1_3 hn1_4) (by decide) ?_
            refine lv_aload_n hx hb dX3_count_75 rfl (lv_at hl 0 rfl) ?_
            refine lv_iload_n hx hb dX3_count_76 rfl (lv_at hl 1 rfl) ?_
            obtain ⟨r4, M5, hq, hf⟩ := bd_s hf
            refine mc_Vi (As := [.int x1]) ⟨hx, hb, hml, hown, hts⟩ hC (kX3_countOfPlace l D ad ca B ov N x1 M r4 M5 hq) (cwV 1 hts gX3_count_X3_countOfPlace rfl rfl rfl (by decide +kernel) ⟨Nat.le_of_ble_eq_true rfl, Nat.le_of_ble_eq_true rfl⟩) (mg_recv (ci := 3) (C := RX3) (T := TX3) (N := 5) hC 0 (by decide) rfl rfl) rfl hl.1 rfl (Nat.le_of_ble_eq_true rfl) dX3_count_77 ⟨Nat.zero_le _, Nat.zero_le _⟩ (fun H locs hC => ?_)
            exact mr_I hx hb hr hlk hC hf dX3_count_80

theorem lkX3_depth_f23 : Cond.fieldLink RX3 23 "BerthPlan" "quay" "LBerthPlan$Quay;" ∈ wsX3_depth := by decide +kernel
theorem lkX3_depth_f76 : Cond.fieldLink RX3 76 "BerthPlan" "planned" "Z" ∈ wsX3_depth := by decide +kernel
theorem lkX3_depth_f84 : Cond.fieldLink RX3 84 "BerthPlan$Quay" "depths" "[I" ∈ wsX3_depth := by decide +kernel
theorem inX3_depth_X0 : ∀ w ∈ wsX00, w ∈ wsX3_depth := by decide +kernel
theorem inX3_depth_X3 : ∀ w ∈ wsX30, w ∈ wsX3_depth := by decide +kernel
abbrev rmX3_depth : Room := { frames := 1, cells := 0, slots := 0, locals := 22 }
def fX3_depth_42 (N : Nat) : Nat → Int32 → Int32 → Int32 → Mem → Option (Int32 × Mem)
  | 0, _, _, _, _ => none
  | n + 1, x2, x3, x4, M =>
    if (x2 < x4 : Prop) then (lq (mw M 0 4 0) (fun M2 => some (1, M2))) else (gd (x4) 6 (lq (mw M 2 (x4 : Int32).toNatClampNeg x3) (fun M4 => lq (x4 + 1) (fun z5 => fX3_depth_42 N n x2 x3 z5 M4))))
theorem fX3_depth_42_s {N n : Nat} {x2 : Int32} {x3 : Int32} {x4 : Int32} {M : Mem} : fX3_depth_42 N (n + 1) x2 x3 x4 M =
    if (x2 < x4 : Prop) then (lq (mw M 0 4 0) (fun M2 => some (1, M2))) else (gd (x4) 6 (lq (mw M 2 (x4 : Int32).toNatClampNeg x3) (fun M4 => lq (x4 + 1) (fun z5 => fX3_depth_42 N n x2 x3 z5 M4)))) := rfl
def fX3_depth (N : Nat) (x1 : Int32) (x2 : Int32) (x3 : Int32) (M : Mem) : Option (Int32 × Mem) :=
    bd (fX0_isPlace N x1 M) (fun r1 M2 => if (r1 = 0 : Prop) then (some (0, M2)) else (bd (fX0_isPlace N x2 M2) (fun r4 M5 => if (r4 = 0 : Prop) then (some (0, M5)) else (if (x2 < x1 : Prop) then (some (0, M5)) else (bd (fX3_isWithin N x3 0 100 M5) (fun r8 M9 => if (r8 = 0 : Prop) then (some (0, M9)) else (fX3_depth_42 N N x2 x3 x1 M9)))))))
set_option maxHeartbeats 4000000 in
set_option maxRecDepth 100000 in
theorem wX3_depth_42 {p : Program} {l : Launch} {e : Env} {s : State} {m : MethodId} {args : Array Value} {below : List Frame} {meth : Method} {c : Code} {D : va_G} {ad : Nat → Nat} {ca : Nat → ClassId} {B : Nat} {ov : Int64} {r0 : Int32} {M0 : Mem} (G : Mx p s m args meth c cX3_depth 5 wsX3_depth RX3 (some .boolean)) (N : Nat) : ∀ (n : Nat), ∀ (x2 : Int32) (x3 : Int32) (x4 : Int32) (M : Mem) (H : Heap) (locs : List Loc) (ls : Array Slot), lv_has ls 5 [(0, .ref (ad 0)), (2, .int x2), (3, .int x3), (4, .int x4)] → Cu D ad ca B M ov s H locs → (fX3_depth_42 N n) x2 x3 x4 M = some (r0, M0) → W p l e (rmX3_depth) s m args below meth c H locs 0 0 (MQ below (va_Qi (fun (r : Int32) (_ : Unit) => r = r0) (fun _ t => Wp D ad ca B M0 ov t.heap) (Ab B)) args s 0 0 (Ab B)) (F0 m 42 ls []) := by
  obtain ⟨hx, hb, hml, hown, hts, hr, hlk⟩ := id G
  intro n
  induction n with
  | zero =>
    intro x2 x3 x4 M H locs ls hl hC hf
    cases hf
  | succ n ih =>
    intro x2 x3 x4 M H locs ls hl hC hf
    have hf := (fX3_depth_42_s).symm.trans hf
    refine lv_iload hx hb dX3_depth_42 (lv_at hl 3 rfl) ?_
    refine lv_iload_n hx hb dX3_depth_44 rfl (lv_at hl 1 rfl) ?_
    refine lv_icmp_gt (tgt := 65) hx hb dX3_depth_45 (by decide) (fun h1 => ?_) (fun h1 => ?_)
    · have hf := it_t h1 hf
      refine lv_aload_n hx hb dX3_depth_65 rfl (lv_at hl 0 rfl) ?_
      refine lv_iconst (v := 0) hx hb dX3_depth_66 (by decide) ?_
      refine mg_put (ci := 3) (C := RX3) (T := TX3) (N := 5) (ty := .boolean) (v := .int 0) (x := 0) hx hb hts inX3_depth_X3 tyX3 tyX3_ok nmX3 hown hC 0 (by decide) rfl rfl 4 (by decide) (hts _ lkX3_depth_f76) rfl rfl (by decide +kernel) (by decide) rfl (Nat.le_of_ble_eq_true rfl) rfl dX3_depth_67 (fun H locs hC => ?_)
      obtain ⟨M2, eM2⟩ : ∃ z : Mem, z = mw M 0 4 0 := ⟨_, rfl⟩
      rw [← eM2] at hC
      have hf := lq_k eM2 hf
      refine lv_iconst (v := 1) hx hb dX3_depth_70 (by decide) ?_
      exact mr_Z hx hb hr hlk hC (by decide) hf dX3_depth_71
    · have hf := it_f h1 hf
      refine lv_aload_n hx hb dX3_depth_48 rfl (lv_at hl 0 rfl) ?_
      refine mg_get (ci := 3) (C := RX3) (T := TX3) (N := 5) (v := .ref (ad 1)) hx hb hts inX3_depth_X3 hown hC 0 (by decide) rfl rfl 0 (by decide) (hts _ lkX3_depth_f23) rfl rfl dX3_depth_49 ?_
      refine mg_get (ci := 0) (C := RX0) (T := TX0) (N := 5) (v := .ref (ad 2)) hx hb hts inX3_depth_X0 hown hC 1 (by decide) rfl rfl 1 (by decide) (hts _ lkX3_depth_f84) rfl rfl dX3_depth_52 ?_
      refine lv_iload hx hb dX3_depth_55 (lv_at hl 3 rfl) ?_
      refine lv_iload_n hx hb dX3_depth_57 rfl (lv_at hl 2 rfl) ?_
      obtain ⟨g3, hf⟩ := gd_s hf
      refine mg_iast (n := 6) (cA := ca 2) hx hb hC 2 0 (by decide) (fun _ => rfl) rfl g3 dX3_depth_58 (fun H locs hC => ?_)
      obtain ⟨M4, eM4⟩ : ∃ z : Mem, z = mw M 2 (x4 : Int32).toNatClampNeg x3 := ⟨_, rfl⟩
      rw [← eM4] at hC
      have hf := lq_k eM4 hf
      obtain ⟨z5, ez5⟩ : ∃ y : Int32, y = x4 + 1 := ⟨_, rfl⟩
      have hf := lq_k ez5 hf
      refine lv_iinc (v := z5) (lv' := [(4, .int z5), (0, .ref (ad 0)), (2, .int x2), (3, .int x3)]) hx hb dX3_depth_59 hl (k := 3) rfl (by rw [ez5]; rfl) (by decide) rfl (fun ls hl => ?_)
      refine lv_goto (tgt := 42) hx hb dX3_depth_62 (by decide) ?_
      exact ih x2 x3 z5 M4 _ _ _ (lv_sub hl [1, 2, 3, 0] rfl) hC hf
set_option maxHeartbeats 4000000 in
set_option maxRecDepth 100000 in
theorem kX3_depth (l : Launch) (D : va_G) (ad : Nat → Nat) (ca : Nat → ClassId) (B : Nat) (ov : Int64) (N : Nat) (x1 : Int32) (x2 : Int32) (x3 : Int32) (M : Mem) (r0 : Int32) (M0 : Mem) (hf : fX3_depth N x1 x2 x3 M = some (r0, M0)) : MtI l D ad ca B ov yX3_depth wsX3_depth (rmX3_depth) [.ref (ad 0), .int x1, .int x2, .int x3] M r0 M0 := by
  unfold fX3_depth at hf
  refine Met.ofW (cc := cX3_depth) (maxL := 5) (ret := (some .boolean)) (by decide) rfl ?_
  intro p e s m args below meth c s₁ Bd hml hv
  obtain ⟨rfl, hw⟩ := hv
  have G : Mx p s m ([.ref (ad 0), .int x1, .int x2, .int x3] : List Value).toArray meth c cX3_depth 5 wsX3_depth RX3 (some .boolean) := ⟨Bd.exec, Bd.bytes, hml, findClass_of_methodNamed Bd.named, atoms_spec (ws := wsX3_depth) Bd.pre, Bd.returns, Bd.notSynchronized⟩
  have hC := Cu.of hw
  have hl := lv_entry ([.ref (ad 0), .int x1, .int x2, .int x3]) (n := 5) (Nat.le_of_ble_eq_true rfl)
  rw [lg_entry_eq]
  generalize (lg_sl ([.ref (ad 0), .int x1, .int x2, .int x3]) ++ List.replicate (5 - (lg_sl ([.ref (ad 0), .int x1, .int x2, .int x3])).length) Slot.unset).toArray = ls at hl ⊢
  have hl : lv_has ls 5 [(0, .ref (ad 0)), (1, .int x1), (2, .int x2), (3, .int x3)] := hl
  obtain ⟨hx, hb, hml, hown, hts, hr, hlk⟩ := id G
  show W p l e (rmX3_depth) s m _ below meth c s.heap [] 0 0 (MQ below (va_Qi (fun (r : Int32) (_ : Unit) => r = r0) (fun _ t => Wp D ad ca B M0 ov t.heap) (Ab B)) _ s 0 0 (Ab B)) (F0 m 0 ls [])
  refine lv_aload_n hx hb dX3_depth_0 rfl (lv_at hl 0 rfl) ?_
  refine mg_get (ci := 3) (C := RX3) (T := TX3) (N := 5) (v := .ref (ad 1)) hx hb hts inX3_depth_X3 hown hC 0 (by decide) rfl rfl 0 (by decide) (hts _ lkX3_depth_f23) rfl rfl dX3_depth_1 ?_
  refine lv_iload_n hx hb dX3_depth_4 rfl (lv_at hl 1 rfl) ?_
  obtain ⟨r1, M2, hq, hf⟩ := bd_s hf
  refine mc_Vi (As := [.int x1]) ⟨hx, hb, hml, hown, hts⟩ hC (kX0_isPlace l D ad ca B ov N x1 M r1 M2 hq) (cwV 1 hts gX3_depth_X0_isPlace rfl rfl rfl (by decide +kernel) ⟨Nat.le_of_ble_eq_true rfl, Nat.le_of_ble_eq_true rfl⟩) (mg_recv (ci := 0) (C := RX0) (T := TX0) (N := 5) hC 1 (by decide) rfl rfl) rfl hl.1 rfl (Nat.le_of_ble_eq_true rfl) dX3_depth_5 ⟨Nat.zero_le _, Nat.zero_le _⟩ (fun H locs hC => ?_)
  refine lv_if_eq (tgt := 37) hx hb dX3_depth_8 (by decide) (fun h3 => ?_) (fun h3 => ?_)
  · have hf := it_t h3 hf
    refine lv_iconst (v := 0) hx hb dX3_depth_37 (by decide) ?_
    exact mr_Z hx hb hr hlk hC (by decide) hf dX3_depth_38
  · have hf := it_f h3 hf
    refine lv_aload_n hx hb dX3_depth_11 rfl (lv_at hl 0 rfl) ?_
    refine mg_get (ci := 3) (C := RX3) (T := TX3) (N := 5) (v := .ref (ad 1)) hx hb hts inX3_depth_X3 hown hC 0 (by decide) rfl rfl 0 (by decide) (hts _ lkX3_depth_f23) rfl rfl dX3_depth_12 ?_
    refine lv_iload_n hx hb dX3_depth_15 rfl (lv_at hl 2 rfl) ?_
    obtain ⟨r4, M5, hq, hf⟩ := bd_s hf
    refine mc_Vi (As := [.int x2]) ⟨hx, hb, hml, hown, hts⟩ hC (kX0_isPlace l D ad ca B ov N x2 M2 r4 M5 hq) (cwV 1 hts gX3_depth_X0_isPlace rfl rfl rfl (by decide +kernel) ⟨Nat.le_of_ble_eq_true rfl, Nat.le_of_ble_eq_true rfl⟩) (mg_recv (ci := 0) (C := RX0) (T := TX0) (N := 5) hC 1 (by decide) rfl rfl) rfl hl.1 rfl (Nat.le_of_ble_eq_true rfl) dX3_depth_16 ⟨Nat.zero_le _, Nat.zero_le _⟩ (fun H locs hC => ?_)
    refine lv_if_eq (tgt := 37) hx hb dX3_depth_19 (by decide) (fun h6 => ?_) (fun h6 => ?_)
    · have hf := it_t h6 hf
      refine lv_iconst (v := 0) hx hb dX3_depth_37 (by decide) ?_
      exact mr_Z hx hb hr hlk hC (by decide) hf dX3_depth_38
    · have hf := it_f h6 hf
      refine lv_iload_n hx hb dX3_depth_22 rfl (lv_at hl 1 rfl) ?_
      refine lv_iload_n hx hb dX3_depth_23 rfl (lv_at hl 2 rfl) ?_
      refine lv_icmp_gt (tgt := 37) hx hb dX3_depth_24 (by decide) (fun h7 => ?_) (fun h7 => ?_)
      · have hf := it_t h7 hf
        refine lv_iconst (v := 0) hx hb dX3_depth_37 (by decide) ?_
        exact mr_Z hx hb hr hlk hC (by decide) hf dX3_depth_38
      · have hf := it_f h7 hf
        refine lv_iload_n hx hb dX3_depth_27 rfl (lv_at hl 3 rfl) ?_
        refine lv_iconst (v := 0) hx hb dX3_depth_28 (by decide) ?_
        refine lv_bipush (v := 100) hx hb dX3_depth_29 (by decide) ?_
        obtain ⟨r8, M9, hq, hf⟩ := bd_s hf
        refine mc_Si (As := [.int x3, .int 0, .int 100]) ⟨hx, hb, hml, hown, hts⟩ hC (kX3_isWithin l D ad ca B ov N x3 0 100 M5 r8 M9 hq) (va_cwS 3 hts gX3_depth_X3_isWithin rfl rfl rfl (by decide +kernel) ⟨Nat.le_of_ble_eq_true rfl, Nat.le_of_ble_eq_true rfl⟩) rfl hl.1 rfl (Nat.le_of_ble_eq_true rfl) dX3_depth_31 ⟨Nat.zero_le _, Nat.zero_le _⟩ (fun H locs hC => ?_)
        refine lv_if_ne (tgt := 39) hx hb dX3_depth_34 (by decide) (fun h10 => ?_) (fun h10 => ?_)
        · have hf := it_f h10 hf
          refine lv_iload_n hx hb dX3_depth_39 rfl (lv_at hl 1 rfl) ?_
          refine lv_istore (lv' := [(4, .int x1), (0, .ref (ad 0)), (1, .int x1), (2, .int x2), (3, .int x3)]) hx hb dX3_depth_40 hl (by decide) rfl (fun ls hl => ?_)
          exact wX3_depth_42 G N N x2 x3 x1 M9 _ _ _ (lv_sub hl [1, 3, 4, 0] rfl) hC hf
        · have hf := it_t h10 hf
          refine lv_iconst (v := 0) hx hb dX3_depth_37 (by decide) ?_
          exact mr_Z hx hb hr hlk hC (by decide) hf dX3_depth_38

theorem lkX3_gear_f23 : Cond.fieldLink RX3 23 "BerthPlan" "quay" "LBerthPlan$Quay;" ∈ wsX3_gear := by decide +kernel
theorem lkX3_gear_f76 : Cond.fieldLink RX3 76 "BerthPlan" "planned" "Z" ∈ wsX3_gear := by decide +kernel
theorem lkX3_gear_f91 : Cond.fieldLink RX3 91 "BerthPlan$Quay" "gears" "[I" ∈ wsX3_gear := by decide +kernel
theorem inX3_gear_X0 : ∀ w ∈ wsX00, w ∈ wsX3_gear := by decide +kernel
theorem inX3_gear_X3 : ∀ w ∈ wsX30, w ∈ wsX3_gear := by decide +kernel
abbrev rmX3_gear : Room := { frames := 1, cells := 0, slots := 0, locals := 21 }
def fX3_gear (N : Nat) (x1 : Int32) (x2 : Int32) (x3 : Int32) (M : Mem) : Option (Int32 × Mem) :=
    bd (fX0_isPlace N x1 M) (fun r1 M2 => if (r1 = 0 : Prop) then (some (0, M2)) else (bd (fX3_isKind N x2 M2) (fun r4 M5 => if (r4 = 0 : Prop) then (some (0, M5)) else (gd (x1) 6 (bd (fX3_hasBit N (M5 3 (x1 : Int32).toNatClampNeg) x2 M5) (fun r8 M9 => if (r8 = x3 : Prop) then (some (0, M9)) else (gd (x1) 6 (gd (x1) 6 (lq (mw M9 3 (x1 : Int32).toNatClampNeg ((M9 3 (x1 : Int32).toNatClampNeg) ^^^ ((1 : Int32) <<< (x2 &&& 31)))) (fun M13 => lq (mw M13 0 4 0) (fun M14 => some (1, M14))))))))))))
set_option maxHeartbeats 4000000 in
set_option maxRecDepth 100000 in
theorem kX3_gear (l : Launch) (D : va_G) (ad : Nat → Nat) (ca : Nat → ClassId) (B : Nat) (ov : Int64) (N : Nat) (x1 : Int32) (x2 : Int32) (x3 : Int32) (M : Mem) (r0 : Int32) (M0 : Mem) (hf : fX3_gear N x1 x2 x3 M = some (r0, M0)) : MtI l D ad ca B ov yX3_gear wsX3_gear (rmX3_gear) [.ref (ad 0), .int x1, .int x2, .int x3] M r0 M0 := by
  unfold fX3_gear at hf
  refine Met.ofW (cc := cX3_gear) (maxL := 4) (ret := (some .boolean)) (by decide) rfl ?_
  intro p e s m args below meth c s₁ Bd hml hv
  obtain ⟨rfl, hw⟩ := hv
  have G : Mx p s m ([.ref (ad 0), .int x1, .int x2, .int x3] : List Value).toArray meth c cX3_gear 4 wsX3_gear RX3 (some .boolean) := ⟨Bd.exec, Bd.bytes, hml, findClass_of_methodNamed Bd.named, atoms_spec (ws := wsX3_gear) Bd.pre, Bd.returns, Bd.notSynchronized⟩
  have hC := Cu.of hw
  have hl := lv_entry ([.ref (ad 0), .int x1, .int x2, .int x3]) (n := 4) (Nat.le_of_ble_eq_true rfl)
  rw [lg_entry_eq]
  generalize (lg_sl ([.ref (ad 0), .int x1, .int x2, .int x3]) ++ List.replicate (4 - (lg_sl ([.ref (ad 0), .int x1, .int x2, .int x3])).length) Slot.unset).toArray = ls at hl ⊢
  have hl : lv_has ls 4 [(0, .ref (ad 0)), (1, .int x1), (2, .int x2), (3, .int x3)] := hl
  obtain ⟨hx, hb, hml, hown, hts, hr, hlk⟩ := id G
  show W p l e (rmX3_gear) s m _ below meth c s.heap [] 0 0 (MQ below (va_Qi (fun (r : Int32) (_ : Unit) => r = r0) (fun _ t => Wp D ad ca B M0 ov t.heap) (Ab B)) _ s 0 0 (Ab B)) (F0 m 0 ls [])
  refine lv_aload_n hx hb dX3_gear_0 rfl (lv_at hl 0 rfl) ?_
  refine mg_get (ci := 3) (C := RX3) (T := TX3) (N := 5) (v := .ref (ad 1)) hx hb hts inX3_gear_X3 hown hC 0 (by decide) rfl rfl 0 (by decide) (hts _ lkX3_gear_f23) rfl rfl dX3_gear_1 ?_
  refine lv_iload_n hx hb dX3_gear_4 rfl (lv_at hl 1 rfl) ?_
  obtain ⟨r1, M2, hq, hf⟩ := bd_s hf
  refine mc_Vi (As := [.int x1]) ⟨hx, hb, hml, hown, hts⟩ hC (kX0_isPlace l D ad ca B ov N x1 M r1 M2 hq) (cwV 1 hts gX3_gear_X0_isPlace rfl rfl rfl (by decide +kernel) ⟨Nat.le_of_ble_eq_true rfl, Nat.le_of_ble_eq_true rfl⟩) (mg_recv (ci := 0) (C := RX0) (T := TX0) (N := 5) hC 1 (by decide) rfl rfl) rfl hl.1 rfl (Nat.le_of_ble_eq_true rfl) dX3_gear_5 ⟨Nat.zero_le _, Nat.zero_le _⟩ (fun H locs hC => ?_)
  refine lv_if_eq (tgt := 35) hx hb dX3_gear_8 (by decide) (fun h3 => ?_) (fun h3 => ?_)
  · have hf := it_t h3 hf
    refine lv_iconst (v := 0) hx hb dX3_gear_35 (by decide) ?_
    exact mr_Z hx hb hr hlk hC (by decide) hf dX3_gear_36
  · have hf := it_f h3 hf
    refine lv_iload_n hx hb dX3_gear_11 rfl (lv_at hl 2 rfl) ?_
    obtain ⟨r4, M5, hq, hf⟩ := bd_s hf
    refine mc_Si (As := [.int x2]) ⟨hx, hb, hml, hown, hts⟩ hC (kX3_isKind l D ad ca B ov N x2 M2 r4 M5 hq) (va_cwS 1 hts gX3_gear_X3_isKind rfl rfl rfl (by decide +kernel) ⟨Nat.le_of_ble_eq_true rfl, Nat.le_of_ble_eq_true rfl⟩) rfl hl.1 rfl (Nat.le_of_ble_eq_true rfl) dX3_gear_12 ⟨Nat.zero_le _, Nat.zero_le _⟩ (fun H locs hC => ?_)
    refine lv_if_eq (tgt := 35) hx hb dX3_gear_15 (by decide) (fun h6 => ?_) (fun h6 => ?_)
    · have hf := it_t h6 hf
      refine lv_iconst (v := 0) hx hb dX3_gear_35 (by decide) ?_
      exact mr_Z hx hb hr hlk hC (by decide) hf dX3_gear_36
    · have hf := it_f h6 hf
      refine lv_aload_n hx hb dX3_gear_18 rfl (lv_at hl 0 rfl) ?_
      refine mg_get (ci := 3) (C := RX3) (T := TX3) (N := 5) (v := .ref (ad 1)) hx hb hts inX3_gear_X3 hown hC 0 (by decide) rfl rfl 0 (by decide) (hts _ lkX3_gear_f23) rfl rfl dX3_gear_19 ?_
      refine mg_get (ci := 0) (C := RX0) (T := TX0) (N := 5) (v := .ref (ad 3)) hx hb hts inX3_gear_X0 hown hC 1 (by decide) rfl rfl 2 (by decide) (hts _ lkX3_gear_f91) rfl rfl dX3_gear_22 ?_
      refine lv_iload_n hx hb dX3_gear_25 rfl (lv_at hl 1 rfl) ?_
      obtain ⟨g7, hf⟩ := gd_s hf
      refine mg_iald (n := 6) (cA := ca 3) hx hb hC 3 1 (by decide) rfl rfl g7 dX3_gear_26 ?_
      refine lv_iload_n hx hb dX3_gear_27 rfl (lv_at hl 2 rfl) ?_
      obtain ⟨r8, M9, hq, hf⟩ := bd_s hf
      refine mc_Si (As := [.int (M5 3 (x1 : Int32).toNatClampNeg), .int x2]) ⟨hx, hb, hml, hown, hts⟩ hC (kX3_hasBit l D ad ca B ov N (M5 3 (x1 : Int32).toNatClampNeg) x2 M5 r8 M9 hq) (va_cwS 2 hts gX3_gear_X3_hasBit rfl rfl rfl (by decide +kernel) ⟨Nat.le_of_ble_eq_true rfl, Nat.le_of_ble_eq_true rfl⟩) rfl hl.1 rfl (Nat.le_of_ble_eq_true rfl) dX3_gear_28 ⟨Nat.zero_le _, Nat.zero_le _⟩ (fun H locs hC => ?_)
      refine lv_iload_n hx hb dX3_gear_31 rfl (lv_at hl 3 rfl) ?_
      refine lv_icmp_ne (tgt := 37) hx hb dX3_gear_32 (by decide) (fun h10 => ?_) (fun h10 => ?_)
      · have hf := it_f h10 hf
        refine lv_aload_n hx hb dX3_gear_37 rfl (lv_at hl 0 rfl) ?_
        refine mg_get (ci := 3) (C := RX3) (T := TX3) (N := 5) (v := .ref (ad 1)) hx hb hts inX3_gear_X3 hown hC 0 (by decide) rfl rfl 0 (by decide) (hts _ lkX3_gear_f23) rfl rfl dX3_gear_38 ?_
        refine mg_get (ci := 0) (C := RX0) (T := TX0) (N := 5) (v := .ref (ad 3)) hx hb hts inX3_gear_X0 hown hC 1 (by decide) rfl rfl 2 (by decide) (hts _ lkX3_gear_f91) rfl rfl dX3_gear_41 ?_
        refine lv_iload_n hx hb dX3_gear_44 rfl (lv_at hl 1 rfl) ?_
        refine lv_dup2_11 hx hb dX3_gear_45 rfl rfl ?_
        obtain ⟨g11, hf⟩ := gd_s hf
        refine mg_iald (n := 6) (cA := ca 3) hx hb hC 3 1 (by decide) rfl rfl g11 dX3_gear_46 ?_
        refine lv_iconst (v := 1) hx hb dX3_gear_47 (by decide) ?_
        refine lv_iload_n hx hb dX3_gear_48 rfl (lv_at hl 2 rfl) ?_
        refine lv_ishl hx hb dX3_gear_49 ?_
        refine lv_ixor hx hb dX3_gear_50 ?_
        obtain ⟨g12, hf⟩ := gd_s hf
        refine mg_iast (n := 6) (cA := ca 3) hx hb hC 3 1 (by decide) (fun _ => rfl) rfl g12 dX3_gear_51 (fun H locs hC => ?_)
        obtain ⟨M13, eM13⟩ : ∃ z : Mem, z = mw M9 3 (x1 : Int32).toNatClampNeg ((M9 3 (x1 : Int32).toNatClampNeg) ^^^ ((1 : Int32) <<< (x2 &&& 31))) := ⟨_, rfl⟩
        rw [← eM13] at hC
        have hf := lq_k eM13 hf
        refine lv_aload_n hx hb dX3_gear_52 rfl (lv_at hl 0 rfl) ?_
        refine lv_iconst (v := 0) hx hb dX3_gear_53 (by decide) ?_
        refine mg_put (ci := 3) (C := RX3) (T := TX3) (N := 5) (ty := .boolean) (v := .int 0) (x := 0) hx hb hts inX3_gear_X3 tyX3 tyX3_ok nmX3 hown hC 0 (by decide) rfl rfl 4 (by decide) (hts _ lkX3_gear_f76) rfl rfl (by decide +kernel) (by decide) rfl (Nat.le_of_ble_eq_true rfl) rfl dX3_gear_54 (fun H locs hC => ?_)
        obtain ⟨M14, eM14⟩ : ∃ z : Mem, z = mw M13 0 4 0 := ⟨_, rfl⟩
        rw [← eM14] at hC
        have hf := lq_k eM14 hf
        refine lv_iconst (v := 1) hx hb dX3_gear_57 (by decide) ?_
        exact mr_Z hx hb hr hlk hC (by decide) hf dX3_gear_58
      · have hf := it_t h10 hf
        refine lv_iconst (v := 0) hx hb dX3_gear_35 (by decide) ?_
        exact mr_Z hx hb hr hlk hC (by decide) hf dX3_gear_36

theorem lkX3_wants_f29 : Cond.fieldLink RX3 29 "BerthPlan" "ships" "[LBerthPlan$Ship;" ∈ wsX3_wants := by decide +kernel
theorem lkX3_wants_f76 : Cond.fieldLink RX3 76 "BerthPlan" "planned" "Z" ∈ wsX3_wants := by decide +kernel
theorem lkX3_wants_f101 : Cond.fieldLink RX3 101 "BerthPlan$Ship" "wanted" "I" ∈ wsX3_wants := by decide +kernel
theorem inX3_wants_X2 : ∀ w ∈ wsX20, w ∈ wsX3_wants := by decide +kernel
theorem inX3_wants_X3 : ∀ w ∈ wsX30, w ∈ wsX3_wants := by decide +kernel
abbrev rmX3_wants : Room := { frames := 1, cells := 0, slots := 0, locals := 21 }
def fX3_wants (N : Nat) (x1 : Int32) (x2 : Int32) (x3 : Int32) (M : Mem) : Option (Int32 × Mem) :=
    bd (fX3_isShip N x1 M) (fun r1 M2 => if (r1 = 0 : Prop) then (some (0, M2)) else (bd (fX3_isKind N x2 M2) (fun r4 M5 => if (r4 = 0 : Prop) then (some (0, M5)) else (gd (x1) 4 (bd (fX3_hasBit N (M5 (5 + (x1 : Int32).toNatClampNeg) 5) x2 M5) (fun r8 M9 => if (r8 = x3 : Prop) then (some (0, M9)) else (gd (x1) 4 (lq (mw M9 (5 + (x1 : Int32).toNatClampNeg) 5 ((M9 (5 + (x1 : Int32).toNatClampNeg) 5) ^^^ ((1 : Int32) <<< (x2 &&& 31)))) (fun M12 => lq (mw M12 0 4 0) (fun M13 => some (1, M13)))))))))))
set_option maxHeartbeats 4000000 in
set_option maxRecDepth 100000 in
theorem kX3_wants (l : Launch) (D : va_G) (ad : Nat → Nat) (ca : Nat → ClassId) (B : Nat) (ov : Int64) (N : Nat) (x1 : Int32) (x2 : Int32) (x3 : Int32) (M : Mem) (r0 : Int32) (M0 : Mem) (hf : fX3_wants N x1 x2 x3 M = some (r0, M0)) : MtI l D ad ca B ov yX3_wants wsX3_wants (rmX3_wants) [.ref (ad 0), .int x1, .int x2, .int x3] M r0 M0 := by
  unfold fX3_wants at hf
  refine Met.ofW (cc := cX3_wants) (maxL := 4) (ret := (some .boolean)) (by decide) rfl ?_
  intro p e s m args below meth c s₁ Bd hml hv
  obtain ⟨rfl, hw⟩ := hv
  have G : Mx p s m ([.ref (ad 0), .int x1, .int x2, .int x3] : List Value).toArray meth c cX3_wants 4 wsX3_wants RX3 (some .boolean) := ⟨Bd.exec, Bd.bytes, hml, findClass_of_methodNamed Bd.named, atoms_spec (ws := wsX3_wants) Bd.pre, Bd.returns, Bd.notSynchronized⟩
  have hC := Cu.of hw
  have hl := lv_entry ([.ref (ad 0), .int x1, .int x2, .int x3]) (n := 4) (Nat.le_of_ble_eq_true rfl)
  rw [lg_entry_eq]
  generalize (lg_sl ([.ref (ad 0), .int x1, .int x2, .int x3]) ++ List.replicate (4 - (lg_sl ([.ref (ad 0), .int x1, .int x2, .int x3])).length) Slot.unset).toArray = ls at hl ⊢
  have hl : lv_has ls 4 [(0, .ref (ad 0)), (1, .int x1), (2, .int x2), (3, .int x3)] := hl
  obtain ⟨hx, hb, hml, hown, hts, hr, hlk⟩ := id G
  show W p l e (rmX3_wants) s m _ below meth c s.heap [] 0 0 (MQ below (va_Qi (fun (r : Int32) (_ : Unit) => r = r0) (fun _ t => Wp D ad ca B M0 ov t.heap) (Ab B)) _ s 0 0 (Ab B)) (F0 m 0 ls [])
  refine lv_aload_n hx hb dX3_wants_0 rfl (lv_at hl 0 rfl) ?_
  refine lv_iload_n hx hb dX3_wants_1 rfl (lv_at hl 1 rfl) ?_
  obtain ⟨r1, M2, hq, hf⟩ := bd_s hf
  refine mc_Vi (As := [.int x1]) ⟨hx, hb, hml, hown, hts⟩ hC (kX3_isShip l D ad ca B ov N x1 M r1 M2 hq) (cwV 1 hts gX3_wants_X3_isShip rfl rfl rfl (by decide +kernel) ⟨Nat.le_of_ble_eq_true rfl, Nat.le_of_ble_eq_true rfl⟩) (mg_recv (ci := 3) (C := RX3) (T := TX3) (N := 5) hC 0 (by decide) rfl rfl) rfl hl.1 rfl (Nat.le_of_ble_eq_true rfl) dX3_wants_2 ⟨Nat.zero_le _, Nat.zero_le _⟩ (fun H locs hC => ?_)
  refine lv_if_eq (tgt := 32) hx hb dX3_wants_5 (by decide) (fun h3 => ?_) (fun h3 => ?_)
  · have hf := it_t h3 hf
    refine lv_iconst (v := 0) hx hb dX3_wants_32 (by decide) ?_
    exact mr_Z hx hb hr hlk hC (by decide) hf dX3_wants_33
  · have hf := it_f h3 hf
    refine lv_iload_n hx hb dX3_wants_8 rfl (lv_at hl 2 rfl) ?_
    obtain ⟨r4, M5, hq, hf⟩ := bd_s hf
    refine mc_Si (As := [.int x2]) ⟨hx, hb, hml, hown, hts⟩ hC (kX3_isKind l D ad ca B ov N x2 M2 r4 M5 hq) (va_cwS 1 hts gX3_wants_X3_isKind rfl rfl rfl (by decide +kernel) ⟨Nat.le_of_ble_eq_true rfl, Nat.le_of_ble_eq_true rfl⟩) rfl hl.1 rfl (Nat.le_of_ble_eq_true rfl) dX3_wants_9 ⟨Nat.zero_le _, Nat.zero_le _⟩ (fun H locs hC => ?_)
    refine lv_if_eq (tgt := 32) hx hb dX3_wants_12 (by decide) (fun h6 => ?_) (fun h6 => ?_)
    · have hf := it_t h6 hf
      refine lv_iconst (v := 0) hx hb dX3_wants_32 (by decide) ?_
      exact mr_Z hx hb hr hlk hC (by decide) hf dX3_wants_33
    · have hf := it_f h6 hf
      refine lv_aload_n hx hb dX3_wants_15 rfl (lv_at hl 0 rfl) ?_
      refine mg_get (ci := 3) (C := RX3) (T := TX3) (N := 5) (v := .ref (ad 4)) hx hb hts inX3_wants_X3 hown hC 0 (by decide) rfl rfl 1 (by decide) (hts _ lkX3_wants_f29) rfl rfl dX3_wants_16 ?_
      refine lv_iload_n hx hb dX3_wants_19 rfl (lv_at hl 1 rfl) ?_
      obtain ⟨g7, hf⟩ := gd_s hf
      refine mg_aald hx hb hC g7 dX3_wants_20 ?_
      refine mg_get (ci := 2) (C := RX2) (T := TX2) (N := 11) (v := .int (M5 (5 + (x1 : Int32).toNatClampNeg) 5)) hx hb hts inX3_wants_X2 hown hC (5 + (x1 : Int32).toNatClampNeg) (sh_lt (sh_in g7)) (cell_sh (sh_in g7) _) rfl 5 (by decide) (hts _ lkX3_wants_f101) rfl rfl dX3_wants_21 ?_
      refine lv_iload_n hx hb dX3_wants_24 rfl (lv_at hl 2 rfl) ?_
      obtain ⟨r8, M9, hq, hf⟩ := bd_s hf
      refine mc_Si (As := [.int (M5 (5 + (x1 : Int32).toNatClampNeg) 5), .int x2]) ⟨hx, hb, hml, hown, hts⟩ hC (kX3_hasBit l D ad ca B ov N (M5 (5 + (x1 : Int32).toNatClampNeg) 5) x2 M5 r8 M9 hq) (va_cwS 2 hts gX3_wants_X3_hasBit rfl rfl rfl (by decide +kernel) ⟨Nat.le_of_ble_eq_true rfl, Nat.le_of_ble_eq_true rfl⟩) rfl hl.1 rfl (Nat.le_of_ble_eq_true rfl) dX3_wants_25 ⟨Nat.zero_le _, Nat.zero_le _⟩ (fun H locs hC => ?_)
      refine lv_iload_n hx hb dX3_wants_28 rfl (lv_at hl 3 rfl) ?_
      refine lv_icmp_ne (tgt := 34) hx hb dX3_wants_29 (by decide) (fun h10 => ?_) (fun h10 => ?_)
      · have hf := it_f h10 hf
        refine lv_aload_n hx hb dX3_wants_34 rfl (lv_at hl 0 rfl) ?_
        refine mg_get (ci := 3) (C := RX3) (T := TX3) (N := 5) (v := .ref (ad 4)) hx hb hts inX3_wants_X3 hown hC 0 (by decide) rfl rfl 1 (by decide) (hts _ lkX3_wants_f29) rfl rfl dX3_wants_35 ?_
        refine lv_iload_n hx hb dX3_wants_38 rfl (lv_at hl 1 rfl) ?_
        obtain ⟨g11, hf⟩ := gd_s hf
        refine mg_aald hx hb hC g11 dX3_wants_39 ?_
        refine lv_dup hx hb dX3_wants_40 rfl ?_
        refine mg_get (ci := 2) (C := RX2) (T := TX2) (N := 11) (v := .int (M9 (5 + (x1 : Int32).toNatClampNeg) 5)) hx hb hts inX3_wants_X2 hown hC (5 + (x1 : Int32).toNatClampNeg) (sh_lt (sh_in g11)) (cell_sh (sh_in g11) _) rfl 5 (by decide) (hts _ lkX3_wants_f101) rfl rfl dX3_wants_41 ?_
        refine lv_iconst (v := 1) hx hb dX3_wants_44 (by decide) ?_
        refine lv_iload_n hx hb dX3_wants_45 rfl (lv_at hl 2 rfl) ?_
        refine lv_ishl hx hb dX3_wants_46 ?_
        refine lv_ixor hx hb dX3_wants_47 ?_
        refine mg_put (ci := 2) (C := RX2) (T := TX2) (N := 11) (ty := .int) (v := .int ((M9 (5 + (x1 : Int32).toNatClampNeg) 5) ^^^ ((1 : Int32) <<< (x2 &&& 31)))) (x := (M9 (5 + (x1 : Int32).toNatClampNeg) 5) ^^^ ((1 : Int32) <<< (x2 &&& 31))) hx hb hts inX3_wants_X2 tyX2 tyX2_ok nmX2 hown hC (5 + (x1 : Int32).toNatClampNeg) (sh_lt (sh_in g11)) (cell_sh (sh_in g11) _) rfl 5 (by decide) (hts _ lkX3_wants_f101) rfl rfl (by decide +kernel) rfl rfl (Nat.le_of_ble_eq_true rfl) (cell_sh (sh_in g11) _) dX3_wants_48 (fun H locs hC => ?_)
        obtain ⟨M12, eM12⟩ : ∃ z : Mem, z = mw M9 (5 + (x1 : Int32).toNatClampNeg) 5 ((M9 (5 + (x1 : Int32).toNatClampNeg) 5) ^^^ ((1 : Int32) <<< (x2 &&& 31))) := ⟨_, rfl⟩
        rw [← eM12] at hC
        have hf := lq_k eM12 hf
        refine lv_aload_n hx hb dX3_wants_51 rfl (lv_at hl 0 rfl) ?_
        refine lv_iconst (v := 0) hx hb dX3_wants_52 (by decide) ?_
        refine mg_put (ci := 3) (C := RX3) (T := TX3) (N := 5) (ty := .boolean) (v := .int 0) (x := 0) hx hb hts inX3_wants_X3 tyX3 tyX3_ok nmX3 hown hC 0 (by decide) rfl rfl 4 (by decide) (hts _ lkX3_wants_f76) rfl rfl (by decide +kernel) (by decide) rfl (Nat.le_of_ble_eq_true rfl) rfl dX3_wants_53 (fun H locs hC => ?_)
        obtain ⟨M13, eM13⟩ : ∃ z : Mem, z = mw M12 0 4 0 := ⟨_, rfl⟩
        rw [← eM13] at hC
        have hf := lq_k eM13 hf
        refine lv_iconst (v := 1) hx hb dX3_wants_56 (by decide) ?_
        exact mr_Z hx hb hr hlk hC (by decide) hf dX3_wants_57
      · have hf := it_t h10 hf
        refine lv_iconst (v := 0) hx hb dX3_wants_32 (by decide) ?_
        exact mr_Z hx hb hr hlk hC (by decide) hf dX3_wants_33

theorem lkX3_tide_f23 : Cond.fieldLink RX3 23 "BerthPlan" "quay" "LBerthPlan$Quay;" ∈ wsX3_tide := by decide +kernel
theorem lkX3_tide_f76 : Cond.fieldLink RX3 76 "BerthPlan" "planned" "Z" ∈ wsX3_tide := by decide +kernel
theorem lkX3_tide_f104 : Cond.fieldLink RX3 104 "BerthPlan$Quay" "tideSpans" "I" ∈ wsX3_tide := by decide +kernel
theorem lkX3_tide_f107 : Cond.fieldLink RX3 107 "BerthPlan$Quay" "tideHours" "I" ∈ wsX3_tide := by decide +kernel
theorem inX3_tide_X0 : ∀ w ∈ wsX00, w ∈ wsX3_tide := by decide +kernel
theorem inX3_tide_X3 : ∀ w ∈ wsX30, w ∈ wsX3_tide := by decide +kernel
abbrev rmX3_tide : Room := { frames := 1, cells := 0, slots := 0, locals := 23 }
def fX3_tide_25 (N : Nat) (x1 : Int32) (x2 : Int32) (y0 : Int32) (M : Mem) : Option (Int32 × Mem) :=
    if (y0 = 0 : Prop) then (some (0, M)) else (if (x2 < x1 : Prop) then (some (0, M)) else (if ((M 1 4) < 8 : Prop) then (bd (fX3_beginsBetween N x1 x2 M) (fun r4 M5 => lq (mw M5 1 3 ((M 1 3) ||| r4)) (fun M6 => lq (mw M6 1 4 ((M6 1 4) + (1 : Int32))) (fun M7 => lq (mw M7 0 4 0) (fun M8 => some (1, M8)))))) else (some (0, M))))
def fX3_tide (N : Nat) (x1 : Int32) (x2 : Int32) (M : Mem) : Option (Int32 × Mem) :=
    bd (fX3_isWithin N x1 0 39 M) (fun r1 M2 => if (r1 = 0 : Prop) then (fX3_tide_25 N x1 x2 0 M2) else (bd (fX3_isWithin N x2 0 39 M2) (fun r4 M5 => if (r4 = 0 : Prop) then (fX3_tide_25 N x1 x2 0 M5) else (fX3_tide_25 N x1 x2 1 M5))))
set_option maxHeartbeats 4000000 in
set_option maxRecDepth 100000 in
theorem wX3_tide_25 {p : Program} {l : Launch} {e : Env} {s : State} {m : MethodId} {args : Array Value} {below : List Frame} {meth : Method} {c : Code} {D : va_G} {ad : Nat → Nat} {ca : Nat → ClassId} {B : Nat} {ov : Int64} {r0 : Int32} {M0 : Mem} (G : Mx p s m args meth c cX3_tide 4 wsX3_tide RX3 (some .boolean)) (N : Nat) : ∀ (x1 : Int32) (x2 : Int32) (y0 : Int32) (M : Mem) (H : Heap) (locs : List Loc) (ls : Array Slot), lv_has ls 4 [(0, .ref (ad 0)), (1, .int x1), (2, .int x2)] → Cu D ad ca B M ov s H locs → (fX3_tide_25 N) x1 x2 y0 M = some (r0, M0) → W p l e (rmX3_tide) s m args below meth c H locs 0 0 (MQ below (va_Qi (fun (r : Int32) (_ : Unit) => r = r0) (fun _ t => Wp D ad ca B M0 ov t.heap) (Ab B)) args s 0 0 (Ab B)) (F0 m 25 ls [.int y0]) := by
  obtain ⟨hx, hb, hml, hown, hts, hr, hlk⟩ := id G
  intro x1 x2 y0 M H locs ls hl hC hf
  unfold fX3_tide_25 at hf
  refine lv_istore_n (lv' := [(3, .int y0), (0, .ref (ad 0)), (1, .int x1), (2, .int x2)]) hx hb dX3_tide_25 rfl hl (by decide) rfl (fun ls hl => ?_)
  refine lv_iload_n hx hb dX3_tide_26 rfl (lv_at hl 0 rfl) ?_
  refine lv_if_eq (tgt := 47) hx hb dX3_tide_27 (by decide) (fun h1 => ?_) (fun h1 => ?_)
  · have hf := it_t h1 hf
    refine lv_iconst (v := 0) hx hb dX3_tide_47 (by decide) ?_
    exact mr_Z hx hb hr hlk hC (by decide) hf dX3_tide_48
  · have hf := it_f h1 hf
    refine lv_iload_n hx hb dX3_tide_30 rfl (lv_at hl 2 rfl) ?_
    refine lv_iload_n hx hb dX3_tide_31 rfl (lv_at hl 3 rfl) ?_
    refine lv_icmp_gt (tgt := 47) hx hb dX3_tide_32 (by decide) (fun h2 => ?_) (fun h2 => ?_)
    · have hf := it_t h2 hf
      refine lv_iconst (v := 0) hx hb dX3_tide_47 (by decide) ?_
      exact mr_Z hx hb hr hlk hC (by decide) hf dX3_tide_48
    · have hf := it_f h2 hf
      refine lv_aload_n hx hb dX3_tide_35 rfl (lv_at hl 1 rfl) ?_
      refine mg_get (ci := 3) (C := RX3) (T := TX3) (N := 5) (v := .ref (ad 1)) hx hb hts inX3_tide_X3 hown hC 0 (by decide) rfl rfl 0 (by decide) (hts _ lkX3_tide_f23) rfl rfl dX3_tide_36 ?_
      refine mg_get (ci := 0) (C := RX0) (T := TX0) (N := 5) (v := .int (M 1 4)) hx hb hts inX3_tide_X0 hown hC 1 (by decide) rfl rfl 4 (by decide) (hts _ lkX3_tide_f104) rfl rfl dX3_tide_39 ?_
      refine lv_bipush (v := 8) hx hb dX3_tide_42 (by decide) ?_
      refine lv_icmp_lt (tgt := 49) hx hb dX3_tide_44 (by decide) (fun h3 => ?_) (fun h3 => ?_)
      · have hf := it_t h3 hf
        refine lv_aload_n hx hb dX3_tide_49 rfl (lv_at hl 1 rfl) ?_
        refine mg_get (ci := 3) (C := RX3) (T := TX3) (N := 5) (v := .ref (ad 1)) hx hb hts inX3_tide_X3 hown hC 0 (by decide) rfl rfl 0 (by decide) (hts _ lkX3_tide_f23) rfl rfl dX3_tide_50 ?_
        refine lv_dup hx hb dX3_tide_53 rfl ?_
        refine mg_get (ci := 0) (C := RX0) (T := TX0) (N := 5) (v := .int (M 1 3)) hx hb hts inX3_tide_X0 hown hC 1 (by decide) rfl rfl 3 (by decide) (hts _ lkX3_tide_f107) rfl rfl dX3_tide_54 ?_
        refine lv_iload_n hx hb dX3_tide_57 rfl (lv_at hl 2 rfl) ?_
        refine lv_iload_n hx hb dX3_tide_58 rfl (lv_at hl 3 rfl) ?_
        obtain ⟨r4, M5, hq, hf⟩ := bd_s hf
        refine mc_Si (As := [.int x1, .int x2]) ⟨hx, hb, hml, hown, hts⟩ hC (kX3_beginsBetween l D ad ca B ov N x1 x2 M r4 M5 hq) (va_cwS 2 hts gX3_tide_X3_beginsBetween rfl rfl rfl (by decide +kernel) ⟨Nat.le_of_ble_eq_true rfl, Nat.le_of_ble_eq_true rfl⟩) rfl hl.1 rfl (Nat.le_of_ble_eq_true rfl) dX3_tide_59 ⟨Nat.zero_le _, Nat.zero_le _⟩ (fun H locs hC => ?_)
        refine lv_ior hx hb dX3_tide_62 ?_
        refine mg_put (ci := 0) (C := RX0) (T := TX0) (N := 5) (ty := .int) (v := .int ((M 1 3) ||| r4)) (x := (M 1 3) ||| r4) hx hb hts inX3_tide_X0 tyX0 tyX0_ok nmX0 hown hC 1 (by decide) rfl rfl 3 (by decide) (hts _ lkX3_tide_f107) rfl rfl (by decide +kernel) rfl rfl (Nat.le_of_ble_eq_true rfl) rfl dX3_tide_63 (fun H locs hC => ?_)
        obtain ⟨M6, eM6⟩ : ∃ z : Mem, z = mw M5 1 3 ((M 1 3) ||| r4) := ⟨_, rfl⟩
        rw [← eM6] at hC
        have hf := lq_k eM6 hf
        refine lv_aload_n hx hb dX3_tide_66 rfl (lv_at hl 1 rfl) ?_
        refine mg_get (ci := 3) (C := RX3) (T := TX3) (N := 5) (v := .ref (ad 1)) hx hb hts inX3_tide_X3 hown hC 0 (by decide) rfl rfl 0 (by decide) (hts _ lkX3_tide_f23) rfl rfl dX3_tide_67 ?_
        refine lv_dup hx hb dX3_tide_70 rfl ?_
        refine mg_get (ci := 0) (C := RX0) (T := TX0) (N := 5) (v := .int (M6 1 4)) hx hb hts inX3_tide_X0 hown hC 1 (by decide) rfl rfl 4 (by decide) (hts _ lkX3_tide_f104) rfl rfl dX3_tide_71 ?_
        refine lv_iconst (v := 1) hx hb dX3_tide_74 (by decide) ?_
        refine lv_iadd hx hb dX3_tide_75 ?_
        refine mg_put (ci := 0) (C := RX0) (T := TX0) (N := 5) (ty := .int) (v := .int ((M6 1 4) + (1 : Int32))) (x := (M6 1 4) + (1 : Int32)) hx hb hts inX3_tide_X0 tyX0 tyX0_ok nmX0 hown hC 1 (by decide) rfl rfl 4 (by decide) (hts _ lkX3_tide_f104) rfl rfl (by decide +kernel) rfl rfl (Nat.le_of_ble_eq_true rfl) rfl dX3_tide_76 (fun H locs hC => ?_)
        obtain ⟨M7, eM7⟩ : ∃ z : Mem, z = mw M6 1 4 ((M6 1 4) + (1 : Int32)) := ⟨_, rfl⟩
        rw [← eM7] at hC
        have hf := lq_k eM7 hf
        refine lv_aload_n hx hb dX3_tide_79 rfl (lv_at hl 1 rfl) ?_
        refine lv_iconst (v := 0) hx hb dX3_tide_80 (by decide) ?_
        refine mg_put (ci := 3) (C := RX3) (T := TX3) (N := 5) (ty := .boolean) (v := .int 0) (x := 0) hx hb hts inX3_tide_X3 tyX3 tyX3_ok nmX3 hown hC 0 (by decide) rfl rfl 4 (by decide) (hts _ lkX3_tide_f76) rfl rfl (by decide +kernel) (by decide) rfl (Nat.le_of_ble_eq_true rfl) rfl dX3_tide_81 (fun H locs hC => ?_)
        obtain ⟨M8, eM8⟩ : ∃ z : Mem, z = mw M7 0 4 0 := ⟨_, rfl⟩
        rw [← eM8] at hC
        have hf := lq_k eM8 hf
        refine lv_iconst (v := 1) hx hb dX3_tide_84 (by decide) ?_
        exact mr_Z hx hb hr hlk hC (by decide) hf dX3_tide_85
      · have hf := it_f h3 hf
        refine lv_iconst (v := 0) hx hb dX3_tide_47 (by decide) ?_
        exact mr_Z hx hb hr hlk hC (by decide) hf dX3_tide_48
set_option maxHeartbeats 4000000 in
set_option maxRecDepth 100000 in
theorem kX3_tide (l : Launch) (D : va_G) (ad : Nat → Nat) (ca : Nat → ClassId) (B : Nat) (ov : Int64) (N : Nat) (x1 : Int32) (x2 : Int32) (M : Mem) (r0 : Int32) (M0 : Mem) (hf : fX3_tide N x1 x2 M = some (r0, M0)) : MtI l D ad ca B ov yX3_tide wsX3_tide (rmX3_tide) [.ref (ad 0), .int x1, .int x2] M r0 M0 := by
  unfold fX3_tide at hf
  refine Met.ofW (cc := cX3_tide) (maxL := 4) (ret := (some .boolean)) (by decide) rfl ?_
  intro p e s m args below meth c s₁ Bd hml hv
  obtain ⟨rfl, hw⟩ := hv
  have G : Mx p s m ([.ref (ad 0), .int x1, .int x2] : List Value).toArray meth c cX3_tide 4 wsX3_tide RX3 (some .boolean) := ⟨Bd.exec, Bd.bytes, hml, findClass_of_methodNamed Bd.named, atoms_spec (ws := wsX3_tide) Bd.pre, Bd.returns, Bd.notSynchronized⟩
  have hC := Cu.of hw
  have hl := lv_entry ([.ref (ad 0), .int x1, .int x2]) (n := 4) (Nat.le_of_ble_eq_true rfl)
  rw [lg_entry_eq]
  generalize (lg_sl ([.ref (ad 0), .int x1, .int x2]) ++ List.replicate (4 - (lg_sl ([.ref (ad 0), .int x1, .int x2])).length) Slot.unset).toArray = ls at hl ⊢
  have hl : lv_has ls 4 [(0, .ref (ad 0)), (1, .int x1), (2, .int x2)] := hl
  obtain ⟨hx, hb, hml, hown, hts, hr, hlk⟩ := id G
  show W p l e (rmX3_tide) s m _ below meth c s.heap [] 0 0 (MQ below (va_Qi (fun (r : Int32) (_ : Unit) => r = r0) (fun _ t => Wp D ad ca B M0 ov t.heap) (Ab B)) _ s 0 0 (Ab B)) (F0 m 0 ls [])
  refine lv_iload_n hx hb dX3_tide_0 rfl (lv_at hl 1 rfl) ?_
  refine lv_iconst (v := 0) hx hb dX3_tide_1 (by decide) ?_
  refine lv_bipush (v := 39) hx hb dX3_tide_2 (by decide) ?_
  obtain ⟨r1, M2, hq, hf⟩ := bd_s hf
  refine mc_Si (As := [.int x1, .int 0, .int 39]) ⟨hx, hb, hml, hown, hts⟩ hC (kX3_isWithin l D ad ca B ov N x1 0 39 M r1 M2 hq) (va_cwS 3 hts gX3_tide_X3_isWithin rfl rfl rfl (by decide +kernel) ⟨Nat.le_of_ble_eq_true rfl, Nat.le_of_ble_eq_true rfl⟩) rfl hl.1 rfl (Nat.le_of_ble_eq_true rfl) dX3_tide_4 ⟨Nat.zero_le _, Nat.zero_le _⟩ (fun H locs hC => ?_)
  refine lv_if_eq (tgt := 24) hx hb dX3_tide_7 (by decide) (fun h3 => ?_) (fun h3 => ?_)
  · have hf := it_t h3 hf
    refine lv_iconst (v := 0) hx hb dX3_tide_24 (by decide) ?_
    exact wX3_tide_25 G N x1 x2 0 M2 _ _ _ (lv_sub hl [0, 1, 2] rfl) hC hf
  · have hf := it_f h3 hf
    refine lv_iload_n hx hb dX3_tide_10 rfl (lv_at hl 2 rfl) ?_
    refine lv_iconst (v := 0) hx hb dX3_tide_11 (by decide) ?_
    refine lv_bipush (v := 39) hx hb dX3_tide_12 (by decide) ?_
    obtain ⟨r4, M5, hq, hf⟩ := bd_s hf
    refine mc_Si (As := [.int x2, .int 0, .int 39]) ⟨hx, hb, hml, hown, hts⟩ hC (kX3_isWithin l D ad ca B ov N x2 0 39 M2 r4 M5 hq) (va_cwS 3 hts gX3_tide_X3_isWithin rfl rfl rfl (by decide +kernel) ⟨Nat.le_of_ble_eq_true rfl, Nat.le_of_ble_eq_true rfl⟩) rfl hl.1 rfl (Nat.le_of_ble_eq_true rfl) dX3_tide_14 ⟨Nat.zero_le _, Nat.zero_le _⟩ (fun H locs hC => ?_)
    refine lv_if_eq (tgt := 24) hx hb dX3_tide_17 (by decide) (fun h6 => ?_) (fun h6 => ?_)
    · have hf := it_t h6 hf
      refine lv_iconst (v := 0) hx hb dX3_tide_24 (by decide) ?_
      exact wX3_tide_25 G N x1 x2 0 M5 _ _ _ (lv_sub hl [0, 1, 2] rfl) hC hf
    · have hf := it_f h6 hf
      refine lv_iconst (v := 1) hx hb dX3_tide_20 (by decide) ?_
      refine lv_goto (tgt := 25) hx hb dX3_tide_21 (by decide) ?_
      exact wX3_tide_25 G N x1 x2 1 M5 _ _ _ (lv_sub hl [0, 1, 2] rfl) hC hf

theorem lkX3_fix_f23 : Cond.fieldLink RX3 23 "BerthPlan" "quay" "LBerthPlan$Quay;" ∈ wsX3_fix := by decide +kernel
theorem lkX3_fix_f29 : Cond.fieldLink RX3 29 "BerthPlan" "ships" "[LBerthPlan$Ship;" ∈ wsX3_fix := by decide +kernel
theorem lkX3_fix_f61 : Cond.fieldLink RX3 61 "BerthPlan$Ship" "length" "I" ∈ wsX3_fix := by decide +kernel
theorem lkX3_fix_f76 : Cond.fieldLink RX3 76 "BerthPlan" "planned" "Z" ∈ wsX3_fix := by decide +kernel
theorem lkX3_fix_f119 : Cond.fieldLink RX3 119 "BerthPlan$Ship" "isFixed" "Z" ∈ wsX3_fix := by decide +kernel
theorem lkX3_fix_f122 : Cond.fieldLink RX3 122 "BerthPlan$Ship" "fixedPlace" "I" ∈ wsX3_fix := by decide +kernel
theorem lkX3_fix_f125 : Cond.fieldLink RX3 125 "BerthPlan$Ship" "fixedHour" "I" ∈ wsX3_fix := by decide +kernel
theorem inX3_fix_X2 : ∀ w ∈ wsX20, w ∈ wsX3_fix := by decide +kernel
theorem inX3_fix_X3 : ∀ w ∈ wsX30, w ∈ wsX3_fix := by decide +kernel
abbrev rmX3_fix : Room := { frames := 2, cells := 0, slots := 0, locals := 49 }
def fX3_fix (N : Nat) (x1 : Int32) (x2 : Int32) (x3 : Int32) (M : Mem) : Option (Int32 × Mem) :=
    bd (fX3_isShip N x1 M) (fun r1 M2 => if (r1 = 0 : Prop) then (some (0, M2)) else (bd (fX3_isWithin N x3 0 15 M2) (fun r4 M5 => if (r4 = 0 : Prop) then (some (0, M5)) else (gd (x1) 4 (bd (fX0_isRow N x2 (M5 (5 + (x1 : Int32).toNatClampNeg) 0) M5) (fun r8 M9 => if (r8 = 0 : Prop) then (some (0, M9)) else (bd (fX3_meetsFixed N x1 x2 x3 M9) (fun r11 M12 => if (r11 = 0 : Prop) then (lq (mw M12 (5 + (x1 : Int32).toNatClampNeg) 6 1) (fun M14 => lq (mw M14 (5 + (x1 : Int32).toNatClampNeg) 7 x2) (fun M15 => lq (mw M15 (5 + (x1 : Int32).toNatClampNeg) 8 x3) (fun M16 => lq (mw M16 0 4 0) (fun M17 => some (1, M17)))))) else (some (0, M12))))))))))
set_option maxHeartbeats 4000000 in
set_option maxRecDepth 100000 in
theorem kX3_fix (l : Launch) (D : va_G) (ad : Nat → Nat) (ca : Nat → ClassId) (B : Nat) (ov : Int64) (N : Nat) (x1 : Int32) (x2 : Int32) (x3 : Int32) (M : Mem) (r0 : Int32) (M0 : Mem) (hf : fX3_fix N x1 x2 x3 M = some (r0, M0)) : MtI l D ad ca B ov yX3_fix wsX3_fix (rmX3_fix) [.ref (ad 0), .int x1, .int x2, .int x3] M r0 M0 := by
  unfold fX3_fix at hf
  refine Met.ofW (cc := cX3_fix) (maxL := 5) (ret := (some .boolean)) (by decide) rfl ?_
  intro p e s m args below meth c s₁ Bd hml hv
  obtain ⟨rfl, hw⟩ := hv
  have G : Mx p s m ([.ref (ad 0), .int x1, .int x2, .int x3] : List Value).toArray meth c cX3_fix 5 wsX3_fix RX3 (some .boolean) := ⟨Bd.exec, Bd.bytes, hml, findClass_of_methodNamed Bd.named, atoms_spec (ws := wsX3_fix) Bd.pre, Bd.returns, Bd.notSynchronized⟩
  have hC := Cu.of hw
  have hl := lv_entry ([.ref (ad 0), .int x1, .int x2, .int x3]) (n := 5) (Nat.le_of_ble_eq_true rfl)
  rw [lg_entry_eq]
  generalize (lg_sl ([.ref (ad 0), .int x1, .int x2, .int x3]) ++ List.replicate (5 - (lg_sl ([.ref (ad 0), .int x1, .int x2, .int x3])).length) Slot.unset).toArray = ls at hl ⊢
  have hl : lv_has ls 5 [(0, .ref (ad 0)), (1, .int x1), (2, .int x2), (3, .int x3)] := hl
  obtain ⟨hx, hb, hml, hown, hts, hr, hlk⟩ := id G
  show W p l e (rmX3_fix) s m _ below meth c s.heap [] 0 0 (MQ below (va_Qi (fun (r : Int32) (_ : Unit) => r = r0) (fun _ t => Wp D ad ca B M0 ov t.heap) (Ab B)) _ s 0 0 (Ab B)) (F0 m 0 ls [])
  refine lv_aload_n hx hb dX3_fix_0 rfl (lv_at hl 0 rfl) ?_
  refine lv_iload_n hx hb dX3_fix_1 rfl (lv_at hl 1 rfl) ?_
  obtain ⟨r1, M2, hq, hf⟩ := bd_s hf
  refine mc_Vi (As := [.int x1]) ⟨hx, hb, hml, hown, hts⟩ hC (kX3_isShip l D ad ca B ov N x1 M r1 M2 hq) (cwV 1 hts gX3_fix_X3_isShip rfl rfl rfl (by decide +kernel) ⟨Nat.le_of_ble_eq_true rfl, Nat.le_of_ble_eq_true rfl⟩) (mg_recv (ci := 3) (C := RX3) (T := TX3) (N := 5) hC 0 (by decide) rfl rfl) rfl hl.1 rfl (Nat.le_of_ble_eq_true rfl) dX3_fix_2 ⟨Nat.zero_le _, Nat.zero_le _⟩ (fun H locs hC => ?_)
  refine lv_if_eq (tgt := 18) hx hb dX3_fix_5 (by decide) (fun h3 => ?_) (fun h3 => ?_)
  · have hf := it_t h3 hf
    refine lv_iconst (v := 0) hx hb dX3_fix_18 (by decide) ?_
    exact mr_Z hx hb hr hlk hC (by decide) hf dX3_fix_19
  · have hf := it_f h3 hf
    refine lv_iload_n hx hb dX3_fix_8 rfl (lv_at hl 3 rfl) ?_
    refine lv_iconst (v := 0) hx hb dX3_fix_9 (by decide) ?_
    refine lv_bipush (v := 15) hx hb dX3_fix_10 (by decide) ?_
    obtain ⟨r4, M5, hq, hf⟩ := bd_s hf
    refine mc_Si (As := [.int x3, .int 0, .int 15]) ⟨hx, hb, hml, hown, hts⟩ hC (kX3_isWithin l D ad ca B ov N x3 0 15 M2 r4 M5 hq) (va_cwS 3 hts gX3_fix_X3_isWithin rfl rfl rfl (by decide +kernel) ⟨Nat.le_of_ble_eq_true rfl, Nat.le_of_ble_eq_true rfl⟩) rfl hl.1 rfl (Nat.le_of_ble_eq_true rfl) dX3_fix_12 ⟨Nat.zero_le _, Nat.zero_le _⟩ (fun H locs hC => ?_)
    refine lv_if_ne (tgt := 20) hx hb dX3_fix_15 (by decide) (fun h6 => ?_) (fun h6 => ?_)
    · have hf := it_f h6 hf
      refine lv_aload_n hx hb dX3_fix_20 rfl (lv_at hl 0 rfl) ?_
      refine mg_get (ci := 3) (C := RX3) (T := TX3) (N := 5) (v := .ref (ad 4)) hx hb hts inX3_fix_X3 hown hC 0 (by decide) rfl rfl 1 (by decide) (hts _ lkX3_fix_f29) rfl rfl dX3_fix_21 ?_
      refine lv_iload_n hx hb dX3_fix_24 rfl (lv_at hl 1 rfl) ?_
      obtain ⟨g7, hf⟩ := gd_s hf
      refine mg_aald hx hb hC g7 dX3_fix_25 ?_
      refine lv_astore (lv' := [(4, .ref (ad (5 + (x1 : Int32).toNatClampNeg))), (0, .ref (ad 0)), (1, .int x1), (2, .int x2), (3, .int x3)]) hx hb dX3_fix_26 hl (by decide) rfl (fun ls hl => ?_)
      refine lv_aload_n hx hb dX3_fix_28 rfl (lv_at hl 1 rfl) ?_
      refine mg_get (ci := 3) (C := RX3) (T := TX3) (N := 5) (v := .ref (ad 1)) hx hb hts inX3_fix_X3 hown hC 0 (by decide) rfl rfl 0 (by decide) (hts _ lkX3_fix_f23) rfl rfl dX3_fix_29 ?_
      refine lv_iload_n hx hb dX3_fix_32 rfl (lv_at hl 3 rfl) ?_
      refine lv_aload hx hb dX3_fix_33 (lv_at hl 0 rfl) ?_
      refine mg_get (ci := 2) (C := RX2) (T := TX2) (N := 11) (v := .int (M5 (5 + (x1 : Int32).toNatClampNeg) 0)) hx hb hts inX3_fix_X2 hown hC (5 + (x1 : Int32).toNatClampNeg) (sh_lt (sh_in g7)) (cell_sh (sh_in g7) _) rfl 0 (by decide) (hts _ lkX3_fix_f61) rfl rfl dX3_fix_35 ?_
      obtain ⟨r8, M9, hq, hf⟩ := bd_s hf
      refine mc_Vi (As := [.int x2, .int (M5 (5 + (x1 : Int32).toNatClampNeg) 0)]) ⟨hx, hb, hml, hown, hts⟩ hC (kX0_isRow l D ad ca B ov N x2 (M5 (5 + (x1 : Int32).toNatClampNeg) 0) M5 r8 M9 hq) (cwV 2 hts gX3_fix_X0_isRow rfl rfl rfl (by decide +kernel) ⟨Nat.le_of_ble_eq_true rfl, Nat.le_of_ble_eq_true rfl⟩) (mg_recv (ci := 0) (C := RX0) (T := TX0) (N := 5) hC 1 (by decide) rfl rfl) rfl hl.1 rfl (Nat.le_of_ble_eq_true rfl) dX3_fix_38 ⟨Nat.zero_le _, Nat.zero_le _⟩ (fun H locs hC => ?_)
      refine lv_if_eq (tgt := 54) hx hb dX3_fix_41 (by decide) (fun h10 => ?_) (fun h10 => ?_)
      · have hf := it_t h10 hf
        refine lv_iconst (v := 0) hx hb dX3_fix_54 (by decide) ?_
        exact mr_Z hx hb hr hlk hC (by decide) hf dX3_fix_55
      · have hf := it_f h10 hf
        refine lv_aload_n hx hb dX3_fix_44 rfl (lv_at hl 1 rfl) ?_
        refine lv_iload_n hx hb dX3_fix_45 rfl (lv_at hl 2 rfl) ?_
        refine lv_iload_n hx hb dX3_fix_46 rfl (lv_at hl 3 rfl) ?_
        refine lv_iload_n hx hb dX3_fix_47 rfl (lv_at hl 4 rfl) ?_
        obtain ⟨r11, M12, hq, hf⟩ := bd_s hf
        refine mc_Vi (As := [.int x1, .int x2, .int x3]) ⟨hx, hb, hml, hown, hts⟩ hC (kX3_meetsFixed l D ad ca B ov N x1 x2 x3 M9 r11 M12 hq) (cwV 3 hts gX3_fix_X3_meetsFixed rfl rfl rfl (by decide +kernel) ⟨Nat.le_of_ble_eq_true rfl, Nat.le_of_ble_eq_true rfl⟩) (mg_recv (ci := 3) (C := RX3) (T := TX3) (N := 5) hC 0 (by decide) rfl rfl) rfl hl.1 rfl (Nat.le_of_ble_eq_true rfl) dX3_fix_48 ⟨Nat.zero_le _, Nat.zero_le _⟩ (fun H locs hC => ?_)
        refine lv_if_eq (tgt := 56) hx hb dX3_fix_51 (by decide) (fun h13 => ?_) (fun h13 => ?_)
        · have hf := it_t h13 hf
          refine lv_aload hx hb dX3_fix_56 (lv_at hl 0 rfl) ?_
          refine lv_iconst (v := 1) hx hb dX3_fix_58 (by decide) ?_
          refine mg_put (ci := 2) (C := RX2) (T := TX2) (N := 11) (ty := .boolean) (v := .int 1) (x := 1) hx hb hts inX3_fix_X2 tyX2 tyX2_ok nmX2 hown hC (5 + (x1 : Int32).toNatClampNeg) (sh_lt (sh_in g7)) (cell_sh (sh_in g7) _) rfl 6 (by decide) (hts _ lkX3_fix_f119) rfl rfl (by decide +kernel) (by decide) rfl (Nat.le_of_ble_eq_true rfl) (cell_sh (sh_in g7) _) dX3_fix_59 (fun H locs hC => ?_)
          obtain ⟨M14, eM14⟩ : ∃ z : Mem, z = mw M12 (5 + (x1 : Int32).toNatClampNeg) 6 1 := ⟨_, rfl⟩
          rw [← eM14] at hC
          have hf := lq_k eM14 hf
          refine lv_aload hx hb dX3_fix_62 (lv_at hl 0 rfl) ?_
          refine lv_iload_n hx hb dX3_fix_64 rfl (lv_at hl 3 rfl) ?_
          refine mg_put (ci := 2) (C := RX2) (T := TX2) (N := 11) (ty := .int) (v := .int x2) (x := x2) hx hb hts inX3_fix_X2 tyX2 tyX2_ok nmX2 hown hC (5 + (x1 : Int32).toNatClampNeg) (sh_lt (sh_in g7)) (cell_sh (sh_in g7) _) rfl 7 (by decide) (hts _ lkX3_fix_f122) rfl rfl (by decide +kernel) rfl rfl (Nat.le_of_ble_eq_true rfl) (cell_sh (sh_in g7) _) dX3_fix_65 (fun H locs hC => ?_)
          obtain ⟨M15, eM15⟩ : ∃ z : Mem, z = mw M14 (5 + (x1 : Int32).toNatClampNeg) 7 x2 := ⟨_, rfl⟩
          rw [← eM15] at hC
          have hf := lq_k eM15 hf
          refine lv_aload hx hb dX3_fix_68 (lv_at hl 0 rfl) ?_
          refine lv_iload_n hx hb dX3_fix_70 rfl (lv_at hl 4 rfl) ?_
          refine mg_put (ci := 2) (C := RX2) (T := TX2) (N := 11) (ty := .int) (v := .int x3) (x := x3) hx hb hts inX3_fix_X2 tyX2 tyX2_ok nmX2 hown hC (5 + (x1 : Int32).toNatClampNeg) (sh_lt (sh_in g7)) (cell_sh (sh_in g7) _) rfl 8 (by decide) (hts _ lkX3_fix_f125) rfl rfl (by decide +kernel) rfl rfl (Nat.le_of_ble_eq_true rfl) (cell_sh (sh_in g7) _) dX3_fix_71 (fun H locs hC => ?_)
          obtain ⟨M16, eM16⟩ : ∃ z : Mem, z = mw M15 (5 + (x1 : Int32).toNatClampNeg) 8 x3 := ⟨_, rfl⟩
          rw [← eM16] at hC
          have hf := lq_k eM16 hf
          refine lv_aload_n hx hb dX3_fix_74 rfl (lv_at hl 1 rfl) ?_
          refine lv_iconst (v := 0) hx hb dX3_fix_75 (by decide) ?_
          refine mg_put (ci := 3) (C := RX3) (T := TX3) (N := 5) (ty := .boolean) (v := .int 0) (x := 0) hx hb hts inX3_fix_X3 tyX3 tyX3_ok nmX3 hown hC 0 (by decide) rfl rfl 4 (by decide) (hts _ lkX3_fix_f76) rfl rfl (by decide +kernel) (by decide) rfl (Nat.le_of_ble_eq_true rfl) rfl dX3_fix_76 (fun H locs hC => ?_)
          obtain ⟨M17, eM17⟩ : ∃ z : Mem, z = mw M16 0 4 0 := ⟨_, rfl⟩
          rw [← eM17] at hC
          have hf := lq_k eM17 hf
          refine lv_iconst (v := 1) hx hb dX3_fix_79 (by decide) ?_
          exact mr_Z hx hb hr hlk hC (by decide) hf dX3_fix_80
        · have hf := it_f h13 hf
          refine lv_iconst (v := 0) hx hb dX3_fix_54 (by decide) ?_
          exact mr_Z hx hb hr hlk hC (by decide) hf dX3_fix_55
    · have hf := it_t h6 hf
      refine lv_iconst (v := 0) hx hb dX3_fix_18 (by decide) ?_
      exact mr_Z hx hb hr hlk hC (by decide) hf dX3_fix_19

theorem lkX3_free_f29 : Cond.fieldLink RX3 29 "BerthPlan" "ships" "[LBerthPlan$Ship;" ∈ wsX3_free := by decide +kernel
theorem lkX3_free_f76 : Cond.fieldLink RX3 76 "BerthPlan" "planned" "Z" ∈ wsX3_free := by decide +kernel
theorem lkX3_free_f119 : Cond.fieldLink RX3 119 "BerthPlan$Ship" "isFixed" "Z" ∈ wsX3_free := by decide +kernel
theorem inX3_free_X2 : ∀ w ∈ wsX20, w ∈ wsX3_free := by decide +kernel
theorem inX3_free_X3 : ∀ w ∈ wsX30, w ∈ wsX3_free := by decide +kernel
abbrev rmX3_free : Room := { frames := 1, cells := 0, slots := 0, locals := 21 }
def fX3_free (N : Nat) (x1 : Int32) (M : Mem) : Option (Int32 × Mem) :=
    bd (fX3_isShip N x1 M) (fun r1 M2 => if (r1 = 0 : Prop) then (some (0, M2)) else (gd (x1) 4 (if ((M2 (5 + (x1 : Int32).toNatClampNeg) 6) = 0 : Prop) then (some (0, M2)) else (gd (x1) 4 (lq (mw M2 (5 + (x1 : Int32).toNatClampNeg) 6 0) (fun M7 => lq (mw M7 0 4 0) (fun M8 => some (1, M8))))))))
set_option maxHeartbeats 4000000 in
set_option maxRecDepth 100000 in
theorem kX3_free (l : Launch) (D : va_G) (ad : Nat → Nat) (ca : Nat → ClassId) (B : Nat) (ov : Int64) (N : Nat) (x1 : Int32) (M : Mem) (r0 : Int32) (M0 : Mem) (hf : fX3_free N x1 M = some (r0, M0)) : MtI l D ad ca B ov yX3_free wsX3_free (rmX3_free) [.ref (ad 0), .int x1] M r0 M0 := by
  unfold fX3_free at hf
  refine Met.ofW (cc := cX3_free) (maxL := 2) (ret := (some .boolean)) (by decide) rfl ?_
  intro p e s m args below meth c s₁ Bd hml hv
  obtain ⟨rfl, hw⟩ := hv
  have G : Mx p s m ([.ref (ad 0), .int x1] : List Value).toArray meth c cX3_free 2 wsX3_free RX3 (some .boolean) := ⟨Bd.exec, Bd.bytes, hml, findClass_of_methodNamed Bd.named, atoms_spec (ws := wsX3_free) Bd.pre, Bd.returns, Bd.notSynchronized⟩
  have hC := Cu.of hw
  have hl := lv_entry ([.ref (ad 0), .int x1]) (n := 2) (Nat.le_of_ble_eq_true rfl)
  rw [lg_entry_eq]
  generalize (lg_sl ([.ref (ad 0), .int x1]) ++ List.replicate (2 - (lg_sl ([.ref (ad 0), .int x1])).length) Slot.unset).toArray = ls at hl ⊢
  have hl : lv_has ls 2 [(0, .ref (ad 0)), (1, .int x1)] := hl
  obtain ⟨hx, hb, hml, hown, hts, hr, hlk⟩ := id G
  show W p l e (rmX3_free) s m _ below meth c s.heap [] 0 0 (MQ below (va_Qi (fun (r : Int32) (_ : Unit) => r = r0) (fun _ t => Wp D ad ca B M0 ov t.heap) (Ab B)) _ s 0 0 (Ab B)) (F0 m 0 ls [])
  refine lv_aload_n hx hb dX3_free_0 rfl (lv_at hl 0 rfl) ?_
  refine lv_iload_n hx hb dX3_free_1 rfl (lv_at hl 1 rfl) ?_
  obtain ⟨r1, M2, hq, hf⟩ := bd_s hf
  refine mc_Vi (As := [.int x1]) ⟨hx, hb, hml, hown, hts⟩ hC (kX3_isShip l D ad ca B ov N x1 M r1 M2 hq) (cwV 1 hts gX3_free_X3_isShip rfl rfl rfl (by decide +kernel) ⟨Nat.le_of_ble_eq_true rfl, Nat.le_of_ble_eq_true rfl⟩) (mg_recv (ci := 3) (C := RX3) (T := TX3) (N := 5) hC 0 (by decide) rfl rfl) rfl hl.1 rfl (Nat.le_of_ble_eq_true rfl) dX3_free_2 ⟨Nat.zero_le _, Nat.zero_le _⟩ (fun H locs hC => ?_)
  refine lv_if_eq (tgt := 20) hx hb dX3_free_5 (by decide) (fun h3 => ?_) (fun h3 => ?_)
  · have hf := it_t h3 hf
    refine lv_iconst (v := 0) hx hb dX3_free_20 (by decide) ?_
    exact mr_Z hx hb hr hlk hC (by decide) hf dX3_free_21
  · have hf := it_f h3 hf
    refine lv_aload_n hx hb dX3_free_8 rfl (lv_at hl 0 rfl) ?_
    refine mg_get (ci := 3) (C := RX3) (T := TX3) (N := 5) (v := .ref (ad 4)) hx hb hts inX3_free_X3 hown hC 0 (by decide) rfl rfl 1 (by decide) (hts _ lkX3_free_f29) rfl rfl dX3_free_9 ?_
    refine lv_iload_n hx hb dX3_free_12 rfl (lv_at hl 1 rfl) ?_
    obtain ⟨g4, hf⟩ := gd_s hf
    refine mg_aald hx hb hC g4 dX3_free_13 ?_
    refine mg_get (ci := 2) (C := RX2) (T := TX2) (N := 11) (v := .int (M2 (5 + (x1 : Int32).toNatClampNeg) 6)) hx hb hts inX3_free_X2 hown hC (5 + (x1 : Int32).toNatClampNeg) (sh_lt (sh_in g4)) (cell_sh (sh_in g4) _) rfl 6 (by decide) (hts _ lkX3_free_f119) rfl rfl dX3_free_14 ?_
    refine lv_if_ne (tgt := 22) hx hb dX3_free_17 (by decide) (fun h5 => ?_) (fun h5 => ?_)
    · have hf := it_f h5 hf
      refine lv_aload_n hx hb dX3_free_22 rfl (lv_at hl 0 rfl) ?_
      refine mg_get (ci := 3) (C := RX3) (T := TX3) (N := 5) (v := .ref (ad 4)) hx hb hts inX3_free_X3 hown hC 0 (by decide) rfl rfl 1 (by decide) (hts _ lkX3_free_f29) rfl rfl dX3_free_23 ?_
      refine lv_iload_n hx hb dX3_free_26 rfl (lv_at hl 1 rfl) ?_
      obtain ⟨g6, hf⟩ := gd_s hf
      refine mg_aald hx hb hC g6 dX3_free_27 ?_
      refine lv_iconst (v := 0) hx hb dX3_free_28 (by decide) ?_
      refine mg_put (ci := 2) (C := RX2) (T := TX2) (N := 11) (ty := .boolean) (v := .int 0) (x := 0) hx hb hts inX3_free_X2 tyX2 tyX2_ok nmX2 hown hC (5 + (x1 : Int32).toNatClampNeg) (sh_lt (sh_in g6)) (cell_sh (sh_in g6) _) rfl 6 (by decide) (hts _ lkX3_free_f119) rfl rfl (by decide +kernel) (by decide) rfl (Nat.le_of_ble_eq_true rfl) (cell_sh (sh_in g6) _) dX3_free_29 (fun H locs hC => ?_)
      obtain ⟨M7, eM7⟩ : ∃ z : Mem, z = mw M2 (5 + (x1 : Int32).toNatClampNeg) 6 0 := ⟨_, rfl⟩
      rw [← eM7] at hC
      have hf := lq_k eM7 hf
      refine lv_aload_n hx hb dX3_free_32 rfl (lv_at hl 0 rfl) ?_
      refine lv_iconst (v := 0) hx hb dX3_free_33 (by decide) ?_
      refine mg_put (ci := 3) (C := RX3) (T := TX3) (N := 5) (ty := .boolean) (v := .int 0) (x := 0) hx hb hts inX3_free_X3 tyX3 tyX3_ok nmX3 hown hC 0 (by decide) rfl rfl 4 (by decide) (hts _ lkX3_free_f76) rfl rfl (by decide +kernel) (by decide) rfl (Nat.le_of_ble_eq_true rfl) rfl dX3_free_34 (fun H locs hC => ?_)
      obtain ⟨M8, eM8⟩ : ∃ z : Mem, z = mw M7 0 4 0 := ⟨_, rfl⟩
      rw [← eM8] at hC
      have hf := lq_k eM8 hf
      refine lv_iconst (v := 1) hx hb dX3_free_37 (by decide) ?_
      exact mr_Z hx hb hr hlk hC (by decide) hf dX3_free_38
    · have hf := it_t h5 hf
      refine lv_iconst (v := 0) hx hb dX3_free_20 (by decide) ?_
      exact mr_Z hx hb hr hlk hC (by decide) hf dX3_free_21

theorem lkX3_solve_f23 : Cond.fieldLink RX3 23 "BerthPlan" "quay" "LBerthPlan$Quay;" ∈ wsX3_solve := by decide +kernel
theorem lkX3_solve_f29 : Cond.fieldLink RX3 29 "BerthPlan" "ships" "[LBerthPlan$Ship;" ∈ wsX3_solve := by decide +kernel
theorem lkX3_solve_f37 : Cond.fieldLink RX3 37 "BerthPlan" "search" "LBerthPlan$Search;" ∈ wsX3_solve := by decide +kernel
theorem lkX3_solve_f52 : Cond.fieldLink RX3 52 "BerthPlan" "shipCount" "I" ∈ wsX3_solve := by decide +kernel
theorem lkX3_solve_f76 : Cond.fieldLink RX3 76 "BerthPlan" "planned" "Z" ∈ wsX3_solve := by decide +kernel
theorem inX3_solve_X3 : ∀ w ∈ wsX30, w ∈ wsX3_solve := by decide +kernel
abbrev rmX3_solve : Room := { frames := 20, cells := 0, slots := 0, locals := 748 }
def fX3_solve (N : Nat) (M : Mem) : Option (Int32 × Mem) :=
    bd (fX1_finds N (M 0 3) M) (fun r1 M2 => gp (r1 = 0 ∨ r1 = 1) (lq (mw M2 0 4 r1) (fun M4 => if ((M4 0 4) = 0 : Prop) then (some (0, M4)) else (bd (fX3_moveShips N M4) (fun r6 M7 => some (1, M7))))))
set_option maxHeartbeats 4000000 in
set_option maxRecDepth 100000 in
theorem kX3_solve (l : Launch) (D : va_G) (ad : Nat → Nat) (ca : Nat → ClassId) (B : Nat) (ov : Int64) (N : Nat) (M : Mem) (r0 : Int32) (M0 : Mem) (hf : fX3_solve N M = some (r0, M0)) : MtI l D ad ca B ov yX3_solve wsX3_solve (rmX3_solve) [.ref (ad 0)] M r0 M0 := by
  unfold fX3_solve at hf
  refine Met.ofW (cc := cX3_solve) (maxL := 1) (ret := (some .int)) (by decide) rfl ?_
  intro p e s m args below meth c s₁ Bd hml hv
  obtain ⟨rfl, hw⟩ := hv
  have G : Mx p s m ([.ref (ad 0)] : List Value).toArray meth c cX3_solve 1 wsX3_solve RX3 (some .int) := ⟨Bd.exec, Bd.bytes, hml, findClass_of_methodNamed Bd.named, atoms_spec (ws := wsX3_solve) Bd.pre, Bd.returns, Bd.notSynchronized⟩
  have hC := Cu.of hw
  have hl := lv_entry ([.ref (ad 0)]) (n := 1) (Nat.le_of_ble_eq_true rfl)
  rw [lg_entry_eq]
  generalize (lg_sl ([.ref (ad 0)]) ++ List.replicate (1 - (lg_sl ([.ref (ad 0)])).length) Slot.unset).toArray = ls at hl ⊢
  have hl : lv_has ls 1 [(0, .ref (ad 0))] := hl
  obtain ⟨hx, hb, hml, hown, hts, hr, hlk⟩ := id G
  show W p l e (rmX3_solve) s m _ below meth c s.heap [] 0 0 (MQ below (va_Qi (fun (r : Int32) (_ : Unit) => r = r0) (fun _ t => Wp D ad ca B M0 ov t.heap) (Ab B)) _ s 0 0 (Ab B)) (F0 m 0 ls [])
  refine lv_aload_n hx hb dX3_solve_0 rfl (lv_at hl 0 rfl) ?_
  refine lv_aload_n hx hb dX3_solve_1 rfl (lv_at hl 0 rfl) ?_
  refine mg_get (ci := 3) (C := RX3) (T := TX3) (N := 5) (v := .ref (ad 9)) hx hb hts inX3_solve_X3 hown hC 0 (by decide) rfl rfl 2 (by decide) (hts _ lkX3_solve_f37) rfl rfl dX3_solve_2 ?_
  refine lv_aload_n hx hb dX3_solve_5 rfl (lv_at hl 0 rfl) ?_
  refine mg_get (ci := 3) (C := RX3) (T := TX3) (N := 5) (v := .ref (ad 1)) hx hb hts inX3_solve_X3 hown hC 0 (by decide) rfl rfl 0 (by decide) (hts _ lkX3_solve_f23) rfl rfl dX3_solve_6 ?_
  refine lv_aload_n hx hb dX3_solve_9 rfl (lv_at hl 0 rfl) ?_
  refine mg_get (ci := 3) (C := RX3) (T := TX3) (N := 5) (v := .ref (ad 4)) hx hb hts inX3_solve_X3 hown hC 0 (by decide) rfl rfl 1 (by decide) (hts _ lkX3_solve_f29) rfl rfl dX3_solve_10 ?_
  refine lv_aload_n hx hb dX3_solve_13 rfl (lv_at hl 0 rfl) ?_
  refine mg_get (ci := 3) (C := RX3) (T := TX3) (N := 5) (v := .int (M 0 3)) hx hb hts inX3_solve_X3 hown hC 0 (by decide) rfl rfl 3 (by decide) (hts _ lkX3_solve_f52) rfl rfl dX3_solve_14 ?_
  obtain ⟨r1, M2, hq, hf⟩ := bd_s hf
  refine mc_Vi (As := [.ref (ad 1), .ref (ad 4), .int (M 0 3)]) ⟨hx, hb, hml, hown, hts⟩ hC (kX1_finds l D ad ca B ov N (M 0 3) M r1 M2 hq) (cwV 3 hts gX3_solve_X1_finds rfl rfl rfl (by decide +kernel) ⟨Nat.le_of_ble_eq_true rfl, Nat.le_of_ble_eq_true rfl⟩) (mg_recv (ci := 1) (C := RX1) (T := TX1) (N := 9) hC 9 (by decide) rfl rfl) rfl hl.1 rfl (Nat.le_of_ble_eq_true rfl) dX3_solve_17 ⟨Nat.zero_le _, Nat.zero_le _⟩ (fun H locs hC => ?_)
  obtain ⟨g3, hf⟩ := gp_s hf
  refine mg_put (ci := 3) (C := RX3) (T := TX3) (N := 5) (ty := .boolean) (v := .int r1) (x := r1) hx hb hts inX3_solve_X3 tyX3 tyX3_ok nmX3 hown hC 0 (by decide) rfl rfl 4 (by decide) (hts _ lkX3_solve_f76) rfl rfl (by decide +kernel) (by rcases g3 with h9 | h9 <;> rw [h9] <;> decide) (by rcases g3 with h9 | h9 <;> rw [h9] <;> decide) (Nat.le_of_ble_eq_true rfl) rfl dX3_solve_20 (fun H locs hC => ?_)
  obtain ⟨M4, eM4⟩ : ∃ z : Mem, z = mw M2 0 4 r1 := ⟨_, rfl⟩
  rw [← eM4] at hC
  have hf := lq_k eM4 hf
  refine lv_aload_n hx hb dX3_solve_23 rfl (lv_at hl 0 rfl) ?_
  refine mg_get (ci := 3) (C := RX3) (T := TX3) (N := 5) (v := .int (M4 0 4)) hx hb hts inX3_solve_X3 hown hC 0 (by decide) rfl rfl 4 (by decide) (hts _ lkX3_solve_f76) rfl rfl dX3_solve_24 ?_
  refine lv_if_ne (tgt := 32) hx hb dX3_solve_27 (by decide) (fun h5 => ?_) (fun h5 => ?_)
  · have hf := it_f h5 hf
    refine lv_aload_n hx hb dX3_solve_32 rfl (lv_at hl 0 rfl) ?_
    obtain ⟨r6, M7, hq, hf⟩ := bd_s hf
    refine mc_Vi (As := []) ⟨hx, hb, hml, hown, hts⟩ hC (kX3_moveShips l D ad ca B ov N M4 r6 M7 hq) (cwV 0 hts gX3_solve_X3_moveShips rfl rfl rfl (by decide +kernel) ⟨Nat.le_of_ble_eq_true rfl, Nat.le_of_ble_eq_true rfl⟩) (mg_recv (ci := 3) (C := RX3) (T := TX3) (N := 5) hC 0 (by decide) rfl rfl) rfl hl.1 rfl (Nat.le_of_ble_eq_true rfl) dX3_solve_33 ⟨Nat.zero_le _, Nat.zero_le _⟩ (fun H locs hC => ?_)
    refine lv_pop hx hb dX3_solve_36 rfl ?_
    refine lv_iconst (v := 1) hx hb dX3_solve_37 (by decide) ?_
    exact mr_I hx hb hr hlk hC hf dX3_solve_38
  · have hf := it_t h5 hf
    refine lv_iconst (v := 0) hx hb dX3_solve_30 (by decide) ?_
    exact mr_I hx hb hr hlk hC hf dX3_solve_31

theorem lkX3_bound_c157 : Cond.constant RX3 157 (1000000) ∈ wsX3_bound := by decide +kernel
theorem lkX3_bound_f23 : Cond.fieldLink RX3 23 "BerthPlan" "quay" "LBerthPlan$Quay;" ∈ wsX3_bound := by decide +kernel
theorem lkX3_bound_f29 : Cond.fieldLink RX3 29 "BerthPlan" "ships" "[LBerthPlan$Ship;" ∈ wsX3_bound := by decide +kernel
theorem lkX3_bound_f37 : Cond.fieldLink RX3 37 "BerthPlan" "search" "LBerthPlan$Search;" ∈ wsX3_bound := by decide +kernel
theorem lkX3_bound_f52 : Cond.fieldLink RX3 52 "BerthPlan" "shipCount" "I" ∈ wsX3_bound := by decide +kernel
theorem inX3_bound_X3 : ∀ w ∈ wsX30, w ∈ wsX3_bound := by decide +kernel
abbrev rmX3_bound : Room := { frames := 5, cells := 0, slots := 0, locals := 118 }
def fX3_bound (N : Nat) (M : Mem) : Option (Int32 × Mem) :=
    bd (fX1_leastAlone N (M 0 3) M) (fun r1 M2 => if (r1 < 1000000 : Prop) then (some (r1, M2)) else (some ((-1), M2)))
set_option maxHeartbeats 4000000 in
set_option maxRecDepth 100000 in
theorem kX3_bound (l : Launch) (D : va_G) (ad : Nat → Nat) (ca : Nat → ClassId) (B : Nat) (ov : Int64) (N : Nat) (M : Mem) (r0 : Int32) (M0 : Mem) (hf : fX3_bound N M = some (r0, M0)) : MtI l D ad ca B ov yX3_bound wsX3_bound (rmX3_bound) [.ref (ad 0)] M r0 M0 := by
  unfold fX3_bound at hf
  refine Met.ofW (cc := cX3_bound) (maxL := 2) (ret := (some .int)) (by decide) rfl ?_
  intro p e s m args below meth c s₁ Bd hml hv
  obtain ⟨rfl, hw⟩ := hv
  have G : Mx p s m ([.ref (ad 0)] : List Value).toArray meth c cX3_bound 2 wsX3_bound RX3 (some .int) := ⟨Bd.exec, Bd.bytes, hml, findClass_of_methodNamed Bd.named, atoms_spec (ws := wsX3_bound) Bd.pre, Bd.returns, Bd.notSynchronized⟩
  have hC := Cu.of hw
  have hl := lv_entry ([.ref (ad 0)]) (n := 2) (Nat.le_of_ble_eq_true rfl)
  rw [lg_entry_eq]
  generalize (lg_sl ([.ref (ad 0)]) ++ List.replicate (2 - (lg_sl ([.ref (ad 0)])).length) Slot.unset).toArray = ls at hl ⊢
  have hl : lv_has ls 2 [(0, .ref (ad 0))] := hl
  obtain ⟨hx, hb, hml, hown, hts, hr, hlk⟩ := id G
  show W p l e (rmX3_bound) s m _ below meth c s.heap [] 0 0 (MQ below (va_Qi (fun (r : Int32) (_ : Unit) => r = r0) (fun _ t => Wp D ad ca B M0 ov t.heap) (Ab B)) _ s 0 0 (Ab B)) (F0 m 0 ls [])
  refine lv_aload_n hx hb dX3_bound_0 rfl (lv_at hl 0 rfl) ?_
  refine mg_get (ci := 3) (C := RX3) (T := TX3) (N := 5) (v := .ref (ad 9)) hx hb hts inX3_bound_X3 hown hC 0 (by decide) rfl rfl 2 (by decide) (hts _ lkX3_bound_f37) rfl rfl dX3_bound_1 ?_
  refine lv_aload_n hx hb dX3_bound_4 rfl (lv_at hl 0 rfl) ?_
  refine mg_get (ci := 3) (C := RX3) (T := TX3) (N := 5) (v := .ref (ad 1)) hx hb hts inX3_bound_X3 hown hC 0 (by decide) rfl rfl 0 (by decide) (hts _ lkX3_bound_f23) rfl rfl dX3_bound_5 ?_
  refine lv_aload_n hx hb dX3_bound_8 rfl (lv_at hl 0 rfl) ?_
  refine mg_get (ci := 3) (C := RX3) (T := TX3) (N := 5) (v := .ref (ad 4)) hx hb hts inX3_bound_X3 hown hC 0 (by decide) rfl rfl 1 (by decide) (hts _ lkX3_bound_f29) rfl rfl dX3_bound_9 ?_
  refine lv_aload_n hx hb dX3_bound_12 rfl (lv_at hl 0 rfl) ?_
  refine mg_get (ci := 3) (C := RX3) (T := TX3) (N := 5) (v := .int (M 0 3)) hx hb hts inX3_bound_X3 hown hC 0 (by decide) rfl rfl 3 (by decide) (hts _ lkX3_bound_f52) rfl rfl dX3_bound_13 ?_
  obtain ⟨r1, M2, hq, hf⟩ := bd_s hf
  refine mc_Vi (As := [.ref (ad 1), .ref (ad 4), .int (M 0 3)]) ⟨hx, hb, hml, hown, hts⟩ hC (kX1_leastAlone l D ad ca B ov N (M 0 3) M r1 M2 hq) (cwV 3 hts gX3_bound_X1_leastAlone rfl rfl rfl (by decide +kernel) ⟨Nat.le_of_ble_eq_true rfl, Nat.le_of_ble_eq_true rfl⟩) (mg_recv (ci := 1) (C := RX1) (T := TX1) (N := 9) hC 9 (by decide) rfl rfl) rfl hl.1 rfl (Nat.le_of_ble_eq_true rfl) dX3_bound_16 ⟨Nat.zero_le _, Nat.zero_le _⟩ (fun H locs hC => ?_)
  refine lv_istore_n (lv' := [(1, .int r1), (0, .ref (ad 0))]) hx hb dX3_bound_19 rfl hl (by decide) rfl (fun ls hl => ?_)
  refine lv_iload_n hx hb dX3_bound_20 rfl (lv_at hl 0 rfl) ?_
  refine lv_ldc (v := 1000000) hx hb hown (hts _ lkX3_bound_c157) dX3_bound_21 ?_
  refine lv_icmp_lt (tgt := 30) hx hb dX3_bound_23 (by decide) (fun h3 => ?_) (fun h3 => ?_)
  · have hf := it_t h3 hf
    refine lv_iload_n hx hb dX3_bound_30 rfl (lv_at hl 0 rfl) ?_
    exact mr_I hx hb hr hlk hC hf dX3_bound_31
  · have hf := it_f h3 hf
    refine lv_iconst (v := (-1)) hx hb dX3_bound_26 (by decide) ?_
    refine lv_goto (tgt := 31) hx hb dX3_bound_27 (by decide) ?_
    exact mr_I hx hb hr hlk hC hf dX3_bound_31
