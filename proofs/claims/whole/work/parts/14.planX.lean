theorem lkX3_ship_f29 : Cond.fieldLink RX3 29 "BerthPlan" "ships" "[LBerthPlan$Ship;" ∈ wsX3_ship := by decide +kernel
theorem lkX3_ship_f52 : Cond.fieldLink RX3 52 "BerthPlan" "shipCount" "I" ∈ wsX3_ship := by decide +kernel
theorem lkX3_ship_f61 : Cond.fieldLink RX3 61 "BerthPlan$Ship" "length" "I" ∈ wsX3_ship := by decide +kernel
theorem lkX3_ship_f64 : Cond.fieldLink RX3 64 "BerthPlan$Ship" "need" "I" ∈ wsX3_ship := by decide +kernel
theorem lkX3_ship_f67 : Cond.fieldLink RX3 67 "BerthPlan$Ship" "time" "I" ∈ wsX3_ship := by decide +kernel
theorem lkX3_ship_f70 : Cond.fieldLink RX3 70 "BerthPlan$Ship" "arrives" "I" ∈ wsX3_ship := by decide +kernel
theorem lkX3_ship_f73 : Cond.fieldLink RX3 73 "BerthPlan$Ship" "weight" "I" ∈ wsX3_ship := by decide +kernel
theorem lkX3_ship_f76 : Cond.fieldLink RX3 76 "BerthPlan" "planned" "Z" ∈ wsX3_ship := by decide +kernel
theorem lkX3_ship_ki45 : Cond.initialized "java/lang/IllegalArgumentException" ∈ wsX3_ship := by decide +kernel
theorem lkX3_ship_ki56 : Cond.initialized "java/lang/IllegalStateException" ∈ wsX3_ship := by decide +kernel
theorem lkX3_ship_kl45 : Cond.classLink RX3 45 "java/lang/IllegalArgumentException" ∈ wsX3_ship := by decide +kernel
theorem lkX3_ship_kl56 : Cond.classLink RX3 56 "java/lang/IllegalStateException" ∈ wsX3_ship := by decide +kernel
theorem inX3_ship_X2 : ∀ w ∈ wsX20, w ∈ wsX3_ship := by decide +kernel
theorem inX3_ship_X3 : ∀ w ∈ wsX30, w ∈ wsX3_ship := by decide +kernel
theorem xaX3_ship_49 : ∀ w ∈ (vx_atS RX3 49 "java/lang/IllegalArgumentException" ["java/lang/RuntimeException", "java/lang/Exception"]).filter goodWord, w ∈ wsX3_ship := by decide +kernel
theorem xaX3_ship_60 : ∀ w ∈ (vx_atS RX3 60 "java/lang/IllegalStateException" ["java/lang/RuntimeException", "java/lang/Exception"]).filter goodWord, w ∈ wsX3_ship := by decide +kernel
abbrev rmX3_ship : Room := { frames := 6, cells := 1, slots := 6, locals := 90 }
def fX3_ship_53 (N : Nat) (x1 : Int32) (x2 : Int32) (x3 : Int32) (x4 : Int32) (x5 : Int32) (x6 : Int32) (y0 : Int32) (M : Mem) : Option ((Nat × Int32) × Mem) :=
    if (x6 = 0 : Prop) then (some ((1, 0), M)) else (if (y0 = 0 : Prop) then (some ((1, 0), M)) else (bd (fX3_isWithin N x5 1 100 M) (fun r3 M4 => if (r3 = 0 : Prop) then (some ((1, 0), M4)) else (if ((M4 0 3) < 4 : Prop) then (gd (M4 0 3) 4 (lq (mw M4 (5 + (M4 0 3 : Int32).toNatClampNeg) 0 x1) (fun M8 => lq (mw M8 (5 + (M4 0 3 : Int32).toNatClampNeg) 1 x2) (fun M9 => lq (mw M9 (5 + (M4 0 3 : Int32).toNatClampNeg) 2 x3) (fun M10 => lq (mw M10 (5 + (M4 0 3 : Int32).toNatClampNeg) 3 x4) (fun M11 => lq (mw M11 (5 + (M4 0 3 : Int32).toNatClampNeg) 4 x5) (fun M12 => lq (mw M12 0 4 0) (fun M13 => lq (mw M13 0 3 ((M13 0 3) + (1 : Int32))) (fun M14 => some ((0, M13 0 3), M14)))))))))) else (some ((2, 0), M4))))))
def fX3_ship_25 (N : Nat) (x1 : Int32) (x2 : Int32) (x3 : Int32) (x4 : Int32) (x5 : Int32) (y0 : Int32) (M : Mem) : Option ((Nat × Int32) × Mem) :=
    bd (fX3_isWithin N x3 1 24 M) (fun r1 M2 => if (r1 = 0 : Prop) then (fX3_ship_53 N x1 x2 x3 x4 x5 y0 0 M2) else (bd (fX3_isWithin N x4 0 15 M2) (fun r4 M5 => if (r4 = 0 : Prop) then (fX3_ship_53 N x1 x2 x3 x4 x5 y0 0 M5) else (fX3_ship_53 N x1 x2 x3 x4 x5 y0 1 M5))))
def fX3_ship (N : Nat) (x1 : Int32) (x2 : Int32) (x3 : Int32) (x4 : Int32) (x5 : Int32) (M : Mem) : Option ((Nat × Int32) × Mem) :=
    bd (fX3_isWithin N x1 1 6 M) (fun r1 M2 => if (r1 = 0 : Prop) then (fX3_ship_25 N x1 x2 x3 x4 x5 0 M2) else (bd (fX3_isWithin N x2 0 100 M2) (fun r4 M5 => if (r4 = 0 : Prop) then (fX3_ship_25 N x1 x2 x3 x4 x5 0 M5) else (fX3_ship_25 N x1 x2 x3 x4 x5 1 M5))))
set_option maxHeartbeats 4000000 in
set_option maxRecDepth 100000 in
theorem wX3_ship_53 {p : Program} {l : Launch} {e : Env} {s : State} {m : MethodId} {args : Array Value} {below : List Frame} {meth : Method} {c : Code} {D : va_G} {ad : Nat → Nat} {ca : Nat → ClassId} {B : Nat} {ov : Int64} {q0 : Nat} {r0 : Int32} {M0 : Mem} (G : Mx p s m args meth c cX3_ship 9 wsX3_ship RX3 (some .int)) (hl9 : l.stackTraces = false) (Ev9 : Ev B s s.heap) (hET : ∀ x ∈ c.exceptionTable.toList, False) (N : Nat) : ∀ (x1 : Int32) (x2 : Int32) (x3 : Int32) (x4 : Int32) (x5 : Int32) (x6 : Int32) (y0 : Int32) (M : Mem) (H : Heap) (locs : List Loc) (ls : Array Slot), lv_has ls 9 [(0, .ref (ad 0)), (1, .int x1), (2, .int x2), (3, .int x3), (4, .int x4), (5, .int x5), (6, .int x6)] → Cu D ad ca B M ov s H locs → (fX3_ship_53 N) x1 x2 x3 x4 x5 x6 y0 M = some ((q0, r0), M0) → W p l e (rmX3_ship) s m args below meth c H locs 0 0 (vx_MQ below (va_Qi (fun (r : Int32) (_ : Unit) => q0 = 0 ∧ r = r0) (fun _ t => Wp D ad ca B M0 ov t.heap) (Ab B)) (XcOf D ad ca B ov q0 M0) args s 1 6 (Ab B)) (F0 m 53 ls [.int y0]) := by
  obtain ⟨hx, hb, hml, hown, hts, hr, hlk⟩ := id G
  intro x1 x2 x3 x4 x5 x6 y0 M H locs ls hl hC hf
  unfold fX3_ship_53 at hf
  refine lv_istore (lv' := [(7, .int y0), (0, .ref (ad 0)), (1, .int x1), (2, .int x2), (3, .int x3), (4, .int x4), (5, .int x5), (6, .int x6)]) hx hb dX3_ship_53 hl (by decide) rfl (fun ls hl => ?_)
  refine lv_iload hx hb dX3_ship_55 (lv_at hl 7 rfl) ?_
  refine lv_if_eq (tgt := 76) hx hb dX3_ship_57 (by decide) (fun h1 => ?_) (fun h1 => ?_)
  · have hf := it_t h1 hf
    exact mx_T (q := 1) (cls := exIA) (ik := 45) (is := 47) (ic := 49) (tx := "a ship\'s numbers can\'t be") hx hb hl9 hlk hET hown (by decide) (hts _ lkX3_ship_kl45) (hts _ lkX3_ship_ki45) (by decide) (fun w h => hts w (xaX3_ship_49 w h)) nb_49 gx_49 (by decide) Ev9 hC (hl.1.trans hml.symm) dX3_ship_76 dX3_ship_79 dX3_ship_80 dX3_ship_82 dX3_ship_85 (by decide) (by decide) (by decide) (by decide) (by decide) rfl hf
  · have hf := it_f h1 hf
    refine lv_iload hx hb dX3_ship_60 (lv_at hl 0 rfl) ?_
    refine lv_if_eq (tgt := 76) hx hb dX3_ship_62 (by decide) (fun h2 => ?_) (fun h2 => ?_)
    · have hf := it_t h2 hf
      exact mx_T (q := 1) (cls := exIA) (ik := 45) (is := 47) (ic := 49) (tx := "a ship\'s numbers can\'t be") hx hb hl9 hlk hET hown (by decide) (hts _ lkX3_ship_kl45) (hts _ lkX3_ship_ki45) (by decide) (fun w h => hts w (xaX3_ship_49 w h)) nb_49 gx_49 (by decide) Ev9 hC (hl.1.trans hml.symm) dX3_ship_76 dX3_ship_79 dX3_ship_80 dX3_ship_82 dX3_ship_85 (by decide) (by decide) (by decide) (by decide) (by decide) rfl hf
    · have hf := it_f h2 hf
      refine lv_iload hx hb dX3_ship_65 (lv_at hl 6 rfl) ?_
      refine lv_iconst (v := 1) hx hb dX3_ship_67 (by decide) ?_
      refine lv_bipush (v := 100) hx hb dX3_ship_68 (by decide) ?_
      obtain ⟨r3, M4, hq, hf⟩ := bd_s hf
      refine mc_Si (As := [.int x5, .int 1, .int 100]) ⟨hx, hb, hml, hown, hts⟩ hC (kX3_isWithin l D ad ca B ov N x5 1 100 M r3 M4 hq) (va_cwS 3 hts gX3_ship_X3_isWithin rfl rfl rfl (by decide +kernel) ⟨Nat.le_of_ble_eq_true rfl, Nat.le_of_ble_eq_true rfl⟩) rfl hl.1 rfl (Nat.le_of_ble_eq_true rfl) dX3_ship_70 ⟨Nat.zero_le _, Nat.zero_le _⟩ (fun H locs hC => ?_)
      refine lv_if_ne (tgt := 86) hx hb dX3_ship_73 (by decide) (fun h5 => ?_) (fun h5 => ?_)
      · have hf := it_f h5 hf
        refine lv_aload_n hx hb dX3_ship_86 rfl (lv_at hl 1 rfl) ?_
        refine mg_get (ci := 3) (C := RX3) (T := TX3) (N := 5) (v := .int (M4 0 3)) hx hb hts inX3_ship_X3 hown hC 0 (by decide) rfl rfl 3 (by decide) (hts _ lkX3_ship_f52) rfl rfl dX3_ship_87 ?_
        refine lv_iconst (v := 4) hx hb dX3_ship_90 (by decide) ?_
        refine lv_icmp_lt (tgt := 104) hx hb dX3_ship_91 (by decide) (fun h6 => ?_) (fun h6 => ?_)
        · have hf := it_t h6 hf
          refine lv_aload_n hx hb dX3_ship_104 rfl (lv_at hl 1 rfl) ?_
          refine mg_get (ci := 3) (C := RX3) (T := TX3) (N := 5) (v := .ref (ad 4)) hx hb hts inX3_ship_X3 hown hC 0 (by decide) rfl rfl 1 (by decide) (hts _ lkX3_ship_f29) rfl rfl dX3_ship_105 ?_
          refine lv_aload_n hx hb dX3_ship_108 rfl (lv_at hl 1 rfl) ?_
          refine mg_get (ci := 3) (C := RX3) (T := TX3) (N := 5) (v := .int (M4 0 3)) hx hb hts inX3_ship_X3 hown hC 0 (by decide) rfl rfl 3 (by decide) (hts _ lkX3_ship_f52) rfl rfl dX3_ship_109 ?_
          obtain ⟨g7, hf⟩ := gd_s hf
          refine mg_aald hx hb hC g7 dX3_ship_112 ?_
          refine lv_astore (lv' := [(8, .ref (ad (5 + (M4 0 3 : Int32).toNatClampNeg))), (7, .int y0), (0, .ref (ad 0)), (1, .int x1), (2, .int x2), (3, .int x3), (4, .int x4), (5, .int x5), (6, .int x6)]) hx hb dX3_ship_113 hl (by decide) rfl (fun ls hl => ?_)
          refine lv_aload hx hb dX3_ship_115 (lv_at hl 0 rfl) ?_
          refine lv_iload_n hx hb dX3_ship_117 rfl (lv_at hl 3 rfl) ?_
          refine mg_put (ci := 2) (C := RX2) (T := TX2) (N := 11) (ty := .int) (v := .int x1) (x := x1) hx hb hts inX3_ship_X2 tyX2 tyX2_ok nmX2 hown hC (5 + (M4 0 3 : Int32).toNatClampNeg) (sh_lt (sh_in g7)) (cell_sh (sh_in g7) _) rfl 0 (by decide) (hts _ lkX3_ship_f61) rfl rfl (by decide +kernel) rfl rfl (Nat.le_of_ble_eq_true rfl) (cell_sh (sh_in g7) _) dX3_ship_118 (fun H locs hC => ?_)
          obtain ⟨M8, eM8⟩ : ∃ z : Mem, z = mw M4 (5 + (M4 0 3 : Int32).toNatClampNeg) 0 x1 := ⟨_, rfl⟩
          rw [← eM8] at hC
          have hf := lq_k eM8 hf
          refine lv_aload hx hb dX3_ship_121 (lv_at hl 0 rfl) ?_
          refine lv_iload_n hx hb dX3_ship_123 rfl (lv_at hl 4 rfl) ?_
          refine mg_put (ci := 2) (C := RX2) (T := TX2) (N := 11) (ty := .int) (v := .int x2) (x := x2) hx hb hts inX3_ship_X2 tyX2 tyX2_ok nmX2 hown hC (5 + (M4 0 3 : Int32).toNatClampNeg) (sh_lt (sh_in g7)) (cell_sh (sh_in g7) _) rfl 1 (by decide) (hts _ lkX3_ship_f64) rfl rfl (by decide +kernel) rfl rfl (Nat.le_of_ble_eq_true rfl) (cell_sh (sh_in g7) _) dX3_ship_124 (fun H locs hC => ?_)
          obtain ⟨M9, eM9⟩ : ∃ z : Mem, z = mw M8 (5 + (M4 0 3 : Int32).toNatClampNeg) 1 x2 := ⟨_, rfl⟩
          rw [← eM9] at hC
          have hf := lq_k eM9 hf
          refine lv_aload hx hb dX3_ship_127 (lv_at hl 0 rfl) ?_
          refine lv_iload_n hx hb dX3_ship_129 rfl (lv_at hl 5 rfl) ?_
          refine mg_put (ci := 2) (C := RX2) (T := TX2) (N := 11) (ty := .int) (v := .int x3) (x := x3) hx hb hts inX3_ship_X2 tyX2 tyX2_ok nmX2 hown hC (5 + (M4 0 3 : Int32).toNatClampNeg) (sh_lt (sh_in g7)) (cell_sh (sh_in g7) _) rfl 2 (by decide) (hts _ lkX3_ship_f67) rfl rfl (by decide +kernel) rfl rfl (Nat.le_of_ble_eq_true rfl) (cell_sh (sh_in g7) _) dX3_ship_130 (fun H locs hC => ?_)
          obtain ⟨M10, eM10⟩ : ∃ z : Mem, z = mw M9 (5 + (M4 0 3 : Int32).toNatClampNeg) 2 x3 := ⟨_, rfl⟩
          rw [← eM10] at hC
          have hf := lq_k eM10 hf
          refine lv_aload hx hb dX3_ship_133 (lv_at hl 0 rfl) ?_
          refine lv_iload hx hb dX3_ship_135 (lv_at hl 6 rfl) ?_
          refine mg_put (ci := 2) (C := RX2) (T := TX2) (N := 11) (ty := .int) (v := .int x4) (x := x4) hx hb hts inX3_ship_X2 tyX2 tyX2_ok nmX2 hown hC (5 + (M4 0 3 : Int32).toNatClampNeg) (sh_lt (sh_in g7)) (cell_sh (sh_in g7) _) rfl 3 (by decide) (hts _ lkX3_ship_f70) rfl rfl (by decide +kernel) rfl rfl (Nat.le_of_ble_eq_true rfl) (cell_sh (sh_in g7) _) dX3_ship_137 (fun H locs hC => ?_)
          obtain ⟨M11, eM11⟩ : ∃ z : Mem, z = mw M10 (5 + (M4 0 3 : Int32).toNatClampNeg) 3 x4 := ⟨_, rfl⟩
          rw [← eM11] at hC
          have hf := lq_k eM11 hf
          refine lv_aload hx hb dX3_ship_140 (lv_at hl 0 rfl) ?_
          refine lv_iload hx hb dX3_ship_142 (lv_at hl 7 rfl) ?_
          refine mg_put (ci := 2) (C := RX2) (T := TX2) (N := 11) (ty := .int) (v := .int x5) (x := x5) hx hb hts inX3_ship_X2 tyX2 tyX2_ok nmX2 hown hC (5 + (M4 0 3 : Int32).toNatClampNeg) (sh_lt (sh_in g7)) (cell_sh (sh_in g7) _) rfl 4 (by decide) (hts _ lkX3_ship_f73) rfl rfl (by decide +kernel) rfl rfl (Nat.le_of_ble_eq_true rfl) (cell_sh (sh_in g7) _) dX3_ship_144 (fun H locs hC => ?_)
          obtain ⟨M12, eM12⟩ : ∃ z : Mem, z = mw M11 (5 + (M4 0 3 : Int32).toNatClampNeg) 4 x5 := ⟨_, rfl⟩
          rw [← eM12] at hC
          have hf := lq_k eM12 hf
          refine lv_aload_n hx hb dX3_ship_147 rfl (lv_at hl 2 rfl) ?_
          refine lv_iconst (v := 0) hx hb dX3_ship_148 (by decide) ?_
          refine mg_put (ci := 3) (C := RX3) (T := TX3) (N := 5) (ty := .boolean) (v := .int 0) (x := 0) hx hb hts inX3_ship_X3 tyX3 tyX3_ok nmX3 hown hC 0 (by decide) rfl rfl 4 (by decide) (hts _ lkX3_ship_f76) rfl rfl (by decide +kernel) (by decide) rfl (Nat.le_of_ble_eq_true rfl) rfl dX3_ship_149 (fun H locs hC => ?_)
          obtain ⟨M13, eM13⟩ : ∃ z : Mem, z = mw M12 0 4 0 := ⟨_, rfl⟩
          rw [← eM13] at hC
          have hf := lq_k eM13 hf
          refine lv_aload_n hx hb dX3_ship_152 rfl (lv_at hl 2 rfl) ?_
          refine lv_dup hx hb dX3_ship_153 rfl ?_
          refine mg_get (ci := 3) (C := RX3) (T := TX3) (N := 5) (v := .int (M13 0 3)) hx hb hts inX3_ship_X3 hown hC 0 (by decide) rfl rfl 3 (by decide) (hts _ lkX3_ship_f52) rfl rfl dX3_ship_154 ?_
          refine lv_dup_x1 hx hb dX3_ship_157 rfl rfl ?_
          refine lv_iconst (v := 1) hx hb dX3_ship_158 (by decide) ?_
          refine lv_iadd hx hb dX3_ship_159 ?_
          refine mg_put (ci := 3) (C := RX3) (T := TX3) (N := 5) (ty := .int) (v := .int ((M13 0 3) + (1 : Int32))) (x := (M13 0 3) + (1 : Int32)) hx hb hts inX3_ship_X3 tyX3 tyX3_ok nmX3 hown hC 0 (by decide) rfl rfl 3 (by decide) (hts _ lkX3_ship_f52) rfl rfl (by decide +kernel) rfl rfl (Nat.le_of_ble_eq_true rfl) rfl dX3_ship_160 (fun H locs hC => ?_)
          obtain ⟨M14, eM14⟩ : ∃ z : Mem, z = mw M13 0 3 ((M13 0 3) + (1 : Int32)) := ⟨_, rfl⟩
          rw [← eM14] at hC
          have hf := lq_k eM14 hf
          exact mx_I hx hb hr hlk hC hf dX3_ship_163
        · have hf := it_f h6 hf
          exact mx_T (q := 2) (cls := exIS) (ik := 56) (is := 58) (ic := 60) (tx := "there are 4 ships") hx hb hl9 hlk hET hown (by decide) (hts _ lkX3_ship_kl56) (hts _ lkX3_ship_ki56) (by decide) (fun w h => hts w (xaX3_ship_60 w h)) nb_60 gx_60 (by decide) Ev9 hC (hl.1.trans hml.symm) dX3_ship_94 dX3_ship_97 dX3_ship_98 dX3_ship_100 dX3_ship_103 (by decide) (by decide) (by decide) (by decide) (by decide) rfl hf
      · have hf := it_t h5 hf
        exact mx_T (q := 1) (cls := exIA) (ik := 45) (is := 47) (ic := 49) (tx := "a ship\'s numbers can\'t be") hx hb hl9 hlk hET hown (by decide) (hts _ lkX3_ship_kl45) (hts _ lkX3_ship_ki45) (by decide) (fun w h => hts w (xaX3_ship_49 w h)) nb_49 gx_49 (by decide) Ev9 hC (hl.1.trans hml.symm) dX3_ship_76 dX3_ship_79 dX3_ship_80 dX3_ship_82 dX3_ship_85 (by decide) (by decide) (by decide) (by decide) (by decide) rfl hf
set_option maxHeartbeats 4000000 in
set_option maxRecDepth 100000 in
theorem wX3_ship_25 {p : Program} {l : Launch} {e : Env} {s : State} {m : MethodId} {args : Array Value} {below : List Frame} {meth : Method} {c : Code} {D : va_G} {ad : Nat → Nat} {ca : Nat → ClassId} {B : Nat} {ov : Int64} {q0 : Nat} {r0 : Int32} {M0 : Mem} (G : Mx p s m args meth c cX3_ship 9 wsX3_ship RX3 (some .int)) (hl9 : l.stackTraces = false) (Ev9 : Ev B s s.heap) (hET : ∀ x ∈ c.exceptionTable.toList, False) (N : Nat) : ∀ (x1 : Int32) (x2 : Int32) (x3 : Int32) (x4 : Int32) (x5 : Int32) (y0 : Int32) (M : Mem) (H : Heap) (locs : List Loc) (ls : Array Slot), lv_has ls 9 [(0, .ref (ad 0)), (1, .int x1), (2, .int x2), (3, .int x3), (4, .int x4), (5, .int x5)] → Cu D ad ca B M ov s H locs → (fX3_ship_25 N) x1 x2 x3 x4 x5 y0 M = some ((q0, r0), M0) → W p l e (rmX3_ship) s m args below meth c H locs 0 0 (vx_MQ below (va_Qi (fun (r : Int32) (_ : Unit) => q0 = 0 ∧ r = r0) (fun _ t => Wp D ad ca B M0 ov t.heap) (Ab B)) (XcOf D ad ca B ov q0 M0) args s 1 6 (Ab B)) (F0 m 25 ls [.int y0]) := by
  obtain ⟨hx, hb, hml, hown, hts, hr, hlk⟩ := id G
  intro x1 x2 x3 x4 x5 y0 M H locs ls hl hC hf
  unfold fX3_ship_25 at hf
  refine lv_istore (lv' := [(6, .int y0), (0, .ref (ad 0)), (1, .int x1), (2, .int x2), (3, .int x3), (4, .int x4), (5, .int x5)]) hx hb dX3_ship_25 hl (by decide) rfl (fun ls hl => ?_)
  refine lv_iload_n hx hb dX3_ship_27 rfl (lv_at hl 4 rfl) ?_
  refine lv_iconst (v := 1) hx hb dX3_ship_28 (by decide) ?_
  refine lv_bipush (v := 24) hx hb dX3_ship_29 (by decide) ?_
  obtain ⟨r1, M2, hq, hf⟩ := bd_s hf
  refine mc_Si (As := [.int x3, .int 1, .int 24]) ⟨hx, hb, hml, hown, hts⟩ hC (kX3_isWithin l D ad ca B ov N x3 1 24 M r1 M2 hq) (va_cwS 3 hts gX3_ship_X3_isWithin rfl rfl rfl (by decide +kernel) ⟨Nat.le_of_ble_eq_true rfl, Nat.le_of_ble_eq_true rfl⟩) rfl hl.1 rfl (Nat.le_of_ble_eq_true rfl) dX3_ship_31 ⟨Nat.zero_le _, Nat.zero_le _⟩ (fun H locs hC => ?_)
  refine lv_if_eq (tgt := 52) hx hb dX3_ship_34 (by decide) (fun h3 => ?_) (fun h3 => ?_)
  · have hf := it_t h3 hf
    refine lv_iconst (v := 0) hx hb dX3_ship_52 (by decide) ?_
    exact wX3_ship_53 G hl9 Ev9 hET N x1 x2 x3 x4 x5 y0 0 M2 _ _ _ (lv_sub hl [1, 2, 3, 4, 5, 6, 0] rfl) hC hf
  · have hf := it_f h3 hf
    refine lv_iload hx hb dX3_ship_37 (lv_at hl 5 rfl) ?_
    refine lv_iconst (v := 0) hx hb dX3_ship_39 (by decide) ?_
    refine lv_bipush (v := 15) hx hb dX3_ship_40 (by decide) ?_
    obtain ⟨r4, M5, hq, hf⟩ := bd_s hf
    refine mc_Si (As := [.int x4, .int 0, .int 15]) ⟨hx, hb, hml, hown, hts⟩ hC (kX3_isWithin l D ad ca B ov N x4 0 15 M2 r4 M5 hq) (va_cwS 3 hts gX3_ship_X3_isWithin rfl rfl rfl (by decide +kernel) ⟨Nat.le_of_ble_eq_true rfl, Nat.le_of_ble_eq_true rfl⟩) rfl hl.1 rfl (Nat.le_of_ble_eq_true rfl) dX3_ship_42 ⟨Nat.zero_le _, Nat.zero_le _⟩ (fun H locs hC => ?_)
    refine lv_if_eq (tgt := 52) hx hb dX3_ship_45 (by decide) (fun h6 => ?_) (fun h6 => ?_)
    · have hf := it_t h6 hf
      refine lv_iconst (v := 0) hx hb dX3_ship_52 (by decide) ?_
      exact wX3_ship_53 G hl9 Ev9 hET N x1 x2 x3 x4 x5 y0 0 M5 _ _ _ (lv_sub hl [1, 2, 3, 4, 5, 6, 0] rfl) hC hf
    · have hf := it_f h6 hf
      refine lv_iconst (v := 1) hx hb dX3_ship_48 (by decide) ?_
      refine lv_goto (tgt := 53) hx hb dX3_ship_49 (by decide) ?_
      exact wX3_ship_53 G hl9 Ev9 hET N x1 x2 x3 x4 x5 y0 1 M5 _ _ _ (lv_sub hl [1, 2, 3, 4, 5, 6, 0] rfl) hC hf
set_option maxHeartbeats 4000000 in
set_option maxRecDepth 100000 in
theorem kX3_ship (l : Launch) (D : va_G) (ad : Nat → Nat) (ca : Nat → ClassId) (B : Nat) (ov : Int64) (N : Nat) (x1 : Int32) (x2 : Int32) (x3 : Int32) (x4 : Int32) (x5 : Int32) (M : Mem) (q0 : Nat) (r0 : Int32) (M0 : Mem) (hl9 : l.stackTraces = false) (hf : fX3_ship N x1 x2 x3 x4 x5 M = some ((q0, r0), M0)) : XtI l D ad ca B ov yX3_ship wsX3_ship (rmX3_ship) [.ref (ad 0), .int x1, .int x2, .int x3, .int x4, .int x5] M q0 r0 M0 := by
  unfold fX3_ship at hf
  refine vx_ofW (cc := cX3_ship) (maxL := 9) (ret := (some .int)) (by decide) rfl ?_
  intro p e s m args below meth c s₁ Bd hml hET hv
  obtain ⟨rfl, hw, Ev9⟩ := hv
  have G : Mx p s m ([.ref (ad 0), .int x1, .int x2, .int x3, .int x4, .int x5] : List Value).toArray meth c cX3_ship 9 wsX3_ship RX3 (some .int) := ⟨Bd.exec, Bd.bytes, hml, findClass_of_methodNamed Bd.named, atoms_spec (ws := wsX3_ship) Bd.pre, Bd.returns, Bd.notSynchronized⟩
  have hC := Cu.of hw
  have hl := lv_entry ([.ref (ad 0), .int x1, .int x2, .int x3, .int x4, .int x5]) (n := 9) (Nat.le_of_ble_eq_true rfl)
  rw [lg_entry_eq]
  generalize (lg_sl ([.ref (ad 0), .int x1, .int x2, .int x3, .int x4, .int x5]) ++ List.replicate (9 - (lg_sl ([.ref (ad 0), .int x1, .int x2, .int x3, .int x4, .int x5])).length) Slot.unset).toArray = ls at hl ⊢
  have hl : lv_has ls 9 [(0, .ref (ad 0)), (1, .int x1), (2, .int x2), (3, .int x3), (4, .int x4), (5, .int x5)] := hl
  obtain ⟨hx, hb, hml, hown, hts, hr, hlk⟩ := id G
  show W p l e (rmX3_ship) s m _ below meth c s.heap [] 0 0 (vx_MQ below (va_Qi (fun (r : Int32) (_ : Unit) => q0 = 0 ∧ r = r0) (fun _ t => Wp D ad ca B M0 ov t.heap) (Ab B)) (XcOf D ad ca B ov q0 M0) _ s 1 6 (Ab B)) (F0 m 0 ls [])
  refine lv_iload_n hx hb dX3_ship_0 rfl (lv_at hl 1 rfl) ?_
  refine lv_iconst (v := 1) hx hb dX3_ship_1 (by decide) ?_
  refine lv_bipush (v := 6) hx hb dX3_ship_2 (by decide) ?_
  obtain ⟨r1, M2, hq, hf⟩ := bd_s hf
  refine mc_Si (As := [.int x1, .int 1, .int 6]) ⟨hx, hb, hml, hown, hts⟩ hC (kX3_isWithin l D ad ca B ov N x1 1 6 M r1 M2 hq) (va_cwS 3 hts gX3_ship_X3_isWithin rfl rfl rfl (by decide +kernel) ⟨Nat.le_of_ble_eq_true rfl, Nat.le_of_ble_eq_true rfl⟩) rfl hl.1 rfl (Nat.le_of_ble_eq_true rfl) dX3_ship_4 ⟨Nat.zero_le _, Nat.zero_le _⟩ (fun H locs hC => ?_)
  refine lv_if_eq (tgt := 24) hx hb dX3_ship_7 (by decide) (fun h3 => ?_) (fun h3 => ?_)
  · have hf := it_t h3 hf
    refine lv_iconst (v := 0) hx hb dX3_ship_24 (by decide) ?_
    exact wX3_ship_25 G hl9 Ev9 hET N x1 x2 x3 x4 x5 0 M2 _ _ _ (lv_sub hl [0, 1, 2, 3, 4, 5] rfl) hC hf
  · have hf := it_f h3 hf
    refine lv_iload_n hx hb dX3_ship_10 rfl (lv_at hl 2 rfl) ?_
    refine lv_iconst (v := 0) hx hb dX3_ship_11 (by decide) ?_
    refine lv_bipush (v := 100) hx hb dX3_ship_12 (by decide) ?_
    obtain ⟨r4, M5, hq, hf⟩ := bd_s hf
    refine mc_Si (As := [.int x2, .int 0, .int 100]) ⟨hx, hb, hml, hown, hts⟩ hC (kX3_isWithin l D ad ca B ov N x2 0 100 M2 r4 M5 hq) (va_cwS 3 hts gX3_ship_X3_isWithin rfl rfl rfl (by decide +kernel) ⟨Nat.le_of_ble_eq_true rfl, Nat.le_of_ble_eq_true rfl⟩) rfl hl.1 rfl (Nat.le_of_ble_eq_true rfl) dX3_ship_14 ⟨Nat.zero_le _, Nat.zero_le _⟩ (fun H locs hC => ?_)
    refine lv_if_eq (tgt := 24) hx hb dX3_ship_17 (by decide) (fun h6 => ?_) (fun h6 => ?_)
    · have hf := it_t h6 hf
      refine lv_iconst (v := 0) hx hb dX3_ship_24 (by decide) ?_
      exact wX3_ship_25 G hl9 Ev9 hET N x1 x2 x3 x4 x5 0 M5 _ _ _ (lv_sub hl [0, 1, 2, 3, 4, 5] rfl) hC hf
    · have hf := it_f h6 hf
      refine lv_iconst (v := 1) hx hb dX3_ship_20 (by decide) ?_
      refine lv_goto (tgt := 25) hx hb dX3_ship_21 (by decide) ?_
      exact wX3_ship_25 G hl9 Ev9 hET N x1 x2 x3 x4 x5 1 M5 _ _ _ (lv_sub hl [0, 1, 2, 3, 4, 5] rfl) hC hf

theorem lkX3_at_f29 : Cond.fieldLink RX3 29 "BerthPlan" "ships" "[LBerthPlan$Ship;" ∈ wsX3_at := by decide +kernel
theorem lkX3_at_f70 : Cond.fieldLink RX3 70 "BerthPlan$Ship" "arrives" "I" ∈ wsX3_at := by decide +kernel
theorem lkX3_at_f76 : Cond.fieldLink RX3 76 "BerthPlan" "planned" "Z" ∈ wsX3_at := by decide +kernel
theorem lkX3_at_f143 : Cond.fieldLink RX3 143 "BerthPlan$Ship" "place" "I" ∈ wsX3_at := by decide +kernel
theorem lkX3_at_f146 : Cond.fieldLink RX3 146 "BerthPlan$Ship" "hour" "I" ∈ wsX3_at := by decide +kernel
theorem lkX3_at_ki56 : Cond.initialized "java/lang/IllegalStateException" ∈ wsX3_at := by decide +kernel
theorem lkX3_at_ki136 : Cond.initialized "java/lang/IndexOutOfBoundsException" ∈ wsX3_at := by decide +kernel
theorem lkX3_at_kl56 : Cond.classLink RX3 56 "java/lang/IllegalStateException" ∈ wsX3_at := by decide +kernel
theorem lkX3_at_kl136 : Cond.classLink RX3 136 "java/lang/IndexOutOfBoundsException" ∈ wsX3_at := by decide +kernel
theorem inX3_at_X2 : ∀ w ∈ wsX20, w ∈ wsX3_at := by decide +kernel
theorem inX3_at_X3 : ∀ w ∈ wsX30, w ∈ wsX3_at := by decide +kernel
theorem xaX3_at_140 : ∀ w ∈ (vx_atS RX3 140 "java/lang/IndexOutOfBoundsException" ["java/lang/RuntimeException", "java/lang/Exception"]).filter goodWord, w ∈ wsX3_at := by decide +kernel
theorem xaX3_at_60 : ∀ w ∈ (vx_atS RX3 60 "java/lang/IllegalStateException" ["java/lang/RuntimeException", "java/lang/Exception"]).filter goodWord, w ∈ wsX3_at := by decide +kernel
abbrev rmX3_at : Room := { frames := 6, cells := 1, slots := 6, locals := 90 }
def fX3_at (N : Nat) (x1 : Int32) (x2 : Int32) (M : Mem) : Option ((Nat × Int32) × Mem) :=
    bd (fX3_isShip N x1 M) (fun r1 M2 => if (r1 = 0 : Prop) then (some ((3, 0), M2)) else (bd (fX3_isWithin N x2 0 2 M2) (fun r4 M5 => if (r4 = 0 : Prop) then (some ((3, 0), M5)) else (if ((M5 0 4) = 0 : Prop) then (some ((2, 0), M5)) else (gd (x1) 4 (if (x2 = 0 : Prop) then (some ((0, M5 (5 + (x1 : Int32).toNatClampNeg) 9), M5)) else (if (x2 = 1 : Prop) then (some ((0, M5 (5 + (x1 : Int32).toNatClampNeg) 10), M5)) else (some ((0, (M5 (5 + (x1 : Int32).toNatClampNeg) 10) - (M5 (5 + (x1 : Int32).toNatClampNeg) 3)), M5)))))))))
set_option maxHeartbeats 4000000 in
set_option maxRecDepth 100000 in
theorem kX3_at (l : Launch) (D : va_G) (ad : Nat → Nat) (ca : Nat → ClassId) (B : Nat) (ov : Int64) (N : Nat) (x1 : Int32) (x2 : Int32) (M : Mem) (q0 : Nat) (r0 : Int32) (M0 : Mem) (hl9 : l.stackTraces = false) (hf : fX3_at N x1 x2 M = some ((q0, r0), M0)) : XtI l D ad ca B ov yX3_at wsX3_at (rmX3_at) [.ref (ad 0), .int x1, .int x2] M q0 r0 M0 := by
  unfold fX3_at at hf
  refine vx_ofW (cc := cX3_at) (maxL := 4) (ret := (some .int)) (by decide) rfl ?_
  intro p e s m args below meth c s₁ Bd hml hET hv
  obtain ⟨rfl, hw, Ev9⟩ := hv
  have G : Mx p s m ([.ref (ad 0), .int x1, .int x2] : List Value).toArray meth c cX3_at 4 wsX3_at RX3 (some .int) := ⟨Bd.exec, Bd.bytes, hml, findClass_of_methodNamed Bd.named, atoms_spec (ws := wsX3_at) Bd.pre, Bd.returns, Bd.notSynchronized⟩
  have hC := Cu.of hw
  have hl := lv_entry ([.ref (ad 0), .int x1, .int x2]) (n := 4) (Nat.le_of_ble_eq_true rfl)
  rw [lg_entry_eq]
  generalize (lg_sl ([.ref (ad 0), .int x1, .int x2]) ++ List.replicate (4 - (lg_sl ([.ref (ad 0), .int x1, .int x2])).length) Slot.unset).toArray = ls at hl ⊢
  have hl : lv_has ls 4 [(0, .ref (ad 0)), (1, .int x1), (2, .int x2)] := hl
  obtain ⟨hx, hb, hml, hown, hts, hr, hlk⟩ := id G
  show W p l e (rmX3_at) s m _ below meth c s.heap [] 0 0 (vx_MQ below (va_Qi (fun (r : Int32) (_ : Unit) => q0 = 0 ∧ r = r0) (fun _ t => Wp D ad ca B M0 ov t.heap) (Ab B)) (XcOf D ad ca B ov q0 M0) _ s 1 6 (Ab B)) (F0 m 0 ls [])
  refine lv_aload_n hx hb dX3_at_0 rfl (lv_at hl 0 rfl) ?_
  refine lv_iload_n hx hb dX3_at_1 rfl (lv_at hl 1 rfl) ?_
  obtain ⟨r1, M2, hq, hf⟩ := bd_s hf
  refine mc_Vi (As := [.int x1]) ⟨hx, hb, hml, hown, hts⟩ hC (kX3_isShip l D ad ca B ov N x1 M r1 M2 hq) (cwV 1 hts gX3_at_X3_isShip rfl rfl rfl (by decide +kernel) ⟨Nat.le_of_ble_eq_true rfl, Nat.le_of_ble_eq_true rfl⟩) (mg_recv (ci := 3) (C := RX3) (T := TX3) (N := 5) hC 0 (by decide) rfl rfl) rfl hl.1 rfl (Nat.le_of_ble_eq_true rfl) dX3_at_2 ⟨Nat.zero_le _, Nat.zero_le _⟩ (fun H locs hC => ?_)
  refine lv_if_eq (tgt := 17) hx hb dX3_at_5 (by decide) (fun h3 => ?_) (fun h3 => ?_)
  · have hf := it_t h3 hf
    exact mx_T (q := 3) (cls := exIX) (ik := 136) (is := 138) (ic := 140) (tx := "no such ship or what") hx hb hl9 hlk hET hown (by decide) (hts _ lkX3_at_kl136) (hts _ lkX3_at_ki136) (by decide) (fun w h => hts w (xaX3_at_140 w h)) nb_140 gx_140 (by decide) Ev9 hC (hl.1.trans hml.symm) dX3_at_17 dX3_at_20 dX3_at_21 dX3_at_23 dX3_at_26 (by decide) (by decide) (by decide) (by decide) (by decide) rfl hf
  · have hf := it_f h3 hf
    refine lv_iload_n hx hb dX3_at_8 rfl (lv_at hl 2 rfl) ?_
    refine lv_iconst (v := 0) hx hb dX3_at_9 (by decide) ?_
    refine lv_iconst (v := 2) hx hb dX3_at_10 (by decide) ?_
    obtain ⟨r4, M5, hq, hf⟩ := bd_s hf
    refine mc_Si (As := [.int x2, .int 0, .int 2]) ⟨hx, hb, hml, hown, hts⟩ hC (kX3_isWithin l D ad ca B ov N x2 0 2 M2 r4 M5 hq) (va_cwS 3 hts gX3_at_X3_isWithin rfl rfl rfl (by decide +kernel) ⟨Nat.le_of_ble_eq_true rfl, Nat.le_of_ble_eq_true rfl⟩) rfl hl.1 rfl (Nat.le_of_ble_eq_true rfl) dX3_at_11 ⟨Nat.zero_le _, Nat.zero_le _⟩ (fun H locs hC => ?_)
    refine lv_if_ne (tgt := 27) hx hb dX3_at_14 (by decide) (fun h6 => ?_) (fun h6 => ?_)
    · have hf := it_f h6 hf
      refine lv_aload_n hx hb dX3_at_27 rfl (lv_at hl 0 rfl) ?_
      refine mg_get (ci := 3) (C := RX3) (T := TX3) (N := 5) (v := .int (M5 0 4)) hx hb hts inX3_at_X3 hown hC 0 (by decide) rfl rfl 4 (by decide) (hts _ lkX3_at_f76) rfl rfl dX3_at_28 ?_
      refine lv_if_ne (tgt := 44) hx hb dX3_at_31 (by decide) (fun h7 => ?_) (fun h7 => ?_)
      · have hf := it_f h7 hf
        refine lv_aload_n hx hb dX3_at_44 rfl (lv_at hl 0 rfl) ?_
        refine mg_get (ci := 3) (C := RX3) (T := TX3) (N := 5) (v := .ref (ad 4)) hx hb hts inX3_at_X3 hown hC 0 (by decide) rfl rfl 1 (by decide) (hts _ lkX3_at_f29) rfl rfl dX3_at_45 ?_
        refine lv_iload_n hx hb dX3_at_48 rfl (lv_at hl 1 rfl) ?_
        obtain ⟨g8, hf⟩ := gd_s hf
        refine mg_aald hx hb hC g8 dX3_at_49 ?_
        refine lv_astore_n (lv' := [(3, .ref (ad (5 + (x1 : Int32).toNatClampNeg))), (0, .ref (ad 0)), (1, .int x1), (2, .int x2)]) hx hb dX3_at_50 rfl hl (by decide) rfl (fun ls hl => ?_)
        refine lv_iload_n hx hb dX3_at_51 rfl (lv_at hl 3 rfl) ?_
        refine lv_if_ne (tgt := 60) hx hb dX3_at_52 (by decide) (fun h9 => ?_) (fun h9 => ?_)
        · have hf := it_f h9 hf
          refine lv_iload_n hx hb dX3_at_60 rfl (lv_at hl 3 rfl) ?_
          refine lv_iconst (v := 1) hx hb dX3_at_61 (by decide) ?_
          refine lv_icmp_ne (tgt := 72) hx hb dX3_at_62 (by decide) (fun h10 => ?_) (fun h10 => ?_)
          · have hf := it_f h10 hf
            refine lv_aload_n hx hb dX3_at_72 rfl (lv_at hl 0 rfl) ?_
            refine mg_get (ci := 2) (C := RX2) (T := TX2) (N := 11) (v := .int (M5 (5 + (x1 : Int32).toNatClampNeg) 10)) hx hb hts inX3_at_X2 hown hC (5 + (x1 : Int32).toNatClampNeg) (sh_lt (sh_in g8)) (cell_sh (sh_in g8) _) rfl 10 (by decide) (hts _ lkX3_at_f146) rfl rfl dX3_at_73 ?_
            refine lv_aload_n hx hb dX3_at_76 rfl (lv_at hl 0 rfl) ?_
            refine mg_get (ci := 2) (C := RX2) (T := TX2) (N := 11) (v := .int (M5 (5 + (x1 : Int32).toNatClampNeg) 3)) hx hb hts inX3_at_X2 hown hC (5 + (x1 : Int32).toNatClampNeg) (sh_lt (sh_in g8)) (cell_sh (sh_in g8) _) rfl 3 (by decide) (hts _ lkX3_at_f70) rfl rfl dX3_at_77 ?_
            refine lv_isub hx hb dX3_at_80 ?_
            exact mx_I hx hb hr hlk hC hf dX3_at_81
          · have hf := it_t h10 hf
            refine lv_aload_n hx hb dX3_at_65 rfl (lv_at hl 0 rfl) ?_
            refine mg_get (ci := 2) (C := RX2) (T := TX2) (N := 11) (v := .int (M5 (5 + (x1 : Int32).toNatClampNeg) 10)) hx hb hts inX3_at_X2 hown hC (5 + (x1 : Int32).toNatClampNeg) (sh_lt (sh_in g8)) (cell_sh (sh_in g8) _) rfl 10 (by decide) (hts _ lkX3_at_f146) rfl rfl dX3_at_66 ?_
            refine lv_goto (tgt := 81) hx hb dX3_at_69 (by decide) ?_
            exact mx_I hx hb hr hlk hC hf dX3_at_81
        · have hf := it_t h9 hf
          refine lv_aload_n hx hb dX3_at_55 rfl (lv_at hl 0 rfl) ?_
          refine mg_get (ci := 2) (C := RX2) (T := TX2) (N := 11) (v := .int (M5 (5 + (x1 : Int32).toNatClampNeg) 9)) hx hb hts inX3_at_X2 hown hC (5 + (x1 : Int32).toNatClampNeg) (sh_lt (sh_in g8)) (cell_sh (sh_in g8) _) rfl 9 (by decide) (hts _ lkX3_at_f143) rfl rfl dX3_at_56 ?_
          exact mx_I hx hb hr hlk hC hf dX3_at_59
      · have hf := it_t h7 hf
        exact mx_T (q := 2) (cls := exIS) (ik := 56) (is := 141) (ic := 60) (tx := "there is no plan") hx hb hl9 hlk hET hown (by decide) (hts _ lkX3_at_kl56) (hts _ lkX3_at_ki56) (by decide) (fun w h => hts w (xaX3_at_60 w h)) nb_60 gx_60 (by decide) Ev9 hC (hl.1.trans hml.symm) dX3_at_34 dX3_at_37 dX3_at_38 dX3_at_40 dX3_at_43 (by decide) (by decide) (by decide) (by decide) (by decide) rfl hf
    · have hf := it_t h6 hf
      exact mx_T (q := 3) (cls := exIX) (ik := 136) (is := 138) (ic := 140) (tx := "no such ship or what") hx hb hl9 hlk hET hown (by decide) (hts _ lkX3_at_kl136) (hts _ lkX3_at_ki136) (by decide) (fun w h => hts w (xaX3_at_140 w h)) nb_140 gx_140 (by decide) Ev9 hC (hl.1.trans hml.symm) dX3_at_17 dX3_at_20 dX3_at_21 dX3_at_23 dX3_at_26 (by decide) (by decide) (by decide) (by decide) (by decide) rfl hf

theorem lkX3_lateness_f29 : Cond.fieldLink RX3 29 "BerthPlan" "ships" "[LBerthPlan$Ship;" ∈ wsX3_lateness := by decide +kernel
theorem lkX3_lateness_f52 : Cond.fieldLink RX3 52 "BerthPlan" "shipCount" "I" ∈ wsX3_lateness := by decide +kernel
theorem lkX3_lateness_f76 : Cond.fieldLink RX3 76 "BerthPlan" "planned" "Z" ∈ wsX3_lateness := by decide +kernel
theorem lkX3_lateness_f146 : Cond.fieldLink RX3 146 "BerthPlan$Ship" "hour" "I" ∈ wsX3_lateness := by decide +kernel
theorem lkX3_lateness_ki56 : Cond.initialized "java/lang/IllegalStateException" ∈ wsX3_lateness := by decide +kernel
theorem lkX3_lateness_kl56 : Cond.classLink RX3 56 "java/lang/IllegalStateException" ∈ wsX3_lateness := by decide +kernel
theorem inX3_lateness_X2 : ∀ w ∈ wsX20, w ∈ wsX3_lateness := by decide +kernel
theorem inX3_lateness_X3 : ∀ w ∈ wsX30, w ∈ wsX3_lateness := by decide +kernel
theorem xaX3_lateness_60 : ∀ w ∈ (vx_atS RX3 60 "java/lang/IllegalStateException" ["java/lang/RuntimeException", "java/lang/Exception"]).filter goodWord, w ∈ wsX3_lateness := by decide +kernel
abbrev rmX3_lateness : Room := { frames := 6, cells := 1, slots := 6, locals := 90 }
def fX3_lateness_21 (N : Nat) : Nat → Int32 → Int32 → Mem → Option ((Nat × Int32) × Mem)
  | 0, _, _, _ => none
  | n + 1, x1, x2, M =>
    if ((M 0 3) ≤ x2 : Prop) then (some ((0, x1), M)) else (gd (x2) 4 (gd (x2) 4 (bd (fX2_latenessIf N (5 + (x2 : Int32).toNatClampNeg) (M (5 + (x2 : Int32).toNatClampNeg) 10) M) (fun r4 M5 => lq (x1 + r4) (fun z6 => lq (x2 + 1) (fun z7 => fX3_lateness_21 N n z6 z7 M5))))))
theorem fX3_lateness_21_s {N n : Nat} {x1 : Int32} {x2 : Int32} {M : Mem} : fX3_lateness_21 N (n + 1) x1 x2 M =
    if ((M 0 3) ≤ x2 : Prop) then (some ((0, x1), M)) else (gd (x2) 4 (gd (x2) 4 (bd (fX2_latenessIf N (5 + (x2 : Int32).toNatClampNeg) (M (5 + (x2 : Int32).toNatClampNeg) 10) M) (fun r4 M5 => lq (x1 + r4) (fun z6 => lq (x2 + 1) (fun z7 => fX3_lateness_21 N n z6 z7 M5)))))) := rfl
def fX3_lateness (N : Nat) (M : Mem) : Option ((Nat × Int32) × Mem) :=
    if ((M 0 4) = 0 : Prop) then (some ((2, 0), M)) else (fX3_lateness_21 N N 0 0 M)
set_option maxHeartbeats 4000000 in
set_option maxRecDepth 100000 in
theorem wX3_lateness_21 {p : Program} {l : Launch} {e : Env} {s : State} {m : MethodId} {args : Array Value} {below : List Frame} {meth : Method} {c : Code} {D : va_G} {ad : Nat → Nat} {ca : Nat → ClassId} {B : Nat} {ov : Int64} {q0 : Nat} {r0 : Int32} {M0 : Mem} (G : Mx p s m args meth c cX3_lateness 3 wsX3_lateness RX3 (some .int)) (hl9 : l.stackTraces = false) (Ev9 : Ev B s s.heap) (hET : ∀ x ∈ c.exceptionTable.toList, False) (N : Nat) : ∀ (n : Nat), ∀ (x1 : Int32) (x2 : Int32) (M : Mem) (H : Heap) (locs : List Loc) (ls : Array Slot), lv_has ls 3 [(0, .ref (ad 0)), (1, .int x1), (2, .int x2)] → Cu D ad ca B M ov s H locs → (fX3_lateness_21 N n) x1 x2 M = some ((q0, r0), M0) → W p l e (rmX3_lateness) s m args below meth c H locs 0 0 (vx_MQ below (va_Qi (fun (r : Int32) (_ : Unit) => q0 = 0 ∧ r = r0) (fun _ t => Wp D ad ca B M0 ov t.heap) (Ab B)) (XcOf D ad ca B ov q0 M0) args s 1 6 (Ab B)) (F0 m 21 ls []) := by
  obtain ⟨hx, hb, hml, hown, hts, hr, hlk⟩ := id G
  intro n
  induction n with
  | zero =>
    intro x1 x2 M H locs ls hl hC hf
    cases hf
  | succ n ih =>
    intro x1 x2 M H locs ls hl hC hf
    have hf := (fX3_lateness_21_s).symm.trans hf
    refine lv_iload_n hx hb dX3_lateness_21 rfl (lv_at hl 2 rfl) ?_
    refine lv_aload_n hx hb dX3_lateness_22 rfl (lv_at hl 0 rfl) ?_
    refine mg_get (ci := 3) (C := RX3) (T := TX3) (N := 5) (v := .int (M 0 3)) hx hb hts inX3_lateness_X3 hown hC 0 (by decide) rfl rfl 3 (by decide) (hts _ lkX3_lateness_f52) rfl rfl dX3_lateness_23 ?_
    refine lv_icmp_ge (tgt := 56) hx hb dX3_lateness_26 (by decide) (fun h1 => ?_) (fun h1 => ?_)
    · have hf := it_t h1 hf
      refine lv_iload_n hx hb dX3_lateness_56 rfl (lv_at hl 1 rfl) ?_
      exact mx_I hx hb hr hlk hC hf dX3_lateness_57
    · have hf := it_f h1 hf
      refine lv_iload_n hx hb dX3_lateness_29 rfl (lv_at hl 1 rfl) ?_
      refine lv_aload_n hx hb dX3_lateness_30 rfl (lv_at hl 0 rfl) ?_
      refine mg_get (ci := 3) (C := RX3) (T := TX3) (N := 5) (v := .ref (ad 4)) hx hb hts inX3_lateness_X3 hown hC 0 (by decide) rfl rfl 1 (by decide) (hts _ lkX3_lateness_f29) rfl rfl dX3_lateness_31 ?_
      refine lv_iload_n hx hb dX3_lateness_34 rfl (lv_at hl 2 rfl) ?_
      obtain ⟨g2, hf⟩ := gd_s hf
      refine mg_aald hx hb hC g2 dX3_lateness_35 ?_
      refine lv_aload_n hx hb dX3_lateness_36 rfl (lv_at hl 0 rfl) ?_
      refine mg_get (ci := 3) (C := RX3) (T := TX3) (N := 5) (v := .ref (ad 4)) hx hb hts inX3_lateness_X3 hown hC 0 (by decide) rfl rfl 1 (by decide) (hts _ lkX3_lateness_f29) rfl rfl dX3_lateness_37 ?_
      refine lv_iload_n hx hb dX3_lateness_40 rfl (lv_at hl 2 rfl) ?_
      obtain ⟨g3, hf⟩ := gd_s hf
      refine mg_aald hx hb hC g3 dX3_lateness_41 ?_
      refine mg_get (ci := 2) (C := RX2) (T := TX2) (N := 11) (v := .int (M (5 + (x2 : Int32).toNatClampNeg) 10)) hx hb hts inX3_lateness_X2 hown hC (5 + (x2 : Int32).toNatClampNeg) (sh_lt (sh_in g3)) (cell_sh (sh_in g3) _) rfl 10 (by decide) (hts _ lkX3_lateness_f146) rfl rfl dX3_lateness_42 ?_
      obtain ⟨r4, M5, hq, hf⟩ := bd_s hf
      refine mc_Vi (As := [.int (M (5 + (x2 : Int32).toNatClampNeg) 10)]) ⟨hx, hb, hml, hown, hts⟩ hC (kX2_latenessIf l D ad ca B ov N (5 + (x2 : Int32).toNatClampNeg) (M (5 + (x2 : Int32).toNatClampNeg) 10) (sh_in g2) M r4 M5 hq) (cwV 1 hts gX3_lateness_X2_latenessIf rfl rfl rfl (by decide +kernel) ⟨Nat.le_of_ble_eq_true rfl, Nat.le_of_ble_eq_true rfl⟩) (mg_recv (ci := 2) (C := RX2) (T := TX2) (N := 11) hC (5 + (x2 : Int32).toNatClampNeg) (sh_lt (sh_in g2)) (cell_sh (sh_in g2) _) rfl) rfl hl.1 rfl (Nat.le_of_ble_eq_true rfl) dX3_lateness_45 ⟨Nat.zero_le _, Nat.zero_le _⟩ (fun H locs hC => ?_)
      refine lv_iadd hx hb dX3_lateness_48 ?_
      refine lv_topi (fun z6 ez6 => ?_)
      have hf := lq_k ez6 hf
      refine lv_istore_n (lv' := [(1, .int z6), (0, .ref (ad 0)), (2, .int x2)]) hx hb dX3_lateness_49 rfl hl (by decide) rfl (fun ls hl => ?_)
      obtain ⟨z7, ez7⟩ : ∃ y : Int32, y = x2 + 1 := ⟨_, rfl⟩
      have hf := lq_k ez7 hf
      refine lv_iinc (v := z7) (lv' := [(2, .int z7), (1, .int z6), (0, .ref (ad 0))]) hx hb dX3_lateness_50 hl (k := 2) rfl (by rw [ez7]; rfl) (by decide) rfl (fun ls hl => ?_)
      refine lv_goto (tgt := 21) hx hb dX3_lateness_53 (by decide) ?_
      exact ih z6 z7 M5 _ _ _ (lv_sub hl [2, 1, 0] rfl) hC hf
set_option maxHeartbeats 4000000 in
set_option maxRecDepth 100000 in
theorem kX3_lateness (l : Launch) (D : va_G) (ad : Nat → Nat) (ca : Nat → ClassId) (B : Nat) (ov : Int64) (N : Nat) (M : Mem) (q0 : Nat) (r0 : Int32) (M0 : Mem) (hl9 : l.stackTraces = false) (hf : fX3_lateness N M = some ((q0, r0), M0)) : XtI l D ad ca B ov yX3_lateness wsX3_lateness (rmX3_lateness) [.ref (ad 0)] M q0 r0 M0 := by
  unfold fX3_lateness at hf
  refine vx_ofW (cc := cX3_lateness) (maxL := 3) (ret := (some .int)) (by decide) rfl ?_
  intro p e s m args below meth c s₁ Bd hml hET hv
  obtain ⟨rfl, hw, Ev9⟩ := hv
  have G : Mx p s m ([.ref (ad 0)] : List Value).toArray meth c cX3_lateness 3 wsX3_lateness RX3 (some .int) := ⟨Bd.exec, Bd.bytes, hml, findClass_of_methodNamed Bd.named, atoms_spec (ws := wsX3_lateness) Bd.pre, Bd.returns, Bd.notSynchronized⟩
  have hC := Cu.of hw
  have hl := lv_entry ([.ref (ad 0)]) (n := 3) (Nat.le_of_ble_eq_true rfl)
  rw [lg_entry_eq]
  generalize (lg_sl ([.ref (ad 0)]) ++ List.replicate (3 - (lg_sl ([.ref (ad 0)])).length) Slot.unset).toArray = ls at hl ⊢
  have hl : lv_has ls 3 [(0, .ref (ad 0))] := hl
  obtain ⟨hx, hb, hml, hown, hts, hr, hlk⟩ := id G
  show W p l e (rmX3_lateness) s m _ below meth c s.heap [] 0 0 (vx_MQ below (va_Qi (fun (r : Int32) (_ : Unit) => q0 = 0 ∧ r = r0) (fun _ t => Wp D ad ca B M0 ov t.heap) (Ab B)) (XcOf D ad ca B ov q0 M0) _ s 1 6 (Ab B)) (F0 m 0 ls [])
  refine lv_aload_n hx hb dX3_lateness_0 rfl (lv_at hl 0 rfl) ?_
  refine mg_get (ci := 3) (C := RX3) (T := TX3) (N := 5) (v := .int (M 0 4)) hx hb hts inX3_lateness_X3 hown hC 0 (by decide) rfl rfl 4 (by decide) (hts _ lkX3_lateness_f76) rfl rfl dX3_lateness_1 ?_
  refine lv_if_ne (tgt := 17) hx hb dX3_lateness_4 (by decide) (fun h1 => ?_) (fun h1 => ?_)
  · have hf := it_f h1 hf
    refine lv_iconst (v := 0) hx hb dX3_lateness_17 (by decide) ?_
    refine lv_istore_n (lv' := [(1, .int 0), (0, .ref (ad 0))]) hx hb dX3_lateness_18 rfl hl (by decide) rfl (fun ls hl => ?_)
    refine lv_iconst (v := 0) hx hb dX3_lateness_19 (by decide) ?_
    refine lv_istore_n (lv' := [(2, .int 0), (1, .int 0), (0, .ref (ad 0))]) hx hb dX3_lateness_20 rfl hl (by decide) rfl (fun ls hl => ?_)
    exact wX3_lateness_21 G hl9 Ev9 hET N N 0 0 M _ _ _ (lv_sub hl [2, 1, 0] rfl) hC hf
  · have hf := it_t h1 hf
    exact mx_T (q := 2) (cls := exIS) (ik := 56) (is := 141) (ic := 60) (tx := "there is no plan") hx hb hl9 hlk hET hown (by decide) (hts _ lkX3_lateness_kl56) (hts _ lkX3_lateness_ki56) (by decide) (fun w h => hts w (xaX3_lateness_60 w h)) nb_60 gx_60 (by decide) Ev9 hC (hl.1.trans hml.symm) dX3_lateness_7 dX3_lateness_10 dX3_lateness_11 dX3_lateness_13 dX3_lateness_16 (by decide) (by decide) (by decide) (by decide) (by decide) rfl hf

theorem lkX3_why_f23 : Cond.fieldLink RX3 23 "BerthPlan" "quay" "LBerthPlan$Quay;" ∈ wsX3_why := by decide +kernel
theorem lkX3_why_f29 : Cond.fieldLink RX3 29 "BerthPlan" "ships" "[LBerthPlan$Ship;" ∈ wsX3_why := by decide +kernel
theorem lkX3_why_f61 : Cond.fieldLink RX3 61 "BerthPlan$Ship" "length" "I" ∈ wsX3_why := by decide +kernel
theorem lkX3_why_f64 : Cond.fieldLink RX3 64 "BerthPlan$Ship" "need" "I" ∈ wsX3_why := by decide +kernel
theorem lkX3_why_f70 : Cond.fieldLink RX3 70 "BerthPlan$Ship" "arrives" "I" ∈ wsX3_why := by decide +kernel
theorem lkX3_why_f101 : Cond.fieldLink RX3 101 "BerthPlan$Ship" "wanted" "I" ∈ wsX3_why := by decide +kernel
theorem lkX3_why_f119 : Cond.fieldLink RX3 119 "BerthPlan$Ship" "isFixed" "Z" ∈ wsX3_why := by decide +kernel
theorem lkX3_why_f160 : Cond.fieldLink RX3 160 "BerthPlan$Quay" "places" "I" ∈ wsX3_why := by decide +kernel
theorem lkX3_why_ki136 : Cond.initialized "java/lang/IndexOutOfBoundsException" ∈ wsX3_why := by decide +kernel
theorem lkX3_why_kl136 : Cond.classLink RX3 136 "java/lang/IndexOutOfBoundsException" ∈ wsX3_why := by decide +kernel
theorem inX3_why_X0 : ∀ w ∈ wsX00, w ∈ wsX3_why := by decide +kernel
theorem inX3_why_X2 : ∀ w ∈ wsX20, w ∈ wsX3_why := by decide +kernel
theorem inX3_why_X3 : ∀ w ∈ wsX30, w ∈ wsX3_why := by decide +kernel
theorem xaX3_why_140 : ∀ w ∈ (vx_atS RX3 140 "java/lang/IndexOutOfBoundsException" ["java/lang/RuntimeException", "java/lang/Exception"]).filter goodWord, w ∈ wsX3_why := by decide +kernel
abbrev rmX3_why : Room := { frames := 6, cells := 1, slots := 6, locals := 90 }
def fX3_why (N : Nat) (x1 : Int32) (M : Mem) : Option ((Nat × Int32) × Mem) :=
    bd (fX3_isShip N x1 M) (fun r1 M2 => if (r1 = 0 : Prop) then (some ((3, 0), M2)) else (gd (x1) 4 (if ((M2 (5 + (x1 : Int32).toNatClampNeg) 6) = 0 : Prop) then (if ((M2 (5 + (x1 : Int32).toNatClampNeg) 0) ≤ (M2 1 0) : Prop) then (bd (fX0_hasRow N (M2 (5 + (x1 : Int32).toNatClampNeg) 0) (M2 (5 + (x1 : Int32).toNatClampNeg) 1) 0 M2) (fun r7 M8 => if (r7 = 0 : Prop) then (some ((0, 2), M8)) else (bd (fX0_hasRow N (M8 (5 + (x1 : Int32).toNatClampNeg) 0) (M8 (5 + (x1 : Int32).toNatClampNeg) 1) (M8 (5 + (x1 : Int32).toNatClampNeg) 5) M8) (fun r10 M11 => if (r10 = 0 : Prop) then (some ((0, 3), M11)) else (bd (fX0_beginsFrom N (M11 (5 + (x1 : Int32).toNatClampNeg) 3) M11) (fun r13 M14 => if (r13 = 0 : Prop) then (some ((0, 4), M14)) else (some ((0, 0), M14)))))))) else (some ((0, 1), M2))) else (some ((0, 0), M2)))))
set_option maxHeartbeats 4000000 in
set_option maxRecDepth 100000 in
theorem kX3_why (l : Launch) (D : va_G) (ad : Nat → Nat) (ca : Nat → ClassId) (B : Nat) (ov : Int64) (N : Nat) (x1 : Int32) (M : Mem) (q0 : Nat) (r0 : Int32) (M0 : Mem) (hl9 : l.stackTraces = false) (hf : fX3_why N x1 M = some ((q0, r0), M0)) : XtI l D ad ca B ov yX3_why wsX3_why (rmX3_why) [.ref (ad 0), .int x1] M q0 r0 M0 := by
  unfold fX3_why at hf
  refine vx_ofW (cc := cX3_why) (maxL := 3) (ret := (some .int)) (by decide) rfl ?_
  intro p e s m args below meth c s₁ Bd hml hET hv
  obtain ⟨rfl, hw, Ev9⟩ := hv
  have G : Mx p s m ([.ref (ad 0), .int x1] : List Value).toArray meth c cX3_why 3 wsX3_why RX3 (some .int) := ⟨Bd.exec, Bd.bytes, hml, findClass_of_methodNamed Bd.named, atoms_spec (ws := wsX3_why) Bd.pre, Bd.returns, Bd.notSynchronized⟩
  have hC := Cu.of hw
  have hl := lv_entry ([.ref (ad 0), .int x1]) (n := 3) (Nat.le_of_ble_eq_true rfl)
  rw [lg_entry_eq]
  generalize (lg_sl ([.ref (ad 0), .int x1]) ++ List.replicate (3 - (lg_sl ([.ref (ad 0), .int x1])).length) Slot.unset).toArray = ls at hl ⊢
  have hl : lv_has ls 3 [(0, .ref (ad 0)), (1, .int x1)] := hl
  obtain ⟨hx, hb, hml, hown, hts, hr, hlk⟩ := id G
  show W p l e (rmX3_why) s m _ below meth c s.heap [] 0 0 (vx_MQ below (va_Qi (fun (r : Int32) (_ : Unit) => q0 = 0 ∧ r = r0) (fun _ t => Wp D ad ca B M0 ov t.heap) (Ab B)) (XcOf D ad ca B ov q0 M0) _ s 1 6 (Ab B)) (F0 m 0 ls [])
  refine lv_aload_n hx hb dX3_why_0 rfl (lv_at hl 0 rfl) ?_
  refine lv_iload_n hx hb dX3_why_1 rfl (lv_at hl 1 rfl) ?_
  obtain ⟨r1, M2, hq, hf⟩ := bd_s hf
  refine mc_Vi (As := [.int x1]) ⟨hx, hb, hml, hown, hts⟩ hC (kX3_isShip l D ad ca B ov N x1 M r1 M2 hq) (cwV 1 hts gX3_why_X3_isShip rfl rfl rfl (by decide +kernel) ⟨Nat.le_of_ble_eq_true rfl, Nat.le_of_ble_eq_true rfl⟩) (mg_recv (ci := 3) (C := RX3) (T := TX3) (N := 5) hC 0 (by decide) rfl rfl) rfl hl.1 rfl (Nat.le_of_ble_eq_true rfl) dX3_why_2 ⟨Nat.zero_le _, Nat.zero_le _⟩ (fun H locs hC => ?_)
  refine lv_if_ne (tgt := 18) hx hb dX3_why_5 (by decide) (fun h3 => ?_) (fun h3 => ?_)
  · have hf := it_f h3 hf
    refine lv_aload_n hx hb dX3_why_18 rfl (lv_at hl 0 rfl) ?_
    refine mg_get (ci := 3) (C := RX3) (T := TX3) (N := 5) (v := .ref (ad 4)) hx hb hts inX3_why_X3 hown hC 0 (by decide) rfl rfl 1 (by decide) (hts _ lkX3_why_f29) rfl rfl dX3_why_19 ?_
    refine lv_iload_n hx hb dX3_why_22 rfl (lv_at hl 1 rfl) ?_
    obtain ⟨g4, hf⟩ := gd_s hf
    refine mg_aald hx hb hC g4 dX3_why_23 ?_
    refine lv_astore_n (lv' := [(2, .ref (ad (5 + (x1 : Int32).toNatClampNeg))), (0, .ref (ad 0)), (1, .int x1)]) hx hb dX3_why_24 rfl hl (by decide) rfl (fun ls hl => ?_)
    refine lv_aload_n hx hb dX3_why_25 rfl (lv_at hl 0 rfl) ?_
    refine mg_get (ci := 2) (C := RX2) (T := TX2) (N := 11) (v := .int (M2 (5 + (x1 : Int32).toNatClampNeg) 6)) hx hb hts inX3_why_X2 hown hC (5 + (x1 : Int32).toNatClampNeg) (sh_lt (sh_in g4)) (cell_sh (sh_in g4) _) rfl 6 (by decide) (hts _ lkX3_why_f119) rfl rfl dX3_why_26 ?_
    refine lv_if_eq (tgt := 34) hx hb dX3_why_29 (by decide) (fun h5 => ?_) (fun h5 => ?_)
    · have hf := it_t h5 hf
      refine lv_aload_n hx hb dX3_why_34 rfl (lv_at hl 0 rfl) ?_
      refine mg_get (ci := 2) (C := RX2) (T := TX2) (N := 11) (v := .int (M2 (5 + (x1 : Int32).toNatClampNeg) 0)) hx hb hts inX3_why_X2 hown hC (5 + (x1 : Int32).toNatClampNeg) (sh_lt (sh_in g4)) (cell_sh (sh_in g4) _) rfl 0 (by decide) (hts _ lkX3_why_f61) rfl rfl dX3_why_35 ?_
      refine lv_aload_n hx hb dX3_why_38 rfl (lv_at hl 1 rfl) ?_
      refine mg_get (ci := 3) (C := RX3) (T := TX3) (N := 5) (v := .ref (ad 1)) hx hb hts inX3_why_X3 hown hC 0 (by decide) rfl rfl 0 (by decide) (hts _ lkX3_why_f23) rfl rfl dX3_why_39 ?_
      refine mg_get (ci := 0) (C := RX0) (T := TX0) (N := 5) (v := .int (M2 1 0)) hx hb hts inX3_why_X0 hown hC 1 (by decide) rfl rfl 0 (by decide) (hts _ lkX3_why_f160) rfl rfl dX3_why_42 ?_
      refine lv_icmp_le (tgt := 50) hx hb dX3_why_45 (by decide) (fun h6 => ?_) (fun h6 => ?_)
      · have hf := it_t h6 hf
        refine lv_aload_n hx hb dX3_why_50 rfl (lv_at hl 1 rfl) ?_
        refine mg_get (ci := 3) (C := RX3) (T := TX3) (N := 5) (v := .ref (ad 1)) hx hb hts inX3_why_X3 hown hC 0 (by decide) rfl rfl 0 (by decide) (hts _ lkX3_why_f23) rfl rfl dX3_why_51 ?_
        refine lv_aload_n hx hb dX3_why_54 rfl (lv_at hl 0 rfl) ?_
        refine mg_get (ci := 2) (C := RX2) (T := TX2) (N := 11) (v := .int (M2 (5 + (x1 : Int32).toNatClampNeg) 0)) hx hb hts inX3_why_X2 hown hC (5 + (x1 : Int32).toNatClampNeg) (sh_lt (sh_in g4)) (cell_sh (sh_in g4) _) rfl 0 (by decide) (hts _ lkX3_why_f61) rfl rfl dX3_why_55 ?_
        refine lv_aload_n hx hb dX3_why_58 rfl (lv_at hl 0 rfl) ?_
        refine mg_get (ci := 2) (C := RX2) (T := TX2) (N := 11) (v := .int (M2 (5 + (x1 : Int32).toNatClampNeg) 1)) hx hb hts inX3_why_X2 hown hC (5 + (x1 : Int32).toNatClampNeg) (sh_lt (sh_in g4)) (cell_sh (sh_in g4) _) rfl 1 (by decide) (hts _ lkX3_why_f64) rfl rfl dX3_why_59 ?_
        refine lv_iconst (v := 0) hx hb dX3_why_62 (by decide) ?_
        obtain ⟨r7, M8, hq, hf⟩ := bd_s hf
        refine mc_Vi (As := [.int (M2 (5 + (x1 : Int32).toNatClampNeg) 0), .int (M2 (5 + (x1 : Int32).toNatClampNeg) 1), .int 0]) ⟨hx, hb, hml, hown, hts⟩ hC (kX0_hasRow l D ad ca B ov N (M2 (5 + (x1 : Int32).toNatClampNeg) 0) (M2 (5 + (x1 : Int32).toNatClampNeg) 1) 0 M2 r7 M8 hq) (cwV 3 hts gX3_why_X0_hasRow rfl rfl rfl (by decide +kernel) ⟨Nat.le_of_ble_eq_true rfl, Nat.le_of_ble_eq_true rfl⟩) (mg_recv (ci := 0) (C := RX0) (T := TX0) (N := 5) hC 1 (by decide) rfl rfl) rfl hl.1 rfl (Nat.le_of_ble_eq_true rfl) dX3_why_63 ⟨Nat.zero_le _, Nat.zero_le _⟩ (fun H locs hC => ?_)
        refine lv_if_ne (tgt := 71) hx hb dX3_why_66 (by decide) (fun h9 => ?_) (fun h9 => ?_)
        · have hf := it_f h9 hf
          refine lv_aload_n hx hb dX3_why_71 rfl (lv_at hl 1 rfl) ?_
          refine mg_get (ci := 3) (C := RX3) (T := TX3) (N := 5) (v := .ref (ad 1)) hx hb hts inX3_why_X3 hown hC 0 (by decide) rfl rfl 0 (by decide) (hts _ lkX3_why_f23) rfl rfl dX3_why_72 ?_
          refine lv_aload_n hx hb dX3_why_75 rfl (lv_at hl 0 rfl) ?_
          refine mg_get (ci := 2) (C := RX2) (T := TX2) (N := 11) (v := .int (M8 (5 + (x1 : Int32).toNatClampNeg) 0)) hx hb hts inX3_why_X2 hown hC (5 + (x1 : Int32).toNatClampNeg) (sh_lt (sh_in g4)) (cell_sh (sh_in g4) _) rfl 0 (by decide) (hts _ lkX3_why_f61) rfl rfl dX3_why_76 ?_
          refine lv_aload_n hx hb dX3_why_79 rfl (lv_at hl 0 rfl) ?_
          refine mg_get (ci := 2) (C := RX2) (T := TX2) (N := 11) (v := .int (M8 (5 + (x1 : Int32).toNatClampNeg) 1)) hx hb hts inX3_why_X2 hown hC (5 + (x1 : Int32).toNatClampNeg) (sh_lt (sh_in g4)) (cell_sh (sh_in g4) _) rfl 1 (by decide) (hts _ lkX3_why_f64) rfl rfl dX3_why_80 ?_
          refine lv_aload_n hx hb dX3_why_83 rfl (lv_at hl 0 rfl) ?_
          refine mg_get (ci := 2) (C := RX2) (T := TX2) (N := 11) (v := .int (M8 (5 + (x1 : Int32).toNatClampNeg) 5)) hx hb hts inX3_why_X2 hown hC (5 + (x1 : Int32).toNatClampNeg) (sh_lt (sh_in g4)) (cell_sh (sh_in g4) _) rfl 5 (by decide) (hts _ lkX3_why_f101) rfl rfl dX3_why_84 ?_
          obtain ⟨r10, M11, hq, hf⟩ := bd_s hf
          refine mc_Vi (As := [.int (M8 (5 + (x1 : Int32).toNatClampNeg) 0), .int (M8 (5 + (x1 : Int32).toNatClampNeg) 1), .int (M8 (5 + (x1 : Int32).toNatClampNeg) 5)]) ⟨hx, hb, hml, hown, hts⟩ hC (kX0_hasRow l D ad ca B ov N (M8 (5 + (x1 : Int32).toNatClampNeg) 0) (M8 (5 + (x1 : Int32).toNatClampNeg) 1) (M8 (5 + (x1 : Int32).toNatClampNeg) 5) M8 r10 M11 hq) (cwV 3 hts gX3_why_X0_hasRow rfl rfl rfl (by decide +kernel) ⟨Nat.le_of_ble_eq_true rfl, Nat.le_of_ble_eq_true rfl⟩) (mg_recv (ci := 0) (C := RX0) (T := TX0) (N := 5) hC 1 (by decide) rfl rfl) rfl hl.1 rfl (Nat.le_of_ble_eq_true rfl) dX3_why_87 ⟨Nat.zero_le _, Nat.zero_le _⟩ (fun H locs hC => ?_)
          refine lv_if_ne (tgt := 95) hx hb dX3_why_90 (by decide) (fun h12 => ?_) (fun h12 => ?_)
          · have hf := it_f h12 hf
            refine lv_aload_n hx hb dX3_why_95 rfl (lv_at hl 1 rfl) ?_
            refine mg_get (ci := 3) (C := RX3) (T := TX3) (N := 5) (v := .ref (ad 1)) hx hb hts inX3_why_X3 hown hC 0 (by decide) rfl rfl 0 (by decide) (hts _ lkX3_why_f23) rfl rfl dX3_why_96 ?_
            refine lv_aload_n hx hb dX3_why_99 rfl (lv_at hl 0 rfl) ?_
            refine mg_get (ci := 2) (C := RX2) (T := TX2) (N := 11) (v := .int (M11 (5 + (x1 : Int32).toNatClampNeg) 3)) hx hb hts inX3_why_X2 hown hC (5 + (x1 : Int32).toNatClampNeg) (sh_lt (sh_in g4)) (cell_sh (sh_in g4) _) rfl 3 (by decide) (hts _ lkX3_why_f70) rfl rfl dX3_why_100 ?_
            obtain ⟨r13, M14, hq, hf⟩ := bd_s hf
            refine mc_Vi (As := [.int (M11 (5 + (x1 : Int32).toNatClampNeg) 3)]) ⟨hx, hb, hml, hown, hts⟩ hC (kX0_beginsFrom l D ad ca B ov N (M11 (5 + (x1 : Int32).toNatClampNeg) 3) M11 r13 M14 hq) (cwV 1 hts gX3_why_X0_beginsFrom rfl rfl rfl (by decide +kernel) ⟨Nat.le_of_ble_eq_true rfl, Nat.le_of_ble_eq_true rfl⟩) (mg_recv (ci := 0) (C := RX0) (T := TX0) (N := 5) hC 1 (by decide) rfl rfl) rfl hl.1 rfl (Nat.le_of_ble_eq_true rfl) dX3_why_103 ⟨Nat.zero_le _, Nat.zero_le _⟩ (fun H locs hC => ?_)
            refine lv_if_ne (tgt := 113) hx hb dX3_why_106 (by decide) (fun h15 => ?_) (fun h15 => ?_)
            · have hf := it_f h15 hf
              refine lv_iconst (v := 0) hx hb dX3_why_113 (by decide) ?_
              exact mx_I hx hb hr hlk hC hf dX3_why_114
            · have hf := it_t h15 hf
              refine lv_iconst (v := 4) hx hb dX3_why_109 (by decide) ?_
              refine lv_goto (tgt := 114) hx hb dX3_why_110 (by decide) ?_
              exact mx_I hx hb hr hlk hC hf dX3_why_114
          · have hf := it_t h12 hf
            refine lv_iconst (v := 3) hx hb dX3_why_93 (by decide) ?_
            exact mx_I hx hb hr hlk hC hf dX3_why_94
        · have hf := it_t h9 hf
          refine lv_iconst (v := 2) hx hb dX3_why_69 (by decide) ?_
          exact mx_I hx hb hr hlk hC hf dX3_why_70
      · have hf := it_f h6 hf
        refine lv_iconst (v := 1) hx hb dX3_why_48 (by decide) ?_
        exact mx_I hx hb hr hlk hC hf dX3_why_49
    · have hf := it_f h5 hf
      refine lv_iconst (v := 0) hx hb dX3_why_32 (by decide) ?_
      exact mx_I hx hb hr hlk hC hf dX3_why_33
  · have hf := it_t h3 hf
    exact mx_T (q := 3) (cls := exIX) (ik := 136) (is := 158) (ic := 140) (tx := "no such ship") hx hb hl9 hlk hET hown (by decide) (hts _ lkX3_why_kl136) (hts _ lkX3_why_ki136) (by decide) (fun w h => hts w (xaX3_why_140 w h)) nb_140 gx_140 (by decide) Ev9 hC (hl.1.trans hml.symm) dX3_why_8 dX3_why_11 dX3_why_12 dX3_why_14 dX3_why_17 (by decide) (by decide) (by decide) (by decide) (by decide) rfl hf

theorem lkX3_change_f23 : Cond.fieldLink RX3 23 "BerthPlan" "quay" "LBerthPlan$Quay;" ∈ wsX3_change := by decide +kernel
theorem lkX3_change_f29 : Cond.fieldLink RX3 29 "BerthPlan" "ships" "[LBerthPlan$Ship;" ∈ wsX3_change := by decide +kernel
theorem lkX3_change_f37 : Cond.fieldLink RX3 37 "BerthPlan" "search" "LBerthPlan$Search;" ∈ wsX3_change := by decide +kernel
theorem lkX3_change_f52 : Cond.fieldLink RX3 52 "BerthPlan" "shipCount" "I" ∈ wsX3_change := by decide +kernel
theorem lkX3_change_f70 : Cond.fieldLink RX3 70 "BerthPlan$Ship" "arrives" "I" ∈ wsX3_change := by decide +kernel
theorem lkX3_change_f76 : Cond.fieldLink RX3 76 "BerthPlan" "planned" "Z" ∈ wsX3_change := by decide +kernel
theorem lkX3_change_ki45 : Cond.initialized "java/lang/IllegalArgumentException" ∈ wsX3_change := by decide +kernel
theorem lkX3_change_ki56 : Cond.initialized "java/lang/IllegalStateException" ∈ wsX3_change := by decide +kernel
theorem lkX3_change_ki136 : Cond.initialized "java/lang/IndexOutOfBoundsException" ∈ wsX3_change := by decide +kernel
theorem lkX3_change_kl45 : Cond.classLink RX3 45 "java/lang/IllegalArgumentException" ∈ wsX3_change := by decide +kernel
theorem lkX3_change_kl56 : Cond.classLink RX3 56 "java/lang/IllegalStateException" ∈ wsX3_change := by decide +kernel
theorem lkX3_change_kl136 : Cond.classLink RX3 136 "java/lang/IndexOutOfBoundsException" ∈ wsX3_change := by decide +kernel
theorem inX3_change_X2 : ∀ w ∈ wsX20, w ∈ wsX3_change := by decide +kernel
theorem inX3_change_X3 : ∀ w ∈ wsX30, w ∈ wsX3_change := by decide +kernel
theorem xaX3_change_60 : ∀ w ∈ (vx_atS RX3 60 "java/lang/IllegalStateException" ["java/lang/RuntimeException", "java/lang/Exception"]).filter goodWord, w ∈ wsX3_change := by decide +kernel
theorem xaX3_change_49 : ∀ w ∈ (vx_atS RX3 49 "java/lang/IllegalArgumentException" ["java/lang/RuntimeException", "java/lang/Exception"]).filter goodWord, w ∈ wsX3_change := by decide +kernel
theorem xaX3_change_140 : ∀ w ∈ (vx_atS RX3 140 "java/lang/IndexOutOfBoundsException" ["java/lang/RuntimeException", "java/lang/Exception"]).filter goodWord, w ∈ wsX3_change := by decide +kernel
abbrev rmX3_change : Room := { frames := 20, cells := 1, slots := 6, locals := 748 }
def fX3_change (N : Nat) (x1 : Int32) (x2 : Int32) (M : Mem) : Option ((Nat × Int32) × Mem) :=
    bd (fX3_isShip N x1 M) (fun r1 M2 => if (r1 = 0 : Prop) then (some ((3, 0), M2)) else (bd (fX3_isWithin N x2 0 15 M2) (fun r4 M5 => if (r4 = 0 : Prop) then (some ((1, 0), M5)) else (if ((M5 0 4) = 0 : Prop) then (some ((2, 0), M5)) else (gd (x1) 4 (lq (mw M5 (5 + (x1 : Int32).toNatClampNeg) 3 x2) (fun M9 => bd (fX1_finds N (M9 0 3) M9) (fun r10 M11 => gp (r10 = 0 ∨ r10 = 1) (lq (mw M11 0 4 r10) (fun M13 => if ((M13 0 4) = 0 : Prop) then (some ((0, (-1)), M13)) else (bd (fX3_moveShips N M13) (fun r15 M16 => some ((0, r15), M16)))))))))))))
set_option maxHeartbeats 4000000 in
set_option maxRecDepth 100000 in
theorem kX3_change (l : Launch) (D : va_G) (ad : Nat → Nat) (ca : Nat → ClassId) (B : Nat) (ov : Int64) (N : Nat) (x1 : Int32) (x2 : Int32) (M : Mem) (q0 : Nat) (r0 : Int32) (M0 : Mem) (hl9 : l.stackTraces = false) (hf : fX3_change N x1 x2 M = some ((q0, r0), M0)) : XtI l D ad ca B ov yX3_change wsX3_change (rmX3_change) [.ref (ad 0), .int x1, .int x2] M q0 r0 M0 := by
  unfold fX3_change at hf
  refine vx_ofW (cc := cX3_change) (maxL := 3) (ret := (some .int)) (by decide) rfl ?_
  intro p e s m args below meth c s₁ Bd hml hET hv
  obtain ⟨rfl, hw, Ev9⟩ := hv
  have G : Mx p s m ([.ref (ad 0), .int x1, .int x2] : List Value).toArray meth c cX3_change 3 wsX3_change RX3 (some .int) := ⟨Bd.exec, Bd.bytes, hml, findClass_of_methodNamed Bd.named, atoms_spec (ws := wsX3_change) Bd.pre, Bd.returns, Bd.notSynchronized⟩
  have hC := Cu.of hw
  have hl := lv_entry ([.ref (ad 0), .int x1, .int x2]) (n := 3) (Nat.le_of_ble_eq_true rfl)
  rw [lg_entry_eq]
  generalize (lg_sl ([.ref (ad 0), .int x1, .int x2]) ++ List.replicate (3 - (lg_sl ([.ref (ad 0), .int x1, .int x2])).length) Slot.unset).toArray = ls at hl ⊢
  have hl : lv_has ls 3 [(0, .ref (ad 0)), (1, .int x1), (2, .int x2)] := hl
  obtain ⟨hx, hb, hml, hown, hts, hr, hlk⟩ := id G
  show W p l e (rmX3_change) s m _ below meth c s.heap [] 0 0 (vx_MQ below (va_Qi (fun (r : Int32) (_ : Unit) => q0 = 0 ∧ r = r0) (fun _ t => Wp D ad ca B M0 ov t.heap) (Ab B)) (XcOf D ad ca B ov q0 M0) _ s 1 6 (Ab B)) (F0 m 0 ls [])
  refine lv_aload_n hx hb dX3_change_0 rfl (lv_at hl 0 rfl) ?_
  refine lv_iload_n hx hb dX3_change_1 rfl (lv_at hl 1 rfl) ?_
  obtain ⟨r1, M2, hq, hf⟩ := bd_s hf
  refine mc_Vi (As := [.int x1]) ⟨hx, hb, hml, hown, hts⟩ hC (kX3_isShip l D ad ca B ov N x1 M r1 M2 hq) (cwV 1 hts gX3_change_X3_isShip rfl rfl rfl (by decide +kernel) ⟨Nat.le_of_ble_eq_true rfl, Nat.le_of_ble_eq_true rfl⟩) (mg_recv (ci := 3) (C := RX3) (T := TX3) (N := 5) hC 0 (by decide) rfl rfl) rfl hl.1 rfl (Nat.le_of_ble_eq_true rfl) dX3_change_2 ⟨Nat.zero_le _, Nat.zero_le _⟩ (fun H locs hC => ?_)
  refine lv_if_ne (tgt := 18) hx hb dX3_change_5 (by decide) (fun h3 => ?_) (fun h3 => ?_)
  · have hf := it_f h3 hf
    refine lv_iload_n hx hb dX3_change_18 rfl (lv_at hl 2 rfl) ?_
    refine lv_iconst (v := 0) hx hb dX3_change_19 (by decide) ?_
    refine lv_bipush (v := 15) hx hb dX3_change_20 (by decide) ?_
    obtain ⟨r4, M5, hq, hf⟩ := bd_s hf
    refine mc_Si (As := [.int x2, .int 0, .int 15]) ⟨hx, hb, hml, hown, hts⟩ hC (kX3_isWithin l D ad ca B ov N x2 0 15 M2 r4 M5 hq) (va_cwS 3 hts gX3_change_X3_isWithin rfl rfl rfl (by decide +kernel) ⟨Nat.le_of_ble_eq_true rfl, Nat.le_of_ble_eq_true rfl⟩) rfl hl.1 rfl (Nat.le_of_ble_eq_true rfl) dX3_change_22 ⟨Nat.zero_le _, Nat.zero_le _⟩ (fun H locs hC => ?_)
    refine lv_if_ne (tgt := 38) hx hb dX3_change_25 (by decide) (fun h6 => ?_) (fun h6 => ?_)
    · have hf := it_f h6 hf
      refine lv_aload_n hx hb dX3_change_38 rfl (lv_at hl 0 rfl) ?_
      refine mg_get (ci := 3) (C := RX3) (T := TX3) (N := 5) (v := .int (M5 0 4)) hx hb hts inX3_change_X3 hown hC 0 (by decide) rfl rfl 4 (by decide) (hts _ lkX3_change_f76) rfl rfl dX3_change_39 ?_
      refine lv_if_ne (tgt := 55) hx hb dX3_change_42 (by decide) (fun h7 => ?_) (fun h7 => ?_)
      · have hf := it_f h7 hf
        refine lv_aload_n hx hb dX3_change_55 rfl (lv_at hl 0 rfl) ?_
        refine mg_get (ci := 3) (C := RX3) (T := TX3) (N := 5) (v := .ref (ad 4)) hx hb hts inX3_change_X3 hown hC 0 (by decide) rfl rfl 1 (by decide) (hts _ lkX3_change_f29) rfl rfl dX3_change_56 ?_
        refine lv_iload_n hx hb dX3_change_59 rfl (lv_at hl 1 rfl) ?_
        obtain ⟨g8, hf⟩ := gd_s hf
        refine mg_aald hx hb hC g8 dX3_change_60 ?_
        refine lv_iload_n hx hb dX3_change_61 rfl (lv_at hl 2 rfl) ?_
        refine mg_put (ci := 2) (C := RX2) (T := TX2) (N := 11) (ty := .int) (v := .int x2) (x := x2) hx hb hts inX3_change_X2 tyX2 tyX2_ok nmX2 hown hC (5 + (x1 : Int32).toNatClampNeg) (sh_lt (sh_in g8)) (cell_sh (sh_in g8) _) rfl 3 (by decide) (hts _ lkX3_change_f70) rfl rfl (by decide +kernel) rfl rfl (Nat.le_of_ble_eq_true rfl) (cell_sh (sh_in g8) _) dX3_change_62 (fun H locs hC => ?_)
        obtain ⟨M9, eM9⟩ : ∃ z : Mem, z = mw M5 (5 + (x1 : Int32).toNatClampNeg) 3 x2 := ⟨_, rfl⟩
        rw [← eM9] at hC
        have hf := lq_k eM9 hf
        refine lv_aload_n hx hb dX3_change_65 rfl (lv_at hl 0 rfl) ?_
        refine lv_aload_n hx hb dX3_change_66 rfl (lv_at hl 0 rfl) ?_
        refine mg_get (ci := 3) (C := RX3) (T := TX3) (N := 5) (v := .ref (ad 9)) hx hb hts inX3_change_X3 hown hC 0 (by decide) rfl rfl 2 (by decide) (hts _ lkX3_change_f37) rfl rfl dX3_change_67 ?_
        refine lv_aload_n hx hb dX3_change_70 rfl (lv_at hl 0 rfl) ?_
        refine mg_get (ci := 3) (C := RX3) (T := TX3) (N := 5) (v := .ref (ad 1)) hx hb hts inX3_change_X3 hown hC 0 (by decide) rfl rfl 0 (by decide) (hts _ lkX3_change_f23) rfl rfl dX3_change_71 ?_
        refine lv_aload_n hx hb dX3_change_74 rfl (lv_at hl 0 rfl) ?_
        refine mg_get (ci := 3) (C := RX3) (T := TX3) (N := 5) (v := .ref (ad 4)) hx hb hts inX3_change_X3 hown hC 0 (by decide) rfl rfl 1 (by decide) (hts _ lkX3_change_f29) rfl rfl dX3_change_75 ?_
        refine lv_aload_n hx hb dX3_change_78 rfl (lv_at hl 0 rfl) ?_
        refine mg_get (ci := 3) (C := RX3) (T := TX3) (N := 5) (v := .int (M9 0 3)) hx hb hts inX3_change_X3 hown hC 0 (by decide) rfl rfl 3 (by decide) (hts _ lkX3_change_f52) rfl rfl dX3_change_79 ?_
        obtain ⟨r10, M11, hq, hf⟩ := bd_s hf
        refine mc_Vi (As := [.ref (ad 1), .ref (ad 4), .int (M9 0 3)]) ⟨hx, hb, hml, hown, hts⟩ hC (kX1_finds l D ad ca B ov N (M9 0 3) M9 r10 M11 hq) (cwV 3 hts gX3_change_X1_finds rfl rfl rfl (by decide +kernel) ⟨Nat.le_of_ble_eq_true rfl, Nat.le_of_ble_eq_true rfl⟩) (mg_recv (ci := 1) (C := RX1) (T := TX1) (N := 9) hC 9 (by decide) rfl rfl) rfl hl.1 rfl (Nat.le_of_ble_eq_true rfl) dX3_change_82 ⟨Nat.zero_le _, Nat.zero_le _⟩ (fun H locs hC => ?_)
        obtain ⟨g12, hf⟩ := gp_s hf
        refine mg_put (ci := 3) (C := RX3) (T := TX3) (N := 5) (ty := .boolean) (v := .int r10) (x := r10) hx hb hts inX3_change_X3 tyX3 tyX3_ok nmX3 hown hC 0 (by decide) rfl rfl 4 (by decide) (hts _ lkX3_change_f76) rfl rfl (by decide +kernel) (by rcases g12 with h9 | h9 <;> rw [h9] <;> decide) (by rcases g12 with h9 | h9 <;> rw [h9] <;> decide) (Nat.le_of_ble_eq_true rfl) rfl dX3_change_85 (fun H locs hC => ?_)
        obtain ⟨M13, eM13⟩ : ∃ z : Mem, z = mw M11 0 4 r10 := ⟨_, rfl⟩
        rw [← eM13] at hC
        have hf := lq_k eM13 hf
        refine lv_aload_n hx hb dX3_change_88 rfl (lv_at hl 0 rfl) ?_
        refine mg_get (ci := 3) (C := RX3) (T := TX3) (N := 5) (v := .int (M13 0 4)) hx hb hts inX3_change_X3 hown hC 0 (by decide) rfl rfl 4 (by decide) (hts _ lkX3_change_f76) rfl rfl dX3_change_89 ?_
        refine lv_if_eq (tgt := 102) hx hb dX3_change_92 (by decide) (fun h14 => ?_) (fun h14 => ?_)
        · have hf := it_t h14 hf
          refine lv_iconst (v := (-1)) hx hb dX3_change_102 (by decide) ?_
          exact mx_I hx hb hr hlk hC hf dX3_change_103
        · have hf := it_f h14 hf
          refine lv_aload_n hx hb dX3_change_95 rfl (lv_at hl 0 rfl) ?_
          obtain ⟨r15, M16, hq, hf⟩ := bd_s hf
          refine mc_Vi (As := []) ⟨hx, hb, hml, hown, hts⟩ hC (kX3_moveShips l D ad ca B ov N M13 r15 M16 hq) (cwV 0 hts gX3_change_X3_moveShips rfl rfl rfl (by decide +kernel) ⟨Nat.le_of_ble_eq_true rfl, Nat.le_of_ble_eq_true rfl⟩) (mg_recv (ci := 3) (C := RX3) (T := TX3) (N := 5) hC 0 (by decide) rfl rfl) rfl hl.1 rfl (Nat.le_of_ble_eq_true rfl) dX3_change_96 ⟨Nat.zero_le _, Nat.zero_le _⟩ (fun H locs hC => ?_)
          refine lv_goto (tgt := 103) hx hb dX3_change_99 (by decide) ?_
          exact mx_I hx hb hr hlk hC hf dX3_change_103
      · have hf := it_t h7 hf
        exact mx_T (q := 2) (cls := exIS) (ik := 56) (is := 141) (ic := 60) (tx := "there is no plan") hx hb hl9 hlk hET hown (by decide) (hts _ lkX3_change_kl56) (hts _ lkX3_change_ki56) (by decide) (fun w h => hts w (xaX3_change_60 w h)) nb_60 gx_60 (by decide) Ev9 hC (hl.1.trans hml.symm) dX3_change_45 dX3_change_48 dX3_change_49 dX3_change_51 dX3_change_54 (by decide) (by decide) (by decide) (by decide) (by decide) rfl hf
    · have hf := it_t h6 hf
      exact mx_T (q := 1) (cls := exIA) (ik := 45) (is := 169) (ic := 49) (tx := "no ship can arrive at this hour") hx hb hl9 hlk hET hown (by decide) (hts _ lkX3_change_kl45) (hts _ lkX3_change_ki45) (by decide) (fun w h => hts w (xaX3_change_49 w h)) nb_49 gx_49 (by decide) Ev9 hC (hl.1.trans hml.symm) dX3_change_28 dX3_change_31 dX3_change_32 dX3_change_34 dX3_change_37 (by decide) (by decide) (by decide) (by decide) (by decide) rfl hf
  · have hf := it_t h3 hf
    exact mx_T (q := 3) (cls := exIX) (ik := 136) (is := 158) (ic := 140) (tx := "no such ship") hx hb hl9 hlk hET hown (by decide) (hts _ lkX3_change_kl136) (hts _ lkX3_change_ki136) (by decide) (fun w h => hts w (xaX3_change_140 w h)) nb_140 gx_140 (by decide) Ev9 hC (hl.1.trans hml.symm) dX3_change_8 dX3_change_11 dX3_change_12 dX3_change_14 dX3_change_17 (by decide) (by decide) (by decide) (by decide) (by decide) rfl hf

theorem lkX3_lies_f29 : Cond.fieldLink RX3 29 "BerthPlan" "ships" "[LBerthPlan$Ship;" ∈ wsX3_lies := by decide +kernel
theorem lkX3_lies_f52 : Cond.fieldLink RX3 52 "BerthPlan" "shipCount" "I" ∈ wsX3_lies := by decide +kernel
theorem lkX3_lies_f61 : Cond.fieldLink RX3 61 "BerthPlan$Ship" "length" "I" ∈ wsX3_lies := by decide +kernel
theorem lkX3_lies_f67 : Cond.fieldLink RX3 67 "BerthPlan$Ship" "time" "I" ∈ wsX3_lies := by decide +kernel
theorem lkX3_lies_f76 : Cond.fieldLink RX3 76 "BerthPlan" "planned" "Z" ∈ wsX3_lies := by decide +kernel
theorem lkX3_lies_f143 : Cond.fieldLink RX3 143 "BerthPlan$Ship" "place" "I" ∈ wsX3_lies := by decide +kernel
theorem lkX3_lies_f146 : Cond.fieldLink RX3 146 "BerthPlan$Ship" "hour" "I" ∈ wsX3_lies := by decide +kernel
theorem lkX3_lies_ki56 : Cond.initialized "java/lang/IllegalStateException" ∈ wsX3_lies := by decide +kernel
theorem lkX3_lies_kl56 : Cond.classLink RX3 56 "java/lang/IllegalStateException" ∈ wsX3_lies := by decide +kernel
theorem inX3_lies_X2 : ∀ w ∈ wsX20, w ∈ wsX3_lies := by decide +kernel
theorem inX3_lies_X3 : ∀ w ∈ wsX30, w ∈ wsX3_lies := by decide +kernel
theorem xaX3_lies_60 : ∀ w ∈ (vx_atS RX3 60 "java/lang/IllegalStateException" ["java/lang/RuntimeException", "java/lang/Exception"]).filter goodWord, w ∈ wsX3_lies := by decide +kernel
abbrev rmX3_lies : Room := { frames := 6, cells := 1, slots := 6, locals := 90 }
def fX3_lies_19 (N : Nat) : Nat → Int32 → Int32 → Int32 → Mem → Option ((Nat × Int32) × Mem)
  | 0, _, _, _, _ => none
  | n + 1, x1, x2, x3, M =>
    if ((M 0 3) ≤ x3 : Prop) then (some ((0, (-1)), M)) else (gd (x3) 4 (bd (fX3_isSpanAt N (M (5 + (x3 : Int32).toNatClampNeg) 9) (M (5 + (x3 : Int32).toNatClampNeg) 0) x1 M) (fun r3 M4 => if (r3 = 0 : Prop) then (lq (x3 + 1) (fun z6 => fX3_lies_19 N n x1 x2 z6 M4)) else (bd (fX3_isSpanAt N (M4 (5 + (x3 : Int32).toNatClampNeg) 10) (M4 (5 + (x3 : Int32).toNatClampNeg) 2) x2 M4) (fun r7 M8 => if (r7 = 0 : Prop) then (lq (x3 + 1) (fun z10 => fX3_lies_19 N n x1 x2 z10 M8)) else (some ((0, x3), M8)))))))
theorem fX3_lies_19_s {N n : Nat} {x1 : Int32} {x2 : Int32} {x3 : Int32} {M : Mem} : fX3_lies_19 N (n + 1) x1 x2 x3 M =
    if ((M 0 3) ≤ x3 : Prop) then (some ((0, (-1)), M)) else (gd (x3) 4 (bd (fX3_isSpanAt N (M (5 + (x3 : Int32).toNatClampNeg) 9) (M (5 + (x3 : Int32).toNatClampNeg) 0) x1 M) (fun r3 M4 => if (r3 = 0 : Prop) then (lq (x3 + 1) (fun z6 => fX3_lies_19 N n x1 x2 z6 M4)) else (bd (fX3_isSpanAt N (M4 (5 + (x3 : Int32).toNatClampNeg) 10) (M4 (5 + (x3 : Int32).toNatClampNeg) 2) x2 M4) (fun r7 M8 => if (r7 = 0 : Prop) then (lq (x3 + 1) (fun z10 => fX3_lies_19 N n x1 x2 z10 M8)) else (some ((0, x3), M8))))))) := rfl
def fX3_lies (N : Nat) (x1 : Int32) (x2 : Int32) (M : Mem) : Option ((Nat × Int32) × Mem) :=
    if ((M 0 4) = 0 : Prop) then (some ((2, 0), M)) else (fX3_lies_19 N N x1 x2 0 M)
set_option maxHeartbeats 4000000 in
set_option maxRecDepth 100000 in
theorem wX3_lies_19 {p : Program} {l : Launch} {e : Env} {s : State} {m : MethodId} {args : Array Value} {below : List Frame} {meth : Method} {c : Code} {D : va_G} {ad : Nat → Nat} {ca : Nat → ClassId} {B : Nat} {ov : Int64} {q0 : Nat} {r0 : Int32} {M0 : Mem} (G : Mx p s m args meth c cX3_lies 5 wsX3_lies RX3 (some .int)) (hl9 : l.stackTraces = false) (Ev9 : Ev B s s.heap) (hET : ∀ x ∈ c.exceptionTable.toList, False) (N : Nat) : ∀ (n : Nat), ∀ (x1 : Int32) (x2 : Int32) (x3 : Int32) (M : Mem) (H : Heap) (locs : List Loc) (ls : Array Slot), lv_has ls 5 [(0, .ref (ad 0)), (1, .int x1), (2, .int x2), (3, .int x3)] → Cu D ad ca B M ov s H locs → (fX3_lies_19 N n) x1 x2 x3 M = some ((q0, r0), M0) → W p l e (rmX3_lies) s m args below meth c H locs 0 0 (vx_MQ below (va_Qi (fun (r : Int32) (_ : Unit) => q0 = 0 ∧ r = r0) (fun _ t => Wp D ad ca B M0 ov t.heap) (Ab B)) (XcOf D ad ca B ov q0 M0) args s 1 6 (Ab B)) (F0 m 19 ls []) := by
  obtain ⟨hx, hb, hml, hown, hts, hr, hlk⟩ := id G
  intro n
  induction n with
  | zero =>
    intro x1 x2 x3 M H locs ls hl hC hf
    cases hf
  | succ n ih =>
    intro x1 x2 x3 M H locs ls hl hC hf
    have hf := (fX3_lies_19_s).symm.trans hf
    refine lv_iload_n hx hb dX3_lies_19 rfl (lv_at hl 3 rfl) ?_
    refine lv_aload_n hx hb dX3_lies_20 rfl (lv_at hl 0 rfl) ?_
    refine mg_get (ci := 3) (C := RX3) (T := TX3) (N := 5) (v := .int (M 0 3)) hx hb hts inX3_lies_X3 hown hC 0 (by decide) rfl rfl 3 (by decide) (hts _ lkX3_lies_f52) rfl rfl dX3_lies_21 ?_
    refine lv_icmp_ge (tgt := 77) hx hb dX3_lies_24 (by decide) (fun h1 => ?_) (fun h1 => ?_)
    · have hf := it_t h1 hf
      refine lv_iconst (v := (-1)) hx hb dX3_lies_77 (by decide) ?_
      exact mx_I hx hb hr hlk hC hf dX3_lies_78
    · have hf := it_f h1 hf
      refine lv_aload_n hx hb dX3_lies_27 rfl (lv_at hl 0 rfl) ?_
      refine mg_get (ci := 3) (C := RX3) (T := TX3) (N := 5) (v := .ref (ad 4)) hx hb hts inX3_lies_X3 hown hC 0 (by decide) rfl rfl 1 (by decide) (hts _ lkX3_lies_f29) rfl rfl dX3_lies_28 ?_
      refine lv_iload_n hx hb dX3_lies_31 rfl (lv_at hl 3 rfl) ?_
      obtain ⟨g2, hf⟩ := gd_s hf
      refine mg_aald hx hb hC g2 dX3_lies_32 ?_
      refine lv_astore (lv' := [(4, .ref (ad (5 + (x3 : Int32).toNatClampNeg))), (0, .ref (ad 0)), (1, .int x1), (2, .int x2), (3, .int x3)]) hx hb dX3_lies_33 hl (by decide) rfl (fun ls hl => ?_)
      refine lv_aload hx hb dX3_lies_35 (lv_at hl 0 rfl) ?_
      refine mg_get (ci := 2) (C := RX2) (T := TX2) (N := 11) (v := .int (M (5 + (x3 : Int32).toNatClampNeg) 9)) hx hb hts inX3_lies_X2 hown hC (5 + (x3 : Int32).toNatClampNeg) (sh_lt (sh_in g2)) (cell_sh (sh_in g2) _) rfl 9 (by decide) (hts _ lkX3_lies_f143) rfl rfl dX3_lies_37 ?_
      refine lv_aload hx hb dX3_lies_40 (lv_at hl 0 rfl) ?_
      refine mg_get (ci := 2) (C := RX2) (T := TX2) (N := 11) (v := .int (M (5 + (x3 : Int32).toNatClampNeg) 0)) hx hb hts inX3_lies_X2 hown hC (5 + (x3 : Int32).toNatClampNeg) (sh_lt (sh_in g2)) (cell_sh (sh_in g2) _) rfl 0 (by decide) (hts _ lkX3_lies_f61) rfl rfl dX3_lies_42 ?_
      refine lv_iload_n hx hb dX3_lies_45 rfl (lv_at hl 2 rfl) ?_
      obtain ⟨r3, M4, hq, hf⟩ := bd_s hf
      refine mc_Si (As := [.int (M (5 + (x3 : Int32).toNatClampNeg) 9), .int (M (5 + (x3 : Int32).toNatClampNeg) 0), .int x1]) ⟨hx, hb, hml, hown, hts⟩ hC (kX3_isSpanAt l D ad ca B ov N (M (5 + (x3 : Int32).toNatClampNeg) 9) (M (5 + (x3 : Int32).toNatClampNeg) 0) x1 M r3 M4 hq) (va_cwS 3 hts gX3_lies_X3_isSpanAt rfl rfl rfl (by decide +kernel) ⟨Nat.le_of_ble_eq_true rfl, Nat.le_of_ble_eq_true rfl⟩) rfl hl.1 rfl (Nat.le_of_ble_eq_true rfl) dX3_lies_46 ⟨Nat.zero_le _, Nat.zero_le _⟩ (fun H locs hC => ?_)
      refine lv_if_eq (tgt := 71) hx hb dX3_lies_49 (by decide) (fun h5 => ?_) (fun h5 => ?_)
      · have hf := it_t h5 hf
        obtain ⟨z6, ez6⟩ : ∃ y : Int32, y = x3 + 1 := ⟨_, rfl⟩
        have hf := lq_k ez6 hf
        refine lv_iinc (v := z6) (lv' := [(3, .int z6), (4, .ref (ad (5 + (x3 : Int32).toNatClampNeg))), (0, .ref (ad 0)), (1, .int x1), (2, .int x2)]) hx hb dX3_lies_71 hl (k := 4) rfl (by rw [ez6]; rfl) (by decide) rfl (fun ls hl => ?_)
        refine lv_goto (tgt := 19) hx hb dX3_lies_74 (by decide) ?_
        exact ih x1 x2 z6 M4 _ _ _ (lv_sub hl [2, 3, 4, 0] rfl) hC hf
      · have hf := it_f h5 hf
        refine lv_aload hx hb dX3_lies_52 (lv_at hl 0 rfl) ?_
        refine mg_get (ci := 2) (C := RX2) (T := TX2) (N := 11) (v := .int (M4 (5 + (x3 : Int32).toNatClampNeg) 10)) hx hb hts inX3_lies_X2 hown hC (5 + (x3 : Int32).toNatClampNeg) (sh_lt (sh_in g2)) (cell_sh (sh_in g2) _) rfl 10 (by decide) (hts _ lkX3_lies_f146) rfl rfl dX3_lies_54 ?_
        refine lv_aload hx hb dX3_lies_57 (lv_at hl 0 rfl) ?_
        refine mg_get (ci := 2) (C := RX2) (T := TX2) (N := 11) (v := .int (M4 (5 + (x3 : Int32).toNatClampNeg) 2)) hx hb hts inX3_lies_X2 hown hC (5 + (x3 : Int32).toNatClampNeg) (sh_lt (sh_in g2)) (cell_sh (sh_in g2) _) rfl 2 (by decide) (hts _ lkX3_lies_f67) rfl rfl dX3_lies_59 ?_
        refine lv_iload_n hx hb dX3_lies_62 rfl (lv_at hl 3 rfl) ?_
        obtain ⟨r7, M8, hq, hf⟩ := bd_s hf
        refine mc_Si (As := [.int (M4 (5 + (x3 : Int32).toNatClampNeg) 10), .int (M4 (5 + (x3 : Int32).toNatClampNeg) 2), .int x2]) ⟨hx, hb, hml, hown, hts⟩ hC (kX3_isSpanAt l D ad ca B ov N (M4 (5 + (x3 : Int32).toNatClampNeg) 10) (M4 (5 + (x3 : Int32).toNatClampNeg) 2) x2 M4 r7 M8 hq) (va_cwS 3 hts gX3_lies_X3_isSpanAt rfl rfl rfl (by decide +kernel) ⟨Nat.le_of_ble_eq_true rfl, Nat.le_of_ble_eq_true rfl⟩) rfl hl.1 rfl (Nat.le_of_ble_eq_true rfl) dX3_lies_63 ⟨Nat.zero_le _, Nat.zero_le _⟩ (fun H locs hC => ?_)
        refine lv_if_eq (tgt := 71) hx hb dX3_lies_66 (by decide) (fun h9 => ?_) (fun h9 => ?_)
        · have hf := it_t h9 hf
          obtain ⟨z10, ez10⟩ : ∃ y : Int32, y = x3 + 1 := ⟨_, rfl⟩
          have hf := lq_k ez10 hf
          refine lv_iinc (v := z10) (lv' := [(3, .int z10), (4, .ref (ad (5 + (x3 : Int32).toNatClampNeg))), (0, .ref (ad 0)), (1, .int x1), (2, .int x2)]) hx hb dX3_lies_71 hl (k := 4) rfl (by rw [ez10]; rfl) (by decide) rfl (fun ls hl => ?_)
          refine lv_goto (tgt := 19) hx hb dX3_lies_74 (by decide) ?_
          exact ih x1 x2 z10 M8 _ _ _ (lv_sub hl [2, 3, 4, 0] rfl) hC hf
        · have hf := it_f h9 hf
          refine lv_iload_n hx hb dX3_lies_69 rfl (lv_at hl 4 rfl) ?_
          exact mx_I hx hb hr hlk hC hf dX3_lies_70
set_option maxHeartbeats 4000000 in
set_option maxRecDepth 100000 in
theorem kX3_lies (l : Launch) (D : va_G) (ad : Nat → Nat) (ca : Nat → ClassId) (B : Nat) (ov : Int64) (N : Nat) (x1 : Int32) (x2 : Int32) (M : Mem) (q0 : Nat) (r0 : Int32) (M0 : Mem) (hl9 : l.stackTraces = false) (hf : fX3_lies N x1 x2 M = some ((q0, r0), M0)) : XtI l D ad ca B ov yX3_lies wsX3_lies (rmX3_lies) [.ref (ad 0), .int x1, .int x2] M q0 r0 M0 := by
  unfold fX3_lies at hf
  refine vx_ofW (cc := cX3_lies) (maxL := 5) (ret := (some .int)) (by decide) rfl ?_
  intro p e s m args below meth c s₁ Bd hml hET hv
  obtain ⟨rfl, hw, Ev9⟩ := hv
  have G : Mx p s m ([.ref (ad 0), .int x1, .int x2] : List Value).toArray meth c cX3_lies 5 wsX3_lies RX3 (some .int) := ⟨Bd.exec, Bd.bytes, hml, findClass_of_methodNamed Bd.named, atoms_spec (ws := wsX3_lies) Bd.pre, Bd.returns, Bd.notSynchronized⟩
  have hC := Cu.of hw
  have hl := lv_entry ([.ref (ad 0), .int x1, .int x2]) (n := 5) (Nat.le_of_ble_eq_true rfl)
  rw [lg_entry_eq]
  generalize (lg_sl ([.ref (ad 0), .int x1, .int x2]) ++ List.replicate (5 - (lg_sl ([.ref (ad 0), .int x1, .int x2])).length) Slot.unset).toArray = ls at hl ⊢
  have hl : lv_has ls 5 [(0, .ref (ad 0)), (1, .int x1), (2, .int x2)] := hl
  obtain ⟨hx, hb, hml, hown, hts, hr, hlk⟩ := id G
  show W p l e (rmX3_lies) s m _ below meth c s.heap [] 0 0 (vx_MQ below (va_Qi (fun (r : Int32) (_ : Unit) => q0 = 0 ∧ r = r0) (fun _ t => Wp D ad ca B M0 ov t.heap) (Ab B)) (XcOf D ad ca B ov q0 M0) _ s 1 6 (Ab B)) (F0 m 0 ls [])
  refine lv_aload_n hx hb dX3_lies_0 rfl (lv_at hl 0 rfl) ?_
  refine mg_get (ci := 3) (C := RX3) (T := TX3) (N := 5) (v := .int (M 0 4)) hx hb hts inX3_lies_X3 hown hC 0 (by decide) rfl rfl 4 (by decide) (hts _ lkX3_lies_f76) rfl rfl dX3_lies_1 ?_
  refine lv_if_ne (tgt := 17) hx hb dX3_lies_4 (by decide) (fun h1 => ?_) (fun h1 => ?_)
  · have hf := it_f h1 hf
    refine lv_iconst (v := 0) hx hb dX3_lies_17 (by decide) ?_
    refine lv_istore_n (lv' := [(3, .int 0), (0, .ref (ad 0)), (1, .int x1), (2, .int x2)]) hx hb dX3_lies_18 rfl hl (by decide) rfl (fun ls hl => ?_)
    exact wX3_lies_19 G hl9 Ev9 hET N N x1 x2 0 M _ _ _ (lv_sub hl [1, 2, 3, 0] rfl) hC hf
  · have hf := it_t h1 hf
    exact mx_T (q := 2) (cls := exIS) (ik := 56) (is := 141) (ic := 60) (tx := "there is no plan") hx hb hl9 hlk hET hown (by decide) (hts _ lkX3_lies_kl56) (hts _ lkX3_lies_ki56) (by decide) (fun w h => hts w (xaX3_lies_60 w h)) nb_60 gx_60 (by decide) Ev9 hC (hl.1.trans hml.symm) dX3_lies_7 dX3_lies_10 dX3_lies_11 dX3_lies_13 dX3_lies_16 (by decide) (by decide) (by decide) (by decide) (by decide) rfl hf

theorem lkX3_share_c157 : Cond.constant RX3 157 (1000000) ∈ wsX3_share := by decide +kernel
theorem lkX3_share_f23 : Cond.fieldLink RX3 23 "BerthPlan" "quay" "LBerthPlan$Quay;" ∈ wsX3_share := by decide +kernel
theorem lkX3_share_ki45 : Cond.initialized "java/lang/IllegalArgumentException" ∈ wsX3_share := by decide +kernel
theorem lkX3_share_ki179 : Cond.initialized "java/lang/ArithmeticException" ∈ wsX3_share := by decide +kernel
theorem lkX3_share_kl45 : Cond.classLink RX3 45 "java/lang/IllegalArgumentException" ∈ wsX3_share := by decide +kernel
theorem lkX3_share_kl179 : Cond.classLink RX3 179 "java/lang/ArithmeticException" ∈ wsX3_share := by decide +kernel
theorem inX3_share_X3 : ∀ w ∈ wsX30, w ∈ wsX3_share := by decide +kernel
theorem xaX3_share_49 : ∀ w ∈ (vx_atS RX3 49 "java/lang/IllegalArgumentException" ["java/lang/RuntimeException", "java/lang/Exception"]).filter goodWord, w ∈ wsX3_share := by decide +kernel
theorem xaX3_share_183 : ∀ w ∈ (vx_atS RX3 183 "java/lang/ArithmeticException" ["java/lang/RuntimeException", "java/lang/Exception"]).filter goodWord, w ∈ wsX3_share := by decide +kernel
abbrev rmX3_share : Room := { frames := 6, cells := 1, slots := 6, locals := 90 }
def fX3_share (N : Nat) (x1 : Int32) (x2 : Int32) (x3 : Int32) (M : Mem) : Option ((Nat × Int64) × Mem) :=
    bd (fX3_isWithin N x1 0 1000000 M) (fun r1 M2 => if (r1 = 0 : Prop) then (some ((1, 0), M2)) else (bd (fX3_isWithin N x2 0 1000000 M2) (fun r4 M5 => if (r4 = 0 : Prop) then (some ((1, 0), M5)) else (bd (fX0_placesOf N x3 M5) (fun r7 M8 => if (r7 = 0 : Prop) then (some ((4, 0), M8)) else (gp (¬ ((r7 : Int32).toInt64) = 0) (some ((0, (((x1 : Int32).toInt64) * ((x2 : Int32).toInt64)) / ((r7 : Int32).toInt64)), M8))))))))
set_option maxHeartbeats 4000000 in
set_option maxRecDepth 100000 in
theorem kX3_share (l : Launch) (D : va_G) (ad : Nat → Nat) (ca : Nat → ClassId) (B : Nat) (ov : Int64) (N : Nat) (x1 : Int32) (x2 : Int32) (x3 : Int32) (M : Mem) (q0 : Nat) (r0 : Int64) (M0 : Mem) (hl9 : l.stackTraces = false) (hf : fX3_share N x1 x2 x3 M = some ((q0, r0), M0)) : XtL l D ad ca B ov yX3_share wsX3_share (rmX3_share) [.ref (ad 0), .int x1, .int x2, .int x3] M q0 r0 M0 := by
  unfold fX3_share at hf
  refine vx_ofW (cc := cX3_share) (maxL := 5) (ret := (some .long)) (by decide) rfl ?_
  intro p e s m args below meth c s₁ Bd hml hET hv
  obtain ⟨rfl, hw, Ev9⟩ := hv
  have G : Mx p s m ([.ref (ad 0), .int x1, .int x2, .int x3] : List Value).toArray meth c cX3_share 5 wsX3_share RX3 (some .long) := ⟨Bd.exec, Bd.bytes, hml, findClass_of_methodNamed Bd.named, atoms_spec (ws := wsX3_share) Bd.pre, Bd.returns, Bd.notSynchronized⟩
  have hC := Cu.of hw
  have hl := lv_entry ([.ref (ad 0), .int x1, .int x2, .int x3]) (n := 5) (Nat.le_of_ble_eq_true rfl)
  rw [lg_entry_eq]
  generalize (lg_sl ([.ref (ad 0), .int x1, .int x2, .int x3]) ++ List.replicate (5 - (lg_sl ([.ref (ad 0), .int x1, .int x2, .int x3])).length) Slot.unset).toArray = ls at hl ⊢
  have hl : lv_has ls 5 [(0, .ref (ad 0)), (1, .int x1), (2, .int x2), (3, .int x3)] := hl
  obtain ⟨hx, hb, hml, hown, hts, hr, hlk⟩ := id G
  show W p l e (rmX3_share) s m _ below meth c s.heap [] 0 0 (vx_MQ below (va_Ql (fun (r : Int64) (_ : Unit) => q0 = 0 ∧ r = r0) (fun _ t => Wp D ad ca B M0 ov t.heap) (Ab B)) (XcOf D ad ca B ov q0 M0) _ s 1 6 (Ab B)) (F0 m 0 ls [])
  refine lv_iload_n hx hb dX3_share_0 rfl (lv_at hl 1 rfl) ?_
  refine lv_iconst (v := 0) hx hb dX3_share_1 (by decide) ?_
  refine lv_ldc (v := 1000000) hx hb hown (hts _ lkX3_share_c157) dX3_share_2 ?_
  obtain ⟨r1, M2, hq, hf⟩ := bd_s hf
  refine mc_Si (As := [.int x1, .int 0, .int 1000000]) ⟨hx, hb, hml, hown, hts⟩ hC (kX3_isWithin l D ad ca B ov N x1 0 1000000 M r1 M2 hq) (va_cwS 3 hts gX3_share_X3_isWithin rfl rfl rfl (by decide +kernel) ⟨Nat.le_of_ble_eq_true rfl, Nat.le_of_ble_eq_true rfl⟩) rfl hl.1 rfl (Nat.le_of_ble_eq_true rfl) dX3_share_4 ⟨Nat.zero_le _, Nat.zero_le _⟩ (fun H locs hC => ?_)
  refine lv_if_eq (tgt := 20) hx hb dX3_share_7 (by decide) (fun h3 => ?_) (fun h3 => ?_)
  · have hf := it_t h3 hf
    exact mx_T (q := 1) (cls := exIA) (ik := 45) (is := 174) (ic := 49) (tx := "length or parts are not 0 .. 1000000") hx hb hl9 hlk hET hown (by decide) (hts _ lkX3_share_kl45) (hts _ lkX3_share_ki45) (by decide) (fun w h => hts w (xaX3_share_49 w h)) nb_49 gx_49 (by decide) Ev9 hC (hl.1.trans hml.symm) dX3_share_20 dX3_share_23 dX3_share_24 dX3_share_26 dX3_share_29 (by decide) (by decide) (by decide) (by decide) (by decide) rfl hf
  · have hf := it_f h3 hf
    refine lv_iload_n hx hb dX3_share_10 rfl (lv_at hl 2 rfl) ?_
    refine lv_iconst (v := 0) hx hb dX3_share_11 (by decide) ?_
    refine lv_ldc (v := 1000000) hx hb hown (hts _ lkX3_share_c157) dX3_share_12 ?_
    obtain ⟨r4, M5, hq, hf⟩ := bd_s hf
    refine mc_Si (As := [.int x2, .int 0, .int 1000000]) ⟨hx, hb, hml, hown, hts⟩ hC (kX3_isWithin l D ad ca B ov N x2 0 1000000 M2 r4 M5 hq) (va_cwS 3 hts gX3_share_X3_isWithin rfl rfl rfl (by decide +kernel) ⟨Nat.le_of_ble_eq_true rfl, Nat.le_of_ble_eq_true rfl⟩) rfl hl.1 rfl (Nat.le_of_ble_eq_true rfl) dX3_share_14 ⟨Nat.zero_le _, Nat.zero_le _⟩ (fun H locs hC => ?_)
    refine lv_if_ne (tgt := 30) hx hb dX3_share_17 (by decide) (fun h6 => ?_) (fun h6 => ?_)
    · have hf := it_f h6 hf
      refine lv_aload_n hx hb dX3_share_30 rfl (lv_at hl 0 rfl) ?_
      refine mg_get (ci := 3) (C := RX3) (T := TX3) (N := 5) (v := .ref (ad 1)) hx hb hts inX3_share_X3 hown hC 0 (by decide) rfl rfl 0 (by decide) (hts _ lkX3_share_f23) rfl rfl dX3_share_31 ?_
      refine lv_iload_n hx hb dX3_share_34 rfl (lv_at hl 3 rfl) ?_
      obtain ⟨r7, M8, hq, hf⟩ := bd_s hf
      refine mc_Vi (As := [.int x3]) ⟨hx, hb, hml, hown, hts⟩ hC (kX0_placesOf l D ad ca B ov N x3 M5 r7 M8 hq) (cwV 1 hts gX3_share_X0_placesOf rfl rfl rfl (by decide +kernel) ⟨Nat.le_of_ble_eq_true rfl, Nat.le_of_ble_eq_true rfl⟩) (mg_recv (ci := 0) (C := RX0) (T := TX0) (N := 5) hC 1 (by decide) rfl rfl) rfl hl.1 rfl (Nat.le_of_ble_eq_true rfl) dX3_share_35 ⟨Nat.zero_le _, Nat.zero_le _⟩ (fun H locs hC => ?_)
      refine lv_istore (lv' := [(4, .int r7), (0, .ref (ad 0)), (1, .int x1), (2, .int x2), (3, .int x3)]) hx hb dX3_share_38 hl (by decide) rfl (fun ls hl => ?_)
      refine lv_iload hx hb dX3_share_40 (lv_at hl 0 rfl) ?_
      refine lv_if_ne (tgt := 55) hx hb dX3_share_42 (by decide) (fun h9 => ?_) (fun h9 => ?_)
      · have hf := it_f h9 hf
        refine lv_iload_n hx hb dX3_share_55 rfl (lv_at hl 2 rfl) ?_
        refine lv_i2l (v := (x1 : Int32).toInt64) hx hb dX3_share_56 rfl ?_
        refine lv_iload_n hx hb dX3_share_57 rfl (lv_at hl 3 rfl) ?_
        refine lv_i2l (v := (x2 : Int32).toInt64) hx hb dX3_share_58 rfl ?_
        refine lv_lmul hx hb dX3_share_59 ?_
        refine lv_iload hx hb dX3_share_60 (lv_at hl 0 rfl) ?_
        refine lv_i2l (v := (r7 : Int32).toInt64) hx hb dX3_share_62 rfl ?_
        obtain ⟨g10, hf⟩ := gp_s hf
        refine lv_ldiv hx hb dX3_share_63 g10 ?_
        exact mx_L hx hb hr hlk hC hf dX3_share_64
      · have hf := it_t h9 hf
        exact mx_T (q := 4) (cls := exAR) (ik := 179) (is := 181) (ic := 183) (tx := "no place is so deep") hx hb hl9 hlk hET hown (by decide) (hts _ lkX3_share_kl179) (hts _ lkX3_share_ki179) (by decide) (fun w h => hts w (xaX3_share_183 w h)) nb_183 gx_183 (by decide) Ev9 hC (hl.1.trans hml.symm) dX3_share_45 dX3_share_48 dX3_share_49 dX3_share_51 dX3_share_54 (by decide) (by decide) (by decide) (by decide) (by decide) rfl hf
    · have hf := it_t h6 hf
      exact mx_T (q := 1) (cls := exIA) (ik := 45) (is := 174) (ic := 49) (tx := "length or parts are not 0 .. 1000000") hx hb hl9 hlk hET hown (by decide) (hts _ lkX3_share_kl45) (hts _ lkX3_share_ki45) (by decide) (fun w h => hts w (xaX3_share_49 w h)) nb_49 gx_49 (by decide) Ev9 hC (hl.1.trans hml.symm) dX3_share_20 dX3_share_23 dX3_share_24 dX3_share_26 dX3_share_29 (by decide) (by decide) (by decide) (by decide) (by decide) rfl hf
