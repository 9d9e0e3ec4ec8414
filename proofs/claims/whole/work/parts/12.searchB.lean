theorem lkX1_narrow_f9 : Cond.fieldLink RX1 9 "BerthPlan$Search" "begins" "[I" ∈ wsX1_narrow := by decide +kernel
theorem lkX1_narrow_f15 : Cond.fieldLink RX1 15 "BerthPlan$Search" "triedPlaces" "[I" ∈ wsX1_narrow := by decide +kernel
theorem lkX1_narrow_f18 : Cond.fieldLink RX1 18 "BerthPlan$Search" "triedHours" "[I" ∈ wsX1_narrow := by decide +kernel
theorem lkX1_narrow_f29 : Cond.fieldLink RX1 29 "BerthPlan$Search" "ships" "[LBerthPlan$Ship;" ∈ wsX1_narrow := by decide +kernel
theorem lkX1_narrow_f69 : Cond.fieldLink RX1 69 "BerthPlan$Search" "places" "I" ∈ wsX1_narrow := by decide +kernel
theorem lkX1_narrow_f111 : Cond.fieldLink RX1 111 "BerthPlan$Ship" "time" "I" ∈ wsX1_narrow := by decide +kernel
theorem lkX1_narrow_f117 : Cond.fieldLink RX1 117 "BerthPlan$Ship" "length" "I" ∈ wsX1_narrow := by decide +kernel
theorem lkX1_narrow_si114 : Cond.initialized RX3 ∈ wsX1_narrow := by decide +kernel
theorem lkX1_narrow_si120 : Cond.initialized RX3 ∈ wsX1_narrow := by decide +kernel
theorem lkX1_narrow_ss114 : Cond.static yX3_beginsBetween ∈ wsX1_narrow := by decide +kernel
theorem lkX1_narrow_ss120 : Cond.static yX3_spansMeet ∈ wsX1_narrow := by decide +kernel
theorem inX1_narrow_X1 : ∀ w ∈ wsX10, w ∈ wsX1_narrow := by decide +kernel
theorem inX1_narrow_X2 : ∀ w ∈ wsX20, w ∈ wsX1_narrow := by decide +kernel
abbrev rmX1_narrow : Room := { frames := 1, cells := 0, slots := 0, locals := 23 }
def fX1_narrow_52 (N : Nat) : Nat → Int32 → Int32 → Int32 → Int32 → Int32 → Mem → Option (Int32 × Mem)
  | 0, _, _, _, _, _, _ => none
  | n + 1, x1, x2, x3, x7, x8, M =>
    if ((M 9 7) ≤ x8 : Prop) then (some (0, M)) else (gd (x2) 4 (gp (¬ M 9 5 = 0) (gd (x2) 4 (gp (¬ M 9 5 = 0) (gd (x3) 4 (bd (fX3_spansMeet N (M 11 (x2 : Int32).toNatClampNeg) (M (5 + (x2 : Int32).toNatClampNeg) 0) x8 (M (5 + (x3 : Int32).toNatClampNeg) 0) M) (fun r7 M8 => bd (fX1_index N x1 x3 x8 M8) (fun r9 M10 => gd (r9) 96 (lq (M10 10 (r9 : Int32).toNatClampNeg) (fun z12 => bd (fX1_index N (x1 + (1 : Int32)) x3 x8 M10) (fun r13 M14 => if (r7 = 0 : Prop) then (gd (r13) 96 (lq (mw M14 10 (r13 : Int32).toNatClampNeg z12) (fun M17 => lq (x8 + 1) (fun z18 => fX1_narrow_52 N n x1 x2 x3 x7 z18 M17)))) else (gd (r13) 96 (lq (mw M14 10 (r13 : Int32).toNatClampNeg (z12 &&& (x7 ^^^ (-1 : Int32)))) (fun M20 => lq (x8 + 1) (fun z21 => fX1_narrow_52 N n x1 x2 x3 x7 z21 M20)))))))))))))))
theorem fX1_narrow_52_s {N n : Nat} {x1 : Int32} {x2 : Int32} {x3 : Int32} {x7 : Int32} {x8 : Int32} {M : Mem} : fX1_narrow_52 N (n + 1) x1 x2 x3 x7 x8 M =
    if ((M 9 7) ≤ x8 : Prop) then (some (0, M)) else (gd (x2) 4 (gp (¬ M 9 5 = 0) (gd (x2) 4 (gp (¬ M 9 5 = 0) (gd (x3) 4 (bd (fX3_spansMeet N (M 11 (x2 : Int32).toNatClampNeg) (M (5 + (x2 : Int32).toNatClampNeg) 0) x8 (M (5 + (x3 : Int32).toNatClampNeg) 0) M) (fun r7 M8 => bd (fX1_index N x1 x3 x8 M8) (fun r9 M10 => gd (r9) 96 (lq (M10 10 (r9 : Int32).toNatClampNeg) (fun z12 => bd (fX1_index N (x1 + (1 : Int32)) x3 x8 M10) (fun r13 M14 => if (r7 = 0 : Prop) then (gd (r13) 96 (lq (mw M14 10 (r13 : Int32).toNatClampNeg z12) (fun M17 => lq (x8 + 1) (fun z18 => fX1_narrow_52 N n x1 x2 x3 x7 z18 M17)))) else (gd (r13) 96 (lq (mw M14 10 (r13 : Int32).toNatClampNeg (z12 &&& (x7 ^^^ (-1 : Int32)))) (fun M20 => lq (x8 + 1) (fun z21 => fX1_narrow_52 N n x1 x2 x3 x7 z21 M20))))))))))))))) := rfl
def fX1_narrow (N : Nat) (x1 : Int32) (x2 : Int32) (x3 : Int32) (M : Mem) : Option (Int32 × Mem) :=
    gp (¬ M 9 5 = 0) (gd (x2) 4 (lq (M (5 + (x2 : Int32).toNatClampNeg) 2) (fun z3 => gp (¬ M 9 5 = 0) (gd (x3) 4 (lq (M (5 + (x3 : Int32).toNatClampNeg) 2) (fun z6 => gd (x2) 4 (lq (M 12 (x2 : Int32).toNatClampNeg) (fun z8 => bd (fX3_beginsBetween N ((z8 - z6) + (1 : Int32)) ((z8 + z3) - (1 : Int32)) M) (fun r9 M10 => fX1_narrow_52 N N x1 x2 x3 r9 0 M10)))))))))
set_option maxHeartbeats 4000000 in
set_option maxRecDepth 100000 in
theorem wX1_narrow_52 {p : Program} {l : Launch} {e : Env} {s : State} {m : MethodId} {args : Array Value} {below : List Frame} {meth : Method} {c : Code} {D : va_G} {ad : Nat → Nat} {ca : Nat → ClassId} {B : Nat} {ov : Int64} {r0 : Int32} {M0 : Mem} (G : Mx p s m args meth c cX1_narrow 11 wsX1_narrow RX1 none) (N : Nat) : ∀ (n : Nat), ∀ (x1 : Int32) (x2 : Int32) (x3 : Int32) (x7 : Int32) (x8 : Int32) (M : Mem) (H : Heap) (locs : List Loc) (ls : Array Slot), lv_has ls 11 [(0, .ref (ad 9)), (1, .int x1), (2, .int x2), (3, .int x3), (7, .int x7), (8, .int x8)] → Cu D ad ca B M ov s H locs → (fX1_narrow_52 N n) x1 x2 x3 x7 x8 M = some (r0, M0) → W p l e (rmX1_narrow) s m args below meth c H locs 0 0 (MQ below (va_Qv (fun (_ : Unit) => True) (fun _ t => Wp D ad ca B M0 ov t.heap) (Ab B)) args s 0 0 (Ab B)) (F0 m 52 ls []) := by
  obtain ⟨hx, hb, hml, hown, hts, hr, hlk⟩ := id G
  intro n
  induction n with
  | zero =>
    intro x1 x2 x3 x7 x8 M H locs ls hl hC hf
    cases hf
  | succ n ih =>
    intro x1 x2 x3 x7 x8 M H locs ls hl hC hf
    have hf := (fX1_narrow_52_s).symm.trans hf
    refine lv_iload hx hb dX1_narrow_52 (lv_at hl 5 rfl) ?_
    refine lv_aload_n hx hb dX1_narrow_54 rfl (lv_at hl 0 rfl) ?_
    refine mg_get (ci := 1) (C := RX1) (T := TX1) (N := 9) (v := .int (M 9 7)) hx hb hts inX1_narrow_X1 hown hC 9 (by decide) rfl rfl 7 (by decide) (hts _ lkX1_narrow_f69) rfl rfl dX1_narrow_55 ?_
    refine lv_icmp_ge (tgt := 143) hx hb dX1_narrow_58 (by decide) (fun h1 => ?_) (fun h1 => ?_)
    · have hf := it_t h1 hf
      exact mr_V hx hb hr hlk hC hf dX1_narrow_143
    · have hf := it_f h1 hf
      refine lv_aload_n hx hb dX1_narrow_61 rfl (lv_at hl 0 rfl) ?_
      refine mg_get (ci := 1) (C := RX1) (T := TX1) (N := 9) (v := .ref (ad 11)) hx hb hts inX1_narrow_X1 hown hC 9 (by decide) rfl rfl 1 (by decide) (hts _ lkX1_narrow_f15) rfl rfl dX1_narrow_62 ?_
      refine lv_iload_n hx hb dX1_narrow_65 rfl (lv_at hl 2 rfl) ?_
      obtain ⟨g2, hf⟩ := gd_s hf
      refine mg_iald (n := 4) (cA := ca 11) hx hb hC 11 4 (by decide) rfl rfl g2 dX1_narrow_66 ?_
      refine lv_aload_n hx hb dX1_narrow_67 rfl (lv_at hl 0 rfl) ?_
      obtain ⟨g3, hf⟩ := gp_s hf
      refine mg_get (ci := 1) (C := RX1) (T := TX1) (N := 9) (v := .ref (ad 4)) hx hb hts inX1_narrow_X1 hown hC 9 (by decide) rfl rfl 5 (by decide) (hts _ lkX1_narrow_f29) rfl (by show some (Value.ref (ad (if M 9 5 = 0 then 15 else 4))) = _; rw [if_neg g3]) dX1_narrow_68 ?_
      refine lv_iload_n hx hb dX1_narrow_71 rfl (lv_at hl 2 rfl) ?_
      obtain ⟨g4, hf⟩ := gd_s hf
      refine mg_aald hx hb hC g4 dX1_narrow_72 ?_
      refine mg_get (ci := 2) (C := RX2) (T := TX2) (N := 11) (v := .int (M (5 + (x2 : Int32).toNatClampNeg) 0)) hx hb hts inX1_narrow_X2 hown hC (5 + (x2 : Int32).toNatClampNeg) (sh_lt (sh_in g4)) (cell_sh (sh_in g4) _) rfl 0 (by decide) (hts _ lkX1_narrow_f117) rfl rfl dX1_narrow_73 ?_
      refine lv_iload hx hb dX1_narrow_76 (lv_at hl 5 rfl) ?_
      refine lv_aload_n hx hb dX1_narrow_78 rfl (lv_at hl 0 rfl) ?_
      obtain ⟨g5, hf⟩ := gp_s hf
      refine mg_get (ci := 1) (C := RX1) (T := TX1) (N := 9) (v := .ref (ad 4)) hx hb hts inX1_narrow_X1 hown hC 9 (by decide) rfl rfl 5 (by decide) (hts _ lkX1_narrow_f29) rfl (by show some (Value.ref (ad (if M 9 5 = 0 then 15 else 4))) = _; rw [if_neg g5]) dX1_narrow_79 ?_
      refine lv_iload_n hx hb dX1_narrow_82 rfl (lv_at hl 3 rfl) ?_
      obtain ⟨g6, hf⟩ := gd_s hf
      refine mg_aald hx hb hC g6 dX1_narrow_83 ?_
      refine mg_get (ci := 2) (C := RX2) (T := TX2) (N := 11) (v := .int (M (5 + (x3 : Int32).toNatClampNeg) 0)) hx hb hts inX1_narrow_X2 hown hC (5 + (x3 : Int32).toNatClampNeg) (sh_lt (sh_in g6)) (cell_sh (sh_in g6) _) rfl 0 (by decide) (hts _ lkX1_narrow_f117) rfl rfl dX1_narrow_84 ?_
      obtain ⟨r7, M8, hq, hf⟩ := bd_s hf
      refine mc_Ni (As := [.int (M 11 (x2 : Int32).toNatClampNeg), .int (M (5 + (x2 : Int32).toNatClampNeg) 0), .int x8, .int (M (5 + (x3 : Int32).toNatClampNeg) 0)]) ⟨hx, hb, hml, hown, hts⟩ hC (kX3_spansMeet l D ad ca B ov N (M 11 (x2 : Int32).toNatClampNeg) (M (5 + (x2 : Int32).toNatClampNeg) 0) x8 (M (5 + (x3 : Int32).toNatClampNeg) 0) M r7 M8 hq) ⟨va_cnB 4 hts gX1_narrow_X3_spansMeet_n120 rfl rfl rfl hC.2.2.1.2.2.2.2 (hts _ lkX1_narrow_si120) (by decide +kernel) ⟨Nat.le_of_ble_eq_true rfl, Nat.le_of_ble_eq_true rfl⟩, hts _ lkX1_narrow_ss120, trivial⟩ rfl hl.1 rfl (Nat.le_of_ble_eq_true rfl) dX1_narrow_87 ⟨Nat.zero_le _, Nat.zero_le _⟩ (fun H locs hC => ?_)
      refine lv_istore (lv' := [(9, .int r7), (0, .ref (ad 9)), (1, .int x1), (2, .int x2), (3, .int x3), (7, .int x7), (8, .int x8)]) hx hb dX1_narrow_90 hl (by decide) rfl (fun ls hl => ?_)
      refine lv_aload_n hx hb dX1_narrow_92 rfl (lv_at hl 1 rfl) ?_
      refine mg_get (ci := 1) (C := RX1) (T := TX1) (N := 9) (v := .ref (ad 10)) hx hb hts inX1_narrow_X1 hown hC 9 (by decide) rfl rfl 0 (by decide) (hts _ lkX1_narrow_f9) rfl rfl dX1_narrow_93 ?_
      refine lv_iload_n hx hb dX1_narrow_96 rfl (lv_at hl 2 rfl) ?_
      refine lv_iload_n hx hb dX1_narrow_97 rfl (lv_at hl 4 rfl) ?_
      refine lv_iload hx hb dX1_narrow_98 (lv_at hl 6 rfl) ?_
      obtain ⟨r9, M10, hq, hf⟩ := bd_s hf
      refine mc_Si (As := [.int x1, .int x3, .int x8]) ⟨hx, hb, hml, hown, hts⟩ hC (kX1_index l D ad ca B ov N x1 x3 x8 M8 r9 M10 hq) (va_cwS 3 hts gX1_narrow_X1_index rfl rfl rfl (by decide +kernel) ⟨Nat.le_of_ble_eq_true rfl, Nat.le_of_ble_eq_true rfl⟩) rfl hl.1 rfl (Nat.le_of_ble_eq_true rfl) dX1_narrow_100 ⟨Nat.zero_le _, Nat.zero_le _⟩ (fun H locs hC => ?_)
      obtain ⟨g11, hf⟩ := gd_s hf
      refine mg_iald (n := 96) (cA := ca 10) hx hb hC 10 3 (by decide) rfl rfl g11 dX1_narrow_103 ?_
      refine lv_topi (fun z12 ez12 => ?_)
      have hf := lq_k ez12 hf
      refine lv_istore (lv' := [(10, .int z12), (9, .int r7), (0, .ref (ad 9)), (1, .int x1), (2, .int x2), (3, .int x3), (7, .int x7), (8, .int x8)]) hx hb dX1_narrow_104 hl (by decide) rfl (fun ls hl => ?_)
      refine lv_aload_n hx hb dX1_narrow_106 rfl (lv_at hl 2 rfl) ?_
      refine mg_get (ci := 1) (C := RX1) (T := TX1) (N := 9) (v := .ref (ad 10)) hx hb hts inX1_narrow_X1 hown hC 9 (by decide) rfl rfl 0 (by decide) (hts _ lkX1_narrow_f9) rfl rfl dX1_narrow_107 ?_
      refine lv_iload_n hx hb dX1_narrow_110 rfl (lv_at hl 3 rfl) ?_
      refine lv_iconst (v := 1) hx hb dX1_narrow_111 (by decide) ?_
      refine lv_iadd hx hb dX1_narrow_112 ?_
      refine lv_iload_n hx hb dX1_narrow_113 rfl (lv_at hl 5 rfl) ?_
      refine lv_iload hx hb dX1_narrow_114 (lv_at hl 7 rfl) ?_
      obtain ⟨r13, M14, hq, hf⟩ := bd_s hf
      refine mc_Si (As := [.int (x1 + (1 : Int32)), .int x3, .int x8]) ⟨hx, hb, hml, hown, hts⟩ hC (kX1_index l D ad ca B ov N (x1 + (1 : Int32)) x3 x8 M10 r13 M14 hq) (va_cwS 3 hts gX1_narrow_X1_index rfl rfl rfl (by decide +kernel) ⟨Nat.le_of_ble_eq_true rfl, Nat.le_of_ble_eq_true rfl⟩) rfl hl.1 rfl (Nat.le_of_ble_eq_true rfl) dX1_narrow_116 ⟨Nat.zero_le _, Nat.zero_le _⟩ (fun H locs hC => ?_)
      refine lv_iload hx hb dX1_narrow_119 (lv_at hl 1 rfl) ?_
      refine lv_if_eq (tgt := 134) hx hb dX1_narrow_121 (by decide) (fun h15 => ?_) (fun h15 => ?_)
      · have hf := it_t h15 hf
        refine lv_iload hx hb dX1_narrow_134 (lv_at hl 0 rfl) ?_
        obtain ⟨g16, hf⟩ := gd_s hf
        refine mg_iast (n := 96) (cA := ca 10) hx hb hC 10 3 (by decide) (fun _ => rfl) rfl g16 dX1_narrow_136 (fun H locs hC => ?_)
        obtain ⟨M17, eM17⟩ : ∃ z : Mem, z = mw M14 10 (r13 : Int32).toNatClampNeg z12 := ⟨_, rfl⟩
        rw [← eM17] at hC
        have hf := lq_k eM17 hf
        obtain ⟨z18, ez18⟩ : ∃ y : Int32, y = x8 + 1 := ⟨_, rfl⟩
        have hf := lq_k ez18 hf
        refine lv_iinc (v := z18) (lv' := [(8, .int z18), (10, .int z12), (9, .int r7), (0, .ref (ad 9)), (1, .int x1), (2, .int x2), (3, .int x3), (7, .int x7)]) hx hb dX1_narrow_137 hl (k := 7) rfl (by rw [ez18]; rfl) (by decide) rfl (fun ls hl => ?_)
        refine lv_goto (tgt := 52) hx hb dX1_narrow_140 (by decide) ?_
        exact ih x1 x2 x3 x7 z18 M17 _ _ _ (lv_sub hl [3, 4, 5, 6, 7, 0] rfl) hC hf
      · have hf := it_f h15 hf
        refine lv_iload hx hb dX1_narrow_124 (lv_at hl 0 rfl) ?_
        refine lv_iload hx hb dX1_narrow_126 (lv_at hl 6 rfl) ?_
        refine lv_iconst (v := (-1)) hx hb dX1_narrow_128 (by decide) ?_
        refine lv_ixor hx hb dX1_narrow_129 ?_
        refine lv_iand hx hb dX1_narrow_130 ?_
        refine lv_goto (tgt := 136) hx hb dX1_narrow_131 (by decide) ?_
        obtain ⟨g19, hf⟩ := gd_s hf
        refine mg_iast (n := 96) (cA := ca 10) hx hb hC 10 3 (by decide) (fun _ => rfl) rfl g19 dX1_narrow_136 (fun H locs hC => ?_)
        obtain ⟨M20, eM20⟩ : ∃ z : Mem, z = mw M14 10 (r13 : Int32).toNatClampNeg (z12 &&& (x7 ^^^ (-1 : Int32))) := ⟨_, rfl⟩
        rw [← eM20] at hC
        have hf := lq_k eM20 hf
        obtain ⟨z21, ez21⟩ : ∃ y : Int32, y = x8 + 1 := ⟨_, rfl⟩
        have hf := lq_k ez21 hf
        refine lv_iinc (v := z21) (lv' := [(8, .int z21), (10, .int z12), (9, .int r7), (0, .ref (ad 9)), (1, .int x1), (2, .int x2), (3, .int x3), (7, .int x7)]) hx hb dX1_narrow_137 hl (k := 7) rfl (by rw [ez21]; rfl) (by decide) rfl (fun ls hl => ?_)
        refine lv_goto (tgt := 52) hx hb dX1_narrow_140 (by decide) ?_
        exact ih x1 x2 x3 x7 z21 M20 _ _ _ (lv_sub hl [3, 4, 5, 6, 7, 0] rfl) hC hf
set_option maxHeartbeats 4000000 in
set_option maxRecDepth 100000 in
theorem kX1_narrow (l : Launch) (D : va_G) (ad : Nat → Nat) (ca : Nat → ClassId) (B : Nat) (ov : Int64) (N : Nat) (x1 : Int32) (x2 : Int32) (x3 : Int32) (M : Mem) (r0 : Int32) (M0 : Mem) (hf : fX1_narrow N x1 x2 x3 M = some (r0, M0)) : MtV l D ad ca B ov yX1_narrow wsX1_narrow (rmX1_narrow) [.ref (ad 9), .int x1, .int x2, .int x3] M M0 := by
  unfold fX1_narrow at hf
  refine Met.ofW (cc := cX1_narrow) (maxL := 11) (ret := none) (by decide) rfl ?_
  intro p e s m args below meth c s₁ Bd hml hv
  obtain ⟨rfl, hw⟩ := hv
  have G : Mx p s m ([.ref (ad 9), .int x1, .int x2, .int x3] : List Value).toArray meth c cX1_narrow 11 wsX1_narrow RX1 none := ⟨Bd.exec, Bd.bytes, hml, findClass_of_methodNamed Bd.named, atoms_spec (ws := wsX1_narrow) Bd.pre, Bd.returns, Bd.notSynchronized⟩
  have hC := Cu.of hw
  have hl := lv_entry ([.ref (ad 9), .int x1, .int x2, .int x3]) (n := 11) (Nat.le_of_ble_eq_true rfl)
  rw [lg_entry_eq]
  generalize (lg_sl ([.ref (ad 9), .int x1, .int x2, .int x3]) ++ List.replicate (11 - (lg_sl ([.ref (ad 9), .int x1, .int x2, .int x3])).length) Slot.unset).toArray = ls at hl ⊢
  have hl : lv_has ls 11 [(0, .ref (ad 9)), (1, .int x1), (2, .int x2), (3, .int x3)] := hl
  obtain ⟨hx, hb, hml, hown, hts, hr, hlk⟩ := id G
  show W p l e (rmX1_narrow) s m _ below meth c s.heap [] 0 0 (MQ below (va_Qv (fun (_ : Unit) => True) (fun _ t => Wp D ad ca B M0 ov t.heap) (Ab B)) _ s 0 0 (Ab B)) (F0 m 0 ls [])
  refine lv_aload_n hx hb dX1_narrow_0 rfl (lv_at hl 0 rfl) ?_
  obtain ⟨g1, hf⟩ := gp_s hf
  refine mg_get (ci := 1) (C := RX1) (T := TX1) (N := 9) (v := .ref (ad 4)) hx hb hts inX1_narrow_X1 hown hC 9 (by decide) rfl rfl 5 (by decide) (hts _ lkX1_narrow_f29) rfl (by show some (Value.ref (ad (if M 9 5 = 0 then 15 else 4))) = _; rw [if_neg g1]) dX1_narrow_1 ?_
  refine lv_iload_n hx hb dX1_narrow_4 rfl (lv_at hl 2 rfl) ?_
  obtain ⟨g2, hf⟩ := gd_s hf
  refine mg_aald hx hb hC g2 dX1_narrow_5 ?_
  refine mg_get (ci := 2) (C := RX2) (T := TX2) (N := 11) (v := .int (M (5 + (x2 : Int32).toNatClampNeg) 2)) hx hb hts inX1_narrow_X2 hown hC (5 + (x2 : Int32).toNatClampNeg) (sh_lt (sh_in g2)) (cell_sh (sh_in g2) _) rfl 2 (by decide) (hts _ lkX1_narrow_f111) rfl rfl dX1_narrow_6 ?_
  refine lv_topi (fun z3 ez3 => ?_)
  have hf := lq_k ez3 hf
  refine lv_istore (lv' := [(4, .int z3), (0, .ref (ad 9)), (1, .int x1), (2, .int x2), (3, .int x3)]) hx hb dX1_narrow_9 hl (by decide) rfl (fun ls hl => ?_)
  refine lv_aload_n hx hb dX1_narrow_11 rfl (lv_at hl 1 rfl) ?_
  obtain ⟨g4, hf⟩ := gp_s hf
  refine mg_get (ci := 1) (C := RX1) (T := TX1) (N := 9) (v := .ref (ad 4)) hx hb hts inX1_narrow_X1 hown hC 9 (by decide) rfl rfl 5 (by decide) (hts _ lkX1_narrow_f29) rfl (by show some (Value.ref (ad (if M 9 5 = 0 then 15 else 4))) = _; rw [if_neg g4]) dX1_narrow_12 ?_
  refine lv_iload_n hx hb dX1_narrow_15 rfl (lv_at hl 4 rfl) ?_
  obtain ⟨g5, hf⟩ := gd_s hf
  refine mg_aald hx hb hC g5 dX1_narrow_16 ?_
  refine mg_get (ci := 2) (C := RX2) (T := TX2) (N := 11) (v := .int (M (5 + (x3 : Int32).toNatClampNeg) 2)) hx hb hts inX1_narrow_X2 hown hC (5 + (x3 : Int32).toNatClampNeg) (sh_lt (sh_in g5)) (cell_sh (sh_in g5) _) rfl 2 (by decide) (hts _ lkX1_narrow_f111) rfl rfl dX1_narrow_17 ?_
  refine lv_topi (fun z6 ez6 => ?_)
  have hf := lq_k ez6 hf
  refine lv_istore (lv' := [(5, .int z6), (4, .int z3), (0, .ref (ad 9)), (1, .int x1), (2, .int x2), (3, .int x3)]) hx hb dX1_narrow_20 hl (by decide) rfl (fun ls hl => ?_)
  refine lv_aload_n hx hb dX1_narrow_22 rfl (lv_at hl 2 rfl) ?_
  refine mg_get (ci := 1) (C := RX1) (T := TX1) (N := 9) (v := .ref (ad 12)) hx hb hts inX1_narrow_X1 hown hC 9 (by decide) rfl rfl 2 (by decide) (hts _ lkX1_narrow_f18) rfl rfl dX1_narrow_23 ?_
  refine lv_iload_n hx hb dX1_narrow_26 rfl (lv_at hl 4 rfl) ?_
  obtain ⟨g7, hf⟩ := gd_s hf
  refine mg_iald (n := 4) (cA := ca 12) hx hb hC 12 5 (by decide) rfl rfl g7 dX1_narrow_27 ?_
  refine lv_topi (fun z8 ez8 => ?_)
  have hf := lq_k ez8 hf
  refine lv_istore (lv' := [(6, .int z8), (5, .int z6), (4, .int z3), (0, .ref (ad 9)), (1, .int x1), (2, .int x2), (3, .int x3)]) hx hb dX1_narrow_28 hl (by decide) rfl (fun ls hl => ?_)
  refine lv_iload hx hb dX1_narrow_30 (lv_at hl 0 rfl) ?_
  refine lv_iload hx hb dX1_narrow_32 (lv_at hl 1 rfl) ?_
  refine lv_isub hx hb dX1_narrow_34 ?_
  refine lv_iconst (v := 1) hx hb dX1_narrow_35 (by decide) ?_
  refine lv_iadd hx hb dX1_narrow_36 ?_
  refine lv_iload hx hb dX1_narrow_37 (lv_at hl 0 rfl) ?_
  refine lv_iload hx hb dX1_narrow_39 (lv_at hl 2 rfl) ?_
  refine lv_iadd hx hb dX1_narrow_41 ?_
  refine lv_iconst (v := 1) hx hb dX1_narrow_42 (by decide) ?_
  refine lv_isub hx hb dX1_narrow_43 ?_
  obtain ⟨r9, M10, hq, hf⟩ := bd_s hf
  refine mc_Ni (As := [.int ((z8 - z6) + (1 : Int32)), .int ((z8 + z3) - (1 : Int32))]) ⟨hx, hb, hml, hown, hts⟩ hC (kX3_beginsBetween l D ad ca B ov N ((z8 - z6) + (1 : Int32)) ((z8 + z3) - (1 : Int32)) M r9 M10 hq) ⟨va_cnB 2 hts gX1_narrow_X3_beginsBetween_n114 rfl rfl rfl hC.2.2.1.2.2.2.1 (hts _ lkX1_narrow_si114) (by decide +kernel) ⟨Nat.le_of_ble_eq_true rfl, Nat.le_of_ble_eq_true rfl⟩, hts _ lkX1_narrow_ss114, trivial⟩ rfl hl.1 rfl (Nat.le_of_ble_eq_true rfl) dX1_narrow_44 ⟨Nat.zero_le _, Nat.zero_le _⟩ (fun H locs hC => ?_)
  refine lv_istore (lv' := [(7, .int r9), (6, .int z8), (5, .int z6), (4, .int z3), (0, .ref (ad 9)), (1, .int x1), (2, .int x2), (3, .int x3)]) hx hb dX1_narrow_47 hl (by decide) rfl (fun ls hl => ?_)
  refine lv_iconst (v := 0) hx hb dX1_narrow_49 (by decide) ?_
  refine lv_istore (lv' := [(8, .int 0), (7, .int r9), (6, .int z8), (5, .int z6), (4, .int z3), (0, .ref (ad 9)), (1, .int x1), (2, .int x2), (3, .int x3)]) hx hb dX1_narrow_50 hl (by decide) rfl (fun ls hl => ?_)
  exact wX1_narrow_52 G N N x1 x2 x3 r9 0 M10 _ _ _ (lv_sub hl [5, 6, 7, 8, 1, 0] rfl) hC hf

theorem lkX1_lay_f15 : Cond.fieldLink RX1 15 "BerthPlan$Search" "triedPlaces" "[I" ∈ wsX1_lay := by decide +kernel
theorem lkX1_lay_f18 : Cond.fieldLink RX1 18 "BerthPlan$Search" "triedHours" "[I" ∈ wsX1_lay := by decide +kernel
theorem lkX1_lay_f61 : Cond.fieldLink RX1 61 "BerthPlan$Search" "shipCount" "I" ∈ wsX1_lay := by decide +kernel
theorem lkX1_lay_si86 : Cond.initialized RX3 ∈ wsX1_lay := by decide +kernel
theorem lkX1_lay_ss86 : Cond.static yX3_hasBit ∈ wsX1_lay := by decide +kernel
theorem inX1_lay_X1 : ∀ w ∈ wsX10, w ∈ wsX1_lay := by decide +kernel
abbrev rmX1_lay : Room := { frames := 2, cells := 0, slots := 0, locals := 53 }
def fX1_lay_25 (N : Nat) : Nat → Int32 → Int32 → Int32 → Int32 → Mem → Option (Int32 × Mem)
  | 0, _, _, _, _, _ => none
  | n + 1, x1, x2, x5, x6, M =>
    if ((M 9 6) ≤ x6 : Prop) then (some (0, M)) else (if (x6 = x2 : Prop) then (lq (x6 + 1) (fun z3 => fX1_lay_25 N n x1 x2 x5 z3 M)) else (bd (fX3_hasBit N x1 x6 M) (fun r4 M5 => if (r4 = 0 : Prop) then (lq (x6 + 1) (fun z7 => fX1_lay_25 N n x1 x2 x5 z7 M5)) else (bd (fX1_narrow N x5 x2 x6 M5) (fun _ M9 => lq (x6 + 1) (fun z10 => fX1_lay_25 N n x1 x2 x5 z10 M9))))))
theorem fX1_lay_25_s {N n : Nat} {x1 : Int32} {x2 : Int32} {x5 : Int32} {x6 : Int32} {M : Mem} : fX1_lay_25 N (n + 1) x1 x2 x5 x6 M =
    if ((M 9 6) ≤ x6 : Prop) then (some (0, M)) else (if (x6 = x2 : Prop) then (lq (x6 + 1) (fun z3 => fX1_lay_25 N n x1 x2 x5 z3 M)) else (bd (fX3_hasBit N x1 x6 M) (fun r4 M5 => if (r4 = 0 : Prop) then (lq (x6 + 1) (fun z7 => fX1_lay_25 N n x1 x2 x5 z7 M5)) else (bd (fX1_narrow N x5 x2 x6 M5) (fun _ M9 => lq (x6 + 1) (fun z10 => fX1_lay_25 N n x1 x2 x5 z10 M9)))))) := rfl
def fX1_lay (N : Nat) (x1 : Int32) (x2 : Int32) (x3 : Int32) (x4 : Int32) (M : Mem) : Option (Int32 × Mem) :=
    gd (x2) 4 (lq (mw M 11 (x2 : Int32).toNatClampNeg x3) (fun M2 => gd (x2) 4 (lq (mw M2 12 (x2 : Int32).toNatClampNeg x4) (fun M4 => bd (fX1_levelOf N x1 M4) (fun r5 M6 => fX1_lay_25 N N x1 x2 r5 0 M6)))))
set_option maxHeartbeats 4000000 in
set_option maxRecDepth 100000 in
theorem wX1_lay_25 {p : Program} {l : Launch} {e : Env} {s : State} {m : MethodId} {args : Array Value} {below : List Frame} {meth : Method} {c : Code} {D : va_G} {ad : Nat → Nat} {ca : Nat → ClassId} {B : Nat} {ov : Int64} {r0 : Int32} {M0 : Mem} (G : Mx p s m args meth c cX1_lay 7 wsX1_lay RX1 none) (N : Nat) : ∀ (n : Nat), ∀ (x1 : Int32) (x2 : Int32) (x5 : Int32) (x6 : Int32) (M : Mem) (H : Heap) (locs : List Loc) (ls : Array Slot), lv_has ls 7 [(0, .ref (ad 9)), (1, .int x1), (2, .int x2), (5, .int x5), (6, .int x6)] → Cu D ad ca B M ov s H locs → (fX1_lay_25 N n) x1 x2 x5 x6 M = some (r0, M0) → W p l e (rmX1_lay) s m args below meth c H locs 0 0 (MQ below (va_Qv (fun (_ : Unit) => True) (fun _ t => Wp D ad ca B M0 ov t.heap) (Ab B)) args s 0 0 (Ab B)) (F0 m 25 ls []) := by
  obtain ⟨hx, hb, hml, hown, hts, hr, hlk⟩ := id G
  intro n
  induction n with
  | zero =>
    intro x1 x2 x5 x6 M H locs ls hl hC hf
    cases hf
  | succ n ih =>
    intro x1 x2 x5 x6 M H locs ls hl hC hf
    have hf := (fX1_lay_25_s).symm.trans hf
    refine lv_iload hx hb dX1_lay_25 (lv_at hl 4 rfl) ?_
    refine lv_aload_n hx hb dX1_lay_27 rfl (lv_at hl 0 rfl) ?_
    refine mg_get (ci := 1) (C := RX1) (T := TX1) (N := 9) (v := .int (M 9 6)) hx hb hts inX1_lay_X1 hown hC 9 (by decide) rfl rfl 6 (by decide) (hts _ lkX1_lay_f61) rfl rfl dX1_lay_28 ?_
    refine lv_icmp_ge (tgt := 64) hx hb dX1_lay_31 (by decide) (fun h1 => ?_) (fun h1 => ?_)
    · have hf := it_t h1 hf
      exact mr_V hx hb hr hlk hC hf dX1_lay_64
    · have hf := it_f h1 hf
      refine lv_iload hx hb dX1_lay_34 (lv_at hl 4 rfl) ?_
      refine lv_iload_n hx hb dX1_lay_36 rfl (lv_at hl 2 rfl) ?_
      refine lv_icmp_eq (tgt := 58) hx hb dX1_lay_37 (by decide) (fun h2 => ?_) (fun h2 => ?_)
      · have hf := it_t h2 hf
        obtain ⟨z3, ez3⟩ : ∃ y : Int32, y = x6 + 1 := ⟨_, rfl⟩
        have hf := lq_k ez3 hf
        refine lv_iinc (v := z3) (lv' := [(6, .int z3), (0, .ref (ad 9)), (1, .int x1), (2, .int x2), (5, .int x5)]) hx hb dX1_lay_58 hl (k := 4) rfl (by rw [ez3]; rfl) (by decide) rfl (fun ls hl => ?_)
        refine lv_goto (tgt := 25) hx hb dX1_lay_61 (by decide) ?_
        exact ih x1 x2 x5 z3 M _ _ _ (lv_sub hl [1, 2, 3, 4, 0] rfl) hC hf
      · have hf := it_f h2 hf
        refine lv_iload_n hx hb dX1_lay_40 rfl (lv_at hl 1 rfl) ?_
        refine lv_iload hx hb dX1_lay_41 (lv_at hl 4 rfl) ?_
        obtain ⟨r4, M5, hq, hf⟩ := bd_s hf
        refine mc_Ni (As := [.int x1, .int x6]) ⟨hx, hb, hml, hown, hts⟩ hC (kX3_hasBit l D ad ca B ov N x1 x6 M r4 M5 hq) ⟨va_cnB 2 hts gX1_lay_X3_hasBit_n86 rfl rfl rfl hC.2.2.1.2.2.1 (hts _ lkX1_lay_si86) (by decide +kernel) ⟨Nat.le_of_ble_eq_true rfl, Nat.le_of_ble_eq_true rfl⟩, hts _ lkX1_lay_ss86, trivial⟩ rfl hl.1 rfl (Nat.le_of_ble_eq_true rfl) dX1_lay_43 ⟨Nat.zero_le _, Nat.zero_le _⟩ (fun H locs hC => ?_)
        refine lv_if_eq (tgt := 58) hx hb dX1_lay_46 (by decide) (fun h6 => ?_) (fun h6 => ?_)
        · have hf := it_t h6 hf
          obtain ⟨z7, ez7⟩ : ∃ y : Int32, y = x6 + 1 := ⟨_, rfl⟩
          have hf := lq_k ez7 hf
          refine lv_iinc (v := z7) (lv' := [(6, .int z7), (0, .ref (ad 9)), (1, .int x1), (2, .int x2), (5, .int x5)]) hx hb dX1_lay_58 hl (k := 4) rfl (by rw [ez7]; rfl) (by decide) rfl (fun ls hl => ?_)
          refine lv_goto (tgt := 25) hx hb dX1_lay_61 (by decide) ?_
          exact ih x1 x2 x5 z7 M5 _ _ _ (lv_sub hl [1, 2, 3, 4, 0] rfl) hC hf
        · have hf := it_f h6 hf
          refine lv_aload_n hx hb dX1_lay_49 rfl (lv_at hl 0 rfl) ?_
          refine lv_iload hx hb dX1_lay_50 (lv_at hl 3 rfl) ?_
          refine lv_iload_n hx hb dX1_lay_52 rfl (lv_at hl 2 rfl) ?_
          refine lv_iload hx hb dX1_lay_53 (lv_at hl 4 rfl) ?_
          obtain ⟨r8, M9, hq, hf⟩ := bd_s hf
          refine mc_Vv (As := [.int x5, .int x2, .int x6]) ⟨hx, hb, hml, hown, hts⟩ hC (kX1_narrow l D ad ca B ov N x5 x2 x6 M5 r8 M9 hq) (cwV 3 hts gX1_lay_X1_narrow rfl rfl rfl (by decide +kernel) ⟨Nat.le_of_ble_eq_true rfl, Nat.le_of_ble_eq_true rfl⟩) (mg_recv (ci := 1) (C := RX1) (T := TX1) (N := 9) hC 9 (by decide) rfl rfl) rfl hl.1 rfl (Nat.le_of_ble_eq_true rfl) dX1_lay_55 ⟨Nat.zero_le _, Nat.zero_le _⟩ (fun H locs hC => ?_)
          obtain ⟨z10, ez10⟩ : ∃ y : Int32, y = x6 + 1 := ⟨_, rfl⟩
          have hf := lq_k ez10 hf
          refine lv_iinc (v := z10) (lv' := [(6, .int z10), (0, .ref (ad 9)), (1, .int x1), (2, .int x2), (5, .int x5)]) hx hb dX1_lay_58 hl (k := 4) rfl (by rw [ez10]; rfl) (by decide) rfl (fun ls hl => ?_)
          refine lv_goto (tgt := 25) hx hb dX1_lay_61 (by decide) ?_
          exact ih x1 x2 x5 z10 M9 _ _ _ (lv_sub hl [1, 2, 3, 4, 0] rfl) hC hf
set_option maxHeartbeats 4000000 in
set_option maxRecDepth 100000 in
theorem kX1_lay (l : Launch) (D : va_G) (ad : Nat → Nat) (ca : Nat → ClassId) (B : Nat) (ov : Int64) (N : Nat) (x1 : Int32) (x2 : Int32) (x3 : Int32) (x4 : Int32) (M : Mem) (r0 : Int32) (M0 : Mem) (hf : fX1_lay N x1 x2 x3 x4 M = some (r0, M0)) : MtV l D ad ca B ov yX1_lay wsX1_lay (rmX1_lay) [.ref (ad 9), .int x1, .int x2, .int x3, .int x4] M M0 := by
  unfold fX1_lay at hf
  refine Met.ofW (cc := cX1_lay) (maxL := 7) (ret := none) (by decide) rfl ?_
  intro p e s m args below meth c s₁ Bd hml hv
  obtain ⟨rfl, hw⟩ := hv
  have G : Mx p s m ([.ref (ad 9), .int x1, .int x2, .int x3, .int x4] : List Value).toArray meth c cX1_lay 7 wsX1_lay RX1 none := ⟨Bd.exec, Bd.bytes, hml, findClass_of_methodNamed Bd.named, atoms_spec (ws := wsX1_lay) Bd.pre, Bd.returns, Bd.notSynchronized⟩
  have hC := Cu.of hw
  have hl := lv_entry ([.ref (ad 9), .int x1, .int x2, .int x3, .int x4]) (n := 7) (Nat.le_of_ble_eq_true rfl)
  rw [lg_entry_eq]
  generalize (lg_sl ([.ref (ad 9), .int x1, .int x2, .int x3, .int x4]) ++ List.replicate (7 - (lg_sl ([.ref (ad 9), .int x1, .int x2, .int x3, .int x4])).length) Slot.unset).toArray = ls at hl ⊢
  have hl : lv_has ls 7 [(0, .ref (ad 9)), (1, .int x1), (2, .int x2), (3, .int x3), (4, .int x4)] := hl
  obtain ⟨hx, hb, hml, hown, hts, hr, hlk⟩ := id G
  show W p l e (rmX1_lay) s m _ below meth c s.heap [] 0 0 (MQ below (va_Qv (fun (_ : Unit) => True) (fun _ t => Wp D ad ca B M0 ov t.heap) (Ab B)) _ s 0 0 (Ab B)) (F0 m 0 ls [])
  refine lv_aload_n hx hb dX1_lay_0 rfl (lv_at hl 0 rfl) ?_
  refine mg_get (ci := 1) (C := RX1) (T := TX1) (N := 9) (v := .ref (ad 11)) hx hb hts inX1_lay_X1 hown hC 9 (by decide) rfl rfl 1 (by decide) (hts _ lkX1_lay_f15) rfl rfl dX1_lay_1 ?_
  refine lv_iload_n hx hb dX1_lay_4 rfl (lv_at hl 2 rfl) ?_
  refine lv_iload_n hx hb dX1_lay_5 rfl (lv_at hl 3 rfl) ?_
  obtain ⟨g1, hf⟩ := gd_s hf
  refine mg_iast (n := 4) (cA := ca 11) hx hb hC 11 4 (by decide) (fun _ => rfl) rfl g1 dX1_lay_6 (fun H locs hC => ?_)
  obtain ⟨M2, eM2⟩ : ∃ z : Mem, z = mw M 11 (x2 : Int32).toNatClampNeg x3 := ⟨_, rfl⟩
  rw [← eM2] at hC
  have hf := lq_k eM2 hf
  refine lv_aload_n hx hb dX1_lay_7 rfl (lv_at hl 0 rfl) ?_
  refine mg_get (ci := 1) (C := RX1) (T := TX1) (N := 9) (v := .ref (ad 12)) hx hb hts inX1_lay_X1 hown hC 9 (by decide) rfl rfl 2 (by decide) (hts _ lkX1_lay_f18) rfl rfl dX1_lay_8 ?_
  refine lv_iload_n hx hb dX1_lay_11 rfl (lv_at hl 2 rfl) ?_
  refine lv_iload hx hb dX1_lay_12 (lv_at hl 4 rfl) ?_
  obtain ⟨g3, hf⟩ := gd_s hf
  refine mg_iast (n := 4) (cA := ca 12) hx hb hC 12 5 (by decide) (fun _ => rfl) rfl g3 dX1_lay_14 (fun H locs hC => ?_)
  obtain ⟨M4, eM4⟩ : ∃ z : Mem, z = mw M2 12 (x2 : Int32).toNatClampNeg x4 := ⟨_, rfl⟩
  rw [← eM4] at hC
  have hf := lq_k eM4 hf
  refine lv_aload_n hx hb dX1_lay_15 rfl (lv_at hl 0 rfl) ?_
  refine lv_iload_n hx hb dX1_lay_16 rfl (lv_at hl 1 rfl) ?_
  obtain ⟨r5, M6, hq, hf⟩ := bd_s hf
  refine mc_Vi (As := [.int x1]) ⟨hx, hb, hml, hown, hts⟩ hC (kX1_levelOf l D ad ca B ov N x1 M4 r5 M6 hq) (cwV 1 hts gX1_lay_X1_levelOf rfl rfl rfl (by decide +kernel) ⟨Nat.le_of_ble_eq_true rfl, Nat.le_of_ble_eq_true rfl⟩) (mg_recv (ci := 1) (C := RX1) (T := TX1) (N := 9) hC 9 (by decide) rfl rfl) rfl hl.1 rfl (Nat.le_of_ble_eq_true rfl) dX1_lay_17 ⟨Nat.zero_le _, Nat.zero_le _⟩ (fun H locs hC => ?_)
  refine lv_istore (lv' := [(5, .int r5), (0, .ref (ad 9)), (1, .int x1), (2, .int x2), (3, .int x3), (4, .int x4)]) hx hb dX1_lay_20 hl (by decide) rfl (fun ls hl => ?_)
  refine lv_iconst (v := 0) hx hb dX1_lay_22 (by decide) ?_
  refine lv_istore (lv' := [(6, .int 0), (5, .int r5), (0, .ref (ad 9)), (1, .int x1), (2, .int x2), (3, .int x3), (4, .int x4)]) hx hb dX1_lay_23 hl (by decide) rfl (fun ls hl => ?_)
  exact wX1_lay_25 G N N x1 x2 r5 0 M6 _ _ _ (lv_sub hl [2, 3, 4, 1, 0] rfl) hC hf

def rmX1_tryBerth (d : Nat) : Room := { frames := 2 * d + 9, cells := 0, slots := 0, locals := 60 * d + 430 }
def rmX1_berthRest (d : Nat) : Room := { frames := 2 * d + 8, cells := 0, slots := 0, locals := 60 * d + 400 }
theorem lkX1_tryBerth_f9 : Cond.fieldLink RX1 9 "BerthPlan$Search" "begins" "[I" ∈ wsX1_tryBerth := by decide +kernel
theorem lkX1_tryBerth_f29 : Cond.fieldLink RX1 29 "BerthPlan$Search" "ships" "[LBerthPlan$Ship;" ∈ wsX1_tryBerth := by decide +kernel
theorem lkX1_tryBerth_f38 : Cond.fieldLink RX1 38 "BerthPlan$Search" "best" "I" ∈ wsX1_tryBerth := by decide +kernel
theorem inX1_tryBerth_X1 : ∀ w ∈ wsX10, w ∈ wsX1_tryBerth := by decide +kernel
def fX1_tryBerth (N : Nat) (kR : Int32 → Int32 → Int32 → Mem → Option (Int32 × Mem)) (x1 : Int32) (x2 : Int32) (x3 : Int32) (x4 : Int32) (x5 : Int32) (M : Mem) : Option (Int32 × Mem) :=
    bd (fX1_levelOf N x1 M) (fun r1 M2 => bd (fX1_index N r1 x2 x3 M2) (fun r3 M4 => gd (r3) 96 (lq (M4 10 (r3 : Int32).toNatClampNeg) (fun z6 => if (z6 = 0 : Prop) then (some (0, M4)) else (bd (fX1_firstOf N z6 M4) (fun r8 M9 => lq ((r8 * (4 : Int32)) + x2) (fun z10 => if (x5 < z10 : Prop) then (bd (fX1_lay N x1 x2 x3 r8 M9) (fun _ M13 => lq (x1 &&& (((1 : Int32) <<< (x2 &&& 31)) ^^^ (-1 : Int32))) (fun z14 => gp (¬ M13 9 5 = 0) (gd (x2) 4 (bd (fX2_latenessIf N (5 + (x2 : Int32).toNatClampNeg) r8 M13) (fun r17 M18 => lq (x4 + r17) (fun z19 => bd (fX1_leastOf N z14 M18) (fun r20 M21 => if ((M21 9 8) < (z19 + r20) : Prop) then (some (0, M21)) else (bd (kR z14 z19 z10 M21) (fun _ M24 => some (0, M24))))))))))) else (some (0, M9)))))))))
set_option maxHeartbeats 4000000 in
set_option maxRecDepth 100000 in
theorem kX1_tryBerth (l : Launch) (D : va_G) (ad : Nat → Nat) (ca : Nat → ClassId) (B : Nat) (ov : Int64) (d : Nat) (N : Nat) (kR : Int32 → Int32 → Int32 → Mem → Option (Int32 × Mem)) (hR : ∀ (a0 a1 a2 : Int32) (M : Mem) (r : Int32) (M9 : Mem), kR a0 a1 a2 M = some (r, M9) → MtV l D ad ca B ov yX1_berthRest wsX1_berthRest (rmX1_berthRest d) [.ref (ad 9), .int a0, .int a1, .int a2] M M9) (x1 : Int32) (x2 : Int32) (x3 : Int32) (x4 : Int32) (x5 : Int32) (M : Mem) (r0 : Int32) (M0 : Mem) (hf : fX1_tryBerth N kR x1 x2 x3 x4 x5 M = some (r0, M0)) : MtV l D ad ca B ov yX1_tryBerth wsX1_tryBerth (rmX1_tryBerth d) [.ref (ad 9), .int x1, .int x2, .int x3, .int x4, .int x5] M M0 := by
  unfold fX1_tryBerth at hf
  refine Met.ofW (cc := cX1_tryBerth) (maxL := 11) (ret := none) (by decide) rfl ?_
  intro p e s m args below meth c s₁ Bd hml hv
  obtain ⟨rfl, hw⟩ := hv
  have G : Mx p s m ([.ref (ad 9), .int x1, .int x2, .int x3, .int x4, .int x5] : List Value).toArray meth c cX1_tryBerth 11 wsX1_tryBerth RX1 none := ⟨Bd.exec, Bd.bytes, hml, findClass_of_methodNamed Bd.named, atoms_spec (ws := wsX1_tryBerth) Bd.pre, Bd.returns, Bd.notSynchronized⟩
  have hC := Cu.of hw
  have hl := lv_entry ([.ref (ad 9), .int x1, .int x2, .int x3, .int x4, .int x5]) (n := 11) (Nat.le_of_ble_eq_true rfl)
  rw [lg_entry_eq]
  generalize (lg_sl ([.ref (ad 9), .int x1, .int x2, .int x3, .int x4, .int x5]) ++ List.replicate (11 - (lg_sl ([.ref (ad 9), .int x1, .int x2, .int x3, .int x4, .int x5])).length) Slot.unset).toArray = ls at hl ⊢
  have hl : lv_has ls 11 [(0, .ref (ad 9)), (1, .int x1), (2, .int x2), (3, .int x3), (4, .int x4), (5, .int x5)] := hl
  obtain ⟨hx, hb, hml, hown, hts, hr, hlk⟩ := id G
  show W p l e (rmX1_tryBerth d) s m _ below meth c s.heap [] 0 0 (MQ below (va_Qv (fun (_ : Unit) => True) (fun _ t => Wp D ad ca B M0 ov t.heap) (Ab B)) _ s 0 0 (Ab B)) (F0 m 0 ls [])
  refine lv_aload_n hx hb dX1_tryBerth_0 rfl (lv_at hl 0 rfl) ?_
  refine mg_get (ci := 1) (C := RX1) (T := TX1) (N := 9) (v := .ref (ad 10)) hx hb hts inX1_tryBerth_X1 hown hC 9 (by decide) rfl rfl 0 (by decide) (hts _ lkX1_tryBerth_f9) rfl rfl dX1_tryBerth_1 ?_
  refine lv_aload_n hx hb dX1_tryBerth_4 rfl (lv_at hl 0 rfl) ?_
  refine lv_iload_n hx hb dX1_tryBerth_5 rfl (lv_at hl 1 rfl) ?_
  obtain ⟨r1, M2, hq, hf⟩ := bd_s hf
  refine mc_Vi (As := [.int x1]) ⟨hx, hb, hml, hown, hts⟩ hC (kX1_levelOf l D ad ca B ov N x1 M r1 M2 hq) (cwV 1 hts gX1_tryBerth_X1_levelOf rfl rfl rfl (by decide +kernel) ⟨by show _ ≤ _; simp only [rmX1_levelOf, rmX1_tryBerth]; omega, by show _ ≤ _; simp only [rmX1_levelOf, rmX1_tryBerth]; omega⟩) (mg_recv (ci := 1) (C := RX1) (T := TX1) (N := 9) hC 9 (by decide) rfl rfl) rfl hl.1 rfl (Nat.le_of_ble_eq_true rfl) dX1_tryBerth_6 ⟨Nat.zero_le _, Nat.zero_le _⟩ (fun H locs hC => ?_)
  refine lv_iload_n hx hb dX1_tryBerth_9 rfl (lv_at hl 2 rfl) ?_
  refine lv_iload_n hx hb dX1_tryBerth_10 rfl (lv_at hl 3 rfl) ?_
  obtain ⟨r3, M4, hq, hf⟩ := bd_s hf
  refine mc_Si (As := [.int r1, .int x2, .int x3]) ⟨hx, hb, hml, hown, hts⟩ hC (kX1_index l D ad ca B ov N r1 x2 x3 M2 r3 M4 hq) (va_cwS 3 hts gX1_tryBerth_X1_index rfl rfl rfl (by decide +kernel) ⟨by show _ ≤ _; simp only [rmX1_index, rmX1_tryBerth]; omega, by show _ ≤ _; simp only [rmX1_index, rmX1_tryBerth]; omega⟩) rfl hl.1 rfl (Nat.le_of_ble_eq_true rfl) dX1_tryBerth_11 ⟨Nat.zero_le _, Nat.zero_le _⟩ (fun H locs hC => ?_)
  obtain ⟨g5, hf⟩ := gd_s hf
  refine mg_iald (n := 96) (cA := ca 10) hx hb hC 10 3 (by decide) rfl rfl g5 dX1_tryBerth_14 ?_
  refine lv_topi (fun z6 ez6 => ?_)
  have hf := lq_k ez6 hf
  refine lv_istore (lv' := [(6, .int z6), (0, .ref (ad 9)), (1, .int x1), (2, .int x2), (3, .int x3), (4, .int x4), (5, .int x5)]) hx hb dX1_tryBerth_15 hl (by decide) rfl (fun ls hl => ?_)
  refine lv_iload hx hb dX1_tryBerth_17 (lv_at hl 0 rfl) ?_
  refine lv_if_ne (tgt := 23) hx hb dX1_tryBerth_19 (by decide) (fun h7 => ?_) (fun h7 => ?_)
  · have hf := it_f h7 hf
    refine lv_iload hx hb dX1_tryBerth_23 (lv_at hl 0 rfl) ?_
    obtain ⟨r8, M9, hq, hf⟩ := bd_s hf
    refine mc_Si (As := [.int z6]) ⟨hx, hb, hml, hown, hts⟩ hC (kX1_firstOf l D ad ca B ov N z6 M4 r8 M9 hq) (va_cwS 1 hts gX1_tryBerth_X1_firstOf rfl rfl rfl (by decide +kernel) ⟨by show _ ≤ _; simp only [rmX1_firstOf, rmX1_tryBerth]; omega, by show _ ≤ _; simp only [rmX1_firstOf, rmX1_tryBerth]; omega⟩) rfl hl.1 rfl (Nat.le_of_ble_eq_true rfl) dX1_tryBerth_25 ⟨Nat.zero_le _, Nat.zero_le _⟩ (fun H locs hC => ?_)
    refine lv_istore (lv' := [(7, .int r8), (6, .int z6), (0, .ref (ad 9)), (1, .int x1), (2, .int x2), (3, .int x3), (4, .int x4), (5, .int x5)]) hx hb dX1_tryBerth_28 hl (by decide) rfl (fun ls hl => ?_)
    refine lv_iload hx hb dX1_tryBerth_30 (lv_at hl 0 rfl) ?_
    refine lv_iconst (v := 4) hx hb dX1_tryBerth_32 (by decide) ?_
    refine lv_imul hx hb dX1_tryBerth_33 ?_
    refine lv_iload_n hx hb dX1_tryBerth_34 rfl (lv_at hl 4 rfl) ?_
    refine lv_iadd hx hb dX1_tryBerth_35 ?_
    refine lv_topi (fun z10 ez10 => ?_)
    have hf := lq_k ez10 hf
    refine lv_istore (lv' := [(8, .int z10), (7, .int r8), (6, .int z6), (0, .ref (ad 9)), (1, .int x1), (2, .int x2), (3, .int x3), (4, .int x4), (5, .int x5)]) hx hb dX1_tryBerth_36 hl (by decide) rfl (fun ls hl => ?_)
    refine lv_iload hx hb dX1_tryBerth_38 (lv_at hl 0 rfl) ?_
    refine lv_iload hx hb dX1_tryBerth_40 (lv_at hl 8 rfl) ?_
    refine lv_icmp_gt (tgt := 46) hx hb dX1_tryBerth_42 (by decide) (fun h11 => ?_) (fun h11 => ?_)
    · have hf := it_t h11 hf
      refine lv_aload_n hx hb dX1_tryBerth_46 rfl (lv_at hl 3 rfl) ?_
      refine lv_iload_n hx hb dX1_tryBerth_47 rfl (lv_at hl 4 rfl) ?_
      refine lv_iload_n hx hb dX1_tryBerth_48 rfl (lv_at hl 5 rfl) ?_
      refine lv_iload_n hx hb dX1_tryBerth_49 rfl (lv_at hl 6 rfl) ?_
      refine lv_iload hx hb dX1_tryBerth_50 (lv_at hl 1 rfl) ?_
      obtain ⟨r12, M13, hq, hf⟩ := bd_s hf
      refine mc_Vv (As := [.int x1, .int x2, .int x3, .int r8]) ⟨hx, hb, hml, hown, hts⟩ hC (kX1_lay l D ad ca B ov N x1 x2 x3 r8 M9 r12 M13 hq) (cwV 4 hts gX1_tryBerth_X1_lay rfl rfl rfl (by decide +kernel) ⟨by show _ ≤ _; simp only [rmX1_lay, rmX1_tryBerth]; omega, by show _ ≤ _; simp only [rmX1_lay, rmX1_tryBerth]; omega⟩) (mg_recv (ci := 1) (C := RX1) (T := TX1) (N := 9) hC 9 (by decide) rfl rfl) rfl hl.1 rfl (Nat.le_of_ble_eq_true rfl) dX1_tryBerth_52 ⟨Nat.zero_le _, Nat.zero_le _⟩ (fun H locs hC => ?_)
      refine lv_iload_n hx hb dX1_tryBerth_55 rfl (lv_at hl 4 rfl) ?_
      refine lv_iconst (v := 1) hx hb dX1_tryBerth_56 (by decide) ?_
      refine lv_iload_n hx hb dX1_tryBerth_57 rfl (lv_at hl 5 rfl) ?_
      refine lv_ishl hx hb dX1_tryBerth_58 ?_
      refine lv_iconst (v := (-1)) hx hb dX1_tryBerth_59 (by decide) ?_
      refine lv_ixor hx hb dX1_tryBerth_60 ?_
      refine lv_iand hx hb dX1_tryBerth_61 ?_
      refine lv_topi (fun z14 ez14 => ?_)
      have hf := lq_k ez14 hf
      refine lv_istore (lv' := [(9, .int z14), (8, .int z10), (7, .int r8), (6, .int z6), (0, .ref (ad 9)), (1, .int x1), (2, .int x2), (3, .int x3), (4, .int x4), (5, .int x5)]) hx hb dX1_tryBerth_62 hl (by decide) rfl (fun ls hl => ?_)
      refine lv_iload hx hb dX1_tryBerth_64 (lv_at hl 8 rfl) ?_
      refine lv_aload_n hx hb dX1_tryBerth_66 rfl (lv_at hl 4 rfl) ?_
      obtain ⟨g15, hf⟩ := gp_s hf
      refine mg_get (ci := 1) (C := RX1) (T := TX1) (N := 9) (v := .ref (ad 4)) hx hb hts inX1_tryBerth_X1 hown hC 9 (by decide) rfl rfl 5 (by decide) (hts _ lkX1_tryBerth_f29) rfl (by show some (Value.ref (ad (if M13 9 5 = 0 then 15 else 4))) = _; rw [if_neg g15]) dX1_tryBerth_67 ?_
      refine lv_iload_n hx hb dX1_tryBerth_70 rfl (lv_at hl 6 rfl) ?_
      obtain ⟨g16, hf⟩ := gd_s hf
      refine mg_aald hx hb hC g16 dX1_tryBerth_71 ?_
      refine lv_iload hx hb dX1_tryBerth_72 (lv_at hl 2 rfl) ?_
      obtain ⟨r17, M18, hq, hf⟩ := bd_s hf
      refine mc_Vi (As := [.int r8]) ⟨hx, hb, hml, hown, hts⟩ hC (kX2_latenessIf l D ad ca B ov N (5 + (x2 : Int32).toNatClampNeg) r8 (sh_in g16) M13 r17 M18 hq) (cwV 1 hts gX1_tryBerth_X2_latenessIf rfl rfl rfl (by decide +kernel) ⟨by show _ ≤ _; simp only [rmX2_latenessIf, rmX1_tryBerth]; omega, by show _ ≤ _; simp only [rmX2_latenessIf, rmX1_tryBerth]; omega⟩) (mg_recv (ci := 2) (C := RX2) (T := TX2) (N := 11) hC (5 + (x2 : Int32).toNatClampNeg) (sh_lt (sh_in g16)) (cell_sh (sh_in g16) _) rfl) rfl hl.1 rfl (Nat.le_of_ble_eq_true rfl) dX1_tryBerth_74 ⟨Nat.zero_le _, Nat.zero_le _⟩ (fun H locs hC => ?_)
      refine lv_iadd hx hb dX1_tryBerth_77 ?_
      refine lv_topi (fun z19 ez19 => ?_)
      have hf := lq_k ez19 hf
      refine lv_istore (lv' := [(10, .int z19), (9, .int z14), (8, .int z10), (7, .int r8), (6, .int z6), (0, .ref (ad 9)), (1, .int x1), (2, .int x2), (3, .int x3), (4, .int x4), (5, .int x5)]) hx hb dX1_tryBerth_78 hl (by decide) rfl (fun ls hl => ?_)
      refine lv_iload hx hb dX1_tryBerth_80 (lv_at hl 0 rfl) ?_
      refine lv_aload_n hx hb dX1_tryBerth_82 rfl (lv_at hl 5 rfl) ?_
      refine lv_iload hx hb dX1_tryBerth_83 (lv_at hl 1 rfl) ?_
      obtain ⟨r20, M21, hq, hf⟩ := bd_s hf
      refine mc_Vi (As := [.int z14]) ⟨hx, hb, hml, hown, hts⟩ hC (kX1_leastOf l D ad ca B ov N z14 M18 r20 M21 hq) (cwV 1 hts gX1_tryBerth_X1_leastOf rfl rfl rfl (by decide +kernel) ⟨by show _ ≤ _; simp only [rmX1_leastOf, rmX1_tryBerth]; omega, by show _ ≤ _; simp only [rmX1_leastOf, rmX1_tryBerth]; omega⟩) (mg_recv (ci := 1) (C := RX1) (T := TX1) (N := 9) hC 9 (by decide) rfl rfl) rfl hl.1 rfl (Nat.le_of_ble_eq_true rfl) dX1_tryBerth_85 ⟨Nat.zero_le _, Nat.zero_le _⟩ (fun H locs hC => ?_)
      refine lv_iadd hx hb dX1_tryBerth_88 ?_
      refine lv_aload_n hx hb dX1_tryBerth_89 rfl (lv_at hl 5 rfl) ?_
      refine mg_get (ci := 1) (C := RX1) (T := TX1) (N := 9) (v := .int (M21 9 8)) hx hb hts inX1_tryBerth_X1 hown hC 9 (by decide) rfl rfl 8 (by decide) (hts _ lkX1_tryBerth_f38) rfl rfl dX1_tryBerth_90 ?_
      refine lv_icmp_gt (tgt := 106) hx hb dX1_tryBerth_93 (by decide) (fun h22 => ?_) (fun h22 => ?_)
      · have hf := it_t h22 hf
        exact mr_V hx hb hr hlk hC hf dX1_tryBerth_106
      · have hf := it_f h22 hf
        refine lv_aload_n hx hb dX1_tryBerth_96 rfl (lv_at hl 5 rfl) ?_
        refine lv_iload hx hb dX1_tryBerth_97 (lv_at hl 1 rfl) ?_
        refine lv_iload hx hb dX1_tryBerth_99 (lv_at hl 0 rfl) ?_
        refine lv_iload hx hb dX1_tryBerth_101 (lv_at hl 2 rfl) ?_
        obtain ⟨r23, M24, hq, hf⟩ := bd_s hf
        refine mc_Vv (As := [.int z14, .int z19, .int z10]) ⟨hx, hb, hml, hown, hts⟩ hC (hR z14 z19 z10 M21 r23 M24 hq) (cwV 3 hts gX1_tryBerth_X1_berthRest rfl rfl rfl (by decide +kernel) ⟨by show _ ≤ _; simp only [rmX1_berthRest, rmX1_tryBerth]; omega, by show _ ≤ _; simp only [rmX1_berthRest, rmX1_tryBerth]; omega⟩) (mg_recv (ci := 1) (C := RX1) (T := TX1) (N := 9) hC 9 (by decide) rfl rfl) rfl hl.1 rfl (Nat.le_of_ble_eq_true rfl) dX1_tryBerth_103 ⟨Nat.zero_le _, Nat.zero_le _⟩ (fun H locs hC => ?_)
        exact mr_V hx hb hr hlk hC hf dX1_tryBerth_106
    · have hf := it_f h11 hf
      exact mr_V hx hb hr hlk hC hf dX1_tryBerth_45
  · have hf := it_t h7 hf
    exact mr_V hx hb hr hlk hC hf dX1_tryBerth_22

theorem lkX1_berthRest_f61 : Cond.fieldLink RX1 61 "BerthPlan$Search" "shipCount" "I" ∈ wsX1_berthRest := by decide +kernel
theorem lkX1_berthRest_f69 : Cond.fieldLink RX1 69 "BerthPlan$Search" "places" "I" ∈ wsX1_berthRest := by decide +kernel
theorem lkX1_berthRest_si86 : Cond.initialized RX3 ∈ wsX1_berthRest := by decide +kernel
theorem lkX1_berthRest_ss86 : Cond.static yX3_hasBit ∈ wsX1_berthRest := by decide +kernel
theorem inX1_berthRest_X1 : ∀ w ∈ wsX10, w ∈ wsX1_berthRest := by decide +kernel
def fX1_berthRest_25 (N : Nat) (kR : Int32 → Int32 → Int32 → Mem → Option (Int32 × Mem)) (k13 : Int32 → Int32 → Int32 → Int32 → Mem → Option (Int32 × Mem)) : Nat → Int32 → Int32 → Int32 → Int32 → Int32 → Mem → Option (Int32 × Mem)
  | 0, _, _, _, _, _, _ => none
  | n + 1, x1, x2, x3, x4, x5, M =>
    if ((M 9 7) ≤ x5 : Prop) then (lq (x4 + 1) (fun z2 => k13 x1 x2 x3 z2 M)) else (bd (fX3_hasBit N x1 x4 M) (fun r3 M4 => if (r3 = 0 : Prop) then (lq (x4 + 1) (fun z6 => k13 x1 x2 x3 z6 M4)) else (bd (fX1_tryBerth N kR x1 x4 x5 x2 x3 M4) (fun _ M8 => lq (x5 + 1) (fun z9 => fX1_berthRest_25 N kR k13 n x1 x2 x3 x4 z9 M8)))))
theorem fX1_berthRest_25_s {N n : Nat} {kR : Int32 → Int32 → Int32 → Mem → Option (Int32 × Mem)} {k13 : Int32 → Int32 → Int32 → Int32 → Mem → Option (Int32 × Mem)} {x1 : Int32} {x2 : Int32} {x3 : Int32} {x4 : Int32} {x5 : Int32} {M : Mem} : fX1_berthRest_25 N kR k13 (n + 1) x1 x2 x3 x4 x5 M =
    if ((M 9 7) ≤ x5 : Prop) then (lq (x4 + 1) (fun z2 => k13 x1 x2 x3 z2 M)) else (bd (fX3_hasBit N x1 x4 M) (fun r3 M4 => if (r3 = 0 : Prop) then (lq (x4 + 1) (fun z6 => k13 x1 x2 x3 z6 M4)) else (bd (fX1_tryBerth N kR x1 x4 x5 x2 x3 M4) (fun _ M8 => lq (x5 + 1) (fun z9 => fX1_berthRest_25 N kR k13 n x1 x2 x3 x4 z9 M8))))) := rfl
def fX1_berthRest_13 (N : Nat) (kR : Int32 → Int32 → Int32 → Mem → Option (Int32 × Mem)) : Nat → Int32 → Int32 → Int32 → Int32 → Mem → Option (Int32 × Mem)
  | 0, _, _, _, _, _ => none
  | n + 1, x1, x2, x3, x4, M =>
    if ((M 9 6) ≤ x4 : Prop) then (some (0, M)) else (fX1_berthRest_25 N kR (fX1_berthRest_13 N kR n) N x1 x2 x3 x4 0 M)
theorem fX1_berthRest_13_s {N n : Nat} {kR : Int32 → Int32 → Int32 → Mem → Option (Int32 × Mem)} {x1 : Int32} {x2 : Int32} {x3 : Int32} {x4 : Int32} {M : Mem} : fX1_berthRest_13 N kR (n + 1) x1 x2 x3 x4 M =
    if ((M 9 6) ≤ x4 : Prop) then (some (0, M)) else (fX1_berthRest_25 N kR (fX1_berthRest_13 N kR n) N x1 x2 x3 x4 0 M) := rfl
def fX1_berthRest (N : Nat) (kR : Int32 → Int32 → Int32 → Mem → Option (Int32 × Mem)) (x1 : Int32) (x2 : Int32) (x3 : Int32) (M : Mem) : Option (Int32 × Mem) :=
    if (x1 = 0 : Prop) then (bd (fX1_keepIfAhead N x2 M) (fun _ M3 => some (0, M3))) else (fX1_berthRest_13 N kR N x1 x2 x3 0 M)
set_option maxHeartbeats 4000000 in
set_option maxRecDepth 100000 in
theorem wX1_berthRest_25 {p : Program} {l : Launch} {e : Env} {s : State} {m : MethodId} {args : Array Value} {below : List Frame} {meth : Method} {c : Code} {D : va_G} {ad : Nat → Nat} {ca : Nat → ClassId} {B : Nat} {ov : Int64} {d : Nat} {r0 : Int32} {M0 : Mem} (G : Mx p s m args meth c cX1_berthRest 6 wsX1_berthRest RX1 none) (N : Nat) (kR : Int32 → Int32 → Int32 → Mem → Option (Int32 × Mem)) (hR : ∀ (a0 a1 a2 : Int32) (M : Mem) (r : Int32) (M9 : Mem), kR a0 a1 a2 M = some (r, M9) → MtV l D ad ca B ov yX1_berthRest wsX1_berthRest (rmX1_berthRest d) [.ref (ad 9), .int a0, .int a1, .int a2] M M9) {k13 : Int32 → Int32 → Int32 → Int32 → Mem → Option (Int32 × Mem)}
    (hk13 : ∀ (x1 : Int32) (x2 : Int32) (x3 : Int32) (x4 : Int32) (M : Mem) (H : Heap) (locs : List Loc) (ls : Array Slot), lv_has ls 6 [(0, .ref (ad 9)), (1, .int x1), (2, .int x2), (3, .int x3), (4, .int x4)] → Cu D ad ca B M ov s H locs → k13 x1 x2 x3 x4 M = some (r0, M0) → W p l e (rmX1_berthRest (d + 1)) s m args below meth c H locs 0 0 (MQ below (va_Qv (fun (_ : Unit) => True) (fun _ t => Wp D ad ca B M0 ov t.heap) (Ab B)) args s 0 0 (Ab B)) (F0 m 13 ls [])) : ∀ (n : Nat), ∀ (x1 : Int32) (x2 : Int32) (x3 : Int32) (x4 : Int32) (x5 : Int32) (M : Mem) (H : Heap) (locs : List Loc) (ls : Array Slot), lv_has ls 6 [(0, .ref (ad 9)), (1, .int x1), (2, .int x2), (3, .int x3), (4, .int x4), (5, .int x5)] → Cu D ad ca B M ov s H locs → (fX1_berthRest_25 N kR k13 n) x1 x2 x3 x4 x5 M = some (r0, M0) → W p l e (rmX1_berthRest (d + 1)) s m args below meth c H locs 0 0 (MQ below (va_Qv (fun (_ : Unit) => True) (fun _ t => Wp D ad ca B M0 ov t.heap) (Ab B)) args s 0 0 (Ab B)) (F0 m 25 ls []) := by
  obtain ⟨hx, hb, hml, hown, hts, hr, hlk⟩ := id G
  intro n
  induction n with
  | zero =>
    intro x1 x2 x3 x4 x5 M H locs ls hl hC hf
    cases hf
  | succ n ih =>
    intro x1 x2 x3 x4 x5 M H locs ls hl hC hf
    have hf := (fX1_berthRest_25_s).symm.trans hf
    refine lv_iload hx hb dX1_berthRest_25 (lv_at hl 5 rfl) ?_
    refine lv_aload_n hx hb dX1_berthRest_27 rfl (lv_at hl 0 rfl) ?_
    refine mg_get (ci := 1) (C := RX1) (T := TX1) (N := 9) (v := .int (M 9 7)) hx hb hts inX1_berthRest_X1 hown hC 9 (by decide) rfl rfl 7 (by decide) (hts _ lkX1_berthRest_f69) rfl rfl dX1_berthRest_28 ?_
    refine lv_icmp_ge (tgt := 60) hx hb dX1_berthRest_31 (by decide) (fun h1 => ?_) (fun h1 => ?_)
    · have hf := it_t h1 hf
      obtain ⟨z2, ez2⟩ : ∃ y : Int32, y = x4 + 1 := ⟨_, rfl⟩
      have hf := lq_k ez2 hf
      refine lv_iinc (v := z2) (lv' := [(4, .int z2), (0, .ref (ad 9)), (1, .int x1), (2, .int x2), (3, .int x3), (5, .int x5)]) hx hb dX1_berthRest_60 hl (k := 4) rfl (by rw [ez2]; rfl) (by decide) rfl (fun ls hl => ?_)
      refine lv_goto (tgt := 13) hx hb dX1_berthRest_63 (by decide) ?_
      exact hk13 x1 x2 x3 z2 M _ _ _ (lv_sub hl [1, 2, 3, 4, 0] rfl) hC hf
    · have hf := it_f h1 hf
      refine lv_iload_n hx hb dX1_berthRest_34 rfl (lv_at hl 1 rfl) ?_
      refine lv_iload hx hb dX1_berthRest_35 (lv_at hl 4 rfl) ?_
      obtain ⟨r3, M4, hq, hf⟩ := bd_s hf
      refine mc_Ni (As := [.int x1, .int x4]) ⟨hx, hb, hml, hown, hts⟩ hC (kX3_hasBit l D ad ca B ov N x1 x4 M r3 M4 hq) ⟨va_cnB 2 hts gX1_berthRest_X3_hasBit_n86 rfl rfl rfl hC.2.2.1.2.2.1 (hts _ lkX1_berthRest_si86) (by decide +kernel) ⟨by show _ ≤ _; simp only [rmX3_hasBit, rmX1_berthRest]; omega, by show _ ≤ _; simp only [rmX3_hasBit, rmX1_berthRest]; omega⟩, hts _ lkX1_berthRest_ss86, trivial⟩ rfl hl.1 rfl (Nat.le_of_ble_eq_true rfl) dX1_berthRest_37 ⟨Nat.zero_le _, Nat.zero_le _⟩ (fun H locs hC => ?_)
      refine lv_if_eq (tgt := 60) hx hb dX1_berthRest_40 (by decide) (fun h5 => ?_) (fun h5 => ?_)
      · have hf := it_t h5 hf
        obtain ⟨z6, ez6⟩ : ∃ y : Int32, y = x4 + 1 := ⟨_, rfl⟩
        have hf := lq_k ez6 hf
        refine lv_iinc (v := z6) (lv' := [(4, .int z6), (0, .ref (ad 9)), (1, .int x1), (2, .int x2), (3, .int x3), (5, .int x5)]) hx hb dX1_berthRest_60 hl (k := 4) rfl (by rw [ez6]; rfl) (by decide) rfl (fun ls hl => ?_)
        refine lv_goto (tgt := 13) hx hb dX1_berthRest_63 (by decide) ?_
        exact hk13 x1 x2 x3 z6 M4 _ _ _ (lv_sub hl [1, 2, 3, 4, 0] rfl) hC hf
      · have hf := it_f h5 hf
        refine lv_aload_n hx hb dX1_berthRest_43 rfl (lv_at hl 0 rfl) ?_
        refine lv_iload_n hx hb dX1_berthRest_44 rfl (lv_at hl 1 rfl) ?_
        refine lv_iload hx hb dX1_berthRest_45 (lv_at hl 4 rfl) ?_
        refine lv_iload hx hb dX1_berthRest_47 (lv_at hl 5 rfl) ?_
        refine lv_iload_n hx hb dX1_berthRest_49 rfl (lv_at hl 2 rfl) ?_
        refine lv_iload_n hx hb dX1_berthRest_50 rfl (lv_at hl 3 rfl) ?_
        obtain ⟨r7, M8, hq, hf⟩ := bd_s hf
        refine mc_Vv (As := [.int x1, .int x4, .int x5, .int x2, .int x3]) ⟨hx, hb, hml, hown, hts⟩ hC (kX1_tryBerth l D ad ca B ov d N kR hR x1 x4 x5 x2 x3 M4 r7 M8 hq) (cwV 5 hts gX1_berthRest_X1_tryBerth rfl rfl rfl (by decide +kernel) ⟨by show _ ≤ _; simp only [rmX1_tryBerth, rmX1_berthRest]; omega, by show _ ≤ _; simp only [rmX1_tryBerth, rmX1_berthRest]; omega⟩) (mg_recv (ci := 1) (C := RX1) (T := TX1) (N := 9) hC 9 (by decide) rfl rfl) rfl hl.1 rfl (Nat.le_of_ble_eq_true rfl) dX1_berthRest_51 ⟨Nat.zero_le _, Nat.zero_le _⟩ (fun H locs hC => ?_)
        obtain ⟨z9, ez9⟩ : ∃ y : Int32, y = x5 + 1 := ⟨_, rfl⟩
        have hf := lq_k ez9 hf
        refine lv_iinc (v := z9) (lv' := [(5, .int z9), (0, .ref (ad 9)), (1, .int x1), (2, .int x2), (3, .int x3), (4, .int x4)]) hx hb dX1_berthRest_54 hl (k := 5) rfl (by rw [ez9]; rfl) (by decide) rfl (fun ls hl => ?_)
        refine lv_goto (tgt := 25) hx hb dX1_berthRest_57 (by decide) ?_
        exact ih x1 x2 x3 x4 z9 M8 _ _ _ (lv_sub hl [1, 2, 3, 4, 5, 0] rfl) hC hf
set_option maxHeartbeats 4000000 in
set_option maxRecDepth 100000 in
theorem wX1_berthRest_13 {p : Program} {l : Launch} {e : Env} {s : State} {m : MethodId} {args : Array Value} {below : List Frame} {meth : Method} {c : Code} {D : va_G} {ad : Nat → Nat} {ca : Nat → ClassId} {B : Nat} {ov : Int64} {d : Nat} {r0 : Int32} {M0 : Mem} (G : Mx p s m args meth c cX1_berthRest 6 wsX1_berthRest RX1 none) (N : Nat) (kR : Int32 → Int32 → Int32 → Mem → Option (Int32 × Mem)) (hR : ∀ (a0 a1 a2 : Int32) (M : Mem) (r : Int32) (M9 : Mem), kR a0 a1 a2 M = some (r, M9) → MtV l D ad ca B ov yX1_berthRest wsX1_berthRest (rmX1_berthRest d) [.ref (ad 9), .int a0, .int a1, .int a2] M M9) : ∀ (n : Nat), ∀ (x1 : Int32) (x2 : Int32) (x3 : Int32) (x4 : Int32) (M : Mem) (H : Heap) (locs : List Loc) (ls : Array Slot), lv_has ls 6 [(0, .ref (ad 9)), (1, .int x1), (2, .int x2), (3, .int x3), (4, .int x4)] → Cu D ad ca B M ov s H locs → (fX1_berthRest_13 N kR n) x1 x2 x3 x4 M = some (r0, M0) → W p l e (rmX1_berthRest (d + 1)) s m args below meth c H locs 0 0 (MQ below (va_Qv (fun (_ : Unit) => True) (fun _ t => Wp D ad ca B M0 ov t.heap) (Ab B)) args s 0 0 (Ab B)) (F0 m 13 ls []) := by
  obtain ⟨hx, hb, hml, hown, hts, hr, hlk⟩ := id G
  intro n
  induction n with
  | zero =>
    intro x1 x2 x3 x4 M H locs ls hl hC hf
    cases hf
  | succ n ih =>
    intro x1 x2 x3 x4 M H locs ls hl hC hf
    have hf := (fX1_berthRest_13_s).symm.trans hf
    refine lv_iload hx hb dX1_berthRest_13 (lv_at hl 4 rfl) ?_
    refine lv_aload_n hx hb dX1_berthRest_15 rfl (lv_at hl 0 rfl) ?_
    refine mg_get (ci := 1) (C := RX1) (T := TX1) (N := 9) (v := .int (M 9 6)) hx hb hts inX1_berthRest_X1 hown hC 9 (by decide) rfl rfl 6 (by decide) (hts _ lkX1_berthRest_f61) rfl rfl dX1_berthRest_16 ?_
    refine lv_icmp_ge (tgt := 66) hx hb dX1_berthRest_19 (by decide) (fun h1 => ?_) (fun h1 => ?_)
    · have hf := it_t h1 hf
      exact mr_V hx hb hr hlk hC hf dX1_berthRest_66
    · have hf := it_f h1 hf
      refine lv_iconst (v := 0) hx hb dX1_berthRest_22 (by decide) ?_
      refine lv_istore (lv' := [(5, .int 0), (0, .ref (ad 9)), (1, .int x1), (2, .int x2), (3, .int x3), (4, .int x4)]) hx hb dX1_berthRest_23 hl (by decide) rfl (fun ls hl => ?_)
      exact wX1_berthRest_25 G N kR hR ih N x1 x2 x3 x4 0 M _ _ _ (lv_sub hl [1, 2, 3, 4, 5, 0] rfl) hC hf
set_option maxHeartbeats 4000000 in
set_option maxRecDepth 100000 in
theorem kX1_berthRest (l : Launch) (D : va_G) (ad : Nat → Nat) (ca : Nat → ClassId) (B : Nat) (ov : Int64) (d : Nat) (N : Nat) (kR : Int32 → Int32 → Int32 → Mem → Option (Int32 × Mem)) (hR : ∀ (a0 a1 a2 : Int32) (M : Mem) (r : Int32) (M9 : Mem), kR a0 a1 a2 M = some (r, M9) → MtV l D ad ca B ov yX1_berthRest wsX1_berthRest (rmX1_berthRest d) [.ref (ad 9), .int a0, .int a1, .int a2] M M9) (x1 : Int32) (x2 : Int32) (x3 : Int32) (M : Mem) (r0 : Int32) (M0 : Mem) (hf : fX1_berthRest N kR x1 x2 x3 M = some (r0, M0)) : MtV l D ad ca B ov yX1_berthRest wsX1_berthRest (rmX1_berthRest (d + 1)) [.ref (ad 9), .int x1, .int x2, .int x3] M M0 := by
  unfold fX1_berthRest at hf
  refine Met.ofW (cc := cX1_berthRest) (maxL := 6) (ret := none) (by decide) rfl ?_
  intro p e s m args below meth c s₁ Bd hml hv
  obtain ⟨rfl, hw⟩ := hv
  have G : Mx p s m ([.ref (ad 9), .int x1, .int x2, .int x3] : List Value).toArray meth c cX1_berthRest 6 wsX1_berthRest RX1 none := ⟨Bd.exec, Bd.bytes, hml, findClass_of_methodNamed Bd.named, atoms_spec (ws := wsX1_berthRest) Bd.pre, Bd.returns, Bd.notSynchronized⟩
  have hC := Cu.of hw
  have hl := lv_entry ([.ref (ad 9), .int x1, .int x2, .int x3]) (n := 6) (Nat.le_of_ble_eq_true rfl)
  rw [lg_entry_eq]
  generalize (lg_sl ([.ref (ad 9), .int x1, .int x2, .int x3]) ++ List.replicate (6 - (lg_sl ([.ref (ad 9), .int x1, .int x2, .int x3])).length) Slot.unset).toArray = ls at hl ⊢
  have hl : lv_has ls 6 [(0, .ref (ad 9)), (1, .int x1), (2, .int x2), (3, .int x3)] := hl
  obtain ⟨hx, hb, hml, hown, hts, hr, hlk⟩ := id G
  show W p l e (rmX1_berthRest (d + 1)) s m _ below meth c s.heap [] 0 0 (MQ below (va_Qv (fun (_ : Unit) => True) (fun _ t => Wp D ad ca B M0 ov t.heap) (Ab B)) _ s 0 0 (Ab B)) (F0 m 0 ls [])
  refine lv_iload_n hx hb dX1_berthRest_0 rfl (lv_at hl 1 rfl) ?_
  refine lv_if_ne (tgt := 10) hx hb dX1_berthRest_1 (by decide) (fun h1 => ?_) (fun h1 => ?_)
  · have hf := it_f h1 hf
    refine lv_iconst (v := 0) hx hb dX1_berthRest_10 (by decide) ?_
    refine lv_istore (lv' := [(4, .int 0), (0, .ref (ad 9)), (1, .int x1), (2, .int x2), (3, .int x3)]) hx hb dX1_berthRest_11 hl (by decide) rfl (fun ls hl => ?_)
    exact wX1_berthRest_13 G N kR hR N x1 x2 x3 0 M _ _ _ (lv_sub hl [1, 2, 3, 4, 0] rfl) hC hf
  · have hf := it_t h1 hf
    refine lv_aload_n hx hb dX1_berthRest_4 rfl (lv_at hl 0 rfl) ?_
    refine lv_iload_n hx hb dX1_berthRest_5 rfl (lv_at hl 2 rfl) ?_
    obtain ⟨r2, M3, hq, hf⟩ := bd_s hf
    refine mc_Vv (As := [.int x2]) ⟨hx, hb, hml, hown, hts⟩ hC (kX1_keepIfAhead l D ad ca B ov N x2 M r2 M3 hq) (cwV 1 hts gX1_berthRest_X1_keepIfAhead rfl rfl rfl (by decide +kernel) ⟨by show _ ≤ _; simp only [rmX1_keepIfAhead, rmX1_berthRest]; omega, by show _ ≤ _; simp only [rmX1_keepIfAhead, rmX1_berthRest]; omega⟩) (mg_recv (ci := 1) (C := RX1) (T := TX1) (N := 9) hC 9 (by decide) rfl rfl) rfl hl.1 rfl (Nat.le_of_ble_eq_true rfl) dX1_berthRest_6 ⟨Nat.zero_le _, Nat.zero_le _⟩ (fun H locs hC => ?_)
    exact mr_V hx hb hr hlk hC hf dX1_berthRest_9

def fX1_berthRestD (N : Nat) : Nat → Int32 → Int32 → Int32 → Mem → Option (Int32 × Mem)
  | 0, _, _, _, _ => none
  | d + 1, a, b, c, M => fX1_berthRest N (fX1_berthRestD N d) a b c M
theorem kX1_berthRestD (l : Launch) (D : va_G) (ad : Nat → Nat) (ca : Nat → ClassId) (B : Nat) (ov : Int64) (N : Nat) : ∀ (d : Nat) (a b c : Int32) (M : Mem) (r : Int32) (M9 : Mem), fX1_berthRestD N d a b c M = some (r, M9) → MtV l D ad ca B ov yX1_berthRest wsX1_berthRest (rmX1_berthRest d) [.ref (ad 9), .int a, .int b, .int c] M M9 := by
  intro d
  induction d with
  | zero => intro a b c M r M9 h; cases h
  | succ d ih => intro a b c M r M9 h; exact kX1_berthRest l D ad ca B ov d N (fX1_berthRestD N d) ih a b c M r M9 h

theorem lkX1_finds_c37 : Cond.constant RX1 37 (100000) ∈ wsX1_finds := by decide +kernel
theorem lkX1_finds_c50 : Cond.constant RX1 50 (1000000) ∈ wsX1_finds := by decide +kernel
theorem lkX1_finds_f38 : Cond.fieldLink RX1 38 "BerthPlan$Search" "best" "I" ∈ wsX1_finds := by decide +kernel
theorem inX1_finds_X1 : ∀ w ∈ wsX10, w ∈ wsX1_finds := by decide +kernel
abbrev rmX1_finds : Room := { frames := 19, cells := 0, slots := 0, locals := 725 }
def fX1_finds_36 (N : Nat) (M : Mem) : Option (Int32 × Mem) :=
    if (100000 ≤ (M 9 8) : Prop) then (some (0, M)) else (some (1, M))
def fX1_finds (N : Nat) (x3 : Int32) (M : Mem) : Option (Int32 × Mem) :=
    bd (fX1_openAll N x3 M) (fun _ M2 => lq (mw M2 9 8 100000) (fun M3 => bd (fX1_everyShip N M3) (fun r4 M5 => bd (fX1_leastOf N r4 M5) (fun r6 M7 => if (1000000 ≤ r6 : Prop) then (fX1_finds_36 N  M7) else (bd (fX1_everyShip N M7) (fun r9 M10 => bd (fX1_berthRestD N 5 r9 0 (-1) M10) (fun _ M12 => fX1_finds_36 N  M12)))))))
set_option maxHeartbeats 4000000 in
set_option maxRecDepth 100000 in
theorem wX1_finds_36 {p : Program} {l : Launch} {e : Env} {s : State} {m : MethodId} {args : Array Value} {below : List Frame} {meth : Method} {c : Code} {D : va_G} {ad : Nat → Nat} {ca : Nat → ClassId} {B : Nat} {ov : Int64} {r0 : Int32} {M0 : Mem} (G : Mx p s m args meth c cX1_finds 4 wsX1_finds RX1 (some .boolean)) (N : Nat) : ∀ (M : Mem) (H : Heap) (locs : List Loc) (ls : Array Slot), lv_has ls 4 [(0, .ref (ad 9))] → Cu D ad ca B M ov s H locs → (fX1_finds_36 N) M = some (r0, M0) → W p l e (rmX1_finds) s m args below meth c H locs 0 0 (MQ below (va_Qi (fun (r : Int32) (_ : Unit) => r = r0) (fun _ t => Wp D ad ca B M0 ov t.heap) (Ab B)) args s 0 0 (Ab B)) (F0 m 36 ls []) := by
  obtain ⟨hx, hb, hml, hown, hts, hr, hlk⟩ := id G
  intro M H locs ls hl hC hf
  unfold fX1_finds_36 at hf
  refine lv_aload_n hx hb dX1_finds_36 rfl (lv_at hl 0 rfl) ?_
  refine mg_get (ci := 1) (C := RX1) (T := TX1) (N := 9) (v := .int (M 9 8)) hx hb hts inX1_finds_X1 hown hC 9 (by decide) rfl rfl 8 (by decide) (hts _ lkX1_finds_f38) rfl rfl dX1_finds_37 ?_
  refine lv_ldc (v := 100000) hx hb hown (hts _ lkX1_finds_c37) dX1_finds_40 ?_
  refine lv_icmp_ge (tgt := 49) hx hb dX1_finds_42 (by decide) (fun h1 => ?_) (fun h1 => ?_)
  · have hf := it_t h1 hf
    refine lv_iconst (v := 0) hx hb dX1_finds_49 (by decide) ?_
    exact mr_Z hx hb hr hlk hC (by decide) hf dX1_finds_50
  · have hf := it_f h1 hf
    refine lv_iconst (v := 1) hx hb dX1_finds_45 (by decide) ?_
    refine lv_goto (tgt := 50) hx hb dX1_finds_46 (by decide) ?_
    exact mr_Z hx hb hr hlk hC (by decide) hf dX1_finds_50
set_option maxHeartbeats 4000000 in
set_option maxRecDepth 100000 in
theorem kX1_finds (l : Launch) (D : va_G) (ad : Nat → Nat) (ca : Nat → ClassId) (B : Nat) (ov : Int64) (N : Nat) (x3 : Int32) (M : Mem) (r0 : Int32) (M0 : Mem) (hf : fX1_finds N x3 M = some (r0, M0)) : MtI l D ad ca B ov yX1_finds wsX1_finds (rmX1_finds) [.ref (ad 9), .ref (ad 1), .ref (ad 4), .int x3] M r0 M0 := by
  unfold fX1_finds at hf
  refine Met.ofW (cc := cX1_finds) (maxL := 4) (ret := (some .boolean)) (by decide) rfl ?_
  intro p e s m args below meth c s₁ Bd hml hv
  obtain ⟨rfl, hw⟩ := hv
  have G : Mx p s m ([.ref (ad 9), .ref (ad 1), .ref (ad 4), .int x3] : List Value).toArray meth c cX1_finds 4 wsX1_finds RX1 (some .boolean) := ⟨Bd.exec, Bd.bytes, hml, findClass_of_methodNamed Bd.named, atoms_spec (ws := wsX1_finds) Bd.pre, Bd.returns, Bd.notSynchronized⟩
  have hC := Cu.of hw
  have hl := lv_entry ([.ref (ad 9), .ref (ad 1), .ref (ad 4), .int x3]) (n := 4) (Nat.le_of_ble_eq_true rfl)
  rw [lg_entry_eq]
  generalize (lg_sl ([.ref (ad 9), .ref (ad 1), .ref (ad 4), .int x3]) ++ List.replicate (4 - (lg_sl ([.ref (ad 9), .ref (ad 1), .ref (ad 4), .int x3])).length) Slot.unset).toArray = ls at hl ⊢
  have hl : lv_has ls 4 [(0, .ref (ad 9)), (1, .ref (ad 1)), (2, .ref (ad 4)), (3, .int x3)] := hl
  obtain ⟨hx, hb, hml, hown, hts, hr, hlk⟩ := id G
  show W p l e (rmX1_finds) s m _ below meth c s.heap [] 0 0 (MQ below (va_Qi (fun (r : Int32) (_ : Unit) => r = r0) (fun _ t => Wp D ad ca B M0 ov t.heap) (Ab B)) _ s 0 0 (Ab B)) (F0 m 0 ls [])
  refine lv_aload_n hx hb dX1_finds_0 rfl (lv_at hl 0 rfl) ?_
  refine lv_aload_n hx hb dX1_finds_1 rfl (lv_at hl 1 rfl) ?_
  refine lv_aload_n hx hb dX1_finds_2 rfl (lv_at hl 2 rfl) ?_
  refine lv_iload_n hx hb dX1_finds_3 rfl (lv_at hl 3 rfl) ?_
  obtain ⟨r1, M2, hq, hf⟩ := bd_s hf
  refine mc_Vv (As := [.ref (ad 1), .ref (ad 4), .int x3]) ⟨hx, hb, hml, hown, hts⟩ hC (kX1_openAll l D ad ca B ov N x3 M r1 M2 hq) (cwV 3 hts gX1_finds_X1_openAll rfl rfl rfl (by decide +kernel) ⟨Nat.le_of_ble_eq_true rfl, Nat.le_of_ble_eq_true rfl⟩) (mg_recv (ci := 1) (C := RX1) (T := TX1) (N := 9) hC 9 (by decide) rfl rfl) rfl hl.1 rfl (Nat.le_of_ble_eq_true rfl) dX1_finds_4 ⟨Nat.zero_le _, Nat.zero_le _⟩ (fun H locs hC => ?_)
  refine lv_aload_n hx hb dX1_finds_7 rfl (lv_at hl 0 rfl) ?_
  refine lv_ldc (v := 100000) hx hb hown (hts _ lkX1_finds_c37) dX1_finds_8 ?_
  refine mg_put (ci := 1) (C := RX1) (T := TX1) (N := 9) (ty := .int) (v := .int 100000) (x := 100000) hx hb hts inX1_finds_X1 tyX1 tyX1_ok nmX1 hown hC 9 (by decide) rfl rfl 8 (by decide) (hts _ lkX1_finds_f38) rfl rfl (by decide +kernel) rfl rfl (Nat.le_of_ble_eq_true rfl) rfl dX1_finds_10 (fun H locs hC => ?_)
  obtain ⟨M3, eM3⟩ : ∃ z : Mem, z = mw M2 9 8 100000 := ⟨_, rfl⟩
  rw [← eM3] at hC
  have hf := lq_k eM3 hf
  refine lv_aload_n hx hb dX1_finds_13 rfl (lv_at hl 0 rfl) ?_
  refine lv_aload_n hx hb dX1_finds_14 rfl (lv_at hl 0 rfl) ?_
  obtain ⟨r4, M5, hq, hf⟩ := bd_s hf
  refine mc_Vi (As := []) ⟨hx, hb, hml, hown, hts⟩ hC (kX1_everyShip l D ad ca B ov N M3 r4 M5 hq) (cwV 0 hts gX1_finds_X1_everyShip rfl rfl rfl (by decide +kernel) ⟨Nat.le_of_ble_eq_true rfl, Nat.le_of_ble_eq_true rfl⟩) (mg_recv (ci := 1) (C := RX1) (T := TX1) (N := 9) hC 9 (by decide) rfl rfl) rfl hl.1 rfl (Nat.le_of_ble_eq_true rfl) dX1_finds_15 ⟨Nat.zero_le _, Nat.zero_le _⟩ (fun H locs hC => ?_)
  obtain ⟨r6, M7, hq, hf⟩ := bd_s hf
  refine mc_Vi (As := [.int r4]) ⟨hx, hb, hml, hown, hts⟩ hC (kX1_leastOf l D ad ca B ov N r4 M5 r6 M7 hq) (cwV 1 hts gX1_finds_X1_leastOf rfl rfl rfl (by decide +kernel) ⟨Nat.le_of_ble_eq_true rfl, Nat.le_of_ble_eq_true rfl⟩) (mg_recv (ci := 1) (C := RX1) (T := TX1) (N := 9) hC 9 (by decide) rfl rfl) rfl hl.1 rfl (Nat.le_of_ble_eq_true rfl) dX1_finds_18 ⟨Nat.zero_le _, Nat.zero_le _⟩ (fun H locs hC => ?_)
  refine lv_ldc (v := 1000000) hx hb hown (hts _ lkX1_finds_c50) dX1_finds_21 ?_
  refine lv_icmp_ge (tgt := 36) hx hb dX1_finds_23 (by decide) (fun h8 => ?_) (fun h8 => ?_)
  · have hf := it_t h8 hf
    exact wX1_finds_36 G N M7 _ _ _ (lv_sub hl [0] rfl) hC hf
  · have hf := it_f h8 hf
    refine lv_aload_n hx hb dX1_finds_26 rfl (lv_at hl 0 rfl) ?_
    refine lv_aload_n hx hb dX1_finds_27 rfl (lv_at hl 0 rfl) ?_
    obtain ⟨r9, M10, hq, hf⟩ := bd_s hf
    refine mc_Vi (As := []) ⟨hx, hb, hml, hown, hts⟩ hC (kX1_everyShip l D ad ca B ov N M7 r9 M10 hq) (cwV 0 hts gX1_finds_X1_everyShip rfl rfl rfl (by decide +kernel) ⟨Nat.le_of_ble_eq_true rfl, Nat.le_of_ble_eq_true rfl⟩) (mg_recv (ci := 1) (C := RX1) (T := TX1) (N := 9) hC 9 (by decide) rfl rfl) rfl hl.1 rfl (Nat.le_of_ble_eq_true rfl) dX1_finds_28 ⟨Nat.zero_le _, Nat.zero_le _⟩ (fun H locs hC => ?_)
    refine lv_iconst (v := 0) hx hb dX1_finds_31 (by decide) ?_
    refine lv_iconst (v := (-1)) hx hb dX1_finds_32 (by decide) ?_
    obtain ⟨r11, M12, hq, hf⟩ := bd_s hf
    refine mc_Vv (As := [.int r9, .int 0, .int (-1)]) ⟨hx, hb, hml, hown, hts⟩ hC (kX1_berthRestD l D ad ca B ov N 5 r9 0 (-1) M10 r11 M12 hq) (cwV 3 hts gX1_finds_X1_berthRest rfl rfl rfl (by decide +kernel) ⟨Nat.le_of_ble_eq_true rfl, Nat.le_of_ble_eq_true rfl⟩) (mg_recv (ci := 1) (C := RX1) (T := TX1) (N := 9) hC 9 (by decide) rfl rfl) rfl hl.1 rfl (Nat.le_of_ble_eq_true rfl) dX1_finds_33 ⟨Nat.zero_le _, Nat.zero_le _⟩ (fun H locs hC => ?_)
    exact wX1_finds_36 G N M12 _ _ _ (lv_sub hl [0] rfl) hC hf

abbrev rmX1_leastAlone : Room := { frames := 4, cells := 0, slots := 0, locals := 95 }
def fX1_leastAlone (N : Nat) (x3 : Int32) (M : Mem) : Option (Int32 × Mem) :=
    bd (fX1_openAll N x3 M) (fun _ M2 => bd (fX1_everyShip N M2) (fun r3 M4 => bd (fX1_leastOf N r3 M4) (fun r5 M6 => some (r5, M6))))
set_option maxHeartbeats 4000000 in
set_option maxRecDepth 100000 in
theorem kX1_leastAlone (l : Launch) (D : va_G) (ad : Nat → Nat) (ca : Nat → ClassId) (B : Nat) (ov : Int64) (N : Nat) (x3 : Int32) (M : Mem) (r0 : Int32) (M0 : Mem) (hf : fX1_leastAlone N x3 M = some (r0, M0)) : MtI l D ad ca B ov yX1_leastAlone wsX1_leastAlone (rmX1_leastAlone) [.ref (ad 9), .ref (ad 1), .ref (ad 4), .int x3] M r0 M0 := by
  unfold fX1_leastAlone at hf
  refine Met.ofW (cc := cX1_leastAlone) (maxL := 4) (ret := (some .int)) (by decide) rfl ?_
  intro p e s m args below meth c s₁ Bd hml hv
  obtain ⟨rfl, hw⟩ := hv
  have G : Mx p s m ([.ref (ad 9), .ref (ad 1), .ref (ad 4), .int x3] : List Value).toArray meth c cX1_leastAlone 4 wsX1_leastAlone RX1 (some .int) := ⟨Bd.exec, Bd.bytes, hml, findClass_of_methodNamed Bd.named, atoms_spec (ws := wsX1_leastAlone) Bd.pre, Bd.returns, Bd.notSynchronized⟩
  have hC := Cu.of hw
  have hl := lv_entry ([.ref (ad 9), .ref (ad 1), .ref (ad 4), .int x3]) (n := 4) (Nat.le_of_ble_eq_true rfl)
  rw [lg_entry_eq]
  generalize (lg_sl ([.ref (ad 9), .ref (ad 1), .ref (ad 4), .int x3]) ++ List.replicate (4 - (lg_sl ([.ref (ad 9), .ref (ad 1), .ref (ad 4), .int x3])).length) Slot.unset).toArray = ls at hl ⊢
  have hl : lv_has ls 4 [(0, .ref (ad 9)), (1, .ref (ad 1)), (2, .ref (ad 4)), (3, .int x3)] := hl
  obtain ⟨hx, hb, hml, hown, hts, hr, hlk⟩ := id G
  show W p l e (rmX1_leastAlone) s m _ below meth c s.heap [] 0 0 (MQ below (va_Qi (fun (r : Int32) (_ : Unit) => r = r0) (fun _ t => Wp D ad ca B M0 ov t.heap) (Ab B)) _ s 0 0 (Ab B)) (F0 m 0 ls [])
  refine lv_aload_n hx hb dX1_leastAlone_0 rfl (lv_at hl 0 rfl) ?_
  refine lv_aload_n hx hb dX1_leastAlone_1 rfl (lv_at hl 1 rfl) ?_
  refine lv_aload_n hx hb dX1_leastAlone_2 rfl (lv_at hl 2 rfl) ?_
  refine lv_iload_n hx hb dX1_leastAlone_3 rfl (lv_at hl 3 rfl) ?_
  obtain ⟨r1, M2, hq, hf⟩ := bd_s hf
  refine mc_Vv (As := [.ref (ad 1), .ref (ad 4), .int x3]) ⟨hx, hb, hml, hown, hts⟩ hC (kX1_openAll l D ad ca B ov N x3 M r1 M2 hq) (cwV 3 hts gX1_leastAlone_X1_openAll rfl rfl rfl (by decide +kernel) ⟨Nat.le_of_ble_eq_true rfl, Nat.le_of_ble_eq_true rfl⟩) (mg_recv (ci := 1) (C := RX1) (T := TX1) (N := 9) hC 9 (by decide) rfl rfl) rfl hl.1 rfl (Nat.le_of_ble_eq_true rfl) dX1_leastAlone_4 ⟨Nat.zero_le _, Nat.zero_le _⟩ (fun H locs hC => ?_)
  refine lv_aload_n hx hb dX1_leastAlone_7 rfl (lv_at hl 0 rfl) ?_
  refine lv_aload_n hx hb dX1_leastAlone_8 rfl (lv_at hl 0 rfl) ?_
  obtain ⟨r3, M4, hq, hf⟩ := bd_s hf
  refine mc_Vi (As := []) ⟨hx, hb, hml, hown, hts⟩ hC (kX1_everyShip l D ad ca B ov N M2 r3 M4 hq) (cwV 0 hts gX1_leastAlone_X1_everyShip rfl rfl rfl (by decide +kernel) ⟨Nat.le_of_ble_eq_true rfl, Nat.le_of_ble_eq_true rfl⟩) (mg_recv (ci := 1) (C := RX1) (T := TX1) (N := 9) hC 9 (by decide) rfl rfl) rfl hl.1 rfl (Nat.le_of_ble_eq_true rfl) dX1_leastAlone_9 ⟨Nat.zero_le _, Nat.zero_le _⟩ (fun H locs hC => ?_)
  obtain ⟨r5, M6, hq, hf⟩ := bd_s hf
  refine mc_Vi (As := [.int r3]) ⟨hx, hb, hml, hown, hts⟩ hC (kX1_leastOf l D ad ca B ov N r3 M4 r5 M6 hq) (cwV 1 hts gX1_leastAlone_X1_leastOf rfl rfl rfl (by decide +kernel) ⟨Nat.le_of_ble_eq_true rfl, Nat.le_of_ble_eq_true rfl⟩) (mg_recv (ci := 1) (C := RX1) (T := TX1) (N := 9) hC 9 (by decide) rfl rfl) rfl hl.1 rfl (Nat.le_of_ble_eq_true rfl) dX1_leastAlone_12 ⟨Nat.zero_le _, Nat.zero_le _⟩ (fun H locs hC => ?_)
  exact mr_I hx hb hr hlk hC hf dX1_leastAlone_15
