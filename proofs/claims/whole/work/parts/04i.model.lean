def wpX7_unlikeOf (uR : RSt) (x1 : Int32) (x2 : Int32) (Q : Int32 → Prop) : Prop :=
  ∀ (X5 : Int32 → Int32 → Prop) (X17 : Int32 → Int32 → Int32 → Int32 → Prop) (X54 : Int32 → Int32 → Int32 → Prop) (X65 : Int32 → Int32 → Int32 → Prop),
  (∀ (y3 : Int32) (y4 : Int32),
    ((x2 < y4 →
      Q y3) ∧
    (¬ (x2 < y4) →
      X17 y3 y4 1 x1)) → X5 y3 y4) →
  (∀ (y3 : Int32) (y4 : Int32) (y5 : Int32) (y6 : Int32),
    ((y4 ≤ y6 →
      X54 y3 y4 y5) ∧
    (¬ (y4 ≤ y6) →
      (y5 = 0 →
        X54 y3 y4 y5) ∧
      (¬ (y5 = 0) →
        wpX7_alikeAt uR y4 y6 (fun r4 =>
          (x1 ≤ r4 →
            X17 y3 y4 0 (y6 + 1)) ∧
          (¬ (x1 ≤ r4) →
            X17 y3 y4 1 (y6 + 1)))))) → X17 y3 y4 y5 y6) →
  (∀ (y3 : Int32) (y4 : Int32) (y5 : Int32),
    ((y5 = 0 →
      X65 y4 0 y3) ∧
    (¬ (y5 = 0) →
      X65 y4 1 y3)) → X54 y3 y4 y5) →
  (∀ (y4 : Int32) (z0 : Int32) (z1 : Int32),
    X5 (z1 + z0) (y4 + 1) → X65 y4 z0 z1) →
  X5 0 x1
def rmX7_unlikeOf : Room := { frames := 1, cells := 0, slots := 0, locals := 23 }
set_option maxRecDepth 100000 in
set_option maxHeartbeats 4000000 in
theorem c_X7_unlikeOf (l : Launch) (D : va_G) (q : Nat → ClassId) (aR : Nat → Nat) (uR : RSt) (x1 : Int32) (x2 : Int32) (Q : Int32 → Prop) (hf : wpX7_unlikeOf uR x1 x2 Q) : Met l yX7_unlikeOf wsX7_unlikeOf rmX7_unlikeOf (va_Pc [.ref (aR 0), .int x1, .int x2] (kP D q (wR aR q uR))) (vp_Si Q) 0 0 (fun _ => False) := by
  refine Met.ofW (cc := cX7_unlikeOf) (maxL := 7) (ret := (some .int)) (by decide) rfl ?_
  intro p e s m args below meth c s₁ B hml hv
  obtain ⟨hargs, hP, hK, hD⟩ := hv
  have hx := B.exec
  have hb := B.bytes
  have hr := B.returns
  have hts := atoms_spec (ws := wsX7_unlikeOf) B.pre
  have hown : s.vm.findClass RX7 = some m.cls := findClass_of_methodNamed B.named
  have hlocks := B.notSynchronized
  refine k_entry hargs (Nat.le_of_ble_eq_true rfl) (fun ls hl => ?_)
  have hl : lv_has ls 7 [(0, .ref (aR 0)), (1, .int x1), (2, .int x2)] := hl
  change W p l e rmX7_unlikeOf s m args below meth c s.heap [] 0 0 (MQ below (vp_Si Q) args s 0 0 (fun _ => False)) _
  unfold wpX7_unlikeOf at hf
  have hf := hf
    (fun (y3 : Int32) (y4 : Int32) => ∀ (ls : Array Slot), lv_has ls 7 [(0, .ref (aR 0)), (1, .int x1), (2, .int x2), (3, .int y3), (4, .int y4)] → W p l e rmX7_unlikeOf s m args below meth c s.heap [] 0 0 (MQ below (vp_Si Q) args s 0 0 (fun _ => False)) (F0 m 5 ls []))
    (fun (y3 : Int32) (y4 : Int32) (y5 : Int32) (y6 : Int32) => ∀ (ls : Array Slot), lv_has ls 7 [(0, .ref (aR 0)), (1, .int x1), (2, .int x2), (3, .int y3), (4, .int y4), (5, .int y5), (6, .int y6)] → W p l e rmX7_unlikeOf s m args below meth c s.heap [] 0 0 (MQ below (vp_Si Q) args s 0 0 (fun _ => False)) (F0 m 17 ls []))
    (fun (y3 : Int32) (y4 : Int32) (y5 : Int32) => ∀ (ls : Array Slot), lv_has ls 7 [(0, .ref (aR 0)), (1, .int x1), (2, .int x2), (3, .int y3), (4, .int y4), (5, .int y5)] → W p l e rmX7_unlikeOf s m args below meth c s.heap [] 0 0 (MQ below (vp_Si Q) args s 0 0 (fun _ => False)) (F0 m 54 ls []))
    (fun (y4 : Int32) (z0 : Int32) (z1 : Int32) => ∀ (ls : Array Slot), lv_has ls 7 [(0, .ref (aR 0)), (1, .int x1), (2, .int x2), (4, .int y4)] → W p l e rmX7_unlikeOf s m args below meth c s.heap [] 0 0 (MQ below (vp_Si Q) args s 0 0 (fun _ => False)) (F0 m 65 ls [.int z0, .int z1]))
    (by
      intro y3 y4 hf ls hl
      refine lv_iload hx hb dX7_unlikeOf_5 (lv_at hl 4 rfl) ?_
      refine lv_iload_n hx hb dX7_unlikeOf_7 rfl (lv_at hl 2 rfl) ?_
      refine lv_icmp_gt (tgt := 73) hx hb dX7_unlikeOf_8 (by decide) (fun c1 => ?_) (fun c1 => ?_)
      · have hf := hf.1 (c1)
        refine lv_iload_n hx hb dX7_unlikeOf_73 rfl (lv_at hl 3 rfl) ?_
        exact k_iret_r (v := y3) hx hb hr hlocks hf dX7_unlikeOf_74
      · have hf := hf.2 (c1)
        refine lv_iconst (v := 1) hx hb dX7_unlikeOf_11 (by decide) ?_
        refine lv_istore (lv' := [(5, .int 1), (0, .ref (aR 0)), (1, .int x1), (2, .int x2), (3, .int y3), (4, .int y4)]) hx hb dX7_unlikeOf_12 hl (by decide) rfl (fun ls hl => ?_)
        refine lv_iload_n hx hb dX7_unlikeOf_14 rfl (lv_at hl 2 rfl) ?_
        refine lv_istore (lv' := [(6, .int x1), (5, .int 1), (0, .ref (aR 0)), (1, .int x1), (2, .int x2), (3, .int y3), (4, .int y4)]) hx hb dX7_unlikeOf_15 hl (by decide) rfl (fun ls hl => ?_)
        exact hf ls (lv_sub hl [2, 3, 4, 5, 6, 1, 0] rfl))
    (by
      intro y3 y4 y5 y6 hf ls hl
      refine lv_iload hx hb dX7_unlikeOf_17 (lv_at hl 6 rfl) ?_
      refine lv_iload hx hb dX7_unlikeOf_19 (lv_at hl 4 rfl) ?_
      refine lv_icmp_ge (tgt := 54) hx hb dX7_unlikeOf_21 (by decide) (fun c2 => ?_) (fun c2 => ?_)
      · have hf := hf.1 (c2)
        exact hf ls (lv_sub hl [0, 1, 2, 3, 4, 5] rfl)
      · have hf := hf.2 (c2)
        refine lv_iload hx hb dX7_unlikeOf_24 (lv_at hl 5 rfl) ?_
        refine lv_if_eq (tgt := 54) hx hb dX7_unlikeOf_26 (by decide) (fun c3 => ?_) (fun c3 => ?_)
        · have hf := hf.1 (c3)
          exact hf ls (lv_sub hl [0, 1, 2, 3, 4, 5] rfl)
        · have hf := hf.2 (c3)
          refine lv_aload_n hx hb dX7_unlikeOf_29 rfl (lv_at hl 0 rfl) ?_
          refine lv_iload hx hb dX7_unlikeOf_30 (lv_at hl 4 rfl) ?_
          refine lv_iload hx hb dX7_unlikeOf_32 (lv_at hl 6 rfl) ?_
          refine k_si (k_runV (As := [.int y4, .int y6]) (rest := []) ⟨hx, hb, hml, hown, hts⟩ (c_X7_alikeAt l D q aR uR y4 y6 _ hf) (cwV 2 hts gX7_unlikeOf_X7_alikeAt rfl rfl rfl cdX7_alikeAt ⟨Nat.le_of_ble_eq_true rfl, Nat.le_of_ble_eq_true rfl⟩) hK hP hD 0 rfl rfl rfl hl.1 rfl (Nat.le_of_ble_eq_true rfl) dX7_unlikeOf_34 ⟨Nat.le_of_ble_eq_true rfl, Nat.le_of_ble_eq_true rfl⟩) (fun r4 hf => ?_)
          refine lv_iload_n hx hb dX7_unlikeOf_37 rfl (lv_at hl 1 rfl) ?_
          refine lv_icmp_ge (tgt := 45) hx hb dX7_unlikeOf_38 (by decide) (fun c5 => ?_) (fun c5 => ?_)
          · have hf := hf.1 (c5)
            refine lv_iconst (v := 0) hx hb dX7_unlikeOf_45 (by decide) ?_
            refine lv_istore (lv' := [(5, .int 0), (0, .ref (aR 0)), (1, .int x1), (2, .int x2), (3, .int y3), (4, .int y4), (6, .int y6)]) hx hb dX7_unlikeOf_46 hl (by decide) rfl (fun ls hl => ?_)
            refine lv_iinc (v := (y6 + 1)) (lv' := [(6, .int (y6 + 1)), (5, .int 0), (0, .ref (aR 0)), (1, .int x1), (2, .int x2), (3, .int y3), (4, .int y4)]) hx hb dX7_unlikeOf_48 hl (k := 6) rfl rfl (by decide) rfl (fun ls hl => ?_)
            refine lv_goto (tgt := 17) hx hb dX7_unlikeOf_51 (by decide) ?_
            exact hf ls (lv_sub hl [2, 3, 4, 5, 6, 1, 0] rfl)
          · have hf := hf.2 (c5)
            refine lv_iconst (v := 1) hx hb dX7_unlikeOf_41 (by decide) ?_
            refine lv_goto (tgt := 46) hx hb dX7_unlikeOf_42 (by decide) ?_
            refine lv_istore (lv' := [(5, .int 1), (0, .ref (aR 0)), (1, .int x1), (2, .int x2), (3, .int y3), (4, .int y4), (6, .int y6)]) hx hb dX7_unlikeOf_46 hl (by decide) rfl (fun ls hl => ?_)
            refine lv_iinc (v := (y6 + 1)) (lv' := [(6, .int (y6 + 1)), (5, .int 1), (0, .ref (aR 0)), (1, .int x1), (2, .int x2), (3, .int y3), (4, .int y4)]) hx hb dX7_unlikeOf_48 hl (k := 6) rfl rfl (by decide) rfl (fun ls hl => ?_)
            refine lv_goto (tgt := 17) hx hb dX7_unlikeOf_51 (by decide) ?_
            exact hf ls (lv_sub hl [2, 3, 4, 5, 6, 1, 0] rfl))
    (by
      intro y3 y4 y5 hf ls hl
      refine lv_iload_n hx hb dX7_unlikeOf_54 rfl (lv_at hl 3 rfl) ?_
      refine lv_iload hx hb dX7_unlikeOf_55 (lv_at hl 5 rfl) ?_
      refine lv_if_eq (tgt := 64) hx hb dX7_unlikeOf_57 (by decide) (fun c6 => ?_) (fun c6 => ?_)
      · have hf := hf.1 (c6)
        refine lv_iconst (v := 0) hx hb dX7_unlikeOf_64 (by decide) ?_
        exact hf ls (lv_sub hl [0, 1, 2, 4] rfl)
      · have hf := hf.2 (c6)
        refine lv_iconst (v := 1) hx hb dX7_unlikeOf_60 (by decide) ?_
        refine lv_goto (tgt := 65) hx hb dX7_unlikeOf_61 (by decide) ?_
        exact hf ls (lv_sub hl [0, 1, 2, 4] rfl))
    (by
      intro y4 z0 z1 hf ls hl
      refine lv_iadd hx hb dX7_unlikeOf_65 ?_
      refine lv_istore_n (lv' := [(3, .int (z1 + z0)), (0, .ref (aR 0)), (1, .int x1), (2, .int x2), (4, .int y4)]) hx hb dX7_unlikeOf_66 rfl hl (by decide) rfl (fun ls hl => ?_)
      refine lv_iinc (v := (y4 + 1)) (lv' := [(4, .int (y4 + 1)), (3, .int (z1 + z0)), (0, .ref (aR 0)), (1, .int x1), (2, .int x2)]) hx hb dX7_unlikeOf_67 hl (k := 4) rfl rfl (by decide) rfl (fun ls hl => ?_)
      refine lv_goto (tgt := 5) hx hb dX7_unlikeOf_70 (by decide) ?_
      exact hf ls (lv_sub hl [2, 3, 4, 1, 0] rfl))
  refine lv_iconst (v := 0) hx hb dX7_unlikeOf_0 (by decide) ?_
  refine lv_istore_n (lv' := [(3, .int 0), (0, .ref (aR 0)), (1, .int x1), (2, .int x2)]) hx hb dX7_unlikeOf_1 rfl hl (by decide) rfl (fun ls hl => ?_)
  refine lv_iload_n hx hb dX7_unlikeOf_2 rfl (lv_at hl 2 rfl) ?_
  refine lv_istore (lv' := [(4, .int x1), (3, .int 0), (0, .ref (aR 0)), (1, .int x1), (2, .int x2)]) hx hb dX7_unlikeOf_3 hl (by decide) rfl (fun ls hl => ?_)
  exact hf ls (lv_sub hl [2, 3, 4, 1, 0] rfl)
def wpX7_power (uR : RSt) (x1 : Int32) (Q : Int64 → Prop) : Prop :=
  ∀ (X5 : Int64 → Int32 → Prop),
  (∀ (y2 : Int64) (y4 : Int32),
    ((x1 ≤ y4 →
      Q y2) ∧
    (¬ (x1 ≤ y4) →
      ((4294967296 : Int64) ≤ y2 →
        Q y2) ∧
      (¬ ((4294967296 : Int64) ≤ y2) →
        X5 (y2 * ((gR_letters uR).toInt64)) (y4 + 1)))) → X5 y2 y4) →
  X5 1 0
def rmX7_power : Room := { frames := 0, cells := 0, slots := 0, locals := 0 }
theorem inX7_power_X7 : ∀ w ∈ wsX70, w ∈ wsX7_power := fun w h => List.mem_cons_of_mem _ (List.mem_append_right _ h)
set_option maxRecDepth 100000 in
set_option maxHeartbeats 4000000 in
theorem c_X7_power (l : Launch) (D : va_G) (q : Nat → ClassId) (aR : Nat → Nat) (uR : RSt) (x1 : Int32) (Q : Int64 → Prop) (hf : wpX7_power uR x1 Q) : Met l yX7_power wsX7_power rmX7_power (va_Pc [.ref (aR 0), .int x1] (kP D q (wR aR q uR))) (vp_Sl Q) 0 0 (fun _ => False) := by
  refine Met.ofW (cc := cX7_power) (maxL := 5) (ret := (some .long)) (by decide) rfl ?_
  intro p e s m args below meth c s₁ B hml hv
  obtain ⟨hargs, hP, hK, hD⟩ := hv
  have hx := B.exec
  have hb := B.bytes
  have hr := B.returns
  have hts := atoms_spec (ws := wsX7_power) B.pre
  have hown : s.vm.findClass RX7 = some m.cls := findClass_of_methodNamed B.named
  have hlocks := B.notSynchronized
  refine k_entry hargs (Nat.le_of_ble_eq_true rfl) (fun ls hl => ?_)
  have hl : lv_has ls 5 [(0, .ref (aR 0)), (1, .int x1)] := hl
  change W p l e rmX7_power s m args below meth c s.heap [] 0 0 (MQ below (vp_Sl Q) args s 0 0 (fun _ => False)) _
  unfold wpX7_power at hf
  have hf := hf
    (fun (y2 : Int64) (y4 : Int32) => ∀ (ls : Array Slot), lv_has ls 5 [(0, .ref (aR 0)), (1, .int x1), (2, .long y2), (4, .int y4)] → W p l e rmX7_power s m args below meth c s.heap [] 0 0 (MQ below (vp_Sl Q) args s 0 0 (fun _ => False)) (F0 m 5 ls []))
    (by
      intro y2 y4 hf ls hl
      refine lv_iload hx hb dX7_power_5 (lv_at hl 3 rfl) ?_
      refine lv_iload_n hx hb dX7_power_7 rfl (lv_at hl 1 rfl) ?_
      refine lv_icmp_ge (tgt := 33) hx hb dX7_power_8 (by decide) (fun c1 => ?_) (fun c1 => ?_)
      · have hf := hf.1 (c1)
        refine lv_lload_n hx hb dX7_power_33 rfl (lv_at hl 2 rfl) ?_
        exact k_lret_r (v := y2) hx hb hr hlocks hf dX7_power_34
      · have hf := hf.2 (c1)
        refine lv_lload_n hx hb dX7_power_11 rfl (lv_at hl 2 rfl) ?_
        refine lv_ldc2 (v := 4294967296) hx hb hown (hts (.constantLong RX7 147 (4294967296)) (List.mem_of_getElem? (i := 1) rfl)) dX7_power_12 ?_
        refine W.lcmp hx hb dX7_power_15 ?_
        refine lv_if_ge (tgt := 33) hx hb dX7_power_16 (by decide) (fun c2 => ?_) (fun c2 => ?_)
        · have hf := hf.1 ((k_cmp_ge y2 4294967296).mp c2)
          refine lv_lload_n hx hb dX7_power_33 rfl (lv_at hl 2 rfl) ?_
          exact k_lret_r (v := y2) hx hb hr hlocks hf dX7_power_34
        · have hf := hf.2 ((fun h => c2 ((k_cmp_ge y2 4294967296).mpr h)))
          refine lv_lload_n hx hb dX7_power_19 rfl (lv_at hl 2 rfl) ?_
          refine lv_aload_n hx hb dX7_power_20 rfl (lv_at hl 0 rfl) ?_
          refine va_get (D := D) (ci := 5) (v := .int (gR_letters uR)) (C := RX7) (T := TX7) (N := 14) hx hb hts inX7_power_X7 hown hK hP 0 rfl rfl 0 (by decide) (hts (.fieldLink RX7 52 "GrowingTextModel" "letters" "I") (List.mem_of_getElem? (i := 2) rfl)) (fun _ h9 => h9) rfl dX7_power_21 ?_
          refine lv_i2l (v := (gR_letters uR).toInt64) hx hb dX7_power_24 rfl ?_
          refine lv_lmul hx hb dX7_power_25 ?_
          refine lv_lstore_n (lv' := [(2, .long (y2 * ((gR_letters uR).toInt64))), (0, .ref (aR 0)), (1, .int x1), (4, .int y4)]) hx hb dX7_power_26 rfl hl (by decide) rfl (fun ls hl => ?_)
          refine lv_iinc (v := (y4 + 1)) (lv' := [(4, .int (y4 + 1)), (2, .long (y2 * ((gR_letters uR).toInt64))), (0, .ref (aR 0)), (1, .int x1)]) hx hb dX7_power_27 hl (k := 3) rfl rfl (by decide) rfl (fun ls hl => ?_)
          refine lv_goto (tgt := 5) hx hb dX7_power_30 (by decide) ?_
          exact hf ls (lv_sub hl [2, 3, 1, 0] rfl))
  refine lv_lconst (v := 1) hx hb dX7_power_0 (by decide) ?_
  refine lv_lstore_n (lv' := [(2, .long 1), (0, .ref (aR 0)), (1, .int x1)]) hx hb dX7_power_1 rfl hl (by decide) rfl (fun ls hl => ?_)
  refine lv_iconst (v := 0) hx hb dX7_power_2 (by decide) ?_
  refine lv_istore (lv' := [(4, .int 0), (2, .long 1), (0, .ref (aR 0)), (1, .int x1)]) hx hb dX7_power_3 hl (by decide) rfl (fun ls hl => ?_)
  exact hf ls (lv_sub hl [2, 3, 1, 0] rfl)
def wpX7_absent (uR : RSt) (x1 : Int32) (Q : Int32 → RSt → Prop) : Prop :=
  ∀ (X11 : Int32 → RSt → Prop) (X45 : Int32 → Int32 → RSt → Prop) (X64 : Int32 → Int32 → Int32 → Int32 → RSt → Prop),
  (∀ (y2 : Int32) (tR : RSt),
    wpX7_unlikeOf tR y2 (gR_n tR) (fun r2 =>
      wpX7_power tR y2 (fun r3 =>
        ((((r2).toInt64) : Int64) = r3 →
          X11 (y2 + 1) tR) ∧
        (¬ ((((r2).toInt64) : Int64) = r3) →
          vp_in x1 4 ∧
          X45 y2 0 (gR_set_sizes tR (upd (gR_sizes tR) (x1 : Int32).toNatClampNeg y2))))) → X11 y2 tR) →
  (∀ (y2 : Int32) (y3 : Int32) (tR : RSt),
    wpX7_power tR y2 (fun r5 =>
      ((r5 : Int64) ≤ ((y3).toInt64) →
        Q y2 tR) ∧
      (¬ ((r5 : Int64) ≤ ((y3).toInt64)) →
        X64 y2 y3 y3 (y2 - 1) tR)) → X45 y2 y3 tR) →
  (∀ (y2 : Int32) (y3 : Int32) (y4 : Int32) (y5 : Int32) (tR : RSt),
    ((y5 < 0 →
      wpX7_endsIn tR x1 0 y2 (fun r8 =>
        ((r8 : Int64) = 0 →
          Q y2 tR) ∧
        (¬ ((r8 : Int64) = 0) →
          X45 y2 (y3 + 1) tR))) ∧
    (¬ (y5 < 0) →
      ¬ (gR_letters tR) = 0 ∧
      vp_in ((64 * x1) + y5) 256 ∧
      ¬ (gR_letters tR) = 0 ∧
      X64 y2 y3 (y4 / (gR_letters tR)) (y5 + (-1)) (gR_set_sheets tR (upd (gR_sheets tR) (((64 * x1) + y5) : Int32).toNatClampNeg (97 + (y4 - y4 / (gR_letters tR) * (gR_letters tR))))))) → X64 y2 y3 y4 y5 tR) →
  (((fX7_isSheet x1) = 0 →
    Q (-1) uR) ∧
  (¬ ((fX7_isSheet x1) = 0) →
    X11 1 uR))
def rmX7_absent : Room := { frames := 3, cells := 0, slots := 0, locals := 74 }
theorem inX7_absent_X7 : ∀ w ∈ wsX70, w ∈ wsX7_absent := fun w h => List.mem_cons_of_mem _ (List.mem_append_right _ h)
set_option maxRecDepth 100000 in
set_option maxHeartbeats 4000000 in
theorem c_X7_absent (l : Launch) (D : va_G) (q : Nat → ClassId) (aR : Nat → Nat) (uR : RSt) (x1 : Int32) (Q : Int32 → RSt → Prop) (hf : wpX7_absent uR x1 Q) : Met l yX7_absent wsX7_absent rmX7_absent (va_Pc [.ref (aR 0), .int x1] (kP D q (wR aR q uR))) (va_Qi Q (fun u t => kP D q (wR aR q u) t) (kIn (wR aR q uR))) 0 0 (kIn (wR aR q uR)) := by
  refine Met.ofW (cc := cX7_absent) (maxL := 6) (ret := (some .int)) (by decide) rfl ?_
  intro p e s m args below meth c s₁ B hml hv
  obtain ⟨hargs, hP, hK, hD⟩ := hv
  have hx := B.exec
  have hb := B.bytes
  have hr := B.returns
  have hts := atoms_spec (ws := wsX7_absent) B.pre
  have hown : s.vm.findClass RX7 = some m.cls := findClass_of_methodNamed B.named
  have hlocks := B.notSynchronized
  have hD := kd_self hD
  generalize kIn (wR aR q uR) = A at hD ⊢
  have hS : va_S A s.heap s.heap [] := va_S.rf
  refine k_entry hargs (Nat.le_of_ble_eq_true rfl) (fun ls hl => ?_)
  have hl : lv_has ls 6 [(0, .ref (aR 0)), (1, .int x1)] := hl
  change W p l e rmX7_absent s m args below meth c s.heap [] 0 0 (MQ below (va_Qi Q (fun u t => kP D q (wR aR q u) t) A) args s 0 0 A) _
  unfold wpX7_absent at hf
  obtain ⟨H, hH⟩ : ∃ H, H = s.heap := ⟨_, rfl⟩
  obtain ⟨locs, hlocs⟩ : ∃ x : List Loc, x = [] := ⟨_, rfl⟩
  rw [← hH] at hP
  have hS : va_S A s.heap H locs := by rw [hH, hlocs]; exact hS
  rw [show W p l e rmX7_absent s m args below meth c s.heap [] 0 0 (MQ below (va_Qi Q (fun u t => kP D q (wR aR q u) t) A) args s 0 0 A) (F0 m 0 ls []) = W p l e rmX7_absent s m args below meth c H locs 0 0 (MQ below (va_Qi Q (fun u t => kP D q (wR aR q u) t) A) args s 0 0 A) (F0 m 0 ls []) by rw [hH, hlocs]]
  clear hH hlocs
  have hf := hf
    (fun (y2 : Int32) (tR : RSt) => ∀ (H : Heap) (locs : List Loc) (ls : Array Slot), va_P D vwCl (wR aR q tR) H → va_D A (wR aR q tR) → va_S A s.heap H locs → lv_has ls 6 [(0, .ref (aR 0)), (1, .int x1), (2, .int y2)] → W p l e rmX7_absent s m args below meth c H locs 0 0 (MQ below (va_Qi Q (fun u t => kP D q (wR aR q u) t) A) args s 0 0 A) (F0 m 11 ls []))
    (fun (y2 : Int32) (y3 : Int32) (tR : RSt) => ∀ (H : Heap) (locs : List Loc) (ls : Array Slot), va_P D vwCl (wR aR q tR) H → va_D A (wR aR q tR) → va_S A s.heap H locs → lv_has ls 6 [(0, .ref (aR 0)), (1, .int x1), (2, .int y2), (3, .int y3)] → W p l e rmX7_absent s m args below meth c H locs 0 0 (MQ below (va_Qi Q (fun u t => kP D q (wR aR q u) t) A) args s 0 0 A) (F0 m 45 ls []))
    (fun (y2 : Int32) (y3 : Int32) (y4 : Int32) (y5 : Int32) (tR : RSt) => ∀ (H : Heap) (locs : List Loc) (ls : Array Slot), va_P D vwCl (wR aR q tR) H → va_D A (wR aR q tR) → va_S A s.heap H locs → lv_has ls 6 [(0, .ref (aR 0)), (1, .int x1), (2, .int y2), (3, .int y3), (4, .int y4), (5, .int y5)] → W p l e rmX7_absent s m args below meth c H locs 0 0 (MQ below (va_Qi Q (fun u t => kP D q (wR aR q u) t) A) args s 0 0 A) (F0 m 64 ls []))
    (by
      intro y2 tR hf H locs ls hP hD hS hl
      refine lv_aload_n hx hb dX7_absent_11 rfl (lv_at hl 0 rfl) ?_
      refine lv_iload_n hx hb dX7_absent_12 rfl (lv_at hl 2 rfl) ?_
      refine lv_aload_n hx hb dX7_absent_13 rfl (lv_at hl 0 rfl) ?_
      refine va_get (D := D) (ci := 5) (v := .int (gR_n tR)) (C := RX7) (T := TX7) (N := 14) hx hb hts inX7_absent_X7 hown hK hP 0 rfl rfl 1 (by decide) (hts (.fieldLink RX7 56 "GrowingTextModel" "n" "I") (List.mem_of_getElem? (i := 1) rfl)) (fun _ h9 => h9) rfl dX7_absent_14 ?_
      refine k_si (k_runV (As := [.int y2, .int (gR_n tR)]) (rest := []) ⟨hx, hb, hml, hown, hts⟩ (c_X7_unlikeOf l D q aR tR y2 (gR_n tR) _ hf) (cwV 2 hts gX7_absent_X7_unlikeOf rfl rfl rfl cdX7_unlikeOf ⟨Nat.le_of_ble_eq_true rfl, Nat.le_of_ble_eq_true rfl⟩) hK hP hD 0 rfl rfl rfl hl.1 rfl (Nat.le_of_ble_eq_true rfl) dX7_absent_17 ⟨Nat.le_of_ble_eq_true rfl, Nat.le_of_ble_eq_true rfl⟩) (fun r2 hf => ?_)
      refine lv_i2l (v := (r2).toInt64) hx hb dX7_absent_20 rfl ?_
      refine lv_aload_n hx hb dX7_absent_21 rfl (lv_at hl 0 rfl) ?_
      refine lv_iload_n hx hb dX7_absent_22 rfl (lv_at hl 2 rfl) ?_
      refine k_sl (k_runV (As := [.int y2]) (rest := [.long ((r2).toInt64)]) ⟨hx, hb, hml, hown, hts⟩ (c_X7_power l D q aR tR y2 _ hf) (cwV 1 hts gX7_absent_X7_power rfl rfl rfl cdX7_power ⟨Nat.le_of_ble_eq_true rfl, Nat.le_of_ble_eq_true rfl⟩) hK hP hD 0 rfl rfl rfl hl.1 rfl (Nat.le_of_ble_eq_true rfl) dX7_absent_23 ⟨Nat.le_of_ble_eq_true rfl, Nat.le_of_ble_eq_true rfl⟩) (fun r3 hf => ?_)
      refine W.lcmp hx hb dX7_absent_26 ?_
      refine lv_if_ne (tgt := 36) hx hb dX7_absent_27 (by decide) (fun c4 => ?_) (fun c4 => ?_)
      · have hf := hf.2 ((fun h => c4 ((k_cmp_eq ((r2).toInt64) r3).mpr h)))
        refine lv_aload_n hx hb dX7_absent_36 rfl (lv_at hl 0 rfl) ?_
        refine va_get (D := D) (ci := 5) (v := .ref (aR 6)) (C := RX7) (T := TX7) (N := 14) hx hb hts inX7_absent_X7 hown hK hP 0 rfl rfl 8 (by decide) (hts (.fieldLink RX7 26 "GrowingTextModel" "sizes" "[I") (List.mem_of_getElem? (i := 2) rfl)) (fun _ h9 => h9) rfl dX7_absent_37 ?_
        refine lv_iload_n hx hb dX7_absent_40 rfl (lv_at hl 1 rfl) ?_
        refine lv_iload_n hx hb dX7_absent_41 rfl (lv_at hl 2 rfl) ?_
        refine va_iast hx hb hK hP hD hS 6 0 (f := (gR_sizes tR)) rfl rfl hf.1 dX7_absent_42 (fun H locs hP hD hS => ?_)
        have hf := hf.2
        have hP : va_P D vwCl (wR aR q (gR_set_sizes tR (upd (gR_sizes tR) (x1 : Int32).toNatClampNeg y2))) H := hP
        have hD : va_D A (wR aR q (gR_set_sizes tR (upd (gR_sizes tR) (x1 : Int32).toNatClampNeg y2))) := hD
        refine lv_iconst (v := 0) hx hb dX7_absent_43 (by decide) ?_
        refine lv_istore_n (lv' := [(3, .int 0), (0, .ref (aR 0)), (1, .int x1), (2, .int y2)]) hx hb dX7_absent_44 rfl hl (by decide) rfl (fun ls hl => ?_)
        exact hf H locs ls hP hD hS (lv_sub hl [1, 2, 3, 0] rfl)
      · have hf := hf.1 ((k_cmp_eq ((r2).toInt64) r3).mp c4)
        refine lv_iinc (v := (y2 + 1)) (lv' := [(2, .int (y2 + 1)), (0, .ref (aR 0)), (1, .int x1)]) hx hb dX7_absent_30 hl (k := 2) rfl rfl (by decide) rfl (fun ls hl => ?_)
        refine lv_goto (tgt := 11) hx hb dX7_absent_33 (by decide) ?_
        exact hf H locs ls hP hD hS (lv_sub hl [1, 2, 0] rfl))
    (by
      intro y2 y3 tR hf H locs ls hP hD hS hl
      refine lv_iload_n hx hb dX7_absent_45 rfl (lv_at hl 3 rfl) ?_
      refine lv_i2l (v := (y3).toInt64) hx hb dX7_absent_46 rfl ?_
      refine lv_aload_n hx hb dX7_absent_47 rfl (lv_at hl 0 rfl) ?_
      refine lv_iload_n hx hb dX7_absent_48 rfl (lv_at hl 2 rfl) ?_
      refine k_sl (k_runV (As := [.int y2]) (rest := [.long ((y3).toInt64)]) ⟨hx, hb, hml, hown, hts⟩ (c_X7_power l D q aR tR y2 _ hf) (cwV 1 hts gX7_absent_X7_power rfl rfl rfl cdX7_power ⟨Nat.le_of_ble_eq_true rfl, Nat.le_of_ble_eq_true rfl⟩) hK hP hD 0 rfl rfl rfl hl.1 rfl (Nat.le_of_ble_eq_true rfl) dX7_absent_49 ⟨Nat.le_of_ble_eq_true rfl, Nat.le_of_ble_eq_true rfl⟩) (fun r5 hf => ?_)
      refine W.lcmp hx hb dX7_absent_52 ?_
      refine lv_if_ge (tgt := 126) hx hb dX7_absent_53 (by decide) (fun c6 => ?_) (fun c6 => ?_)
      · have hf := hf.1 ((k_cmp_ge ((y3).toInt64) r5).mp c6)
        refine lv_iload_n hx hb dX7_absent_126 rfl (lv_at hl 2 rfl) ?_
        exact k_iret_w (wf := (fun u => wR aR q u)) (post := Q) (u := tR) (v := y2) hx hb hr hlocks hK hP hD hS hf dX7_absent_127
      · have hf := hf.2 ((fun h => c6 ((k_cmp_ge ((y3).toInt64) r5).mpr h)))
        refine lv_iload_n hx hb dX7_absent_56 rfl (lv_at hl 3 rfl) ?_
        refine lv_istore (lv' := [(4, .int y3), (0, .ref (aR 0)), (1, .int x1), (2, .int y2), (3, .int y3)]) hx hb dX7_absent_57 hl (by decide) rfl (fun ls hl => ?_)
        refine lv_iload_n hx hb dX7_absent_59 rfl (lv_at hl 3 rfl) ?_
        refine lv_iconst (v := 1) hx hb dX7_absent_60 (by decide) ?_
        refine lv_isub hx hb dX7_absent_61 ?_
        refine lv_istore (lv' := [(5, .int (y2 - 1)), (4, .int y3), (0, .ref (aR 0)), (1, .int x1), (2, .int y2), (3, .int y3)]) hx hb dX7_absent_62 hl (by decide) rfl (fun ls hl => ?_)
        exact hf H locs ls hP hD hS (lv_sub hl [2, 3, 4, 5, 1, 0] rfl))
    (by
      intro y2 y3 y4 y5 tR hf H locs ls hP hD hS hl
      refine lv_iload hx hb dX7_absent_64 (lv_at hl 5 rfl) ?_
      refine lv_if_lt (tgt := 106) hx hb dX7_absent_66 (by decide) (fun c7 => ?_) (fun c7 => ?_)
      · have hf := hf.1 (c7)
        refine lv_aload_n hx hb dX7_absent_106 rfl (lv_at hl 0 rfl) ?_
        refine lv_iload_n hx hb dX7_absent_107 rfl (lv_at hl 1 rfl) ?_
        refine lv_iconst (v := 0) hx hb dX7_absent_108 (by decide) ?_
        refine lv_iload_n hx hb dX7_absent_109 rfl (lv_at hl 2 rfl) ?_
        refine k_sl (k_runV (As := [.int x1, .int 0, .int y2]) (rest := []) ⟨hx, hb, hml, hown, hts⟩ (c_X7_endsIn l D q aR tR x1 0 y2 _ hf) (cwV 3 hts gX7_absent_X7_endsIn rfl rfl rfl cdX7_endsIn ⟨Nat.le_of_ble_eq_true rfl, Nat.le_of_ble_eq_true rfl⟩) hK hP hD 0 rfl rfl rfl hl.1 rfl (Nat.le_of_ble_eq_true rfl) dX7_absent_110 ⟨Nat.le_of_ble_eq_true rfl, Nat.le_of_ble_eq_true rfl⟩) (fun r8 hf => ?_)
        refine lv_lconst (v := 0) hx hb dX7_absent_113 (by decide) ?_
        refine W.lcmp hx hb dX7_absent_114 ?_
        refine lv_if_ne (tgt := 120) hx hb dX7_absent_115 (by decide) (fun c9 => ?_) (fun c9 => ?_)
        · have hf := hf.2 ((fun h => c9 ((k_cmp_eq r8 0).mpr h)))
          refine lv_iinc (v := (y3 + 1)) (lv' := [(3, .int (y3 + 1)), (0, .ref (aR 0)), (1, .int x1), (2, .int y2), (4, .int y4), (5, .int y5)]) hx hb dX7_absent_120 hl (k := 3) rfl rfl (by decide) rfl (fun ls hl => ?_)
          refine lv_goto (tgt := 45) hx hb dX7_absent_123 (by decide) ?_
          exact hf H locs ls hP hD hS (lv_sub hl [1, 2, 3, 0] rfl)
        · have hf := hf.1 ((k_cmp_eq r8 0).mp c9)
          refine lv_iload_n hx hb dX7_absent_118 rfl (lv_at hl 2 rfl) ?_
          exact k_iret_w (wf := (fun u => wR aR q u)) (post := Q) (u := tR) (v := y2) hx hb hr hlocks hK hP hD hS hf dX7_absent_119
      · have hf := hf.2 (c7)
        refine lv_aload_n hx hb dX7_absent_69 rfl (lv_at hl 0 rfl) ?_
        refine va_get (D := D) (ci := 5) (v := .ref (aR 7)) (C := RX7) (T := TX7) (N := 14) hx hb hts inX7_absent_X7 hown hK hP 0 rfl rfl 9 (by decide) (hts (.fieldLink RX7 29 "GrowingTextModel" "sheets" "[I") (List.mem_of_getElem? (i := 3) rfl)) (fun _ h9 => h9) rfl dX7_absent_70 ?_
        refine lv_bipush (v := 64) hx hb dX7_absent_73 (by decide) ?_
        refine lv_iload_n hx hb dX7_absent_75 rfl (lv_at hl 1 rfl) ?_
        refine lv_imul hx hb dX7_absent_76 ?_
        refine lv_iload hx hb dX7_absent_77 (lv_at hl 5 rfl) ?_
        refine lv_iadd hx hb dX7_absent_79 ?_
        refine lv_bipush (v := 97) hx hb dX7_absent_80 (by decide) ?_
        refine lv_iload hx hb dX7_absent_82 (lv_at hl 4 rfl) ?_
        refine lv_aload_n hx hb dX7_absent_84 rfl (lv_at hl 0 rfl) ?_
        refine va_get (D := D) (ci := 5) (v := .int (gR_letters tR)) (C := RX7) (T := TX7) (N := 14) hx hb hts inX7_absent_X7 hown hK hP 0 rfl rfl 0 (by decide) (hts (.fieldLink RX7 52 "GrowingTextModel" "letters" "I") (List.mem_of_getElem? (i := 4) rfl)) (fun _ h9 => h9) rfl dX7_absent_85 ?_
        refine lv_irem hx hb dX7_absent_88 hf.1 ?_
        have hf := hf.2
        refine lv_iadd hx hb dX7_absent_89 ?_
        refine va_iast hx hb hK hP hD hS 7 0 (f := (gR_sheets tR)) rfl rfl hf.1 dX7_absent_90 (fun H locs hP hD hS => ?_)
        have hf := hf.2
        have hP : va_P D vwCl (wR aR q (gR_set_sheets tR (upd (gR_sheets tR) (((64 * x1) + y5) : Int32).toNatClampNeg (97 + (y4 - y4 / (gR_letters tR) * (gR_letters tR)))))) H := hP
        have hD : va_D A (wR aR q (gR_set_sheets tR (upd (gR_sheets tR) (((64 * x1) + y5) : Int32).toNatClampNeg (97 + (y4 - y4 / (gR_letters tR) * (gR_letters tR)))))) := hD
        refine lv_iload hx hb dX7_absent_91 (lv_at hl 4 rfl) ?_
        refine lv_aload_n hx hb dX7_absent_93 rfl (lv_at hl 0 rfl) ?_
        refine va_get (D := D) (ci := 5) (v := .int (gR_letters tR)) (C := RX7) (T := TX7) (N := 14) hx hb hts inX7_absent_X7 hown hK hP 0 rfl rfl 0 (by decide) (hts (.fieldLink RX7 52 "GrowingTextModel" "letters" "I") (List.mem_of_getElem? (i := 4) rfl)) (fun _ h9 => h9) rfl dX7_absent_94 ?_
        refine lv_idiv hx hb dX7_absent_97 hf.1 ?_
        have hf := hf.2
        refine lv_istore (lv' := [(4, .int (y4 / (gR_letters tR))), (0, .ref (aR 0)), (1, .int x1), (2, .int y2), (3, .int y3), (5, .int y5)]) hx hb dX7_absent_98 hl (by decide) rfl (fun ls hl => ?_)
        refine lv_iinc (v := (y5 + (-1))) (lv' := [(5, .int (y5 + (-1))), (4, .int (y4 / (gR_letters tR))), (0, .ref (aR 0)), (1, .int x1), (2, .int y2), (3, .int y3)]) hx hb dX7_absent_100 hl (k := 5) rfl rfl (by decide) rfl (fun ls hl => ?_)
        refine lv_goto (tgt := 64) hx hb dX7_absent_103 (by decide) ?_
        exact hf H locs ls hP hD hS (lv_sub hl [2, 3, 4, 5, 1, 0] rfl))
  refine lv_iload_n hx hb dX7_absent_0 rfl (lv_at hl 1 rfl) ?_
  refine k_si (k_runS (As := [.int x1]) (rest := []) ⟨hx, hb, hml, hown, hts⟩ (cF_X7_isSheet l D q x1) (va_cwS 1 hts gX7_absent_X7_isSheet rfl rfl rfl cdX7_isSheet ⟨Nat.le_of_ble_eq_true rfl, Nat.le_of_ble_eq_true rfl⟩) hK k_nilP k_nilD rfl hl.1 rfl (Nat.le_of_ble_eq_true rfl) dX7_absent_1 ⟨Nat.le_of_ble_eq_true rfl, Nat.le_of_ble_eq_true rfl⟩) (fun r hr => ?_)
  subst hr
  refine lv_if_ne (tgt := 9) hx hb dX7_absent_4 (by decide) (fun c1 => ?_) (fun c1 => ?_)
  · have hf := hf.2 (c1)
    refine lv_iconst (v := 1) hx hb dX7_absent_9 (by decide) ?_
    refine lv_istore_n (lv' := [(2, .int 1), (0, .ref (aR 0)), (1, .int x1)]) hx hb dX7_absent_10 rfl hl (by decide) rfl (fun ls hl => ?_)
    exact hf H locs ls hP hD hS (lv_sub hl [1, 2, 0] rfl)
  · have hf := hf.1 (c1)
    refine lv_iconst (v := (-1)) hx hb dX7_absent_7 (by decide) ?_
    exact k_iret_w (wf := (fun u => wR aR q u)) (post := Q) (u := uR) (v := (-1)) hx hb hr hlocks hK hP hD hS hf dX7_absent_8
def wpX7_missing (uR : RSt) (x1 : Int32) (Q : Int32 → Prop) : Prop :=
  (((fX7_in x1 0 60) = 0 →
    Q (-1)) ∧
  (¬ ((fX7_in x1 0 60) = 0) →
    wpX7_power uR x1 (fun r2 =>
      ((r2 : Int64) ≤ 2147483647 →
        (x1 = 0 →
          Q 0) ∧
        (¬ (x1 = 0) →
          wpX7_power uR x1 (fun r5 =>
            wpX7_unlikeOf uR x1 (gR_n uR) (fun r6 =>
              Q ((r5 - ((r6).toInt64)).toInt32))))) ∧
      (¬ ((r2 : Int64) ≤ 2147483647) →
        Q (-13)))))
def rmX7_missing : Room := { frames := 2, cells := 0, slots := 0, locals := 49 }
theorem inX7_missing_X7 : ∀ w ∈ wsX70, w ∈ wsX7_missing := fun w h => List.mem_cons_of_mem _ (List.mem_append_right _ h)
set_option maxRecDepth 100000 in
set_option maxHeartbeats 4000000 in
theorem c_X7_missing (l : Launch) (D : va_G) (q : Nat → ClassId) (aR : Nat → Nat) (uR : RSt) (x1 : Int32) (Q : Int32 → Prop) (hf : wpX7_missing uR x1 Q) : Met l yX7_missing wsX7_missing rmX7_missing (va_Pc [.ref (aR 0), .int x1] (kP D q (wR aR q uR))) (vp_Si Q) 0 0 (fun _ => False) := by
  refine Met.ofW (cc := cX7_missing) (maxL := 2) (ret := (some .int)) (by decide) rfl ?_
  intro p e s m args below meth c s₁ B hml hv
  obtain ⟨hargs, hP, hK, hD⟩ := hv
  have hx := B.exec
  have hb := B.bytes
  have hr := B.returns
  have hts := atoms_spec (ws := wsX7_missing) B.pre
  have hown : s.vm.findClass RX7 = some m.cls := findClass_of_methodNamed B.named
  have hlocks := B.notSynchronized
  refine k_entry hargs (Nat.le_of_ble_eq_true rfl) (fun ls hl => ?_)
  have hl : lv_has ls 2 [(0, .ref (aR 0)), (1, .int x1)] := hl
  change W p l e rmX7_missing s m args below meth c s.heap [] 0 0 (MQ below (vp_Si Q) args s 0 0 (fun _ => False)) _
  unfold wpX7_missing at hf
  refine lv_iload_n hx hb dX7_missing_0 rfl (lv_at hl 1 rfl) ?_
  refine lv_iconst (v := 0) hx hb dX7_missing_1 (by decide) ?_
  refine lv_bipush (v := 60) hx hb dX7_missing_2 (by decide) ?_
  refine k_si (k_runS (As := [.int x1, .int 0, .int 60]) (rest := []) ⟨hx, hb, hml, hown, hts⟩ (cF_X7_in l D q x1 0 60) (va_cwS 3 hts gX7_missing_X7_in rfl rfl rfl cdX7_in ⟨Nat.le_of_ble_eq_true rfl, Nat.le_of_ble_eq_true rfl⟩) hK k_nilP k_nilD rfl hl.1 rfl (Nat.le_of_ble_eq_true rfl) dX7_missing_4 ⟨Nat.le_of_ble_eq_true rfl, Nat.le_of_ble_eq_true rfl⟩) (fun r hr => ?_)
  subst hr
  refine lv_if_ne (tgt := 12) hx hb dX7_missing_7 (by decide) (fun c1 => ?_) (fun c1 => ?_)
  · have hf := hf.2 (c1)
    refine lv_aload_n hx hb dX7_missing_12 rfl (lv_at hl 0 rfl) ?_
    refine lv_iload_n hx hb dX7_missing_13 rfl (lv_at hl 1 rfl) ?_
    refine k_sl (k_runV (As := [.int x1]) (rest := []) ⟨hx, hb, hml, hown, hts⟩ (c_X7_power l D q aR uR x1 _ hf) (cwV 1 hts gX7_missing_X7_power rfl rfl rfl cdX7_power ⟨Nat.le_of_ble_eq_true rfl, Nat.le_of_ble_eq_true rfl⟩) hK hP hD 0 rfl rfl rfl hl.1 rfl (Nat.le_of_ble_eq_true rfl) dX7_missing_14 ⟨Nat.le_of_ble_eq_true rfl, Nat.le_of_ble_eq_true rfl⟩) (fun r2 hf => ?_)
    refine lv_ldc2 (v := 2147483647) hx hb hown (hts (.constantLong RX7 102 (2147483647)) (List.mem_of_getElem? (i := 1) rfl)) dX7_missing_17 ?_
    refine W.lcmp hx hb dX7_missing_20 ?_
    refine lv_if_le (tgt := 29) hx hb dX7_missing_21 (by decide) (fun c3 => ?_) (fun c3 => ?_)
    · have hf := hf.1 ((k_cmp_le r2 2147483647).mp c3)
      refine lv_iload_n hx hb dX7_missing_29 rfl (lv_at hl 1 rfl) ?_
      refine lv_if_ne (tgt := 37) hx hb dX7_missing_30 (by decide) (fun c4 => ?_) (fun c4 => ?_)
      · have hf := hf.2 (c4)
        refine lv_aload_n hx hb dX7_missing_37 rfl (lv_at hl 0 rfl) ?_
        refine lv_iload_n hx hb dX7_missing_38 rfl (lv_at hl 1 rfl) ?_
        refine k_sl (k_runV (As := [.int x1]) (rest := []) ⟨hx, hb, hml, hown, hts⟩ (c_X7_power l D q aR uR x1 _ hf) (cwV 1 hts gX7_missing_X7_power rfl rfl rfl cdX7_power ⟨Nat.le_of_ble_eq_true rfl, Nat.le_of_ble_eq_true rfl⟩) hK hP hD 0 rfl rfl rfl hl.1 rfl (Nat.le_of_ble_eq_true rfl) dX7_missing_39 ⟨Nat.le_of_ble_eq_true rfl, Nat.le_of_ble_eq_true rfl⟩) (fun r5 hf => ?_)
        refine lv_aload_n hx hb dX7_missing_42 rfl (lv_at hl 0 rfl) ?_
        refine lv_iload_n hx hb dX7_missing_43 rfl (lv_at hl 1 rfl) ?_
        refine lv_aload_n hx hb dX7_missing_44 rfl (lv_at hl 0 rfl) ?_
        refine va_get (D := D) (ci := 5) (v := .int (gR_n uR)) (C := RX7) (T := TX7) (N := 14) hx hb hts inX7_missing_X7 hown hK hP 0 rfl rfl 1 (by decide) (hts (.fieldLink RX7 56 "GrowingTextModel" "n" "I") (List.mem_of_getElem? (i := 2) rfl)) (fun _ h9 => h9) rfl dX7_missing_45 ?_
        refine k_si (k_runV (As := [.int x1, .int (gR_n uR)]) (rest := [.long r5]) ⟨hx, hb, hml, hown, hts⟩ (c_X7_unlikeOf l D q aR uR x1 (gR_n uR) _ hf) (cwV 2 hts gX7_missing_X7_unlikeOf rfl rfl rfl cdX7_unlikeOf ⟨Nat.le_of_ble_eq_true rfl, Nat.le_of_ble_eq_true rfl⟩) hK hP hD 0 rfl rfl rfl hl.1 rfl (Nat.le_of_ble_eq_true rfl) dX7_missing_48 ⟨Nat.le_of_ble_eq_true rfl, Nat.le_of_ble_eq_true rfl⟩) (fun r6 hf => ?_)
        refine lv_i2l (v := (r6).toInt64) hx hb dX7_missing_51 rfl ?_
        refine lv_lsub hx hb dX7_missing_52 ?_
        refine lv_l2i (v := (r5 - ((r6).toInt64)).toInt32) hx hb dX7_missing_53 rfl ?_
        exact k_iret_r (v := ((r5 - ((r6).toInt64)).toInt32)) hx hb hr hlocks hf dX7_missing_54
      · have hf := hf.1 (c4)
        refine lv_iconst (v := 0) hx hb dX7_missing_33 (by decide) ?_
        refine lv_goto (tgt := 54) hx hb dX7_missing_34 (by decide) ?_
        exact k_iret_r (v := 0) hx hb hr hlocks hf dX7_missing_54
    · have hf := hf.2 ((fun h => c3 ((k_cmp_le r2 2147483647).mpr h)))
      refine lv_bipush (v := (-13)) hx hb dX7_missing_24 (by decide) ?_
      refine lv_goto (tgt := 54) hx hb dX7_missing_26 (by decide) ?_
      exact k_iret_r (v := (-13)) hx hb hr hlocks hf dX7_missing_54
  · have hf := hf.1 (c1)
    refine lv_iconst (v := (-1)) hx hb dX7_missing_10 (by decide) ?_
    exact k_iret_r (v := (-1)) hx hb hr hlocks hf dX7_missing_11
def wpX7_isAhead (uR : RSt) (x1 : Int32) (x2 : Int32) (x3 : Int32) (Q : Int32 → Prop) : Prop :=
  ∀ (X3 : Int32 → Prop) (X35 : Int32 → Prop),
  (∀ (y4 : Int32),
    ((y4 ≤ 0 →
      X35 y4) ∧
    (¬ (y4 ≤ 0) →
      vp_in (x1 - y4) 60 ∧
      vp_in (x2 - y4) 60 ∧
      ((((gR_text uR) ((x1 - y4) : Int32).toNatClampNeg) = ((gR_text uR) ((x2 - y4) : Int32).toNatClampNeg) →
        X3 (y4 + (-1))) ∧
      (¬ (((gR_text uR) ((x1 - y4) : Int32).toNatClampNeg) = ((gR_text uR) ((x2 - y4) : Int32).toNatClampNeg)) →
        X35 y4)))) → X3 y4) →
  (∀ (y4 : Int32),
    ((y4 ≤ 0 →
      Q 0) ∧
    (¬ (y4 ≤ 0) →
      vp_in (x1 - y4) 60 ∧
      vp_in (x2 - y4) 60 ∧
      ((((gR_text uR) ((x2 - y4) : Int32).toNatClampNeg) ≤ ((gR_text uR) ((x1 - y4) : Int32).toNatClampNeg) →
        Q 0) ∧
      (¬ (((gR_text uR) ((x2 - y4) : Int32).toNatClampNeg) ≤ ((gR_text uR) ((x1 - y4) : Int32).toNatClampNeg)) →
        Q 1)))) → X35 y4) →
  X3 x3
def rmX7_isAhead : Room := { frames := 0, cells := 0, slots := 0, locals := 0 }
theorem inX7_isAhead_X7 : ∀ w ∈ wsX70, w ∈ wsX7_isAhead := fun w h => List.mem_cons_of_mem _ (List.mem_append_right _ h)
set_option maxRecDepth 100000 in
set_option maxHeartbeats 4000000 in
theorem c_X7_isAhead (l : Launch) (D : va_G) (q : Nat → ClassId) (aR : Nat → Nat) (uR : RSt) (x1 : Int32) (x2 : Int32) (x3 : Int32) (Q : Int32 → Prop) (hf : wpX7_isAhead uR x1 x2 x3 Q) : Met l yX7_isAhead wsX7_isAhead rmX7_isAhead (va_Pc [.ref (aR 0), .int x1, .int x2, .int x3] (kP D q (wR aR q uR))) (vp_Si Q) 0 0 (fun _ => False) := by
  refine Met.ofW (cc := cX7_isAhead) (maxL := 5) (ret := (some .boolean)) (by decide) rfl ?_
  intro p e s m args below meth c s₁ B hml hv
  obtain ⟨hargs, hP, hK, hD⟩ := hv
  have hx := B.exec
  have hb := B.bytes
  have hr := B.returns
  have hts := atoms_spec (ws := wsX7_isAhead) B.pre
  have hown : s.vm.findClass RX7 = some m.cls := findClass_of_methodNamed B.named
  have hlocks := B.notSynchronized
  refine k_entry hargs (Nat.le_of_ble_eq_true rfl) (fun ls hl => ?_)
  have hl : lv_has ls 5 [(0, .ref (aR 0)), (1, .int x1), (2, .int x2), (3, .int x3)] := hl
  change W p l e rmX7_isAhead s m args below meth c s.heap [] 0 0 (MQ below (vp_Si Q) args s 0 0 (fun _ => False)) _
  unfold wpX7_isAhead at hf
  have hf := hf
    (fun (y4 : Int32) => ∀ (ls : Array Slot), lv_has ls 5 [(0, .ref (aR 0)), (1, .int x1), (2, .int x2), (4, .int y4)] → W p l e rmX7_isAhead s m args below meth c s.heap [] 0 0 (MQ below (vp_Si Q) args s 0 0 (fun _ => False)) (F0 m 3 ls []))
    (fun (y4 : Int32) => ∀ (ls : Array Slot), lv_has ls 5 [(0, .ref (aR 0)), (1, .int x1), (2, .int x2), (4, .int y4)] → W p l e rmX7_isAhead s m args below meth c s.heap [] 0 0 (MQ below (vp_Si Q) args s 0 0 (fun _ => False)) (F0 m 35 ls []))
    (by
      intro y4 hf ls hl
      refine lv_iload hx hb dX7_isAhead_3 (lv_at hl 3 rfl) ?_
      refine lv_if_le (tgt := 35) hx hb dX7_isAhead_5 (by decide) (fun c1 => ?_) (fun c1 => ?_)
      · have hf := hf.1 (c1)
        exact hf ls (lv_sub hl [0, 1, 2, 3] rfl)
      · have hf := hf.2 (c1)
        refine lv_aload_n hx hb dX7_isAhead_8 rfl (lv_at hl 0 rfl) ?_
        refine va_get (D := D) (ci := 5) (v := .ref (aR 1)) (C := RX7) (T := TX7) (N := 14) hx hb hts inX7_isAhead_X7 hown hK hP 0 rfl rfl 2 (by decide) (hts (.fieldLink RX7 7 "GrowingTextModel" "text" "[I") (List.mem_of_getElem? (i := 1) rfl)) (fun _ h9 => h9) rfl dX7_isAhead_9 ?_
        refine lv_iload_n hx hb dX7_isAhead_12 rfl (lv_at hl 1 rfl) ?_
        refine lv_iload hx hb dX7_isAhead_13 (lv_at hl 3 rfl) ?_
        refine lv_isub hx hb dX7_isAhead_15 ?_
        refine va_iald hx hb hK hP 1 0 (f := (gR_text uR)) rfl rfl hf.1 dX7_isAhead_16 ?_
        have hf := hf.2
        refine lv_aload_n hx hb dX7_isAhead_17 rfl (lv_at hl 0 rfl) ?_
        refine va_get (D := D) (ci := 5) (v := .ref (aR 1)) (C := RX7) (T := TX7) (N := 14) hx hb hts inX7_isAhead_X7 hown hK hP 0 rfl rfl 2 (by decide) (hts (.fieldLink RX7 7 "GrowingTextModel" "text" "[I") (List.mem_of_getElem? (i := 1) rfl)) (fun _ h9 => h9) rfl dX7_isAhead_18 ?_
        refine lv_iload_n hx hb dX7_isAhead_21 rfl (lv_at hl 2 rfl) ?_
        refine lv_iload hx hb dX7_isAhead_22 (lv_at hl 3 rfl) ?_
        refine lv_isub hx hb dX7_isAhead_24 ?_
        refine va_iald hx hb hK hP 1 0 (f := (gR_text uR)) rfl rfl hf.1 dX7_isAhead_25 ?_
        have hf := hf.2
        refine lv_icmp_ne (tgt := 35) hx hb dX7_isAhead_26 (by decide) (fun c2 => ?_) (fun c2 => ?_)
        · have hf := hf.2 (c2)
          exact hf ls (lv_sub hl [0, 1, 2, 3] rfl)
        · have hf := hf.1 (c2)
          refine lv_iinc (v := (y4 + (-1))) (lv' := [(4, .int (y4 + (-1))), (0, .ref (aR 0)), (1, .int x1), (2, .int x2)]) hx hb dX7_isAhead_29 hl (k := 3) rfl rfl (by decide) rfl (fun ls hl => ?_)
          refine lv_goto (tgt := 3) hx hb dX7_isAhead_32 (by decide) ?_
          exact hf ls (lv_sub hl [1, 2, 3, 0] rfl))
    (by
      intro y4 hf ls hl
      refine lv_iload hx hb dX7_isAhead_35 (lv_at hl 3 rfl) ?_
      refine lv_if_le (tgt := 65) hx hb dX7_isAhead_37 (by decide) (fun c3 => ?_) (fun c3 => ?_)
      · have hf := hf.1 (c3)
        refine lv_iconst (v := 0) hx hb dX7_isAhead_65 (by decide) ?_
        exact k_zret_r (v := 0) hx hb hr rfl hlocks hf dX7_isAhead_66
      · have hf := hf.2 (c3)
        refine lv_aload_n hx hb dX7_isAhead_40 rfl (lv_at hl 0 rfl) ?_
        refine va_get (D := D) (ci := 5) (v := .ref (aR 1)) (C := RX7) (T := TX7) (N := 14) hx hb hts inX7_isAhead_X7 hown hK hP 0 rfl rfl 2 (by decide) (hts (.fieldLink RX7 7 "GrowingTextModel" "text" "[I") (List.mem_of_getElem? (i := 1) rfl)) (fun _ h9 => h9) rfl dX7_isAhead_41 ?_
        refine lv_iload_n hx hb dX7_isAhead_44 rfl (lv_at hl 1 rfl) ?_
        refine lv_iload hx hb dX7_isAhead_45 (lv_at hl 3 rfl) ?_
        refine lv_isub hx hb dX7_isAhead_47 ?_
        refine va_iald hx hb hK hP 1 0 (f := (gR_text uR)) rfl rfl hf.1 dX7_isAhead_48 ?_
        have hf := hf.2
        refine lv_aload_n hx hb dX7_isAhead_49 rfl (lv_at hl 0 rfl) ?_
        refine va_get (D := D) (ci := 5) (v := .ref (aR 1)) (C := RX7) (T := TX7) (N := 14) hx hb hts inX7_isAhead_X7 hown hK hP 0 rfl rfl 2 (by decide) (hts (.fieldLink RX7 7 "GrowingTextModel" "text" "[I") (List.mem_of_getElem? (i := 1) rfl)) (fun _ h9 => h9) rfl dX7_isAhead_50 ?_
        refine lv_iload_n hx hb dX7_isAhead_53 rfl (lv_at hl 2 rfl) ?_
        refine lv_iload hx hb dX7_isAhead_54 (lv_at hl 3 rfl) ?_
        refine lv_isub hx hb dX7_isAhead_56 ?_
        refine va_iald hx hb hK hP 1 0 (f := (gR_text uR)) rfl rfl hf.1 dX7_isAhead_57 ?_
        have hf := hf.2
        refine lv_icmp_ge (tgt := 65) hx hb dX7_isAhead_58 (by decide) (fun c4 => ?_) (fun c4 => ?_)
        · have hf := hf.1 (c4)
          refine lv_iconst (v := 0) hx hb dX7_isAhead_65 (by decide) ?_
          exact k_zret_r (v := 0) hx hb hr rfl hlocks hf dX7_isAhead_66
        · have hf := hf.2 (c4)
          refine lv_iconst (v := 1) hx hb dX7_isAhead_61 (by decide) ?_
          refine lv_goto (tgt := 66) hx hb dX7_isAhead_62 (by decide) ?_
          exact k_zret_r (v := 1) hx hb hr rfl hlocks hf dX7_isAhead_66)
  refine lv_iload_n hx hb dX7_isAhead_0 rfl (lv_at hl 3 rfl) ?_
  refine lv_istore (lv' := [(4, .int x3), (0, .ref (aR 0)), (1, .int x1), (2, .int x2), (3, .int x3)]) hx hb dX7_isAhead_1 hl (by decide) rfl (fun ls hl => ?_)
  exact hf ls (lv_sub hl [1, 2, 3, 0] rfl)
def wpX7_often (uR : RSt) (x1 : Int32) (x2 : Int32) (Q : Int32 → RSt → Prop) : Prop :=
  ∀ (X32 : Int32 → Int32 → RSt → Prop) (X60 : Int32 → Int32 → Int32 → RSt → Prop) (X115 : Int32 → Int32 → Int32 → RSt → Prop) (X116 : Int32 → Int32 → Int32 → Int32 → RSt → Prop) (X149 : Int32 → Int32 → RSt → Prop) (X144 : Int32 → RSt → Prop),
  (∀ (y3 : Int32) (y4 : Int32) (tR : RSt),
    (((gR_stateMany tR) ≤ y4 →
      vp_in y3 121 ∧
      wpX7_least ((gR_ends tR) (y3 : Int32).toNatClampNeg) (fun r5 =>
        vp_in y3 121 ∧
        wpX7_toSheet tR r5 ((gR_longest tR) (y3 : Int32).toNatClampNeg) x2 (fun r7 uR6 =>
          Q r7 uR6))) ∧
    (¬ ((gR_stateMany tR) ≤ y4) →
      vp_in y4 121 ∧
      wpX7_bits ((gR_ends tR) (y4 : Int32).toNatClampNeg) (fun r8 =>
        (r8 < x1 →
          X60 y3 y4 0 tR) ∧
        (¬ (r8 < x1) →
          X60 y3 y4 1 tR)))) → X32 y3 y4 tR) →
  (∀ (y3 : Int32) (y4 : Int32) (z0 : Int32) (tR : RSt),
    (vp_in y4 121 ∧
    vp_in y3 121 ∧
    ((((gR_longest tR) (y4 : Int32).toNatClampNeg) = ((gR_longest tR) (y3 : Int32).toNatClampNeg) →
      vp_in y4 121 ∧
      wpX7_least ((gR_ends tR) (y4 : Int32).toNatClampNeg) (fun r11 =>
        vp_in y3 121 ∧
        wpX7_least ((gR_ends tR) (y3 : Int32).toNatClampNeg) (fun r12 =>
          vp_in y4 121 ∧
          wpX7_isAhead tR r11 r12 ((gR_longest tR) (y4 : Int32).toNatClampNeg) (fun r13 =>
            (r13 = 0 →
              X115 y3 y4 z0 tR) ∧
            (¬ (r13 = 0) →
              X116 y3 y4 z0 1 tR))))) ∧
    (¬ (((gR_longest tR) (y4 : Int32).toNatClampNeg) = ((gR_longest tR) (y3 : Int32).toNatClampNeg)) →
      X115 y3 y4 z0 tR))) → X60 y3 y4 z0 tR) →
  (∀ (y3 : Int32) (y4 : Int32) (y5 : Int32) (tR : RSt),
    X116 y3 y4 y5 0 tR → X115 y3 y4 y5 tR) →
  (∀ (y3 : Int32) (y4 : Int32) (y5 : Int32) (z0 : Int32) (tR : RSt),
    ((y5 = 0 →
      X149 y3 y4 tR) ∧
    (¬ (y5 = 0) →
      vp_in y4 121 ∧
      vp_in y3 121 ∧
      ((((gR_longest tR) (y3 : Int32).toNatClampNeg) < ((gR_longest tR) (y4 : Int32).toNatClampNeg) →
        X144 y4 tR) ∧
      (¬ (((gR_longest tR) (y3 : Int32).toNatClampNeg) < ((gR_longest tR) (y4 : Int32).toNatClampNeg)) →
        (z0 = 0 →
          X149 y3 y4 tR) ∧
        (¬ (z0 = 0) →
          X144 y4 tR))))) → X116 y3 y4 y5 z0 tR) →
  (∀ (y3 : Int32) (y4 : Int32) (tR : RSt),
    X32 y3 (y4 + 1) tR → X149 y3 y4 tR) →
  (∀ (y4 : Int32) (tR : RSt),
    X32 y4 (y4 + 1) tR → X144 y4 tR) →
  ((x1 < 1 →
    Q (-1) uR) ∧
  (¬ (x1 < 1) →
    ((fX7_isSheet x2) = 0 →
      Q (-1) uR) ∧
    (¬ ((fX7_isSheet x2) = 0) →
      (x1 ≤ ((gR_n uR) + 1) →
        X32 0 1 uR) ∧
      (¬ (x1 ≤ ((gR_n uR) + 1)) →
        Q (-4) uR))))
def rmX7_often : Room := { frames := 2, cells := 0, slots := 0, locals := 44 }
theorem inX7_often_X7 : ∀ w ∈ wsX70, w ∈ wsX7_often := fun w h => List.mem_cons_of_mem _ (List.mem_append_right _ h)
set_option maxRecDepth 100000 in
set_option maxHeartbeats 4000000 in
theorem c_X7_often (l : Launch) (D : va_G) (q : Nat → ClassId) (aR : Nat → Nat) (uR : RSt) (x1 : Int32) (x2 : Int32) (Q : Int32 → RSt → Prop) (hf : wpX7_often uR x1 x2 Q) : Met l yX7_often wsX7_often rmX7_often (va_Pc [.ref (aR 0), .int x1, .int x2] (kP D q (wR aR q uR))) (va_Qi Q (fun u t => kP D q (wR aR q u) t) (kIn (wR aR q uR))) 0 0 (kIn (wR aR q uR)) := by
  refine Met.ofW (cc := cX7_often) (maxL := 7) (ret := (some .int)) (by decide) rfl ?_
  intro p e s m args below meth c s₁ B hml hv
  obtain ⟨hargs, hP, hK, hD⟩ := hv
  have hx := B.exec
  have hb := B.bytes
  have hr := B.returns
  have hts := atoms_spec (ws := wsX7_often) B.pre
  have hown : s.vm.findClass RX7 = some m.cls := findClass_of_methodNamed B.named
  have hlocks := B.notSynchronized
  have hD := kd_self hD
  generalize kIn (wR aR q uR) = A at hD ⊢
  have hS : va_S A s.heap s.heap [] := va_S.rf
  refine k_entry hargs (Nat.le_of_ble_eq_true rfl) (fun ls hl => ?_)
  have hl : lv_has ls 7 [(0, .ref (aR 0)), (1, .int x1), (2, .int x2)] := hl
  change W p l e rmX7_often s m args below meth c s.heap [] 0 0 (MQ below (va_Qi Q (fun u t => kP D q (wR aR q u) t) A) args s 0 0 A) _
  unfold wpX7_often at hf
  obtain ⟨H, hH⟩ : ∃ H, H = s.heap := ⟨_, rfl⟩
  obtain ⟨locs, hlocs⟩ : ∃ x : List Loc, x = [] := ⟨_, rfl⟩
  rw [← hH] at hP
  have hS : va_S A s.heap H locs := by rw [hH, hlocs]; exact hS
  rw [show W p l e rmX7_often s m args below meth c s.heap [] 0 0 (MQ below (va_Qi Q (fun u t => kP D q (wR aR q u) t) A) args s 0 0 A) (F0 m 0 ls []) = W p l e rmX7_often s m args below meth c H locs 0 0 (MQ below (va_Qi Q (fun u t => kP D q (wR aR q u) t) A) args s 0 0 A) (F0 m 0 ls []) by rw [hH, hlocs]]
  clear hH hlocs
  have hf := hf
    (fun (y3 : Int32) (y4 : Int32) (tR : RSt) => ∀ (H : Heap) (locs : List Loc) (ls : Array Slot), va_P D vwCl (wR aR q tR) H → va_D A (wR aR q tR) → va_S A s.heap H locs → lv_has ls 7 [(0, .ref (aR 0)), (1, .int x1), (2, .int x2), (3, .int y3), (4, .int y4)] → W p l e rmX7_often s m args below meth c H locs 0 0 (MQ below (va_Qi Q (fun u t => kP D q (wR aR q u) t) A) args s 0 0 A) (F0 m 32 ls []))
    (fun (y3 : Int32) (y4 : Int32) (z0 : Int32) (tR : RSt) => ∀ (H : Heap) (locs : List Loc) (ls : Array Slot), va_P D vwCl (wR aR q tR) H → va_D A (wR aR q tR) → va_S A s.heap H locs → lv_has ls 7 [(0, .ref (aR 0)), (1, .int x1), (2, .int x2), (3, .int y3), (4, .int y4)] → W p l e rmX7_often s m args below meth c H locs 0 0 (MQ below (va_Qi Q (fun u t => kP D q (wR aR q u) t) A) args s 0 0 A) (F0 m 60 ls [.int z0]))
    (fun (y3 : Int32) (y4 : Int32) (y5 : Int32) (tR : RSt) => ∀ (H : Heap) (locs : List Loc) (ls : Array Slot), va_P D vwCl (wR aR q tR) H → va_D A (wR aR q tR) → va_S A s.heap H locs → lv_has ls 7 [(0, .ref (aR 0)), (1, .int x1), (2, .int x2), (3, .int y3), (4, .int y4), (5, .int y5)] → W p l e rmX7_often s m args below meth c H locs 0 0 (MQ below (va_Qi Q (fun u t => kP D q (wR aR q u) t) A) args s 0 0 A) (F0 m 115 ls []))
    (fun (y3 : Int32) (y4 : Int32) (y5 : Int32) (z0 : Int32) (tR : RSt) => ∀ (H : Heap) (locs : List Loc) (ls : Array Slot), va_P D vwCl (wR aR q tR) H → va_D A (wR aR q tR) → va_S A s.heap H locs → lv_has ls 7 [(0, .ref (aR 0)), (1, .int x1), (2, .int x2), (3, .int y3), (4, .int y4), (5, .int y5)] → W p l e rmX7_often s m args below meth c H locs 0 0 (MQ below (va_Qi Q (fun u t => kP D q (wR aR q u) t) A) args s 0 0 A) (F0 m 116 ls [.int z0]))
    (fun (y3 : Int32) (y4 : Int32) (tR : RSt) => ∀ (H : Heap) (locs : List Loc) (ls : Array Slot), va_P D vwCl (wR aR q tR) H → va_D A (wR aR q tR) → va_S A s.heap H locs → lv_has ls 7 [(0, .ref (aR 0)), (1, .int x1), (2, .int x2), (3, .int y3), (4, .int y4)] → W p l e rmX7_often s m args below meth c H locs 0 0 (MQ below (va_Qi Q (fun u t => kP D q (wR aR q u) t) A) args s 0 0 A) (F0 m 149 ls []))
    (fun (y4 : Int32) (tR : RSt) => ∀ (H : Heap) (locs : List Loc) (ls : Array Slot), va_P D vwCl (wR aR q tR) H → va_D A (wR aR q tR) → va_S A s.heap H locs → lv_has ls 7 [(0, .ref (aR 0)), (1, .int x1), (2, .int x2), (4, .int y4)] → W p l e rmX7_often s m args below meth c H locs 0 0 (MQ below (va_Qi Q (fun u t => kP D q (wR aR q u) t) A) args s 0 0 A) (F0 m 144 ls []))
    (by
      intro y3 y4 tR hf H locs ls hP hD hS hl
      refine lv_iload hx hb dX7_often_32 (lv_at hl 4 rfl) ?_
      refine lv_aload_n hx hb dX7_often_34 rfl (lv_at hl 0 rfl) ?_
      refine va_get (D := D) (ci := 5) (v := .int (gR_stateMany tR)) (C := RX7) (T := TX7) (N := 14) hx hb hts inX7_often_X7 hown hK hP 0 rfl rfl 3 (by decide) (hts (.fieldLink RX7 59 "GrowingTextModel" "stateMany" "I") (List.mem_of_getElem? (i := 2) rfl)) (fun _ h9 => h9) rfl dX7_often_35 ?_
      refine lv_icmp_ge (tgt := 157) hx hb dX7_often_38 (by decide) (fun c4 => ?_) (fun c4 => ?_)
      · have hf := hf.1 (c4)
        refine lv_aload_n hx hb dX7_often_157 rfl (lv_at hl 0 rfl) ?_
        refine lv_aload_n hx hb dX7_often_158 rfl (lv_at hl 0 rfl) ?_
        refine va_get (D := D) (ci := 5) (v := .ref (aR 5)) (C := RX7) (T := TX7) (N := 14) hx hb hts inX7_often_X7 hown hK hP 0 rfl rfl 7 (by decide) (hts (.fieldLink RX7 22 "GrowingTextModel" "ends" "[J") (List.mem_of_getElem? (i := 3) rfl)) (fun _ h9 => h9) rfl dX7_often_159 ?_
        refine lv_iload_n hx hb dX7_often_162 rfl (lv_at hl 3 rfl) ?_
        refine va_lald hx hb hK hP 5 1 (f := (gR_ends tR)) rfl rfl hf.1 dX7_often_163 ?_
        have hf := hf.2
        refine k_si (k_runS (As := [.long ((gR_ends tR) (y3 : Int32).toNatClampNeg)]) (rest := [.ref (aR 0)]) ⟨hx, hb, hml, hown, hts⟩ (c_X7_least l D q ((gR_ends tR) (y3 : Int32).toNatClampNeg) _ hf) (va_cwS 1 hts gX7_often_X7_least rfl rfl rfl cdX7_least ⟨Nat.le_of_ble_eq_true rfl, Nat.le_of_ble_eq_true rfl⟩) hK k_nilP k_nilD rfl hl.1 rfl (Nat.le_of_ble_eq_true rfl) dX7_often_164 ⟨Nat.le_of_ble_eq_true rfl, Nat.le_of_ble_eq_true rfl⟩) (fun r5 hf => ?_)
        refine lv_aload_n hx hb dX7_often_167 rfl (lv_at hl 0 rfl) ?_
        refine va_get (D := D) (ci := 5) (v := .ref (aR 2)) (C := RX7) (T := TX7) (N := 14) hx hb hts inX7_often_X7 hown hK hP 0 rfl rfl 4 (by decide) (hts (.fieldLink RX7 13 "GrowingTextModel" "longest" "[I") (List.mem_of_getElem? (i := 4) rfl)) (fun _ h9 => h9) rfl dX7_often_168 ?_
        refine lv_iload_n hx hb dX7_often_171 rfl (lv_at hl 3 rfl) ?_
        refine va_iald hx hb hK hP 2 0 (f := (gR_longest tR)) rfl rfl hf.1 dX7_often_172 ?_
        have hf := hf.2
        refine lv_iload_n hx hb dX7_often_173 rfl (lv_at hl 2 rfl) ?_
        refine k_wi (wf := fun u => wR aR q u) (u0 := tR) (k_runV (As := [.int r5, .int ((gR_longest tR) (y3 : Int32).toNatClampNeg), .int x2]) (rest := []) ⟨hx, hb, hml, hown, hts⟩ (c_X7_toSheet l D q aR tR r5 ((gR_longest tR) (y3 : Int32).toNatClampNeg) x2 _ hf) (cwV 3 hts gX7_often_X7_toSheet rfl rfl rfl cdX7_toSheet ⟨Nat.le_of_ble_eq_true rfl, Nat.le_of_ble_eq_true rfl⟩) hK hP hD 0 rfl rfl rfl hl.1 rfl (Nat.le_of_ble_eq_true rfl) dX7_often_174 ⟨Nat.le_of_ble_eq_true rfl, Nat.le_of_ble_eq_true rfl⟩) ([]) ([]) (fun _ => rfl) hP hD hS (fun r7 uR6 H locs hf hP hD hS => ?_)
        have hP : va_P D vwCl (wR aR q uR6) H := hP
        have hD : va_D A (wR aR q uR6) := hD
        exact k_iret_w (wf := (fun u => wR aR q u)) (post := Q) (u := uR6) (v := r7) hx hb hr hlocks hK hP hD hS hf dX7_often_177
      · have hf := hf.2 (c4)
        refine lv_aload_n hx hb dX7_often_41 rfl (lv_at hl 0 rfl) ?_
        refine va_get (D := D) (ci := 5) (v := .ref (aR 5)) (C := RX7) (T := TX7) (N := 14) hx hb hts inX7_often_X7 hown hK hP 0 rfl rfl 7 (by decide) (hts (.fieldLink RX7 22 "GrowingTextModel" "ends" "[J") (List.mem_of_getElem? (i := 3) rfl)) (fun _ h9 => h9) rfl dX7_often_42 ?_
        refine lv_iload hx hb dX7_often_45 (lv_at hl 4 rfl) ?_
        refine va_lald hx hb hK hP 5 1 (f := (gR_ends tR)) rfl rfl hf.1 dX7_often_47 ?_
        have hf := hf.2
        refine k_si (k_runS (As := [.long ((gR_ends tR) (y4 : Int32).toNatClampNeg)]) (rest := []) ⟨hx, hb, hml, hown, hts⟩ (c_X7_bits l D q ((gR_ends tR) (y4 : Int32).toNatClampNeg) _ hf) (va_cwS 1 hts gX7_often_X7_bits rfl rfl rfl cdX7_bits ⟨Nat.le_of_ble_eq_true rfl, Nat.le_of_ble_eq_true rfl⟩) hK k_nilP k_nilD rfl hl.1 rfl (Nat.le_of_ble_eq_true rfl) dX7_often_48 ⟨Nat.le_of_ble_eq_true rfl, Nat.le_of_ble_eq_true rfl⟩) (fun r8 hf => ?_)
        refine lv_iload_n hx hb dX7_often_51 rfl (lv_at hl 1 rfl) ?_
        refine lv_icmp_lt (tgt := 59) hx hb dX7_often_52 (by decide) (fun c9 => ?_) (fun c9 => ?_)
        · have hf := hf.1 (c9)
          refine lv_iconst (v := 0) hx hb dX7_often_59 (by decide) ?_
          exact hf H locs ls hP hD hS (lv_sub hl [0, 1, 2, 3, 4] rfl)
        · have hf := hf.2 (c9)
          refine lv_iconst (v := 1) hx hb dX7_often_55 (by decide) ?_
          refine lv_goto (tgt := 60) hx hb dX7_often_56 (by decide) ?_
          exact hf H locs ls hP hD hS (lv_sub hl [0, 1, 2, 3, 4] rfl))
    (by
      intro y3 y4 z0 tR hf H locs ls hP hD hS hl
      refine lv_istore (lv' := [(5, .int z0), (0, .ref (aR 0)), (1, .int x1), (2, .int x2), (3, .int y3), (4, .int y4)]) hx hb dX7_often_60 hl (by decide) rfl (fun ls hl => ?_)
      refine lv_aload_n hx hb dX7_often_62 rfl (lv_at hl 1 rfl) ?_
      refine va_get (D := D) (ci := 5) (v := .ref (aR 2)) (C := RX7) (T := TX7) (N := 14) hx hb hts inX7_often_X7 hown hK hP 0 rfl rfl 4 (by decide) (hts (.fieldLink RX7 13 "GrowingTextModel" "longest" "[I") (List.mem_of_getElem? (i := 4) rfl)) (fun _ h9 => h9) rfl dX7_often_63 ?_
      refine lv_iload hx hb dX7_often_66 (lv_at hl 5 rfl) ?_
      refine va_iald hx hb hK hP 2 0 (f := (gR_longest tR)) rfl rfl hf.1 dX7_often_68 ?_
      have hf := hf.2
      refine lv_aload_n hx hb dX7_often_69 rfl (lv_at hl 1 rfl) ?_
      refine va_get (D := D) (ci := 5) (v := .ref (aR 2)) (C := RX7) (T := TX7) (N := 14) hx hb hts inX7_often_X7 hown hK hP 0 rfl rfl 4 (by decide) (hts (.fieldLink RX7 13 "GrowingTextModel" "longest" "[I") (List.mem_of_getElem? (i := 4) rfl)) (fun _ h9 => h9) rfl dX7_often_70 ?_
      refine lv_iload_n hx hb dX7_often_73 rfl (lv_at hl 4 rfl) ?_
      refine va_iald hx hb hK hP 2 0 (f := (gR_longest tR)) rfl rfl hf.1 dX7_often_74 ?_
      have hf := hf.2
      refine lv_icmp_ne (tgt := 115) hx hb dX7_often_75 (by decide) (fun c10 => ?_) (fun c10 => ?_)
      · have hf := hf.2 (c10)
        exact hf H locs ls hP hD hS (lv_sub hl [1, 2, 3, 4, 5, 0] rfl)
      · have hf := hf.1 (c10)
        refine lv_aload_n hx hb dX7_often_78 rfl (lv_at hl 1 rfl) ?_
        refine lv_aload_n hx hb dX7_often_79 rfl (lv_at hl 1 rfl) ?_
        refine va_get (D := D) (ci := 5) (v := .ref (aR 5)) (C := RX7) (T := TX7) (N := 14) hx hb hts inX7_often_X7 hown hK hP 0 rfl rfl 7 (by decide) (hts (.fieldLink RX7 22 "GrowingTextModel" "ends" "[J") (List.mem_of_getElem? (i := 3) rfl)) (fun _ h9 => h9) rfl dX7_often_80 ?_
        refine lv_iload hx hb dX7_often_83 (lv_at hl 5 rfl) ?_
        refine va_lald hx hb hK hP 5 1 (f := (gR_ends tR)) rfl rfl hf.1 dX7_often_85 ?_
        have hf := hf.2
        refine k_si (k_runS (As := [.long ((gR_ends tR) (y4 : Int32).toNatClampNeg)]) (rest := [.ref (aR 0)]) ⟨hx, hb, hml, hown, hts⟩ (c_X7_least l D q ((gR_ends tR) (y4 : Int32).toNatClampNeg) _ hf) (va_cwS 1 hts gX7_often_X7_least rfl rfl rfl cdX7_least ⟨Nat.le_of_ble_eq_true rfl, Nat.le_of_ble_eq_true rfl⟩) hK k_nilP k_nilD rfl hl.1 rfl (Nat.le_of_ble_eq_true rfl) dX7_often_86 ⟨Nat.le_of_ble_eq_true rfl, Nat.le_of_ble_eq_true rfl⟩) (fun r11 hf => ?_)
        refine lv_aload_n hx hb dX7_often_89 rfl (lv_at hl 1 rfl) ?_
        refine va_get (D := D) (ci := 5) (v := .ref (aR 5)) (C := RX7) (T := TX7) (N := 14) hx hb hts inX7_often_X7 hown hK hP 0 rfl rfl 7 (by decide) (hts (.fieldLink RX7 22 "GrowingTextModel" "ends" "[J") (List.mem_of_getElem? (i := 3) rfl)) (fun _ h9 => h9) rfl dX7_often_90 ?_
        refine lv_iload_n hx hb dX7_often_93 rfl (lv_at hl 4 rfl) ?_
        refine va_lald hx hb hK hP 5 1 (f := (gR_ends tR)) rfl rfl hf.1 dX7_often_94 ?_
        have hf := hf.2
        refine k_si (k_runS (As := [.long ((gR_ends tR) (y3 : Int32).toNatClampNeg)]) (rest := [.int r11, .ref (aR 0)]) ⟨hx, hb, hml, hown, hts⟩ (c_X7_least l D q ((gR_ends tR) (y3 : Int32).toNatClampNeg) _ hf) (va_cwS 1 hts gX7_often_X7_least rfl rfl rfl cdX7_least ⟨Nat.le_of_ble_eq_true rfl, Nat.le_of_ble_eq_true rfl⟩) hK k_nilP k_nilD rfl hl.1 rfl (Nat.le_of_ble_eq_true rfl) dX7_often_95 ⟨Nat.le_of_ble_eq_true rfl, Nat.le_of_ble_eq_true rfl⟩) (fun r12 hf => ?_)
        refine lv_aload_n hx hb dX7_often_98 rfl (lv_at hl 1 rfl) ?_
        refine va_get (D := D) (ci := 5) (v := .ref (aR 2)) (C := RX7) (T := TX7) (N := 14) hx hb hts inX7_often_X7 hown hK hP 0 rfl rfl 4 (by decide) (hts (.fieldLink RX7 13 "GrowingTextModel" "longest" "[I") (List.mem_of_getElem? (i := 4) rfl)) (fun _ h9 => h9) rfl dX7_often_99 ?_
        refine lv_iload hx hb dX7_often_102 (lv_at hl 5 rfl) ?_
        refine va_iald hx hb hK hP 2 0 (f := (gR_longest tR)) rfl rfl hf.1 dX7_often_104 ?_
        have hf := hf.2
        refine k_si (k_runV (As := [.int r11, .int r12, .int ((gR_longest tR) (y4 : Int32).toNatClampNeg)]) (rest := []) ⟨hx, hb, hml, hown, hts⟩ (c_X7_isAhead l D q aR tR r11 r12 ((gR_longest tR) (y4 : Int32).toNatClampNeg) _ hf) (cwV 3 hts gX7_often_X7_isAhead rfl rfl rfl cdX7_isAhead ⟨Nat.le_of_ble_eq_true rfl, Nat.le_of_ble_eq_true rfl⟩) hK hP hD 0 rfl rfl rfl hl.1 rfl (Nat.le_of_ble_eq_true rfl) dX7_often_105 ⟨Nat.le_of_ble_eq_true rfl, Nat.le_of_ble_eq_true rfl⟩) (fun r13 hf => ?_)
        refine lv_if_eq (tgt := 115) hx hb dX7_often_108 (by decide) (fun c14 => ?_) (fun c14 => ?_)
        · have hf := hf.1 (c14)
          exact hf H locs ls hP hD hS (lv_sub hl [1, 2, 3, 4, 5, 0] rfl)
        · have hf := hf.2 (c14)
          refine lv_iconst (v := 1) hx hb dX7_often_111 (by decide) ?_
          refine lv_goto (tgt := 116) hx hb dX7_often_112 (by decide) ?_
          exact hf H locs ls hP hD hS (lv_sub hl [1, 2, 3, 4, 5, 0] rfl))
    (by
      intro y3 y4 y5 tR hf H locs ls hP hD hS hl
      refine lv_iconst (v := 0) hx hb dX7_often_115 (by decide) ?_
      exact hf H locs ls hP hD hS (lv_sub hl [0, 1, 2, 3, 4, 5] rfl))
    (by
      intro y3 y4 y5 z0 tR hf H locs ls hP hD hS hl
      refine lv_istore (lv' := [(6, .int z0), (0, .ref (aR 0)), (1, .int x1), (2, .int x2), (3, .int y3), (4, .int y4), (5, .int y5)]) hx hb dX7_often_116 hl (by decide) rfl (fun ls hl => ?_)
      refine lv_iload hx hb dX7_often_118 (lv_at hl 6 rfl) ?_
      refine lv_if_eq (tgt := 149) hx hb dX7_often_120 (by decide) (fun c15 => ?_) (fun c15 => ?_)
      · have hf := hf.1 (c15)
        exact hf H locs ls hP hD hS (lv_sub hl [1, 2, 3, 4, 5] rfl)
      · have hf := hf.2 (c15)
        refine lv_aload_n hx hb dX7_often_123 rfl (lv_at hl 1 rfl) ?_
        refine va_get (D := D) (ci := 5) (v := .ref (aR 2)) (C := RX7) (T := TX7) (N := 14) hx hb hts inX7_often_X7 hown hK hP 0 rfl rfl 4 (by decide) (hts (.fieldLink RX7 13 "GrowingTextModel" "longest" "[I") (List.mem_of_getElem? (i := 4) rfl)) (fun _ h9 => h9) rfl dX7_often_124 ?_
        refine lv_iload hx hb dX7_often_127 (lv_at hl 5 rfl) ?_
        refine va_iald hx hb hK hP 2 0 (f := (gR_longest tR)) rfl rfl hf.1 dX7_often_129 ?_
        have hf := hf.2
        refine lv_aload_n hx hb dX7_often_130 rfl (lv_at hl 1 rfl) ?_
        refine va_get (D := D) (ci := 5) (v := .ref (aR 2)) (C := RX7) (T := TX7) (N := 14) hx hb hts inX7_often_X7 hown hK hP 0 rfl rfl 4 (by decide) (hts (.fieldLink RX7 13 "GrowingTextModel" "longest" "[I") (List.mem_of_getElem? (i := 4) rfl)) (fun _ h9 => h9) rfl dX7_often_131 ?_
        refine lv_iload_n hx hb dX7_often_134 rfl (lv_at hl 4 rfl) ?_
        refine va_iald hx hb hK hP 2 0 (f := (gR_longest tR)) rfl rfl hf.1 dX7_often_135 ?_
        have hf := hf.2
        refine lv_icmp_gt (tgt := 144) hx hb dX7_often_136 (by decide) (fun c16 => ?_) (fun c16 => ?_)
        · have hf := hf.1 (c16)
          exact hf H locs ls hP hD hS (lv_sub hl [1, 2, 3, 5] rfl)
        · have hf := hf.2 (c16)
          refine lv_iload hx hb dX7_often_139 (lv_at hl 0 rfl) ?_
          refine lv_if_eq (tgt := 149) hx hb dX7_often_141 (by decide) (fun c17 => ?_) (fun c17 => ?_)
          · have hf := hf.1 (c17)
            exact hf H locs ls hP hD hS (lv_sub hl [1, 2, 3, 4, 5] rfl)
          · have hf := hf.2 (c17)
            exact hf H locs ls hP hD hS (lv_sub hl [1, 2, 3, 5] rfl))
    (by
      intro y3 y4 tR hf H locs ls hP hD hS hl
      refine lv_iload_n hx hb dX7_often_149 rfl (lv_at hl 3 rfl) ?_
      refine lv_istore_n (lv' := [(3, .int y3), (0, .ref (aR 0)), (1, .int x1), (2, .int x2), (4, .int y4)]) hx hb dX7_often_150 rfl hl (by decide) rfl (fun ls hl => ?_)
      refine lv_iinc (v := (y4 + 1)) (lv' := [(4, .int (y4 + 1)), (3, .int y3), (0, .ref (aR 0)), (1, .int x1), (2, .int x2)]) hx hb dX7_often_151 hl (k := 4) rfl rfl (by decide) rfl (fun ls hl => ?_)
      refine lv_goto (tgt := 32) hx hb dX7_often_154 (by decide) ?_
      exact hf H locs ls hP hD hS (lv_sub hl [2, 3, 4, 1, 0] rfl))
    (by
      intro y4 tR hf H locs ls hP hD hS hl
      refine lv_iload hx hb dX7_often_144 (lv_at hl 3 rfl) ?_
      refine lv_goto (tgt := 150) hx hb dX7_often_146 (by decide) ?_
      refine lv_istore_n (lv' := [(3, .int y4), (0, .ref (aR 0)), (1, .int x1), (2, .int x2), (4, .int y4)]) hx hb dX7_often_150 rfl hl (by decide) rfl (fun ls hl => ?_)
      refine lv_iinc (v := (y4 + 1)) (lv' := [(4, .int (y4 + 1)), (3, .int y4), (0, .ref (aR 0)), (1, .int x1), (2, .int x2)]) hx hb dX7_often_151 hl (k := 4) rfl rfl (by decide) rfl (fun ls hl => ?_)
      refine lv_goto (tgt := 32) hx hb dX7_often_154 (by decide) ?_
      exact hf H locs ls hP hD hS (lv_sub hl [2, 3, 4, 1, 0] rfl))
  refine lv_iload_n hx hb dX7_often_0 rfl (lv_at hl 1 rfl) ?_
  refine lv_iconst (v := 1) hx hb dX7_often_1 (by decide) ?_
  refine lv_icmp_lt (tgt := 12) hx hb dX7_often_2 (by decide) (fun c1 => ?_) (fun c1 => ?_)
  · have hf := hf.1 (c1)
    refine lv_iconst (v := (-1)) hx hb dX7_often_12 (by decide) ?_
    exact k_iret_w (wf := (fun u => wR aR q u)) (post := Q) (u := uR) (v := (-1)) hx hb hr hlocks hK hP hD hS hf dX7_often_13
  · have hf := hf.2 (c1)
    refine lv_iload_n hx hb dX7_often_5 rfl (lv_at hl 2 rfl) ?_
    refine k_si (k_runS (As := [.int x2]) (rest := []) ⟨hx, hb, hml, hown, hts⟩ (cF_X7_isSheet l D q x2) (va_cwS 1 hts gX7_often_X7_isSheet rfl rfl rfl cdX7_isSheet ⟨Nat.le_of_ble_eq_true rfl, Nat.le_of_ble_eq_true rfl⟩) hK k_nilP k_nilD rfl hl.1 rfl (Nat.le_of_ble_eq_true rfl) dX7_often_6 ⟨Nat.le_of_ble_eq_true rfl, Nat.le_of_ble_eq_true rfl⟩) (fun r hr => ?_)
    subst hr
    refine lv_if_ne (tgt := 14) hx hb dX7_often_9 (by decide) (fun c2 => ?_) (fun c2 => ?_)
    · have hf := hf.2 (c2)
      refine lv_iload_n hx hb dX7_often_14 rfl (lv_at hl 1 rfl) ?_
      refine lv_aload_n hx hb dX7_often_15 rfl (lv_at hl 0 rfl) ?_
      refine va_get (D := D) (ci := 5) (v := .int (gR_n uR)) (C := RX7) (T := TX7) (N := 14) hx hb hts inX7_often_X7 hown hK hP 0 rfl rfl 1 (by decide) (hts (.fieldLink RX7 56 "GrowingTextModel" "n" "I") (List.mem_of_getElem? (i := 1) rfl)) (fun _ h9 => h9) rfl dX7_often_16 ?_
      refine lv_iconst (v := 1) hx hb dX7_often_19 (by decide) ?_
      refine lv_iadd hx hb dX7_often_20 ?_
      refine lv_icmp_le (tgt := 27) hx hb dX7_often_21 (by decide) (fun c3 => ?_) (fun c3 => ?_)
      · have hf := hf.1 (c3)
        refine lv_iconst (v := 0) hx hb dX7_often_27 (by decide) ?_
        refine lv_istore_n (lv' := [(3, .int 0), (0, .ref (aR 0)), (1, .int x1), (2, .int x2)]) hx hb dX7_often_28 rfl hl (by decide) rfl (fun ls hl => ?_)
        refine lv_iconst (v := 1) hx hb dX7_often_29 (by decide) ?_
        refine lv_istore (lv' := [(4, .int 1), (3, .int 0), (0, .ref (aR 0)), (1, .int x1), (2, .int x2)]) hx hb dX7_often_30 hl (by decide) rfl (fun ls hl => ?_)
        exact hf H locs ls hP hD hS (lv_sub hl [2, 3, 4, 1, 0] rfl)
      · have hf := hf.2 (c3)
        refine lv_bipush (v := (-4)) hx hb dX7_often_24 (by decide) ?_
        exact k_iret_w (wf := (fun u => wR aR q u)) (post := Q) (u := uR) (v := (-4)) hx hb hr hlocks hK hP hD hS hf dX7_often_26
    · have hf := hf.1 (c2)
      refine lv_iconst (v := (-1)) hx hb dX7_often_12 (by decide) ?_
      exact k_iret_w (wf := (fun u => wR aR q u)) (post := Q) (u := uR) (v := (-1)) hx hb hr hlocks hK hP hD hS hf dX7_often_13
def wpX7_twice (uR : RSt) (x1 : Int32) (Q : Int32 → Prop) : Prop :=
  ∀ (X16 : Int32 → Prop),
  (∀ (y2 : Int32),
    (((gR_n uR) < y2 →
      Q (-4)) ∧
    (¬ ((gR_n uR) < y2) →
      wpX7_againAt uR y2 (fun r3 =>
        (r3 < x1 →
          X16 (y2 + 1)) ∧
        (¬ (r3 < x1) →
          Q y2)))) → X16 y2) →
  (((fX7_in x1 1 60) = 0 →
    Q (-1)) ∧
  (¬ ((fX7_in x1 1 60) = 0) →
    X16 (x1 + 1)))
def rmX7_twice : Room := { frames := 2, cells := 0, slots := 0, locals := 46 }
theorem inX7_twice_X7 : ∀ w ∈ wsX70, w ∈ wsX7_twice := fun w h => List.mem_cons_of_mem _ (List.mem_append_right _ h)
set_option maxRecDepth 100000 in
set_option maxHeartbeats 4000000 in
theorem c_X7_twice (l : Launch) (D : va_G) (q : Nat → ClassId) (aR : Nat → Nat) (uR : RSt) (x1 : Int32) (Q : Int32 → Prop) (hf : wpX7_twice uR x1 Q) : Met l yX7_twice wsX7_twice rmX7_twice (va_Pc [.ref (aR 0), .int x1] (kP D q (wR aR q uR))) (vp_Si Q) 0 0 (fun _ => False) := by
  refine Met.ofW (cc := cX7_twice) (maxL := 3) (ret := (some .int)) (by decide) rfl ?_
  intro p e s m args below meth c s₁ B hml hv
  obtain ⟨hargs, hP, hK, hD⟩ := hv
  have hx := B.exec
  have hb := B.bytes
  have hr := B.returns
  have hts := atoms_spec (ws := wsX7_twice) B.pre
  have hown : s.vm.findClass RX7 = some m.cls := findClass_of_methodNamed B.named
  have hlocks := B.notSynchronized
  refine k_entry hargs (Nat.le_of_ble_eq_true rfl) (fun ls hl => ?_)
  have hl : lv_has ls 3 [(0, .ref (aR 0)), (1, .int x1)] := hl
  change W p l e rmX7_twice s m args below meth c s.heap [] 0 0 (MQ below (vp_Si Q) args s 0 0 (fun _ => False)) _
  unfold wpX7_twice at hf
  have hf := hf
    (fun (y2 : Int32) => ∀ (ls : Array Slot), lv_has ls 3 [(0, .ref (aR 0)), (1, .int x1), (2, .int y2)] → W p l e rmX7_twice s m args below meth c s.heap [] 0 0 (MQ below (vp_Si Q) args s 0 0 (fun _ => False)) (F0 m 16 ls []))
    (by
      intro y2 hf ls hl
      refine lv_iload_n hx hb dX7_twice_16 rfl (lv_at hl 2 rfl) ?_
      refine lv_aload_n hx hb dX7_twice_17 rfl (lv_at hl 0 rfl) ?_
      refine va_get (D := D) (ci := 5) (v := .int (gR_n uR)) (C := RX7) (T := TX7) (N := 14) hx hb hts inX7_twice_X7 hown hK hP 0 rfl rfl 1 (by decide) (hts (.fieldLink RX7 56 "GrowingTextModel" "n" "I") (List.mem_of_getElem? (i := 1) rfl)) (fun _ h9 => h9) rfl dX7_twice_18 ?_
      refine lv_icmp_gt (tgt := 41) hx hb dX7_twice_21 (by decide) (fun c2 => ?_) (fun c2 => ?_)
      · have hf := hf.1 (c2)
        refine lv_bipush (v := (-4)) hx hb dX7_twice_41 (by decide) ?_
        exact k_iret_r (v := (-4)) hx hb hr hlocks hf dX7_twice_43
      · have hf := hf.2 (c2)
        refine lv_aload_n hx hb dX7_twice_24 rfl (lv_at hl 0 rfl) ?_
        refine lv_iload_n hx hb dX7_twice_25 rfl (lv_at hl 2 rfl) ?_
        refine k_si (k_runV (As := [.int y2]) (rest := []) ⟨hx, hb, hml, hown, hts⟩ (c_X7_againAt l D q aR uR y2 _ hf) (cwV 1 hts gX7_twice_X7_againAt rfl rfl rfl cdX7_againAt ⟨Nat.le_of_ble_eq_true rfl, Nat.le_of_ble_eq_true rfl⟩) hK hP hD 0 rfl rfl rfl hl.1 rfl (Nat.le_of_ble_eq_true rfl) dX7_twice_26 ⟨Nat.le_of_ble_eq_true rfl, Nat.le_of_ble_eq_true rfl⟩) (fun r3 hf => ?_)
        refine lv_iload_n hx hb dX7_twice_29 rfl (lv_at hl 1 rfl) ?_
        refine lv_icmp_lt (tgt := 35) hx hb dX7_twice_30 (by decide) (fun c4 => ?_) (fun c4 => ?_)
        · have hf := hf.1 (c4)
          refine lv_iinc (v := (y2 + 1)) (lv' := [(2, .int (y2 + 1)), (0, .ref (aR 0)), (1, .int x1)]) hx hb dX7_twice_35 hl (k := 2) rfl rfl (by decide) rfl (fun ls hl => ?_)
          refine lv_goto (tgt := 16) hx hb dX7_twice_38 (by decide) ?_
          exact hf ls (lv_sub hl [1, 2, 0] rfl)
        · have hf := hf.2 (c4)
          refine lv_iload_n hx hb dX7_twice_33 rfl (lv_at hl 2 rfl) ?_
          exact k_iret_r (v := y2) hx hb hr hlocks hf dX7_twice_34)
  refine lv_iload_n hx hb dX7_twice_0 rfl (lv_at hl 1 rfl) ?_
  refine lv_iconst (v := 1) hx hb dX7_twice_1 (by decide) ?_
  refine lv_bipush (v := 60) hx hb dX7_twice_2 (by decide) ?_
  refine k_si (k_runS (As := [.int x1, .int 1, .int 60]) (rest := []) ⟨hx, hb, hml, hown, hts⟩ (cF_X7_in l D q x1 1 60) (va_cwS 3 hts gX7_twice_X7_in rfl rfl rfl cdX7_in ⟨Nat.le_of_ble_eq_true rfl, Nat.le_of_ble_eq_true rfl⟩) hK k_nilP k_nilD rfl hl.1 rfl (Nat.le_of_ble_eq_true rfl) dX7_twice_4 ⟨Nat.le_of_ble_eq_true rfl, Nat.le_of_ble_eq_true rfl⟩) (fun r hr => ?_)
  subst hr
  refine lv_if_ne (tgt := 12) hx hb dX7_twice_7 (by decide) (fun c1 => ?_) (fun c1 => ?_)
  · have hf := hf.2 (c1)
    refine lv_iload_n hx hb dX7_twice_12 rfl (lv_at hl 1 rfl) ?_
    refine lv_iconst (v := 1) hx hb dX7_twice_13 (by decide) ?_
    refine lv_iadd hx hb dX7_twice_14 ?_
    refine lv_istore_n (lv' := [(2, .int (x1 + 1)), (0, .ref (aR 0)), (1, .int x1)]) hx hb dX7_twice_15 rfl hl (by decide) rfl (fun ls hl => ?_)
    exact hf ls (lv_sub hl [1, 2, 0] rfl)
  · have hf := hf.1 (c1)
    refine lv_iconst (v := (-1)) hx hb dX7_twice_10 (by decide) ?_
    exact k_iret_r (v := (-1)) hx hb hr hlocks hf dX7_twice_11
def wpX7_unlike (uR : RSt) (x1 : Int32) (Q : Int32 → Prop) : Prop :=
  ∀ (X18 : Int32 → Int32 → Prop),
  (∀ (y2 : Int32) (y3 : Int32),
    ((x1 < y3 →
      Q y2) ∧
    (¬ (x1 < y3) →
      wpX7_unlikeOf uR y3 x1 (fun r3 =>
        X18 (y2 + r3) (y3 + 1)))) → X18 y2 y3) →
  (((fX7_in x1 0 (gR_n uR)) = 0 →
    Q (-1)) ∧
  (¬ ((fX7_in x1 0 (gR_n uR)) = 0) →
    X18 0 1))
def rmX7_unlike : Room := { frames := 2, cells := 0, slots := 0, locals := 49 }
theorem inX7_unlike_X7 : ∀ w ∈ wsX70, w ∈ wsX7_unlike := fun w h => List.mem_cons_of_mem _ (List.mem_append_right _ h)
set_option maxRecDepth 100000 in
set_option maxHeartbeats 4000000 in
theorem c_X7_unlike (l : Launch) (D : va_G) (q : Nat → ClassId) (aR : Nat → Nat) (uR : RSt) (x1 : Int32) (Q : Int32 → Prop) (hf : wpX7_unlike uR x1 Q) : Met l yX7_unlike wsX7_unlike rmX7_unlike (va_Pc [.ref (aR 0), .int x1] (kP D q (wR aR q uR))) (vp_Si Q) 0 0 (fun _ => False) := by
  refine Met.ofW (cc := cX7_unlike) (maxL := 4) (ret := (some .int)) (by decide) rfl ?_
  intro p e s m args below meth c s₁ B hml hv
  obtain ⟨hargs, hP, hK, hD⟩ := hv
  have hx := B.exec
  have hb := B.bytes
  have hr := B.returns
  have hts := atoms_spec (ws := wsX7_unlike) B.pre
  have hown : s.vm.findClass RX7 = some m.cls := findClass_of_methodNamed B.named
  have hlocks := B.notSynchronized
  refine k_entry hargs (Nat.le_of_ble_eq_true rfl) (fun ls hl => ?_)
  have hl : lv_has ls 4 [(0, .ref (aR 0)), (1, .int x1)] := hl
  change W p l e rmX7_unlike s m args below meth c s.heap [] 0 0 (MQ below (vp_Si Q) args s 0 0 (fun _ => False)) _
  unfold wpX7_unlike at hf
  have hf := hf
    (fun (y2 : Int32) (y3 : Int32) => ∀ (ls : Array Slot), lv_has ls 4 [(0, .ref (aR 0)), (1, .int x1), (2, .int y2), (3, .int y3)] → W p l e rmX7_unlike s m args below meth c s.heap [] 0 0 (MQ below (vp_Si Q) args s 0 0 (fun _ => False)) (F0 m 18 ls []))
    (by
      intro y2 y3 hf ls hl
      refine lv_iload_n hx hb dX7_unlike_18 rfl (lv_at hl 3 rfl) ?_
      refine lv_iload_n hx hb dX7_unlike_19 rfl (lv_at hl 1 rfl) ?_
      refine lv_icmp_gt (tgt := 38) hx hb dX7_unlike_20 (by decide) (fun c2 => ?_) (fun c2 => ?_)
      · have hf := hf.1 (c2)
        refine lv_iload_n hx hb dX7_unlike_38 rfl (lv_at hl 2 rfl) ?_
        exact k_iret_r (v := y2) hx hb hr hlocks hf dX7_unlike_39
      · have hf := hf.2 (c2)
        refine lv_iload_n hx hb dX7_unlike_23 rfl (lv_at hl 2 rfl) ?_
        refine lv_aload_n hx hb dX7_unlike_24 rfl (lv_at hl 0 rfl) ?_
        refine lv_iload_n hx hb dX7_unlike_25 rfl (lv_at hl 3 rfl) ?_
        refine lv_iload_n hx hb dX7_unlike_26 rfl (lv_at hl 1 rfl) ?_
        refine k_si (k_runV (As := [.int y3, .int x1]) (rest := [.int y2]) ⟨hx, hb, hml, hown, hts⟩ (c_X7_unlikeOf l D q aR uR y3 x1 _ hf) (cwV 2 hts gX7_unlike_X7_unlikeOf rfl rfl rfl cdX7_unlikeOf ⟨Nat.le_of_ble_eq_true rfl, Nat.le_of_ble_eq_true rfl⟩) hK hP hD 0 rfl rfl rfl hl.1 rfl (Nat.le_of_ble_eq_true rfl) dX7_unlike_27 ⟨Nat.le_of_ble_eq_true rfl, Nat.le_of_ble_eq_true rfl⟩) (fun r3 hf => ?_)
        refine lv_iadd hx hb dX7_unlike_30 ?_
        refine lv_istore_n (lv' := [(2, .int (y2 + r3)), (0, .ref (aR 0)), (1, .int x1), (3, .int y3)]) hx hb dX7_unlike_31 rfl hl (by decide) rfl (fun ls hl => ?_)
        refine lv_iinc (v := (y3 + 1)) (lv' := [(3, .int (y3 + 1)), (2, .int (y2 + r3)), (0, .ref (aR 0)), (1, .int x1)]) hx hb dX7_unlike_32 hl (k := 3) rfl rfl (by decide) rfl (fun ls hl => ?_)
        refine lv_goto (tgt := 18) hx hb dX7_unlike_35 (by decide) ?_
        exact hf ls (lv_sub hl [2, 3, 1, 0] rfl))
  refine lv_iload_n hx hb dX7_unlike_0 rfl (lv_at hl 1 rfl) ?_
  refine lv_iconst (v := 0) hx hb dX7_unlike_1 (by decide) ?_
  refine lv_aload_n hx hb dX7_unlike_2 rfl (lv_at hl 0 rfl) ?_
  refine va_get (D := D) (ci := 5) (v := .int (gR_n uR)) (C := RX7) (T := TX7) (N := 14) hx hb hts inX7_unlike_X7 hown hK hP 0 rfl rfl 1 (by decide) (hts (.fieldLink RX7 56 "GrowingTextModel" "n" "I") (List.mem_of_getElem? (i := 1) rfl)) (fun _ h9 => h9) rfl dX7_unlike_3 ?_
  refine k_si (k_runS (As := [.int x1, .int 0, .int (gR_n uR)]) (rest := []) ⟨hx, hb, hml, hown, hts⟩ (cF_X7_in l D q x1 0 (gR_n uR)) (va_cwS 3 hts gX7_unlike_X7_in rfl rfl rfl cdX7_in ⟨Nat.le_of_ble_eq_true rfl, Nat.le_of_ble_eq_true rfl⟩) hK k_nilP k_nilD rfl hl.1 rfl (Nat.le_of_ble_eq_true rfl) dX7_unlike_6 ⟨Nat.le_of_ble_eq_true rfl, Nat.le_of_ble_eq_true rfl⟩) (fun r hr => ?_)
  subst hr
  refine lv_if_ne (tgt := 14) hx hb dX7_unlike_9 (by decide) (fun c1 => ?_) (fun c1 => ?_)
  · have hf := hf.2 (c1)
    refine lv_iconst (v := 0) hx hb dX7_unlike_14 (by decide) ?_
    refine lv_istore_n (lv' := [(2, .int 0), (0, .ref (aR 0)), (1, .int x1)]) hx hb dX7_unlike_15 rfl hl (by decide) rfl (fun ls hl => ?_)
    refine lv_iconst (v := 1) hx hb dX7_unlike_16 (by decide) ?_
    refine lv_istore_n (lv' := [(3, .int 1), (2, .int 0), (0, .ref (aR 0)), (1, .int x1)]) hx hb dX7_unlike_17 rfl hl (by decide) rfl (fun ls hl => ?_)
    exact hf ls (lv_sub hl [2, 3, 1, 0] rfl)
  · have hf := hf.1 (c1)
    refine lv_iconst (v := (-1)) hx hb dX7_unlike_12 (by decide) ?_
    exact k_iret_r (v := (-1)) hx hb hr hlocks hf dX7_unlike_13
def wpX7_single (uR : RSt) (x1 : Int32) (Q : Int32 → RSt → Prop) : Prop :=
  ∀ (X21 : Int32 → Int32 → Int32 → RSt → Prop) (X92 : Int32 → Int32 → Int32 → Int32 → RSt → Prop) (X96 : Int32 → Int32 → Int32 → Int32 → RSt → Prop) (X97 : Int32 → Int32 → Int32 → Int32 → Int32 → RSt → Prop) (X110 : Int32 → Int32 → Int32 → Int32 → Int32 → RSt → Prop),
  (∀ (y2 : Int32) (y3 : Int32) (y4 : Int32) (tR : RSt),
    (((gR_stateMany tR) ≤ y4 →
      vp_in y2 121 ∧
      wpX7_least ((gR_ends tR) (y2 : Int32).toNatClampNeg) (fun r3 =>
        wpX7_toSheet tR r3 y3 x1 (fun r5 uR4 =>
          Q r5 uR4))) ∧
    (¬ ((gR_stateMany tR) ≤ y4) →
      vp_in y4 121 ∧
      wpX7_bits ((gR_ends tR) (y4 : Int32).toNatClampNeg) (fun r6 =>
        (r6 = 1 →
          wpX7_shortest tR y4 (fun r8 =>
            (r8 < y3 →
              X92 y2 y3 y4 r8 tR) ∧
            (¬ (r8 < y3) →
              (r8 = y3 →
                vp_in y4 121 ∧
                wpX7_least ((gR_ends tR) (y4 : Int32).toNatClampNeg) (fun r11 =>
                  vp_in y2 121 ∧
                  wpX7_least ((gR_ends tR) (y2 : Int32).toNatClampNeg) (fun r12 =>
                    wpX7_isAhead tR r11 r12 r8 (fun r13 =>
                      (r13 = 0 →
                        X96 y2 y3 y4 r8 tR) ∧
                      (¬ (r13 = 0) →
                        X92 y2 y3 y4 r8 tR))))) ∧
              (¬ (r8 = y3) →
                X96 y2 y3 y4 r8 tR)))) ∧
        (¬ (r6 = 1) →
          X21 y2 y3 (y4 + 1) tR)))) → X21 y2 y3 y4 tR) →
  (∀ (y2 : Int32) (y3 : Int32) (y4 : Int32) (y5 : Int32) (tR : RSt),
    X97 y2 y3 y4 y5 1 tR → X92 y2 y3 y4 y5 tR) →
  (∀ (y2 : Int32) (y3 : Int32) (y4 : Int32) (y5 : Int32) (tR : RSt),
    X97 y2 y3 y4 y5 0 tR → X96 y2 y3 y4 y5 tR) →
  (∀ (y2 : Int32) (y3 : Int32) (y4 : Int32) (y5 : Int32) (z0 : Int32) (tR : RSt),
    ((z0 = 0 →
      X110 y3 y4 y5 z0 y2 tR) ∧
    (¬ (z0 = 0) →
      X110 y3 y4 y5 z0 y4 tR)) → X97 y2 y3 y4 y5 z0 tR) →
  (∀ (y3 : Int32) (y4 : Int32) (y5 : Int32) (y6 : Int32) (z0 : Int32) (tR : RSt),
    ((y6 = 0 →
      X21 z0 y3 (y4 + 1) tR) ∧
    (¬ (y6 = 0) →
      X21 z0 y5 (y4 + 1) tR)) → X110 y3 y4 y5 y6 z0 tR) →
  (((fX7_isSheet x1) = 0 →
    Q (-1) uR) ∧
  (¬ ((fX7_isSheet x1) = 0) →
    X21 0 ((gR_n uR) + 1) 0 uR))
def rmX7_single : Room := { frames := 2, cells := 0, slots := 0, locals := 45 }
theorem inX7_single_X7 : ∀ w ∈ wsX70, w ∈ wsX7_single := fun w h => List.mem_cons_of_mem _ (List.mem_append_right _ h)
set_option maxRecDepth 100000 in
set_option maxHeartbeats 4000000 in
theorem c_X7_single (l : Launch) (D : va_G) (q : Nat → ClassId) (aR : Nat → Nat) (uR : RSt) (x1 : Int32) (Q : Int32 → RSt → Prop) (hf : wpX7_single uR x1 Q) : Met l yX7_single wsX7_single rmX7_single (va_Pc [.ref (aR 0), .int x1] (kP D q (wR aR q uR))) (va_Qi Q (fun u t => kP D q (wR aR q u) t) (kIn (wR aR q uR))) 0 0 (kIn (wR aR q uR)) := by
  refine Met.ofW (cc := cX7_single) (maxL := 7) (ret := (some .int)) (by decide) rfl ?_
  intro p e s m args below meth c s₁ B hml hv
  obtain ⟨hargs, hP, hK, hD⟩ := hv
  have hx := B.exec
  have hb := B.bytes
  have hr := B.returns
  have hts := atoms_spec (ws := wsX7_single) B.pre
  have hown : s.vm.findClass RX7 = some m.cls := findClass_of_methodNamed B.named
  have hlocks := B.notSynchronized
  have hD := kd_self hD
  generalize kIn (wR aR q uR) = A at hD ⊢
  have hS : va_S A s.heap s.heap [] := va_S.rf
  refine k_entry hargs (Nat.le_of_ble_eq_true rfl) (fun ls hl => ?_)
  have hl : lv_has ls 7 [(0, .ref (aR 0)), (1, .int x1)] := hl
  change W p l e rmX7_single s m args below meth c s.heap [] 0 0 (MQ below (va_Qi Q (fun u t => kP D q (wR aR q u) t) A) args s 0 0 A) _
  unfold wpX7_single at hf
  obtain ⟨H, hH⟩ : ∃ H, H = s.heap := ⟨_, rfl⟩
  obtain ⟨locs, hlocs⟩ : ∃ x : List Loc, x = [] := ⟨_, rfl⟩
  rw [← hH] at hP
  have hS : va_S A s.heap H locs := by rw [hH, hlocs]; exact hS
  rw [show W p l e rmX7_single s m args below meth c s.heap [] 0 0 (MQ below (va_Qi Q (fun u t => kP D q (wR aR q u) t) A) args s 0 0 A) (F0 m 0 ls []) = W p l e rmX7_single s m args below meth c H locs 0 0 (MQ below (va_Qi Q (fun u t => kP D q (wR aR q u) t) A) args s 0 0 A) (F0 m 0 ls []) by rw [hH, hlocs]]
  clear hH hlocs
  have hf := hf
    (fun (y2 : Int32) (y3 : Int32) (y4 : Int32) (tR : RSt) => ∀ (H : Heap) (locs : List Loc) (ls : Array Slot), va_P D vwCl (wR aR q tR) H → va_D A (wR aR q tR) → va_S A s.heap H locs → lv_has ls 7 [(0, .ref (aR 0)), (1, .int x1), (2, .int y2), (3, .int y3), (4, .int y4)] → W p l e rmX7_single s m args below meth c H locs 0 0 (MQ below (va_Qi Q (fun u t => kP D q (wR aR q u) t) A) args s 0 0 A) (F0 m 21 ls []))
    (fun (y2 : Int32) (y3 : Int32) (y4 : Int32) (y5 : Int32) (tR : RSt) => ∀ (H : Heap) (locs : List Loc) (ls : Array Slot), va_P D vwCl (wR aR q tR) H → va_D A (wR aR q tR) → va_S A s.heap H locs → lv_has ls 7 [(0, .ref (aR 0)), (1, .int x1), (2, .int y2), (3, .int y3), (4, .int y4), (5, .int y5)] → W p l e rmX7_single s m args below meth c H locs 0 0 (MQ below (va_Qi Q (fun u t => kP D q (wR aR q u) t) A) args s 0 0 A) (F0 m 92 ls []))
    (fun (y2 : Int32) (y3 : Int32) (y4 : Int32) (y5 : Int32) (tR : RSt) => ∀ (H : Heap) (locs : List Loc) (ls : Array Slot), va_P D vwCl (wR aR q tR) H → va_D A (wR aR q tR) → va_S A s.heap H locs → lv_has ls 7 [(0, .ref (aR 0)), (1, .int x1), (2, .int y2), (3, .int y3), (4, .int y4), (5, .int y5)] → W p l e rmX7_single s m args below meth c H locs 0 0 (MQ below (va_Qi Q (fun u t => kP D q (wR aR q u) t) A) args s 0 0 A) (F0 m 96 ls []))
    (fun (y2 : Int32) (y3 : Int32) (y4 : Int32) (y5 : Int32) (z0 : Int32) (tR : RSt) => ∀ (H : Heap) (locs : List Loc) (ls : Array Slot), va_P D vwCl (wR aR q tR) H → va_D A (wR aR q tR) → va_S A s.heap H locs → lv_has ls 7 [(0, .ref (aR 0)), (1, .int x1), (2, .int y2), (3, .int y3), (4, .int y4), (5, .int y5)] → W p l e rmX7_single s m args below meth c H locs 0 0 (MQ below (va_Qi Q (fun u t => kP D q (wR aR q u) t) A) args s 0 0 A) (F0 m 97 ls [.int z0]))
    (fun (y3 : Int32) (y4 : Int32) (y5 : Int32) (y6 : Int32) (z0 : Int32) (tR : RSt) => ∀ (H : Heap) (locs : List Loc) (ls : Array Slot), va_P D vwCl (wR aR q tR) H → va_D A (wR aR q tR) → va_S A s.heap H locs → lv_has ls 7 [(0, .ref (aR 0)), (1, .int x1), (3, .int y3), (4, .int y4), (5, .int y5), (6, .int y6)] → W p l e rmX7_single s m args below meth c H locs 0 0 (MQ below (va_Qi Q (fun u t => kP D q (wR aR q u) t) A) args s 0 0 A) (F0 m 110 ls [.int z0]))
    (by
      intro y2 y3 y4 tR hf H locs ls hP hD hS hl
      refine lv_iload hx hb dX7_single_21 (lv_at hl 4 rfl) ?_
      refine lv_aload_n hx hb dX7_single_23 rfl (lv_at hl 0 rfl) ?_
      refine va_get (D := D) (ci := 5) (v := .int (gR_stateMany tR)) (C := RX7) (T := TX7) (N := 14) hx hb hts inX7_single_X7 hown hK hP 0 rfl rfl 3 (by decide) (hts (.fieldLink RX7 59 "GrowingTextModel" "stateMany" "I") (List.mem_of_getElem? (i := 2) rfl)) (fun _ h9 => h9) rfl dX7_single_24 ?_
      refine lv_icmp_ge (tgt := 129) hx hb dX7_single_27 (by decide) (fun c2 => ?_) (fun c2 => ?_)
      · have hf := hf.1 (c2)
        refine lv_aload_n hx hb dX7_single_129 rfl (lv_at hl 0 rfl) ?_
        refine lv_aload_n hx hb dX7_single_130 rfl (lv_at hl 0 rfl) ?_
        refine va_get (D := D) (ci := 5) (v := .ref (aR 5)) (C := RX7) (T := TX7) (N := 14) hx hb hts inX7_single_X7 hown hK hP 0 rfl rfl 7 (by decide) (hts (.fieldLink RX7 22 "GrowingTextModel" "ends" "[J") (List.mem_of_getElem? (i := 3) rfl)) (fun _ h9 => h9) rfl dX7_single_131 ?_
        refine lv_iload_n hx hb dX7_single_134 rfl (lv_at hl 2 rfl) ?_
        refine va_lald hx hb hK hP 5 1 (f := (gR_ends tR)) rfl rfl hf.1 dX7_single_135 ?_
        have hf := hf.2
        refine k_si (k_runS (As := [.long ((gR_ends tR) (y2 : Int32).toNatClampNeg)]) (rest := [.ref (aR 0)]) ⟨hx, hb, hml, hown, hts⟩ (c_X7_least l D q ((gR_ends tR) (y2 : Int32).toNatClampNeg) _ hf) (va_cwS 1 hts gX7_single_X7_least rfl rfl rfl cdX7_least ⟨Nat.le_of_ble_eq_true rfl, Nat.le_of_ble_eq_true rfl⟩) hK k_nilP k_nilD rfl hl.1 rfl (Nat.le_of_ble_eq_true rfl) dX7_single_136 ⟨Nat.le_of_ble_eq_true rfl, Nat.le_of_ble_eq_true rfl⟩) (fun r3 hf => ?_)
        refine lv_iload_n hx hb dX7_single_139 rfl (lv_at hl 3 rfl) ?_
        refine lv_iload_n hx hb dX7_single_140 rfl (lv_at hl 1 rfl) ?_
        refine k_wi (wf := fun u => wR aR q u) (u0 := tR) (k_runV (As := [.int r3, .int y3, .int x1]) (rest := []) ⟨hx, hb, hml, hown, hts⟩ (c_X7_toSheet l D q aR tR r3 y3 x1 _ hf) (cwV 3 hts gX7_single_X7_toSheet rfl rfl rfl cdX7_toSheet ⟨Nat.le_of_ble_eq_true rfl, Nat.le_of_ble_eq_true rfl⟩) hK hP hD 0 rfl rfl rfl hl.1 rfl (Nat.le_of_ble_eq_true rfl) dX7_single_141 ⟨Nat.le_of_ble_eq_true rfl, Nat.le_of_ble_eq_true rfl⟩) ([]) ([]) (fun _ => rfl) hP hD hS (fun r5 uR4 H locs hf hP hD hS => ?_)
        have hP : va_P D vwCl (wR aR q uR4) H := hP
        have hD : va_D A (wR aR q uR4) := hD
        exact k_iret_w (wf := (fun u => wR aR q u)) (post := Q) (u := uR4) (v := r5) hx hb hr hlocks hK hP hD hS hf dX7_single_144
      · have hf := hf.2 (c2)
        refine lv_aload_n hx hb dX7_single_30 rfl (lv_at hl 0 rfl) ?_
        refine va_get (D := D) (ci := 5) (v := .ref (aR 5)) (C := RX7) (T := TX7) (N := 14) hx hb hts inX7_single_X7 hown hK hP 0 rfl rfl 7 (by decide) (hts (.fieldLink RX7 22 "GrowingTextModel" "ends" "[J") (List.mem_of_getElem? (i := 3) rfl)) (fun _ h9 => h9) rfl dX7_single_31 ?_
        refine lv_iload hx hb dX7_single_34 (lv_at hl 4 rfl) ?_
        refine va_lald hx hb hK hP 5 1 (f := (gR_ends tR)) rfl rfl hf.1 dX7_single_36 ?_
        have hf := hf.2
        refine k_si (k_runS (As := [.long ((gR_ends tR) (y4 : Int32).toNatClampNeg)]) (rest := []) ⟨hx, hb, hml, hown, hts⟩ (c_X7_bits l D q ((gR_ends tR) (y4 : Int32).toNatClampNeg) _ hf) (va_cwS 1 hts gX7_single_X7_bits rfl rfl rfl cdX7_bits ⟨Nat.le_of_ble_eq_true rfl, Nat.le_of_ble_eq_true rfl⟩) hK k_nilP k_nilD rfl hl.1 rfl (Nat.le_of_ble_eq_true rfl) dX7_single_37 ⟨Nat.le_of_ble_eq_true rfl, Nat.le_of_ble_eq_true rfl⟩) (fun r6 hf => ?_)
        refine lv_iconst (v := 1) hx hb dX7_single_40 (by decide) ?_
        refine lv_icmp_ne (tgt := 123) hx hb dX7_single_41 (by decide) (fun c7 => ?_) (fun c7 => ?_)
        · have hf := hf.2 (c7)
          refine lv_iinc (v := (y4 + 1)) (lv' := [(4, .int (y4 + 1)), (0, .ref (aR 0)), (1, .int x1), (2, .int y2), (3, .int y3)]) hx hb dX7_single_123 hl (k := 4) rfl rfl (by decide) rfl (fun ls hl => ?_)
          refine lv_goto (tgt := 21) hx hb dX7_single_126 (by decide) ?_
          exact hf H locs ls hP hD hS (lv_sub hl [1, 2, 3, 4, 0] rfl)
        · have hf := hf.1 (c7)
          refine lv_aload_n hx hb dX7_single_44 rfl (lv_at hl 0 rfl) ?_
          refine lv_iload hx hb dX7_single_45 (lv_at hl 4 rfl) ?_
          refine k_si (k_runV (As := [.int y4]) (rest := []) ⟨hx, hb, hml, hown, hts⟩ (c_X7_shortest l D q aR tR y4 _ hf) (cwV 1 hts gX7_single_X7_shortest rfl rfl rfl cdX7_shortest ⟨Nat.le_of_ble_eq_true rfl, Nat.le_of_ble_eq_true rfl⟩) hK hP hD 0 rfl rfl rfl hl.1 rfl (Nat.le_of_ble_eq_true rfl) dX7_single_47 ⟨Nat.le_of_ble_eq_true rfl, Nat.le_of_ble_eq_true rfl⟩) (fun r8 hf => ?_)
          refine lv_istore (lv' := [(5, .int r8), (0, .ref (aR 0)), (1, .int x1), (2, .int y2), (3, .int y3), (4, .int y4)]) hx hb dX7_single_50 hl (by decide) rfl (fun ls hl => ?_)
          refine lv_iload hx hb dX7_single_52 (lv_at hl 0 rfl) ?_
          refine lv_iload_n hx hb dX7_single_54 rfl (lv_at hl 4 rfl) ?_
          refine lv_icmp_lt (tgt := 92) hx hb dX7_single_55 (by decide) (fun c9 => ?_) (fun c9 => ?_)
          · have hf := hf.1 (c9)
            exact hf H locs ls hP hD hS (lv_sub hl [1, 2, 3, 4, 5, 0] rfl)
          · have hf := hf.2 (c9)
            refine lv_iload hx hb dX7_single_58 (lv_at hl 0 rfl) ?_
            refine lv_iload_n hx hb dX7_single_60 rfl (lv_at hl 4 rfl) ?_
            refine lv_icmp_ne (tgt := 96) hx hb dX7_single_61 (by decide) (fun c10 => ?_) (fun c10 => ?_)
            · have hf := hf.2 (c10)
              exact hf H locs ls hP hD hS (lv_sub hl [1, 2, 3, 4, 5, 0] rfl)
            · have hf := hf.1 (c10)
              refine lv_aload_n hx hb dX7_single_64 rfl (lv_at hl 1 rfl) ?_
              refine lv_aload_n hx hb dX7_single_65 rfl (lv_at hl 1 rfl) ?_
              refine va_get (D := D) (ci := 5) (v := .ref (aR 5)) (C := RX7) (T := TX7) (N := 14) hx hb hts inX7_single_X7 hown hK hP 0 rfl rfl 7 (by decide) (hts (.fieldLink RX7 22 "GrowingTextModel" "ends" "[J") (List.mem_of_getElem? (i := 3) rfl)) (fun _ h9 => h9) rfl dX7_single_66 ?_
              refine lv_iload hx hb dX7_single_69 (lv_at hl 5 rfl) ?_
              refine va_lald hx hb hK hP 5 1 (f := (gR_ends tR)) rfl rfl hf.1 dX7_single_71 ?_
              have hf := hf.2
              refine k_si (k_runS (As := [.long ((gR_ends tR) (y4 : Int32).toNatClampNeg)]) (rest := [.ref (aR 0)]) ⟨hx, hb, hml, hown, hts⟩ (c_X7_least l D q ((gR_ends tR) (y4 : Int32).toNatClampNeg) _ hf) (va_cwS 1 hts gX7_single_X7_least rfl rfl rfl cdX7_least ⟨Nat.le_of_ble_eq_true rfl, Nat.le_of_ble_eq_true rfl⟩) hK k_nilP k_nilD rfl hl.1 rfl (Nat.le_of_ble_eq_true rfl) dX7_single_72 ⟨Nat.le_of_ble_eq_true rfl, Nat.le_of_ble_eq_true rfl⟩) (fun r11 hf => ?_)
              refine lv_aload_n hx hb dX7_single_75 rfl (lv_at hl 1 rfl) ?_
              refine va_get (D := D) (ci := 5) (v := .ref (aR 5)) (C := RX7) (T := TX7) (N := 14) hx hb hts inX7_single_X7 hown hK hP 0 rfl rfl 7 (by decide) (hts (.fieldLink RX7 22 "GrowingTextModel" "ends" "[J") (List.mem_of_getElem? (i := 3) rfl)) (fun _ h9 => h9) rfl dX7_single_76 ?_
              refine lv_iload_n hx hb dX7_single_79 rfl (lv_at hl 3 rfl) ?_
              refine va_lald hx hb hK hP 5 1 (f := (gR_ends tR)) rfl rfl hf.1 dX7_single_80 ?_
              have hf := hf.2
              refine k_si (k_runS (As := [.long ((gR_ends tR) (y2 : Int32).toNatClampNeg)]) (rest := [.int r11, .ref (aR 0)]) ⟨hx, hb, hml, hown, hts⟩ (c_X7_least l D q ((gR_ends tR) (y2 : Int32).toNatClampNeg) _ hf) (va_cwS 1 hts gX7_single_X7_least rfl rfl rfl cdX7_least ⟨Nat.le_of_ble_eq_true rfl, Nat.le_of_ble_eq_true rfl⟩) hK k_nilP k_nilD rfl hl.1 rfl (Nat.le_of_ble_eq_true rfl) dX7_single_81 ⟨Nat.le_of_ble_eq_true rfl, Nat.le_of_ble_eq_true rfl⟩) (fun r12 hf => ?_)
              refine lv_iload hx hb dX7_single_84 (lv_at hl 0 rfl) ?_
              refine k_si (k_runV (As := [.int r11, .int r12, .int r8]) (rest := []) ⟨hx, hb, hml, hown, hts⟩ (c_X7_isAhead l D q aR tR r11 r12 r8 _ hf) (cwV 3 hts gX7_single_X7_isAhead rfl rfl rfl cdX7_isAhead ⟨Nat.le_of_ble_eq_true rfl, Nat.le_of_ble_eq_true rfl⟩) hK hP hD 0 rfl rfl rfl hl.1 rfl (Nat.le_of_ble_eq_true rfl) dX7_single_86 ⟨Nat.le_of_ble_eq_true rfl, Nat.le_of_ble_eq_true rfl⟩) (fun r13 hf => ?_)
              refine lv_if_eq (tgt := 96) hx hb dX7_single_89 (by decide) (fun c14 => ?_) (fun c14 => ?_)
              · have hf := hf.1 (c14)
                exact hf H locs ls hP hD hS (lv_sub hl [1, 2, 3, 4, 5, 0] rfl)
              · have hf := hf.2 (c14)
                exact hf H locs ls hP hD hS (lv_sub hl [1, 2, 3, 4, 5, 0] rfl))
    (by
      intro y2 y3 y4 y5 tR hf H locs ls hP hD hS hl
      refine lv_iconst (v := 1) hx hb dX7_single_92 (by decide) ?_
      refine lv_goto (tgt := 97) hx hb dX7_single_93 (by decide) ?_
      exact hf H locs ls hP hD hS (lv_sub hl [0, 1, 2, 3, 4, 5] rfl))
    (by
      intro y2 y3 y4 y5 tR hf H locs ls hP hD hS hl
      refine lv_iconst (v := 0) hx hb dX7_single_96 (by decide) ?_
      exact hf H locs ls hP hD hS (lv_sub hl [0, 1, 2, 3, 4, 5] rfl))
    (by
      intro y2 y3 y4 y5 z0 tR hf H locs ls hP hD hS hl
      refine lv_istore (lv' := [(6, .int z0), (0, .ref (aR 0)), (1, .int x1), (2, .int y2), (3, .int y3), (4, .int y4), (5, .int y5)]) hx hb dX7_single_97 hl (by decide) rfl (fun ls hl => ?_)
      refine lv_iload hx hb dX7_single_99 (lv_at hl 0 rfl) ?_
      refine lv_if_eq (tgt := 109) hx hb dX7_single_101 (by decide) (fun c15 => ?_) (fun c15 => ?_)
      · have hf := hf.1 (c15)
        refine lv_iload_n hx hb dX7_single_109 rfl (lv_at hl 3 rfl) ?_
        exact hf H locs ls hP hD hS (lv_sub hl [1, 2, 4, 5, 6, 0] rfl)
      · have hf := hf.2 (c15)
        refine lv_iload hx hb dX7_single_104 (lv_at hl 5 rfl) ?_
        refine lv_goto (tgt := 110) hx hb dX7_single_106 (by decide) ?_
        exact hf H locs ls hP hD hS (lv_sub hl [1, 2, 4, 5, 6, 0] rfl))
    (by
      intro y3 y4 y5 y6 z0 tR hf H locs ls hP hD hS hl
      refine lv_istore_n (lv' := [(2, .int z0), (0, .ref (aR 0)), (1, .int x1), (3, .int y3), (4, .int y4), (5, .int y5), (6, .int y6)]) hx hb dX7_single_110 rfl hl (by decide) rfl (fun ls hl => ?_)
      refine lv_iload hx hb dX7_single_111 (lv_at hl 6 rfl) ?_
      refine lv_if_eq (tgt := 121) hx hb dX7_single_113 (by decide) (fun c16 => ?_) (fun c16 => ?_)
      · have hf := hf.1 (c16)
        refine lv_iload_n hx hb dX7_single_121 rfl (lv_at hl 3 rfl) ?_
        refine lv_istore_n (lv' := [(3, .int y3), (2, .int z0), (0, .ref (aR 0)), (1, .int x1), (4, .int y4), (5, .int y5), (6, .int y6)]) hx hb dX7_single_122 rfl hl (by decide) rfl (fun ls hl => ?_)
        refine lv_iinc (v := (y4 + 1)) (lv' := [(4, .int (y4 + 1)), (3, .int y3), (2, .int z0), (0, .ref (aR 0)), (1, .int x1), (5, .int y5), (6, .int y6)]) hx hb dX7_single_123 hl (k := 4) rfl rfl (by decide) rfl (fun ls hl => ?_)
        refine lv_goto (tgt := 21) hx hb dX7_single_126 (by decide) ?_
        exact hf H locs ls hP hD hS (lv_sub hl [3, 4, 2, 1, 0] rfl)
      · have hf := hf.2 (c16)
        refine lv_iload hx hb dX7_single_116 (lv_at hl 5 rfl) ?_
        refine lv_goto (tgt := 122) hx hb dX7_single_118 (by decide) ?_
        refine lv_istore_n (lv' := [(3, .int y5), (2, .int z0), (0, .ref (aR 0)), (1, .int x1), (4, .int y4), (5, .int y5), (6, .int y6)]) hx hb dX7_single_122 rfl hl (by decide) rfl (fun ls hl => ?_)
        refine lv_iinc (v := (y4 + 1)) (lv' := [(4, .int (y4 + 1)), (3, .int y5), (2, .int z0), (0, .ref (aR 0)), (1, .int x1), (5, .int y5), (6, .int y6)]) hx hb dX7_single_123 hl (k := 4) rfl rfl (by decide) rfl (fun ls hl => ?_)
        refine lv_goto (tgt := 21) hx hb dX7_single_126 (by decide) ?_
        exact hf H locs ls hP hD hS (lv_sub hl [3, 4, 2, 1, 0] rfl))
  refine lv_iload_n hx hb dX7_single_0 rfl (lv_at hl 1 rfl) ?_
  refine k_si (k_runS (As := [.int x1]) (rest := []) ⟨hx, hb, hml, hown, hts⟩ (cF_X7_isSheet l D q x1) (va_cwS 1 hts gX7_single_X7_isSheet rfl rfl rfl cdX7_isSheet ⟨Nat.le_of_ble_eq_true rfl, Nat.le_of_ble_eq_true rfl⟩) hK k_nilP k_nilD rfl hl.1 rfl (Nat.le_of_ble_eq_true rfl) dX7_single_1 ⟨Nat.le_of_ble_eq_true rfl, Nat.le_of_ble_eq_true rfl⟩) (fun r hr => ?_)
  subst hr
  refine lv_if_ne (tgt := 9) hx hb dX7_single_4 (by decide) (fun c1 => ?_) (fun c1 => ?_)
  · have hf := hf.2 (c1)
    refine lv_iconst (v := 0) hx hb dX7_single_9 (by decide) ?_
    refine lv_istore_n (lv' := [(2, .int 0), (0, .ref (aR 0)), (1, .int x1)]) hx hb dX7_single_10 rfl hl (by decide) rfl (fun ls hl => ?_)
    refine lv_aload_n hx hb dX7_single_11 rfl (lv_at hl 1 rfl) ?_
    refine va_get (D := D) (ci := 5) (v := .int (gR_n uR)) (C := RX7) (T := TX7) (N := 14) hx hb hts inX7_single_X7 hown hK hP 0 rfl rfl 1 (by decide) (hts (.fieldLink RX7 56 "GrowingTextModel" "n" "I") (List.mem_of_getElem? (i := 1) rfl)) (fun _ h9 => h9) rfl dX7_single_12 ?_
    refine lv_iconst (v := 1) hx hb dX7_single_15 (by decide) ?_
    refine lv_iadd hx hb dX7_single_16 ?_
    refine lv_istore_n (lv' := [(3, .int ((gR_n uR) + 1)), (2, .int 0), (0, .ref (aR 0)), (1, .int x1)]) hx hb dX7_single_17 rfl hl (by decide) rfl (fun ls hl => ?_)
    refine lv_iconst (v := 0) hx hb dX7_single_18 (by decide) ?_
    refine lv_istore (lv' := [(4, .int 0), (3, .int ((gR_n uR) + 1)), (2, .int 0), (0, .ref (aR 0)), (1, .int x1)]) hx hb dX7_single_19 hl (by decide) rfl (fun ls hl => ?_)
    exact hf H locs ls hP hD hS (lv_sub hl [3, 4, 2, 1, 0] rfl)
  · have hf := hf.1 (c1)
    refine lv_iconst (v := (-1)) hx hb dX7_single_7 (by decide) ?_
    exact k_iret_w (wf := (fun u => wR aR q u)) (post := Q) (u := uR) (v := (-1)) hx hb hr hlocks hK hP hD hS hf dX7_single_8
def wpX7_gapOf (x0 : Int64) (Q : Int32 → Prop) : Prop :=
  ∀ (X9 : Int32 → Int32 → Int32 → Prop) (X46 : Int32 → Int32 → Prop) (X47 : Int32 → Int32 → Prop),
  (∀ (y2 : Int32) (y3 : Int32) (y4 : Int32),
    (((60 : Int32) < y4 →
      Q y3) ∧
    (¬ ((60 : Int32) < y4) →
      ((fX7_has x0 y4) = 0 →
        X9 y2 y3 (y4 + 1)) ∧
      (¬ ((fX7_has x0 y4) = 0) →
        (y2 = (-4) →
          X46 y3 y4) ∧
        (¬ (y2 = (-4)) →
          ((y4 - y2) ≤ y3 →
            X46 y3 y4) ∧
          (¬ ((y4 - y2) ≤ y3) →
            X47 y4 (y4 - y2)))))) → X9 y2 y3 y4) →
  (∀ (y3 : Int32) (y4 : Int32),
    X47 y4 y3 → X46 y3 y4) →
  (∀ (y4 : Int32) (z0 : Int32),
    X9 y4 z0 (y4 + 1) → X47 y4 z0) →
  X9 (-4) (-4) 0
def rmX7_gapOf : Room := { frames := 1, cells := 0, slots := 0, locals := 22 }
set_option maxRecDepth 100000 in
set_option maxHeartbeats 4000000 in
theorem c_X7_gapOf (l : Launch) (D : va_G) (q : Nat → ClassId) (x0 : Int64) (Q : Int32 → Prop) (hf : wpX7_gapOf x0 Q) : Met l yX7_gapOf wsX7_gapOf rmX7_gapOf (va_Pc [.long x0] (kP D q ([]))) (vp_Si Q) 0 0 (fun _ => False) := by
  refine Met.ofW (cc := cX7_gapOf) (maxL := 5) (ret := (some .int)) (by decide) rfl ?_
  intro p e s m args below meth c s₁ B hml hv
  obtain ⟨hargs, hP, hK, hD⟩ := hv
  have hx := B.exec
  have hb := B.bytes
  have hr := B.returns
  have hts := atoms_spec (ws := wsX7_gapOf) B.pre
  have hown : s.vm.findClass RX7 = some m.cls := findClass_of_methodNamed B.named
  have hlocks := B.notSynchronized
  refine k_entry hargs (Nat.le_of_ble_eq_true rfl) (fun ls hl => ?_)
  have hl : lv_has ls 5 [(0, .long x0)] := hl
  change W p l e rmX7_gapOf s m args below meth c s.heap [] 0 0 (MQ below (vp_Si Q) args s 0 0 (fun _ => False)) _
  unfold wpX7_gapOf at hf
  have hf := hf
    (fun (y2 : Int32) (y3 : Int32) (y4 : Int32) => ∀ (ls : Array Slot), lv_has ls 5 [(0, .long x0), (2, .int y2), (3, .int y3), (4, .int y4)] → W p l e rmX7_gapOf s m args below meth c s.heap [] 0 0 (MQ below (vp_Si Q) args s 0 0 (fun _ => False)) (F0 m 9 ls []))
    (fun (y3 : Int32) (y4 : Int32) => ∀ (ls : Array Slot), lv_has ls 5 [(0, .long x0), (3, .int y3), (4, .int y4)] → W p l e rmX7_gapOf s m args below meth c s.heap [] 0 0 (MQ below (vp_Si Q) args s 0 0 (fun _ => False)) (F0 m 46 ls []))
    (fun (y4 : Int32) (z0 : Int32) => ∀ (ls : Array Slot), lv_has ls 5 [(0, .long x0), (4, .int y4)] → W p l e rmX7_gapOf s m args below meth c s.heap [] 0 0 (MQ below (vp_Si Q) args s 0 0 (fun _ => False)) (F0 m 47 ls [.int z0]))
    (by
      intro y2 y3 y4 hf ls hl
      refine lv_iload hx hb dX7_gapOf_9 (lv_at hl 3 rfl) ?_
      refine lv_bipush (v := 60) hx hb dX7_gapOf_11 (by decide) ?_
      refine lv_icmp_gt (tgt := 57) hx hb dX7_gapOf_13 (by decide) (fun c1 => ?_) (fun c1 => ?_)
      · have hf := hf.1 (c1)
        refine lv_iload_n hx hb dX7_gapOf_57 rfl (lv_at hl 2 rfl) ?_
        exact k_iret_r (v := y3) hx hb hr hlocks hf dX7_gapOf_58
      · have hf := hf.2 (c1)
        refine lv_lload_n hx hb dX7_gapOf_16 rfl (lv_at hl 0 rfl) ?_
        refine lv_iload hx hb dX7_gapOf_17 (lv_at hl 3 rfl) ?_
        refine k_si (k_runS (As := [.long x0, .int y4]) (rest := []) ⟨hx, hb, hml, hown, hts⟩ (cF_X7_has l D q x0 y4) (va_cwS 2 hts gX7_gapOf_X7_has rfl rfl rfl cdX7_has ⟨Nat.le_of_ble_eq_true rfl, Nat.le_of_ble_eq_true rfl⟩) hK k_nilP k_nilD rfl hl.1 rfl (Nat.le_of_ble_eq_true rfl) dX7_gapOf_19 ⟨Nat.le_of_ble_eq_true rfl, Nat.le_of_ble_eq_true rfl⟩) (fun r hr => ?_)
        subst hr
        refine lv_if_eq (tgt := 51) hx hb dX7_gapOf_22 (by decide) (fun c2 => ?_) (fun c2 => ?_)
        · have hf := hf.1 (c2)
          refine lv_iinc (v := (y4 + 1)) (lv' := [(4, .int (y4 + 1)), (0, .long x0), (2, .int y2), (3, .int y3)]) hx hb dX7_gapOf_51 hl (k := 3) rfl rfl (by decide) rfl (fun ls hl => ?_)
          refine lv_goto (tgt := 9) hx hb dX7_gapOf_54 (by decide) ?_
          exact hf ls (lv_sub hl [1, 2, 3, 0] rfl)
        · have hf := hf.2 (c2)
          refine lv_iload_n hx hb dX7_gapOf_25 rfl (lv_at hl 1 rfl) ?_
          refine lv_bipush (v := (-4)) hx hb dX7_gapOf_26 (by decide) ?_
          refine lv_icmp_eq (tgt := 46) hx hb dX7_gapOf_28 (by decide) (fun c3 => ?_) (fun c3 => ?_)
          · have hf := hf.1 (c3)
            exact hf ls (lv_sub hl [0, 2, 3] rfl)
          · have hf := hf.2 (c3)
            refine lv_iload hx hb dX7_gapOf_31 (lv_at hl 3 rfl) ?_
            refine lv_iload_n hx hb dX7_gapOf_33 rfl (lv_at hl 1 rfl) ?_
            refine lv_isub hx hb dX7_gapOf_34 ?_
            refine lv_iload_n hx hb dX7_gapOf_35 rfl (lv_at hl 2 rfl) ?_
            refine lv_icmp_le (tgt := 46) hx hb dX7_gapOf_36 (by decide) (fun c4 => ?_) (fun c4 => ?_)
            · have hf := hf.1 (c4)
              exact hf ls (lv_sub hl [0, 2, 3] rfl)
            · have hf := hf.2 (c4)
              refine lv_iload hx hb dX7_gapOf_39 (lv_at hl 3 rfl) ?_
              refine lv_iload_n hx hb dX7_gapOf_41 rfl (lv_at hl 1 rfl) ?_
              refine lv_isub hx hb dX7_gapOf_42 ?_
              refine lv_goto (tgt := 47) hx hb dX7_gapOf_43 (by decide) ?_
              exact hf ls (lv_sub hl [0, 3] rfl))
    (by
      intro y3 y4 hf ls hl
      refine lv_iload_n hx hb dX7_gapOf_46 rfl (lv_at hl 1 rfl) ?_
      exact hf ls (lv_sub hl [0, 2] rfl))
    (by
      intro y4 z0 hf ls hl
      refine lv_istore_n (lv' := [(3, .int z0), (0, .long x0), (4, .int y4)]) hx hb dX7_gapOf_47 rfl hl (by decide) rfl (fun ls hl => ?_)
      refine lv_iload hx hb dX7_gapOf_48 (lv_at hl 2 rfl) ?_
      refine lv_istore_n (lv' := [(2, .int y4), (3, .int z0), (0, .long x0), (4, .int y4)]) hx hb dX7_gapOf_50 rfl hl (by decide) rfl (fun ls hl => ?_)
      refine lv_iinc (v := (y4 + 1)) (lv' := [(4, .int (y4 + 1)), (2, .int y4), (3, .int z0), (0, .long x0)]) hx hb dX7_gapOf_51 hl (k := 3) rfl rfl (by decide) rfl (fun ls hl => ?_)
      refine lv_goto (tgt := 9) hx hb dX7_gapOf_54 (by decide) ?_
      exact hf ls (lv_sub hl [3, 1, 2, 0] rfl))
  refine lv_bipush (v := (-4)) hx hb dX7_gapOf_0 (by decide) ?_
  refine lv_istore_n (lv' := [(2, .int (-4)), (0, .long x0)]) hx hb dX7_gapOf_2 rfl hl (by decide) rfl (fun ls hl => ?_)
  refine lv_bipush (v := (-4)) hx hb dX7_gapOf_3 (by decide) ?_
  refine lv_istore_n (lv' := [(3, .int (-4)), (2, .int (-4)), (0, .long x0)]) hx hb dX7_gapOf_5 rfl hl (by decide) rfl (fun ls hl => ?_)
  refine lv_iconst (v := 0) hx hb dX7_gapOf_6 (by decide) ?_
  refine lv_istore (lv' := [(4, .int 0), (3, .int (-4)), (2, .int (-4)), (0, .long x0)]) hx hb dX7_gapOf_7 hl (by decide) rfl (fun ls hl => ?_)
  exact hf ls (lv_sub hl [3, 2, 1, 0] rfl)
def wpX7_gap (uR : RSt) (x1 : Int32) (Q : Int32 → Prop) : Prop :=
  wpX7_need uR x1 (fun r1 =>
    ((0 : Int32) ≤ r1 →
      vp_in x1 4 ∧
      wpX7_endsIn uR x1 0 ((gR_sizes uR) (x1 : Int32).toNatClampNeg) (fun r3 =>
        wpX7_gapOf r3 (fun r4 =>
          Q r4))) ∧
    (¬ ((0 : Int32) ≤ r1) →
      Q r1))
def rmX7_gap : Room := { frames := 3, cells := 0, slots := 0, locals := 74 }
theorem inX7_gap_X7 : ∀ w ∈ wsX70, w ∈ wsX7_gap := fun w h => List.mem_cons_of_mem _ (List.mem_append_right _ h)
set_option maxRecDepth 100000 in
set_option maxHeartbeats 4000000 in
theorem c_X7_gap (l : Launch) (D : va_G) (q : Nat → ClassId) (aR : Nat → Nat) (uR : RSt) (x1 : Int32) (Q : Int32 → Prop) (hf : wpX7_gap uR x1 Q) : Met l yX7_gap wsX7_gap rmX7_gap (va_Pc [.ref (aR 0), .int x1] (kP D q (wR aR q uR))) (vp_Si Q) 0 0 (fun _ => False) := by
  refine Met.ofW (cc := cX7_gap) (maxL := 3) (ret := (some .int)) (by decide) rfl ?_
  intro p e s m args below meth c s₁ B hml hv
  obtain ⟨hargs, hP, hK, hD⟩ := hv
  have hx := B.exec
  have hb := B.bytes
  have hr := B.returns
  have hts := atoms_spec (ws := wsX7_gap) B.pre
  have hown : s.vm.findClass RX7 = some m.cls := findClass_of_methodNamed B.named
  have hlocks := B.notSynchronized
  refine k_entry hargs (Nat.le_of_ble_eq_true rfl) (fun ls hl => ?_)
  have hl : lv_has ls 3 [(0, .ref (aR 0)), (1, .int x1)] := hl
  change W p l e rmX7_gap s m args below meth c s.heap [] 0 0 (MQ below (vp_Si Q) args s 0 0 (fun _ => False)) _
  unfold wpX7_gap at hf
  refine lv_aload_n hx hb dX7_gap_0 rfl (lv_at hl 0 rfl) ?_
  refine lv_iload_n hx hb dX7_gap_1 rfl (lv_at hl 1 rfl) ?_
  refine k_si (k_runV (As := [.int x1]) (rest := []) ⟨hx, hb, hml, hown, hts⟩ (c_X7_need l D q aR uR x1 _ hf) (cwV 1 hts gX7_gap_X7_need rfl rfl rfl cdX7_need ⟨Nat.le_of_ble_eq_true rfl, Nat.le_of_ble_eq_true rfl⟩) hK hP hD 0 rfl rfl rfl hl.1 rfl (Nat.le_of_ble_eq_true rfl) dX7_gap_2 ⟨Nat.le_of_ble_eq_true rfl, Nat.le_of_ble_eq_true rfl⟩) (fun r1 hf => ?_)
  refine lv_istore_n (lv' := [(2, .int r1), (0, .ref (aR 0)), (1, .int x1)]) hx hb dX7_gap_5 rfl hl (by decide) rfl (fun ls hl => ?_)
  refine lv_iload_n hx hb dX7_gap_6 rfl (lv_at hl 0 rfl) ?_
  refine lv_if_ge (tgt := 14) hx hb dX7_gap_7 (by decide) (fun c2 => ?_) (fun c2 => ?_)
  · have hf := hf.1 (c2)
    refine lv_aload_n hx hb dX7_gap_14 rfl (lv_at hl 1 rfl) ?_
    refine lv_iload_n hx hb dX7_gap_15 rfl (lv_at hl 2 rfl) ?_
    refine lv_iconst (v := 0) hx hb dX7_gap_16 (by decide) ?_
    refine lv_aload_n hx hb dX7_gap_17 rfl (lv_at hl 1 rfl) ?_
    refine va_get (D := D) (ci := 5) (v := .ref (aR 6)) (C := RX7) (T := TX7) (N := 14) hx hb hts inX7_gap_X7 hown hK hP 0 rfl rfl 8 (by decide) (hts (.fieldLink RX7 26 "GrowingTextModel" "sizes" "[I") (List.mem_of_getElem? (i := 1) rfl)) (fun _ h9 => h9) rfl dX7_gap_18 ?_
    refine lv_iload_n hx hb dX7_gap_21 rfl (lv_at hl 2 rfl) ?_
    refine va_iald hx hb hK hP 6 0 (f := (gR_sizes uR)) rfl rfl hf.1 dX7_gap_22 ?_
    have hf := hf.2
    refine k_sl (k_runV (As := [.int x1, .int 0, .int ((gR_sizes uR) (x1 : Int32).toNatClampNeg)]) (rest := []) ⟨hx, hb, hml, hown, hts⟩ (c_X7_endsIn l D q aR uR x1 0 ((gR_sizes uR) (x1 : Int32).toNatClampNeg) _ hf) (cwV 3 hts gX7_gap_X7_endsIn rfl rfl rfl cdX7_endsIn ⟨Nat.le_of_ble_eq_true rfl, Nat.le_of_ble_eq_true rfl⟩) hK hP hD 0 rfl rfl rfl hl.1 rfl (Nat.le_of_ble_eq_true rfl) dX7_gap_23 ⟨Nat.le_of_ble_eq_true rfl, Nat.le_of_ble_eq_true rfl⟩) (fun r3 hf => ?_)
    refine k_si (k_runS (As := [.long r3]) (rest := []) ⟨hx, hb, hml, hown, hts⟩ (c_X7_gapOf l D q r3 _ hf) (va_cwS 1 hts gX7_gap_X7_gapOf rfl rfl rfl cdX7_gapOf ⟨Nat.le_of_ble_eq_true rfl, Nat.le_of_ble_eq_true rfl⟩) hK k_nilP k_nilD rfl hl.1 rfl (Nat.le_of_ble_eq_true rfl) dX7_gap_26 ⟨Nat.le_of_ble_eq_true rfl, Nat.le_of_ble_eq_true rfl⟩) (fun r4 hf => ?_)
    exact k_iret_r (v := r4) hx hb hr hlocks hf dX7_gap_29
  · have hf := hf.2 (c2)
    refine lv_iload_n hx hb dX7_gap_10 rfl (lv_at hl 0 rfl) ?_
    refine lv_goto (tgt := 29) hx hb dX7_gap_11 (by decide) ?_
    exact k_iret_r (v := r1) hx hb hr hlocks hf dX7_gap_29
def wpX7_isBorder (uR : RSt) (x1 : Int32) (Q : Int32 → Prop) : Prop :=
  wpX7_alikeAt uR (gR_n uR) x1 (fun r1 =>
    (r1 = x1 →
      Q 1) ∧
    (¬ (r1 = x1) →
      Q 0))
def rmX7_isBorder : Room := { frames := 1, cells := 0, slots := 0, locals := 23 }
theorem inX7_isBorder_X7 : ∀ w ∈ wsX70, w ∈ wsX7_isBorder := fun w h => List.mem_cons_of_mem _ (List.mem_append_right _ h)
set_option maxRecDepth 100000 in
set_option maxHeartbeats 4000000 in
theorem c_X7_isBorder (l : Launch) (D : va_G) (q : Nat → ClassId) (aR : Nat → Nat) (uR : RSt) (x1 : Int32) (Q : Int32 → Prop) (hf : wpX7_isBorder uR x1 Q) : Met l yX7_isBorder wsX7_isBorder rmX7_isBorder (va_Pc [.ref (aR 0), .int x1] (kP D q (wR aR q uR))) (vp_Si Q) 0 0 (fun _ => False) := by
  refine Met.ofW (cc := cX7_isBorder) (maxL := 2) (ret := (some .boolean)) (by decide) rfl ?_
  intro p e s m args below meth c s₁ B hml hv
  obtain ⟨hargs, hP, hK, hD⟩ := hv
  have hx := B.exec
  have hb := B.bytes
  have hr := B.returns
  have hts := atoms_spec (ws := wsX7_isBorder) B.pre
  have hown : s.vm.findClass RX7 = some m.cls := findClass_of_methodNamed B.named
  have hlocks := B.notSynchronized
  refine k_entry hargs (Nat.le_of_ble_eq_true rfl) (fun ls hl => ?_)
  have hl : lv_has ls 2 [(0, .ref (aR 0)), (1, .int x1)] := hl
  change W p l e rmX7_isBorder s m args below meth c s.heap [] 0 0 (MQ below (vp_Si Q) args s 0 0 (fun _ => False)) _
  unfold wpX7_isBorder at hf
  refine lv_aload_n hx hb dX7_isBorder_0 rfl (lv_at hl 0 rfl) ?_
  refine lv_aload_n hx hb dX7_isBorder_1 rfl (lv_at hl 0 rfl) ?_
  refine va_get (D := D) (ci := 5) (v := .int (gR_n uR)) (C := RX7) (T := TX7) (N := 14) hx hb hts inX7_isBorder_X7 hown hK hP 0 rfl rfl 1 (by decide) (hts (.fieldLink RX7 56 "GrowingTextModel" "n" "I") (List.mem_of_getElem? (i := 1) rfl)) (fun _ h9 => h9) rfl dX7_isBorder_2 ?_
  refine lv_iload_n hx hb dX7_isBorder_5 rfl (lv_at hl 1 rfl) ?_
  refine k_si (k_runV (As := [.int (gR_n uR), .int x1]) (rest := []) ⟨hx, hb, hml, hown, hts⟩ (c_X7_alikeAt l D q aR uR (gR_n uR) x1 _ hf) (cwV 2 hts gX7_isBorder_X7_alikeAt rfl rfl rfl cdX7_alikeAt ⟨Nat.le_of_ble_eq_true rfl, Nat.le_of_ble_eq_true rfl⟩) hK hP hD 0 rfl rfl rfl hl.1 rfl (Nat.le_of_ble_eq_true rfl) dX7_isBorder_6 ⟨Nat.le_of_ble_eq_true rfl, Nat.le_of_ble_eq_true rfl⟩) (fun r1 hf => ?_)
  refine lv_iload_n hx hb dX7_isBorder_9 rfl (lv_at hl 1 rfl) ?_
  refine lv_icmp_ne (tgt := 17) hx hb dX7_isBorder_10 (by decide) (fun c2 => ?_) (fun c2 => ?_)
  · have hf := hf.2 (c2)
    refine lv_iconst (v := 0) hx hb dX7_isBorder_17 (by decide) ?_
    exact k_zret_r (v := 0) hx hb hr rfl hlocks hf dX7_isBorder_18
  · have hf := hf.1 (c2)
    refine lv_iconst (v := 1) hx hb dX7_isBorder_13 (by decide) ?_
    refine lv_goto (tgt := 18) hx hb dX7_isBorder_14 (by decide) ?_
    exact k_zret_r (v := 1) hx hb hr rfl hlocks hf dX7_isBorder_18
def wpX7_cover (uR : RSt) (Q : Int32 → Prop) : Prop :=
  ∀ (X2 : Int32 → Prop),
  (∀ (y1 : Int32),
    (((gR_n uR) < y1 →
      Q (-4)) ∧
    (¬ ((gR_n uR) < y1) →
      wpX7_isBorder uR y1 (fun r2 =>
        (r2 = 0 →
          X2 (y1 + 1)) ∧
        (¬ (r2 = 0) →
          wpX7_endsOf uR y1 y1 (gR_n uR) (fun r4 =>
            wpX7_gapOf r4 (fun r5 =>
              (y1 < r5 →
                X2 (y1 + 1)) ∧
              (¬ (y1 < r5) →
                Q y1))))))) → X2 y1) →
  X2 1
def rmX7_cover : Room := { frames := 2, cells := 0, slots := 0, locals := 49 }
theorem inX7_cover_X7 : ∀ w ∈ wsX70, w ∈ wsX7_cover := fun w h => List.mem_cons_of_mem _ (List.mem_append_right _ h)
set_option maxRecDepth 100000 in
set_option maxHeartbeats 4000000 in
theorem c_X7_cover (l : Launch) (D : va_G) (q : Nat → ClassId) (aR : Nat → Nat) (uR : RSt) (Q : Int32 → Prop) (hf : wpX7_cover uR Q) : Met l yX7_cover wsX7_cover rmX7_cover (va_Pc [.ref (aR 0)] (kP D q (wR aR q uR))) (vp_Si Q) 0 0 (fun _ => False) := by
  refine Met.ofW (cc := cX7_cover) (maxL := 2) (ret := (some .int)) (by decide) rfl ?_
  intro p e s m args below meth c s₁ B hml hv
  obtain ⟨hargs, hP, hK, hD⟩ := hv
  have hx := B.exec
  have hb := B.bytes
  have hr := B.returns
  have hts := atoms_spec (ws := wsX7_cover) B.pre
  have hown : s.vm.findClass RX7 = some m.cls := findClass_of_methodNamed B.named
  have hlocks := B.notSynchronized
  refine k_entry hargs (Nat.le_of_ble_eq_true rfl) (fun ls hl => ?_)
  have hl : lv_has ls 2 [(0, .ref (aR 0))] := hl
  change W p l e rmX7_cover s m args below meth c s.heap [] 0 0 (MQ below (vp_Si Q) args s 0 0 (fun _ => False)) _
  unfold wpX7_cover at hf
  have hf := hf
    (fun (y1 : Int32) => ∀ (ls : Array Slot), lv_has ls 2 [(0, .ref (aR 0)), (1, .int y1)] → W p l e rmX7_cover s m args below meth c s.heap [] 0 0 (MQ below (vp_Si Q) args s 0 0 (fun _ => False)) (F0 m 2 ls []))
    (by
      intro y1 hf ls hl
      refine lv_iload_n hx hb dX7_cover_2 rfl (lv_at hl 1 rfl) ?_
      refine lv_aload_n hx hb dX7_cover_3 rfl (lv_at hl 0 rfl) ?_
      refine va_get (D := D) (ci := 5) (v := .int (gR_n uR)) (C := RX7) (T := TX7) (N := 14) hx hb hts inX7_cover_X7 hown hK hP 0 rfl rfl 1 (by decide) (hts (.fieldLink RX7 56 "GrowingTextModel" "n" "I") (List.mem_of_getElem? (i := 1) rfl)) (fun _ h9 => h9) rfl dX7_cover_4 ?_
      refine lv_icmp_gt (tgt := 43) hx hb dX7_cover_7 (by decide) (fun c1 => ?_) (fun c1 => ?_)
      · have hf := hf.1 (c1)
        refine lv_bipush (v := (-4)) hx hb dX7_cover_43 (by decide) ?_
        exact k_iret_r (v := (-4)) hx hb hr hlocks hf dX7_cover_45
      · have hf := hf.2 (c1)
        refine lv_aload_n hx hb dX7_cover_10 rfl (lv_at hl 0 rfl) ?_
        refine lv_iload_n hx hb dX7_cover_11 rfl (lv_at hl 1 rfl) ?_
        refine k_si (k_runV (As := [.int y1]) (rest := []) ⟨hx, hb, hml, hown, hts⟩ (c_X7_isBorder l D q aR uR y1 _ hf) (cwV 1 hts gX7_cover_X7_isBorder rfl rfl rfl cdX7_isBorder ⟨Nat.le_of_ble_eq_true rfl, Nat.le_of_ble_eq_true rfl⟩) hK hP hD 0 rfl rfl rfl hl.1 rfl (Nat.le_of_ble_eq_true rfl) dX7_cover_12 ⟨Nat.le_of_ble_eq_true rfl, Nat.le_of_ble_eq_true rfl⟩) (fun r2 hf => ?_)
        refine lv_if_eq (tgt := 37) hx hb dX7_cover_15 (by decide) (fun c3 => ?_) (fun c3 => ?_)
        · have hf := hf.1 (c3)
          refine lv_iinc (v := (y1 + 1)) (lv' := [(1, .int (y1 + 1)), (0, .ref (aR 0))]) hx hb dX7_cover_37 hl (k := 1) rfl rfl (by decide) rfl (fun ls hl => ?_)
          refine lv_goto (tgt := 2) hx hb dX7_cover_40 (by decide) ?_
          exact hf ls (lv_sub hl [1, 0] rfl)
        · have hf := hf.2 (c3)
          refine lv_aload_n hx hb dX7_cover_18 rfl (lv_at hl 0 rfl) ?_
          refine lv_iload_n hx hb dX7_cover_19 rfl (lv_at hl 1 rfl) ?_
          refine lv_iload_n hx hb dX7_cover_20 rfl (lv_at hl 1 rfl) ?_
          refine lv_aload_n hx hb dX7_cover_21 rfl (lv_at hl 0 rfl) ?_
          refine va_get (D := D) (ci := 5) (v := .int (gR_n uR)) (C := RX7) (T := TX7) (N := 14) hx hb hts inX7_cover_X7 hown hK hP 0 rfl rfl 1 (by decide) (hts (.fieldLink RX7 56 "GrowingTextModel" "n" "I") (List.mem_of_getElem? (i := 1) rfl)) (fun _ h9 => h9) rfl dX7_cover_22 ?_
          refine k_sl (k_runV (As := [.int y1, .int y1, .int (gR_n uR)]) (rest := []) ⟨hx, hb, hml, hown, hts⟩ (c_X7_endsOf l D q aR uR y1 y1 (gR_n uR) _ hf) (cwV 3 hts gX7_cover_X7_endsOf rfl rfl rfl cdX7_endsOf ⟨Nat.le_of_ble_eq_true rfl, Nat.le_of_ble_eq_true rfl⟩) hK hP hD 0 rfl rfl rfl hl.1 rfl (Nat.le_of_ble_eq_true rfl) dX7_cover_25 ⟨Nat.le_of_ble_eq_true rfl, Nat.le_of_ble_eq_true rfl⟩) (fun r4 hf => ?_)
          refine k_si (k_runS (As := [.long r4]) (rest := []) ⟨hx, hb, hml, hown, hts⟩ (c_X7_gapOf l D q r4 _ hf) (va_cwS 1 hts gX7_cover_X7_gapOf rfl rfl rfl cdX7_gapOf ⟨Nat.le_of_ble_eq_true rfl, Nat.le_of_ble_eq_true rfl⟩) hK k_nilP k_nilD rfl hl.1 rfl (Nat.le_of_ble_eq_true rfl) dX7_cover_28 ⟨Nat.le_of_ble_eq_true rfl, Nat.le_of_ble_eq_true rfl⟩) (fun r5 hf => ?_)
          refine lv_iload_n hx hb dX7_cover_31 rfl (lv_at hl 1 rfl) ?_
          refine lv_icmp_gt (tgt := 37) hx hb dX7_cover_32 (by decide) (fun c6 => ?_) (fun c6 => ?_)
          · have hf := hf.1 (c6)
            refine lv_iinc (v := (y1 + 1)) (lv' := [(1, .int (y1 + 1)), (0, .ref (aR 0))]) hx hb dX7_cover_37 hl (k := 1) rfl rfl (by decide) rfl (fun ls hl => ?_)
            refine lv_goto (tgt := 2) hx hb dX7_cover_40 (by decide) ?_
            exact hf ls (lv_sub hl [1, 0] rfl)
          · have hf := hf.2 (c6)
            refine lv_iload_n hx hb dX7_cover_35 rfl (lv_at hl 1 rfl) ?_
            exact k_iret_r (v := y1) hx hb hr hlocks hf dX7_cover_36)
  refine lv_iconst (v := 1) hx hb dX7_cover_0 (by decide) ?_
  refine lv_istore_n (lv' := [(1, .int 1), (0, .ref (aR 0))]) hx hb dX7_cover_1 rfl hl (by decide) rfl (fun ls hl => ?_)
  exact hf ls (lv_sub hl [1, 0] rfl)
def wpX7_partEnd (uR : RSt) (x1 : Int32) (Q : Int32 → Prop) : Prop :=
  ∀ (X4 : Int32 → Prop),
  (∀ (y2 : Int32),
    (((gR_n uR) ≤ y2 →
      Q y2) ∧
    (¬ ((gR_n uR) ≤ y2) →
      wpX7_againAt uR (y2 + 1) (fun r2 =>
        (r2 < ((y2 + 1) - x1) →
          Q y2) ∧
        (¬ (r2 < ((y2 + 1) - x1)) →
          X4 (y2 + 1))))) → X4 y2) →
  X4 (x1 + 1)
def rmX7_partEnd : Room := { frames := 2, cells := 0, slots := 0, locals := 46 }
theorem inX7_partEnd_X7 : ∀ w ∈ wsX70, w ∈ wsX7_partEnd := fun w h => List.mem_cons_of_mem _ (List.mem_append_right _ h)
set_option maxRecDepth 100000 in
set_option maxHeartbeats 4000000 in
theorem c_X7_partEnd (l : Launch) (D : va_G) (q : Nat → ClassId) (aR : Nat → Nat) (uR : RSt) (x1 : Int32) (Q : Int32 → Prop) (hf : wpX7_partEnd uR x1 Q) : Met l yX7_partEnd wsX7_partEnd rmX7_partEnd (va_Pc [.ref (aR 0), .int x1] (kP D q (wR aR q uR))) (vp_Si Q) 0 0 (fun _ => False) := by
  refine Met.ofW (cc := cX7_partEnd) (maxL := 3) (ret := (some .int)) (by decide) rfl ?_
  intro p e s m args below meth c s₁ B hml hv
  obtain ⟨hargs, hP, hK, hD⟩ := hv
  have hx := B.exec
  have hb := B.bytes
  have hr := B.returns
  have hts := atoms_spec (ws := wsX7_partEnd) B.pre
  have hown : s.vm.findClass RX7 = some m.cls := findClass_of_methodNamed B.named
  have hlocks := B.notSynchronized
  refine k_entry hargs (Nat.le_of_ble_eq_true rfl) (fun ls hl => ?_)
  have hl : lv_has ls 3 [(0, .ref (aR 0)), (1, .int x1)] := hl
  change W p l e rmX7_partEnd s m args below meth c s.heap [] 0 0 (MQ below (vp_Si Q) args s 0 0 (fun _ => False)) _
  unfold wpX7_partEnd at hf
  have hf := hf
    (fun (y2 : Int32) => ∀ (ls : Array Slot), lv_has ls 3 [(0, .ref (aR 0)), (1, .int x1), (2, .int y2)] → W p l e rmX7_partEnd s m args below meth c s.heap [] 0 0 (MQ below (vp_Si Q) args s 0 0 (fun _ => False)) (F0 m 4 ls []))
    (by
      intro y2 hf ls hl
      refine lv_iload_n hx hb dX7_partEnd_4 rfl (lv_at hl 2 rfl) ?_
      refine lv_aload_n hx hb dX7_partEnd_5 rfl (lv_at hl 0 rfl) ?_
      refine va_get (D := D) (ci := 5) (v := .int (gR_n uR)) (C := RX7) (T := TX7) (N := 14) hx hb hts inX7_partEnd_X7 hown hK hP 0 rfl rfl 1 (by decide) (hts (.fieldLink RX7 56 "GrowingTextModel" "n" "I") (List.mem_of_getElem? (i := 1) rfl)) (fun _ h9 => h9) rfl dX7_partEnd_6 ?_
      refine lv_icmp_ge (tgt := 33) hx hb dX7_partEnd_9 (by decide) (fun c1 => ?_) (fun c1 => ?_)
      · have hf := hf.1 (c1)
        refine lv_iload_n hx hb dX7_partEnd_33 rfl (lv_at hl 2 rfl) ?_
        exact k_iret_r (v := y2) hx hb hr hlocks hf dX7_partEnd_34
      · have hf := hf.2 (c1)
        refine lv_aload_n hx hb dX7_partEnd_12 rfl (lv_at hl 0 rfl) ?_
        refine lv_iload_n hx hb dX7_partEnd_13 rfl (lv_at hl 2 rfl) ?_
        refine lv_iconst (v := 1) hx hb dX7_partEnd_14 (by decide) ?_
        refine lv_iadd hx hb dX7_partEnd_15 ?_
        refine k_si (k_runV (As := [.int (y2 + 1)]) (rest := []) ⟨hx, hb, hml, hown, hts⟩ (c_X7_againAt l D q aR uR (y2 + 1) _ hf) (cwV 1 hts gX7_partEnd_X7_againAt rfl rfl rfl cdX7_againAt ⟨Nat.le_of_ble_eq_true rfl, Nat.le_of_ble_eq_true rfl⟩) hK hP hD 0 rfl rfl rfl hl.1 rfl (Nat.le_of_ble_eq_true rfl) dX7_partEnd_16 ⟨Nat.le_of_ble_eq_true rfl, Nat.le_of_ble_eq_true rfl⟩) (fun r2 hf => ?_)
        refine lv_iload_n hx hb dX7_partEnd_19 rfl (lv_at hl 2 rfl) ?_
        refine lv_iconst (v := 1) hx hb dX7_partEnd_20 (by decide) ?_
        refine lv_iadd hx hb dX7_partEnd_21 ?_
        refine lv_iload_n hx hb dX7_partEnd_22 rfl (lv_at hl 1 rfl) ?_
        refine lv_isub hx hb dX7_partEnd_23 ?_
        refine lv_icmp_lt (tgt := 33) hx hb dX7_partEnd_24 (by decide) (fun c3 => ?_) (fun c3 => ?_)
        · have hf := hf.1 (c3)
          refine lv_iload_n hx hb dX7_partEnd_33 rfl (lv_at hl 2 rfl) ?_
          exact k_iret_r (v := y2) hx hb hr hlocks hf dX7_partEnd_34
        · have hf := hf.2 (c3)
          refine lv_iinc (v := (y2 + 1)) (lv' := [(2, .int (y2 + 1)), (0, .ref (aR 0)), (1, .int x1)]) hx hb dX7_partEnd_27 hl (k := 2) rfl rfl (by decide) rfl (fun ls hl => ?_)
          refine lv_goto (tgt := 4) hx hb dX7_partEnd_30 (by decide) ?_
          exact hf ls (lv_sub hl [1, 2, 0] rfl))
  refine lv_iload_n hx hb dX7_partEnd_0 rfl (lv_at hl 1 rfl) ?_
  refine lv_iconst (v := 1) hx hb dX7_partEnd_1 (by decide) ?_
  refine lv_iadd hx hb dX7_partEnd_2 ?_
  refine lv_istore_n (lv' := [(2, .int (x1 + 1)), (0, .ref (aR 0)), (1, .int x1)]) hx hb dX7_partEnd_3 rfl hl (by decide) rfl (fun ls hl => ?_)
  exact hf ls (lv_sub hl [1, 2, 0] rfl)
def wpX7_partMany (uR : RSt) (Q : Int32 → Prop) : Prop :=
  ∀ (X4 : Int32 → Int32 → Prop),
  (∀ (y1 : Int32) (y2 : Int32),
    (((gR_n uR) ≤ y2 →
      Q y1) ∧
    (¬ ((gR_n uR) ≤ y2) →
      wpX7_partEnd uR y2 (fun r2 =>
        X4 (y1 + 1) r2))) → X4 y1 y2) →
  X4 0 0
def rmX7_partMany : Room := { frames := 3, cells := 0, slots := 0, locals := 68 }
theorem inX7_partMany_X7 : ∀ w ∈ wsX70, w ∈ wsX7_partMany := fun w h => List.mem_cons_of_mem _ (List.mem_append_right _ h)
set_option maxRecDepth 100000 in
set_option maxHeartbeats 4000000 in
theorem c_X7_partMany (l : Launch) (D : va_G) (q : Nat → ClassId) (aR : Nat → Nat) (uR : RSt) (Q : Int32 → Prop) (hf : wpX7_partMany uR Q) : Met l yX7_partMany wsX7_partMany rmX7_partMany (va_Pc [.ref (aR 0)] (kP D q (wR aR q uR))) (vp_Si Q) 0 0 (fun _ => False) := by
  refine Met.ofW (cc := cX7_partMany) (maxL := 3) (ret := (some .int)) (by decide) rfl ?_
  intro p e s m args below meth c s₁ B hml hv
  obtain ⟨hargs, hP, hK, hD⟩ := hv
  have hx := B.exec
  have hb := B.bytes
  have hr := B.returns
  have hts := atoms_spec (ws := wsX7_partMany) B.pre
  have hown : s.vm.findClass RX7 = some m.cls := findClass_of_methodNamed B.named
  have hlocks := B.notSynchronized
  refine k_entry hargs (Nat.le_of_ble_eq_true rfl) (fun ls hl => ?_)
  have hl : lv_has ls 3 [(0, .ref (aR 0))] := hl
  change W p l e rmX7_partMany s m args below meth c s.heap [] 0 0 (MQ below (vp_Si Q) args s 0 0 (fun _ => False)) _
  unfold wpX7_partMany at hf
  have hf := hf
    (fun (y1 : Int32) (y2 : Int32) => ∀ (ls : Array Slot), lv_has ls 3 [(0, .ref (aR 0)), (1, .int y1), (2, .int y2)] → W p l e rmX7_partMany s m args below meth c s.heap [] 0 0 (MQ below (vp_Si Q) args s 0 0 (fun _ => False)) (F0 m 4 ls []))
    (by
      intro y1 y2 hf ls hl
      refine lv_iload_n hx hb dX7_partMany_4 rfl (lv_at hl 2 rfl) ?_
      refine lv_aload_n hx hb dX7_partMany_5 rfl (lv_at hl 0 rfl) ?_
      refine va_get (D := D) (ci := 5) (v := .int (gR_n uR)) (C := RX7) (T := TX7) (N := 14) hx hb hts inX7_partMany_X7 hown hK hP 0 rfl rfl 1 (by decide) (hts (.fieldLink RX7 56 "GrowingTextModel" "n" "I") (List.mem_of_getElem? (i := 1) rfl)) (fun _ h9 => h9) rfl dX7_partMany_6 ?_
      refine lv_icmp_ge (tgt := 24) hx hb dX7_partMany_9 (by decide) (fun c1 => ?_) (fun c1 => ?_)
      · have hf := hf.1 (c1)
        refine lv_iload_n hx hb dX7_partMany_24 rfl (lv_at hl 1 rfl) ?_
        exact k_iret_r (v := y1) hx hb hr hlocks hf dX7_partMany_25
      · have hf := hf.2 (c1)
        refine lv_iinc (v := (y1 + 1)) (lv' := [(1, .int (y1 + 1)), (0, .ref (aR 0)), (2, .int y2)]) hx hb dX7_partMany_12 hl (k := 1) rfl rfl (by decide) rfl (fun ls hl => ?_)
        refine lv_aload_n hx hb dX7_partMany_15 rfl (lv_at hl 1 rfl) ?_
        refine lv_iload_n hx hb dX7_partMany_16 rfl (lv_at hl 2 rfl) ?_
        refine k_si (k_runV (As := [.int y2]) (rest := []) ⟨hx, hb, hml, hown, hts⟩ (c_X7_partEnd l D q aR uR y2 _ hf) (cwV 1 hts gX7_partMany_X7_partEnd rfl rfl rfl cdX7_partEnd ⟨Nat.le_of_ble_eq_true rfl, Nat.le_of_ble_eq_true rfl⟩) hK hP hD 0 rfl rfl rfl hl.1 rfl (Nat.le_of_ble_eq_true rfl) dX7_partMany_17 ⟨Nat.le_of_ble_eq_true rfl, Nat.le_of_ble_eq_true rfl⟩) (fun r2 hf => ?_)
        refine lv_istore_n (lv' := [(2, .int r2), (1, .int (y1 + 1)), (0, .ref (aR 0))]) hx hb dX7_partMany_20 rfl hl (by decide) rfl (fun ls hl => ?_)
        refine lv_goto (tgt := 4) hx hb dX7_partMany_21 (by decide) ?_
        exact hf ls (lv_sub hl [2, 1, 0] rfl))
  refine lv_iconst (v := 0) hx hb dX7_partMany_0 (by decide) ?_
  refine lv_istore_n (lv' := [(1, .int 0), (0, .ref (aR 0))]) hx hb dX7_partMany_1 rfl hl (by decide) rfl (fun ls hl => ?_)
  refine lv_iconst (v := 0) hx hb dX7_partMany_2 (by decide) ?_
  refine lv_istore_n (lv' := [(2, .int 0), (1, .int 0), (0, .ref (aR 0))]) hx hb dX7_partMany_3 rfl hl (by decide) rfl (fun ls hl => ?_)
  exact hf ls (lv_sub hl [2, 1, 0] rfl)
def wpX7_part (uR : RSt) (x1 : Int32) (Q : Int32 → Prop) : Prop :=
  ∀ (X21 : Int32 → Int32 → Prop),
  (∀ (y2 : Int32) (y3 : Int32),
    ((x1 ≤ y3 →
      Q y2) ∧
    (¬ (x1 ≤ y3) →
      wpX7_partEnd uR y2 (fun r5 =>
        X21 r5 (y3 + 1)))) → X21 y2 y3) →
  (((0 : Int32) ≤ x1 →
    wpX7_partMany uR (fun r2 =>
      (x1 < r2 →
        X21 0 0) ∧
      (¬ (x1 < r2) →
        Q (-4)))) ∧
  (¬ ((0 : Int32) ≤ x1) →
    Q (-1)))
def rmX7_part : Room := { frames := 4, cells := 0, slots := 0, locals := 90 }
set_option maxRecDepth 100000 in
set_option maxHeartbeats 4000000 in
theorem c_X7_part (l : Launch) (D : va_G) (q : Nat → ClassId) (aR : Nat → Nat) (uR : RSt) (x1 : Int32) (Q : Int32 → Prop) (hf : wpX7_part uR x1 Q) : Met l yX7_part wsX7_part rmX7_part (va_Pc [.ref (aR 0), .int x1] (kP D q (wR aR q uR))) (vp_Si Q) 0 0 (fun _ => False) := by
  refine Met.ofW (cc := cX7_part) (maxL := 4) (ret := (some .int)) (by decide) rfl ?_
  intro p e s m args below meth c s₁ B hml hv
  obtain ⟨hargs, hP, hK, hD⟩ := hv
  have hx := B.exec
  have hb := B.bytes
  have hr := B.returns
  have hts := atoms_spec (ws := wsX7_part) B.pre
  have hown : s.vm.findClass RX7 = some m.cls := findClass_of_methodNamed B.named
  have hlocks := B.notSynchronized
  refine k_entry hargs (Nat.le_of_ble_eq_true rfl) (fun ls hl => ?_)
  have hl : lv_has ls 4 [(0, .ref (aR 0)), (1, .int x1)] := hl
  change W p l e rmX7_part s m args below meth c s.heap [] 0 0 (MQ below (vp_Si Q) args s 0 0 (fun _ => False)) _
  unfold wpX7_part at hf
  have hf := hf
    (fun (y2 : Int32) (y3 : Int32) => ∀ (ls : Array Slot), lv_has ls 4 [(0, .ref (aR 0)), (1, .int x1), (2, .int y2), (3, .int y3)] → W p l e rmX7_part s m args below meth c s.heap [] 0 0 (MQ below (vp_Si Q) args s 0 0 (fun _ => False)) (F0 m 21 ls []))
    (by
      intro y2 y3 hf ls hl
      refine lv_iload_n hx hb dX7_part_21 rfl (lv_at hl 3 rfl) ?_
      refine lv_iload_n hx hb dX7_part_22 rfl (lv_at hl 1 rfl) ?_
      refine lv_icmp_ge (tgt := 38) hx hb dX7_part_23 (by decide) (fun c4 => ?_) (fun c4 => ?_)
      · have hf := hf.1 (c4)
        refine lv_iload_n hx hb dX7_part_38 rfl (lv_at hl 2 rfl) ?_
        exact k_iret_r (v := y2) hx hb hr hlocks hf dX7_part_39
      · have hf := hf.2 (c4)
        refine lv_aload_n hx hb dX7_part_26 rfl (lv_at hl 0 rfl) ?_
        refine lv_iload_n hx hb dX7_part_27 rfl (lv_at hl 2 rfl) ?_
        refine k_si (k_runV (As := [.int y2]) (rest := []) ⟨hx, hb, hml, hown, hts⟩ (c_X7_partEnd l D q aR uR y2 _ hf) (cwV 1 hts gX7_part_X7_partEnd rfl rfl rfl cdX7_partEnd ⟨Nat.le_of_ble_eq_true rfl, Nat.le_of_ble_eq_true rfl⟩) hK hP hD 0 rfl rfl rfl hl.1 rfl (Nat.le_of_ble_eq_true rfl) dX7_part_28 ⟨Nat.le_of_ble_eq_true rfl, Nat.le_of_ble_eq_true rfl⟩) (fun r5 hf => ?_)
        refine lv_istore_n (lv' := [(2, .int r5), (0, .ref (aR 0)), (1, .int x1), (3, .int y3)]) hx hb dX7_part_31 rfl hl (by decide) rfl (fun ls hl => ?_)
        refine lv_iinc (v := (y3 + 1)) (lv' := [(3, .int (y3 + 1)), (2, .int r5), (0, .ref (aR 0)), (1, .int x1)]) hx hb dX7_part_32 hl (k := 3) rfl rfl (by decide) rfl (fun ls hl => ?_)
        refine lv_goto (tgt := 21) hx hb dX7_part_35 (by decide) ?_
        exact hf ls (lv_sub hl [2, 3, 1, 0] rfl))
  refine lv_iload_n hx hb dX7_part_0 rfl (lv_at hl 1 rfl) ?_
  refine lv_if_ge (tgt := 6) hx hb dX7_part_1 (by decide) (fun c1 => ?_) (fun c1 => ?_)
  · have hf := hf.1 (c1)
    refine lv_iload_n hx hb dX7_part_6 rfl (lv_at hl 1 rfl) ?_
    refine lv_aload_n hx hb dX7_part_7 rfl (lv_at hl 0 rfl) ?_
    refine k_si (k_runV (As := []) (rest := [.int x1]) ⟨hx, hb, hml, hown, hts⟩ (c_X7_partMany l D q aR uR _ hf) (cwV 0 hts gX7_part_X7_partMany rfl rfl rfl cdX7_partMany ⟨Nat.le_of_ble_eq_true rfl, Nat.le_of_ble_eq_true rfl⟩) hK hP hD 0 rfl rfl rfl hl.1 rfl (Nat.le_of_ble_eq_true rfl) dX7_part_8 ⟨Nat.le_of_ble_eq_true rfl, Nat.le_of_ble_eq_true rfl⟩) (fun r2 hf => ?_)
    refine lv_icmp_lt (tgt := 17) hx hb dX7_part_11 (by decide) (fun c3 => ?_) (fun c3 => ?_)
    · have hf := hf.1 (c3)
      refine lv_iconst (v := 0) hx hb dX7_part_17 (by decide) ?_
      refine lv_istore_n (lv' := [(2, .int 0), (0, .ref (aR 0)), (1, .int x1)]) hx hb dX7_part_18 rfl hl (by decide) rfl (fun ls hl => ?_)
      refine lv_iconst (v := 0) hx hb dX7_part_19 (by decide) ?_
      refine lv_istore_n (lv' := [(3, .int 0), (2, .int 0), (0, .ref (aR 0)), (1, .int x1)]) hx hb dX7_part_20 rfl hl (by decide) rfl (fun ls hl => ?_)
      exact hf ls (lv_sub hl [2, 3, 1, 0] rfl)
    · have hf := hf.2 (c3)
      refine lv_bipush (v := (-4)) hx hb dX7_part_14 (by decide) ?_
      exact k_iret_r (v := (-4)) hx hb hr hlocks hf dX7_part_16
  · have hf := hf.2 (c1)
    refine lv_iconst (v := (-1)) hx hb dX7_part_4 (by decide) ?_
    exact k_iret_r (v := (-1)) hx hb hr hlocks hf dX7_part_5
def wpX7_common (uR : RSt) (x1 : Int32) (x2 : Int32) (Q : Int32 → Prop) : Prop :=
  ∀ (X18 : Int32 → Prop) (X34 : Int32 → Int32 → Int32 → Prop) (X54 : Int32 → Int32 → Int32 → Int32 → Prop) (X84 : Int32 → Int32 → Int32 → Int32 → Int32 → Prop) (X98 : Int32 → Int32 → Int32 → Int32 → Int32 → Prop),
  (∀ (z0 : Int32),
    (((0 : Int32) ≤ z0 →
      X34 0 0 0) ∧
    (¬ ((0 : Int32) ≤ z0) →
      Q z0)) → X18 z0) →
  (∀ (y4 : Int32) (y5 : Int32) (y6 : Int32),
    (vp_in x1 4 ∧
    ((((gR_sizes uR) (x1 : Int32).toNatClampNeg) ≤ y6 →
      (x2 = 0 →
        Q y4) ∧
      (¬ (x2 = 0) →
        Q y5)) ∧
    (¬ (((gR_sizes uR) (x1 : Int32).toNatClampNeg) ≤ y6) →
      X54 y4 y5 y6 ((y6 + y4) + 1)))) → X34 y4 y5 y6) →
  (∀ (y4 : Int32) (y5 : Int32) (y6 : Int32) (y7 : Int32),
    (vp_in x1 4 ∧
    ((((gR_sizes uR) (x1 : Int32).toNatClampNeg) < y7 →
      X34 y4 y5 (y6 + 1)) ∧
    (¬ (((gR_sizes uR) (x1 : Int32).toNatClampNeg) < y7) →
      wpX7_endsIn uR x1 y6 y7 (fun r7 =>
        ((r7 : Int64) = 0 →
          X84 y4 y5 y6 y7 0) ∧
        (¬ ((r7 : Int64) = 0) →
          X84 y4 y5 y6 y7 1))))) → X54 y4 y5 y6 y7) →
  (∀ (y4 : Int32) (y5 : Int32) (y6 : Int32) (y7 : Int32) (z0 : Int32),
    ((z0 = 0 →
      X98 y4 y6 y7 z0 y5) ∧
    (¬ (z0 = 0) →
      X98 y4 y6 y7 z0 y6)) → X84 y4 y5 y6 y7 z0) →
  (∀ (y4 : Int32) (y6 : Int32) (y7 : Int32) (y8 : Int32) (z0 : Int32),
    ((y8 = 0 →
      X54 y4 z0 y6 (y7 + 1)) ∧
    (¬ (y8 = 0) →
      X54 (y7 - y6) z0 y6 (y7 + 1))) → X98 y4 y6 y7 y8 z0) →
  (((fX7_in x2 0 1) = 0 →
    X18 (-1)) ∧
  (¬ ((fX7_in x2 0 1) = 0) →
    wpX7_need uR x1 (fun r2 =>
      X18 r2)))
def rmX7_common : Room := { frames := 3, cells := 0, slots := 0, locals := 74 }
theorem inX7_common_X7 : ∀ w ∈ wsX70, w ∈ wsX7_common := fun w h => List.mem_cons_of_mem _ (List.mem_append_right _ h)
set_option maxRecDepth 100000 in
set_option maxHeartbeats 4000000 in
theorem c_X7_common (l : Launch) (D : va_G) (q : Nat → ClassId) (aR : Nat → Nat) (uR : RSt) (x1 : Int32) (x2 : Int32) (Q : Int32 → Prop) (hf : wpX7_common uR x1 x2 Q) : Met l yX7_common wsX7_common rmX7_common (va_Pc [.ref (aR 0), .int x1, .int x2] (kP D q (wR aR q uR))) (vp_Si Q) 0 0 (fun _ => False) := by
  refine Met.ofW (cc := cX7_common) (maxL := 9) (ret := (some .int)) (by decide) rfl ?_
  intro p e s m args below meth c s₁ B hml hv
  obtain ⟨hargs, hP, hK, hD⟩ := hv
  have hx := B.exec
  have hb := B.bytes
  have hr := B.returns
  have hts := atoms_spec (ws := wsX7_common) B.pre
  have hown : s.vm.findClass RX7 = some m.cls := findClass_of_methodNamed B.named
  have hlocks := B.notSynchronized
  refine k_entry hargs (Nat.le_of_ble_eq_true rfl) (fun ls hl => ?_)
  have hl : lv_has ls 9 [(0, .ref (aR 0)), (1, .int x1), (2, .int x2)] := hl
  change W p l e rmX7_common s m args below meth c s.heap [] 0 0 (MQ below (vp_Si Q) args s 0 0 (fun _ => False)) _
  unfold wpX7_common at hf
  have hf := hf
    (fun (z0 : Int32) => ∀ (ls : Array Slot), lv_has ls 9 [(0, .ref (aR 0)), (1, .int x1), (2, .int x2)] → W p l e rmX7_common s m args below meth c s.heap [] 0 0 (MQ below (vp_Si Q) args s 0 0 (fun _ => False)) (F0 m 18 ls [.int z0]))
    (fun (y4 : Int32) (y5 : Int32) (y6 : Int32) => ∀ (ls : Array Slot), lv_has ls 9 [(0, .ref (aR 0)), (1, .int x1), (2, .int x2), (4, .int y4), (5, .int y5), (6, .int y6)] → W p l e rmX7_common s m args below meth c s.heap [] 0 0 (MQ below (vp_Si Q) args s 0 0 (fun _ => False)) (F0 m 34 ls []))
    (fun (y4 : Int32) (y5 : Int32) (y6 : Int32) (y7 : Int32) => ∀ (ls : Array Slot), lv_has ls 9 [(0, .ref (aR 0)), (1, .int x1), (2, .int x2), (4, .int y4), (5, .int y5), (6, .int y6), (7, .int y7)] → W p l e rmX7_common s m args below meth c s.heap [] 0 0 (MQ below (vp_Si Q) args s 0 0 (fun _ => False)) (F0 m 54 ls []))
    (fun (y4 : Int32) (y5 : Int32) (y6 : Int32) (y7 : Int32) (z0 : Int32) => ∀ (ls : Array Slot), lv_has ls 9 [(0, .ref (aR 0)), (1, .int x1), (2, .int x2), (4, .int y4), (5, .int y5), (6, .int y6), (7, .int y7)] → W p l e rmX7_common s m args below meth c s.heap [] 0 0 (MQ below (vp_Si Q) args s 0 0 (fun _ => False)) (F0 m 84 ls [.int z0]))
    (fun (y4 : Int32) (y6 : Int32) (y7 : Int32) (y8 : Int32) (z0 : Int32) => ∀ (ls : Array Slot), lv_has ls 9 [(0, .ref (aR 0)), (1, .int x1), (2, .int x2), (4, .int y4), (6, .int y6), (7, .int y7), (8, .int y8)] → W p l e rmX7_common s m args below meth c s.heap [] 0 0 (MQ below (vp_Si Q) args s 0 0 (fun _ => False)) (F0 m 98 ls [.int z0]))
    (by
      intro z0 hf ls hl
      refine lv_istore_n (lv' := [(3, .int z0), (0, .ref (aR 0)), (1, .int x1), (2, .int x2)]) hx hb dX7_common_18 rfl hl (by decide) rfl (fun ls hl => ?_)
      refine lv_iload_n hx hb dX7_common_19 rfl (lv_at hl 0 rfl) ?_
      refine lv_if_ge (tgt := 25) hx hb dX7_common_20 (by decide) (fun c3 => ?_) (fun c3 => ?_)
      · have hf := hf.1 (c3)
        refine lv_iconst (v := 0) hx hb dX7_common_25 (by decide) ?_
        refine lv_istore (lv' := [(4, .int 0), (3, .int z0), (0, .ref (aR 0)), (1, .int x1), (2, .int x2)]) hx hb dX7_common_26 hl (by decide) rfl (fun ls hl => ?_)
        refine lv_iconst (v := 0) hx hb dX7_common_28 (by decide) ?_
        refine lv_istore (lv' := [(5, .int 0), (4, .int 0), (3, .int z0), (0, .ref (aR 0)), (1, .int x1), (2, .int x2)]) hx hb dX7_common_29 hl (by decide) rfl (fun ls hl => ?_)
        refine lv_iconst (v := 0) hx hb dX7_common_31 (by decide) ?_
        refine lv_istore (lv' := [(6, .int 0), (5, .int 0), (4, .int 0), (3, .int z0), (0, .ref (aR 0)), (1, .int x1), (2, .int x2)]) hx hb dX7_common_32 hl (by decide) rfl (fun ls hl => ?_)
        exact hf ls (lv_sub hl [4, 5, 6, 2, 1, 0] rfl)
      · have hf := hf.2 (c3)
        refine lv_iload_n hx hb dX7_common_23 rfl (lv_at hl 0 rfl) ?_
        exact k_iret_r (v := z0) hx hb hr hlocks hf dX7_common_24)
    (by
      intro y4 y5 y6 hf ls hl
      refine lv_iload hx hb dX7_common_34 (lv_at hl 5 rfl) ?_
      refine lv_aload_n hx hb dX7_common_36 rfl (lv_at hl 0 rfl) ?_
      refine va_get (D := D) (ci := 5) (v := .ref (aR 6)) (C := RX7) (T := TX7) (N := 14) hx hb hts inX7_common_X7 hown hK hP 0 rfl rfl 8 (by decide) (hts (.fieldLink RX7 26 "GrowingTextModel" "sizes" "[I") (List.mem_of_getElem? (i := 1) rfl)) (fun _ h9 => h9) rfl dX7_common_37 ?_
      refine lv_iload_n hx hb dX7_common_40 rfl (lv_at hl 1 rfl) ?_
      refine va_iald hx hb hK hP 6 0 (f := (gR_sizes uR)) rfl rfl hf.1 dX7_common_41 ?_
      have hf := hf.2
      refine lv_icmp_ge (tgt := 129) hx hb dX7_common_42 (by decide) (fun c4 => ?_) (fun c4 => ?_)
      · have hf := hf.1 (c4)
        refine lv_iload_n hx hb dX7_common_129 rfl (lv_at hl 2 rfl) ?_
        refine lv_if_ne (tgt := 138) hx hb dX7_common_130 (by decide) (fun c5 => ?_) (fun c5 => ?_)
        · have hf := hf.2 (c5)
          refine lv_iload hx hb dX7_common_138 (lv_at hl 4 rfl) ?_
          exact k_iret_r (v := y5) hx hb hr hlocks hf dX7_common_140
        · have hf := hf.1 (c5)
          refine lv_iload hx hb dX7_common_133 (lv_at hl 3 rfl) ?_
          refine lv_goto (tgt := 140) hx hb dX7_common_135 (by decide) ?_
          exact k_iret_r (v := y4) hx hb hr hlocks hf dX7_common_140
      · have hf := hf.2 (c4)
        refine lv_iload hx hb dX7_common_45 (lv_at hl 5 rfl) ?_
        refine lv_iload hx hb dX7_common_47 (lv_at hl 3 rfl) ?_
        refine lv_iadd hx hb dX7_common_49 ?_
        refine lv_iconst (v := 1) hx hb dX7_common_50 (by decide) ?_
        refine lv_iadd hx hb dX7_common_51 ?_
        refine lv_istore (lv' := [(7, .int ((y6 + y4) + 1)), (0, .ref (aR 0)), (1, .int x1), (2, .int x2), (4, .int y4), (5, .int y5), (6, .int y6)]) hx hb dX7_common_52 hl (by decide) rfl (fun ls hl => ?_)
        exact hf ls (lv_sub hl [1, 2, 3, 4, 5, 6, 0] rfl))
    (by
      intro y4 y5 y6 y7 hf ls hl
      refine lv_iload hx hb dX7_common_54 (lv_at hl 6 rfl) ?_
      refine lv_aload_n hx hb dX7_common_56 rfl (lv_at hl 0 rfl) ?_
      refine va_get (D := D) (ci := 5) (v := .ref (aR 6)) (C := RX7) (T := TX7) (N := 14) hx hb hts inX7_common_X7 hown hK hP 0 rfl rfl 8 (by decide) (hts (.fieldLink RX7 26 "GrowingTextModel" "sizes" "[I") (List.mem_of_getElem? (i := 1) rfl)) (fun _ h9 => h9) rfl dX7_common_57 ?_
      refine lv_iload_n hx hb dX7_common_60 rfl (lv_at hl 1 rfl) ?_
      refine va_iald hx hb hK hP 6 0 (f := (gR_sizes uR)) rfl rfl hf.1 dX7_common_61 ?_
      have hf := hf.2
      refine lv_icmp_gt (tgt := 123) hx hb dX7_common_62 (by decide) (fun c6 => ?_) (fun c6 => ?_)
      · have hf := hf.1 (c6)
        refine lv_iinc (v := (y6 + 1)) (lv' := [(6, .int (y6 + 1)), (0, .ref (aR 0)), (1, .int x1), (2, .int x2), (4, .int y4), (5, .int y5), (7, .int y7)]) hx hb dX7_common_123 hl (k := 5) rfl rfl (by decide) rfl (fun ls hl => ?_)
        refine lv_goto (tgt := 34) hx hb dX7_common_126 (by decide) ?_
        exact hf ls (lv_sub hl [1, 2, 3, 4, 5, 0] rfl)
      · have hf := hf.2 (c6)
        refine lv_aload_n hx hb dX7_common_65 rfl (lv_at hl 0 rfl) ?_
        refine lv_iload_n hx hb dX7_common_66 rfl (lv_at hl 1 rfl) ?_
        refine lv_iload hx hb dX7_common_67 (lv_at hl 5 rfl) ?_
        refine lv_iload hx hb dX7_common_69 (lv_at hl 6 rfl) ?_
        refine k_sl (k_runV (As := [.int x1, .int y6, .int y7]) (rest := []) ⟨hx, hb, hml, hown, hts⟩ (c_X7_endsIn l D q aR uR x1 y6 y7 _ hf) (cwV 3 hts gX7_common_X7_endsIn rfl rfl rfl cdX7_endsIn ⟨Nat.le_of_ble_eq_true rfl, Nat.le_of_ble_eq_true rfl⟩) hK hP hD 0 rfl rfl rfl hl.1 rfl (Nat.le_of_ble_eq_true rfl) dX7_common_71 ⟨Nat.le_of_ble_eq_true rfl, Nat.le_of_ble_eq_true rfl⟩) (fun r7 hf => ?_)
        refine lv_lconst (v := 0) hx hb dX7_common_74 (by decide) ?_
        refine W.lcmp hx hb dX7_common_75 ?_
        refine lv_if_eq (tgt := 83) hx hb dX7_common_76 (by decide) (fun c8 => ?_) (fun c8 => ?_)
        · have hf := hf.1 ((k_cmp_eq r7 0).mp c8)
          refine lv_iconst (v := 0) hx hb dX7_common_83 (by decide) ?_
          exact hf ls (lv_sub hl [0, 1, 2, 3, 4, 5, 6] rfl)
        · have hf := hf.2 ((fun h => c8 ((k_cmp_eq r7 0).mpr h)))
          refine lv_iconst (v := 1) hx hb dX7_common_79 (by decide) ?_
          refine lv_goto (tgt := 84) hx hb dX7_common_80 (by decide) ?_
          exact hf ls (lv_sub hl [0, 1, 2, 3, 4, 5, 6] rfl))
    (by
      intro y4 y5 y6 y7 z0 hf ls hl
      refine lv_istore (lv' := [(8, .int z0), (0, .ref (aR 0)), (1, .int x1), (2, .int x2), (4, .int y4), (5, .int y5), (6, .int y6), (7, .int y7)]) hx hb dX7_common_84 hl (by decide) rfl (fun ls hl => ?_)
      refine lv_iload hx hb dX7_common_86 (lv_at hl 0 rfl) ?_
      refine lv_if_eq (tgt := 96) hx hb dX7_common_88 (by decide) (fun c9 => ?_) (fun c9 => ?_)
      · have hf := hf.1 (c9)
        refine lv_iload hx hb dX7_common_96 (lv_at hl 5 rfl) ?_
        exact hf ls (lv_sub hl [1, 2, 3, 4, 6, 7, 0] rfl)
      · have hf := hf.2 (c9)
        refine lv_iload hx hb dX7_common_91 (lv_at hl 6 rfl) ?_
        refine lv_goto (tgt := 98) hx hb dX7_common_93 (by decide) ?_
        exact hf ls (lv_sub hl [1, 2, 3, 4, 6, 7, 0] rfl))
    (by
      intro y4 y6 y7 y8 z0 hf ls hl
      refine lv_istore (lv' := [(5, .int z0), (0, .ref (aR 0)), (1, .int x1), (2, .int x2), (4, .int y4), (6, .int y6), (7, .int y7), (8, .int y8)]) hx hb dX7_common_98 hl (by decide) rfl (fun ls hl => ?_)
      refine lv_iload hx hb dX7_common_100 (lv_at hl 7 rfl) ?_
      refine lv_if_eq (tgt := 113) hx hb dX7_common_102 (by decide) (fun c10 => ?_) (fun c10 => ?_)
      · have hf := hf.1 (c10)
        refine lv_iload hx hb dX7_common_113 (lv_at hl 4 rfl) ?_
        refine lv_istore (lv' := [(4, .int y4), (5, .int z0), (0, .ref (aR 0)), (1, .int x1), (2, .int x2), (6, .int y6), (7, .int y7), (8, .int y8)]) hx hb dX7_common_115 hl (by decide) rfl (fun ls hl => ?_)
        refine lv_iinc (v := (y7 + 1)) (lv' := [(7, .int (y7 + 1)), (4, .int y4), (5, .int z0), (0, .ref (aR 0)), (1, .int x1), (2, .int x2), (6, .int y6), (8, .int y8)]) hx hb dX7_common_117 hl (k := 6) rfl rfl (by decide) rfl (fun ls hl => ?_)
        refine lv_goto (tgt := 54) hx hb dX7_common_120 (by decide) ?_
        exact hf ls (lv_sub hl [3, 4, 5, 1, 2, 6, 0] rfl)
      · have hf := hf.2 (c10)
        refine lv_iload hx hb dX7_common_105 (lv_at hl 6 rfl) ?_
        refine lv_iload hx hb dX7_common_107 (lv_at hl 5 rfl) ?_
        refine lv_isub hx hb dX7_common_109 ?_
        refine lv_goto (tgt := 115) hx hb dX7_common_110 (by decide) ?_
        refine lv_istore (lv' := [(4, .int (y7 - y6)), (5, .int z0), (0, .ref (aR 0)), (1, .int x1), (2, .int x2), (6, .int y6), (7, .int y7), (8, .int y8)]) hx hb dX7_common_115 hl (by decide) rfl (fun ls hl => ?_)
        refine lv_iinc (v := (y7 + 1)) (lv' := [(7, .int (y7 + 1)), (4, .int (y7 - y6)), (5, .int z0), (0, .ref (aR 0)), (1, .int x1), (2, .int x2), (6, .int y6), (8, .int y8)]) hx hb dX7_common_117 hl (k := 6) rfl rfl (by decide) rfl (fun ls hl => ?_)
        refine lv_goto (tgt := 54) hx hb dX7_common_120 (by decide) ?_
        exact hf ls (lv_sub hl [3, 4, 5, 1, 2, 6, 0] rfl))
  refine lv_iload_n hx hb dX7_common_0 rfl (lv_at hl 2 rfl) ?_
  refine lv_iconst (v := 0) hx hb dX7_common_1 (by decide) ?_
  refine lv_iconst (v := 1) hx hb dX7_common_2 (by decide) ?_
  refine k_si (k_runS (As := [.int x2, .int 0, .int 1]) (rest := []) ⟨hx, hb, hml, hown, hts⟩ (cF_X7_in l D q x2 0 1) (va_cwS 3 hts gX7_common_X7_in rfl rfl rfl cdX7_in ⟨Nat.le_of_ble_eq_true rfl, Nat.le_of_ble_eq_true rfl⟩) hK k_nilP k_nilD rfl hl.1 rfl (Nat.le_of_ble_eq_true rfl) dX7_common_3 ⟨Nat.le_of_ble_eq_true rfl, Nat.le_of_ble_eq_true rfl⟩) (fun r hr => ?_)
  subst hr
  refine lv_if_eq (tgt := 17) hx hb dX7_common_6 (by decide) (fun c1 => ?_) (fun c1 => ?_)
  · have hf := hf.1 (c1)
    refine lv_iconst (v := (-1)) hx hb dX7_common_17 (by decide) ?_
    exact hf ls (lv_sub hl [0, 1, 2] rfl)
  · have hf := hf.2 (c1)
    refine lv_aload_n hx hb dX7_common_9 rfl (lv_at hl 0 rfl) ?_
    refine lv_iload_n hx hb dX7_common_10 rfl (lv_at hl 1 rfl) ?_
    refine k_si (k_runV (As := [.int x1]) (rest := []) ⟨hx, hb, hml, hown, hts⟩ (c_X7_need l D q aR uR x1 _ hf) (cwV 1 hts gX7_common_X7_need rfl rfl rfl cdX7_need ⟨Nat.le_of_ble_eq_true rfl, Nat.le_of_ble_eq_true rfl⟩) hK hP hD 0 rfl rfl rfl hl.1 rfl (Nat.le_of_ble_eq_true rfl) dX7_common_11 ⟨Nat.le_of_ble_eq_true rfl, Nat.le_of_ble_eq_true rfl⟩) (fun r2 hf => ?_)
    refine lv_goto (tgt := 18) hx hb dX7_common_14 (by decide) ?_
    exact hf ls (lv_sub hl [0, 1, 2] rfl)
