def wpX7_border (uR : RSt) (x1 : Int32) (Q : Int32 → Prop) : Prop :=
  ∀ (X15 : Int32 → Int32 → Prop),
  (∀ (y2 : Int32) (y3 : Int32),
    ((y3 ≤ 0 →
      Q (-4)) ∧
    (¬ (y3 ≤ 0) →
      wpX7_isBorder uR y3 (fun r3 =>
        (r3 = 0 →
          X15 y2 (y3 + (-1))) ∧
        (¬ (r3 = 0) →
          (y2 = 0 →
            Q y3) ∧
          (¬ (y2 = 0) →
            X15 (y2 + (-1)) (y3 + (-1))))))) → X15 y2 y3) →
  (((0 : Int32) ≤ x1 →
    X15 x1 ((gR_n uR) - 1)) ∧
  (¬ ((0 : Int32) ≤ x1) →
    Q (-1)))
def rmX7_border : Room := { frames := 2, cells := 0, slots := 0, locals := 44 }
theorem inX7_border_X7 : ∀ w ∈ wsX70, w ∈ wsX7_border := fun w h => List.mem_cons_of_mem _ (List.mem_append_right _ h)
set_option maxRecDepth 100000 in
set_option maxHeartbeats 4000000 in
theorem c_X7_border (l : Launch) (D : va_G) (q : Nat → ClassId) (aR : Nat → Nat) (uR : RSt) (x1 : Int32) (Q : Int32 → Prop) (hf : wpX7_border uR x1 Q) : Met l yX7_border wsX7_border rmX7_border (va_Pc [.ref (aR 0), .int x1] (kP D q (wR aR q uR))) (vp_Si Q) 0 0 (fun _ => False) := by
  refine Met.ofW (cc := cX7_border) (maxL := 4) (ret := (some .int)) (by decide) rfl ?_
  intro p e s m args below meth c s₁ B hml hv
  obtain ⟨hargs, hP, hK, hD⟩ := hv
  have hx := B.exec
  have hb := B.bytes
  have hr := B.returns
  have hts := atoms_spec (ws := wsX7_border) B.pre
  have hown : s.vm.findClass RX7 = some m.cls := findClass_of_methodNamed B.named
  have hlocks := B.notSynchronized
  refine k_entry hargs (Nat.le_of_ble_eq_true rfl) (fun ls hl => ?_)
  have hl : lv_has ls 4 [(0, .ref (aR 0)), (1, .int x1)] := hl
  change W p l e rmX7_border s m args below meth c s.heap [] 0 0 (MQ below (vp_Si Q) args s 0 0 (fun _ => False)) _
  unfold wpX7_border at hf
  have hf := hf
    (fun (y2 : Int32) (y3 : Int32) => ∀ (ls : Array Slot), lv_has ls 4 [(0, .ref (aR 0)), (2, .int y2), (3, .int y3)] → W p l e rmX7_border s m args below meth c s.heap [] 0 0 (MQ below (vp_Si Q) args s 0 0 (fun _ => False)) (F0 m 15 ls []))
    (by
      intro y2 y3 hf ls hl
      refine lv_iload_n hx hb dX7_border_15 rfl (lv_at hl 2 rfl) ?_
      refine lv_if_le (tgt := 42) hx hb dX7_border_16 (by decide) (fun c2 => ?_) (fun c2 => ?_)
      · have hf := hf.1 (c2)
        refine lv_bipush (v := (-4)) hx hb dX7_border_42 (by decide) ?_
        exact k_iret_r (v := (-4)) hx hb hr hlocks hf dX7_border_44
      · have hf := hf.2 (c2)
        refine lv_aload_n hx hb dX7_border_19 rfl (lv_at hl 0 rfl) ?_
        refine lv_iload_n hx hb dX7_border_20 rfl (lv_at hl 2 rfl) ?_
        refine k_si (k_runV (As := [.int y3]) (rest := []) ⟨hx, hb, hml, hown, hts⟩ (c_X7_isBorder l D q aR uR y3 _ hf) (cwV 1 hts gX7_border_X7_isBorder rfl rfl rfl cdX7_isBorder ⟨Nat.le_of_ble_eq_true rfl, Nat.le_of_ble_eq_true rfl⟩) hK hP hD 0 rfl rfl rfl hl.1 rfl (Nat.le_of_ble_eq_true rfl) dX7_border_21 ⟨Nat.le_of_ble_eq_true rfl, Nat.le_of_ble_eq_true rfl⟩) (fun r3 hf => ?_)
        refine lv_if_eq (tgt := 36) hx hb dX7_border_24 (by decide) (fun c4 => ?_) (fun c4 => ?_)
        · have hf := hf.1 (c4)
          refine lv_iinc (v := (y3 + (-1))) (lv' := [(3, .int (y3 + (-1))), (0, .ref (aR 0)), (2, .int y2)]) hx hb dX7_border_36 hl (k := 2) rfl rfl (by decide) rfl (fun ls hl => ?_)
          refine lv_goto (tgt := 15) hx hb dX7_border_39 (by decide) ?_
          exact hf ls (lv_sub hl [1, 2, 0] rfl)
        · have hf := hf.2 (c4)
          refine lv_iload_n hx hb dX7_border_27 rfl (lv_at hl 1 rfl) ?_
          refine lv_if_ne (tgt := 33) hx hb dX7_border_28 (by decide) (fun c5 => ?_) (fun c5 => ?_)
          · have hf := hf.2 (c5)
            refine lv_iinc (v := (y2 + (-1))) (lv' := [(2, .int (y2 + (-1))), (0, .ref (aR 0)), (3, .int y3)]) hx hb dX7_border_33 hl (k := 1) rfl rfl (by decide) rfl (fun ls hl => ?_)
            refine lv_iinc (v := (y3 + (-1))) (lv' := [(3, .int (y3 + (-1))), (2, .int (y2 + (-1))), (0, .ref (aR 0))]) hx hb dX7_border_36 hl (k := 2) rfl rfl (by decide) rfl (fun ls hl => ?_)
            refine lv_goto (tgt := 15) hx hb dX7_border_39 (by decide) ?_
            exact hf ls (lv_sub hl [2, 1, 0] rfl)
          · have hf := hf.1 (c5)
            refine lv_iload_n hx hb dX7_border_31 rfl (lv_at hl 2 rfl) ?_
            exact k_iret_r (v := y3) hx hb hr hlocks hf dX7_border_32)
  refine lv_iload_n hx hb dX7_border_0 rfl (lv_at hl 1 rfl) ?_
  refine lv_if_ge (tgt := 6) hx hb dX7_border_1 (by decide) (fun c1 => ?_) (fun c1 => ?_)
  · have hf := hf.1 (c1)
    refine lv_iload_n hx hb dX7_border_6 rfl (lv_at hl 1 rfl) ?_
    refine lv_istore_n (lv' := [(2, .int x1), (0, .ref (aR 0)), (1, .int x1)]) hx hb dX7_border_7 rfl hl (by decide) rfl (fun ls hl => ?_)
    refine lv_aload_n hx hb dX7_border_8 rfl (lv_at hl 1 rfl) ?_
    refine va_get (D := D) (ci := 5) (v := .int (gR_n uR)) (C := RX7) (T := TX7) (N := 14) hx hb hts inX7_border_X7 hown hK hP 0 rfl rfl 1 (by decide) (hts (.fieldLink RX7 56 "GrowingTextModel" "n" "I") (List.mem_of_getElem? (i := 1) rfl)) (fun _ h9 => h9) rfl dX7_border_9 ?_
    refine lv_iconst (v := 1) hx hb dX7_border_12 (by decide) ?_
    refine lv_isub hx hb dX7_border_13 ?_
    refine lv_istore_n (lv' := [(3, .int ((gR_n uR) - 1)), (2, .int x1), (0, .ref (aR 0)), (1, .int x1)]) hx hb dX7_border_14 rfl hl (by decide) rfl (fun ls hl => ?_)
    exact hf ls (lv_sub hl [2, 1, 0] rfl)
  · have hf := hf.2 (c1)
    refine lv_iconst (v := (-1)) hx hb dX7_border_4 (by decide) ?_
    exact k_iret_r (v := (-1)) hx hb hr hlocks hf dX7_border_5
def wpX7_period (uR : RSt) (Q : Int32 → Prop) : Prop :=
  ∀ (X7 : Int32 → Prop) (X25 : Int32 → Prop),
  (∀ (y1 : Int32),
    ((y1 ≤ 0 →
      X25 y1) ∧
    (¬ (y1 ≤ 0) →
      wpX7_isBorder uR y1 (fun r2 =>
        (r2 = 0 →
          X7 (y1 + (-1))) ∧
        (¬ (r2 = 0) →
          X25 y1)))) → X7 y1) →
  (∀ (y1 : Int32),
    (((gR_n uR) = 0 →
      Q (-4)) ∧
    (¬ ((gR_n uR) = 0) →
      Q ((gR_n uR) - y1))) → X25 y1) →
  X7 ((gR_n uR) - 1)
def rmX7_period : Room := { frames := 2, cells := 0, slots := 0, locals := 44 }
theorem inX7_period_X7 : ∀ w ∈ wsX70, w ∈ wsX7_period := fun w h => List.mem_cons_of_mem _ (List.mem_append_right _ h)
set_option maxRecDepth 100000 in
set_option maxHeartbeats 4000000 in
theorem c_X7_period (l : Launch) (D : va_G) (q : Nat → ClassId) (aR : Nat → Nat) (uR : RSt) (Q : Int32 → Prop) (hf : wpX7_period uR Q) : Met l yX7_period wsX7_period rmX7_period (va_Pc [.ref (aR 0)] (kP D q (wR aR q uR))) (vp_Si Q) 0 0 (fun _ => False) := by
  refine Met.ofW (cc := cX7_period) (maxL := 2) (ret := (some .int)) (by decide) rfl ?_
  intro p e s m args below meth c s₁ B hml hv
  obtain ⟨hargs, hP, hK, hD⟩ := hv
  have hx := B.exec
  have hb := B.bytes
  have hr := B.returns
  have hts := atoms_spec (ws := wsX7_period) B.pre
  have hown : s.vm.findClass RX7 = some m.cls := findClass_of_methodNamed B.named
  have hlocks := B.notSynchronized
  refine k_entry hargs (Nat.le_of_ble_eq_true rfl) (fun ls hl => ?_)
  have hl : lv_has ls 2 [(0, .ref (aR 0))] := hl
  change W p l e rmX7_period s m args below meth c s.heap [] 0 0 (MQ below (vp_Si Q) args s 0 0 (fun _ => False)) _
  unfold wpX7_period at hf
  have hf := hf
    (fun (y1 : Int32) => ∀ (ls : Array Slot), lv_has ls 2 [(0, .ref (aR 0)), (1, .int y1)] → W p l e rmX7_period s m args below meth c s.heap [] 0 0 (MQ below (vp_Si Q) args s 0 0 (fun _ => False)) (F0 m 7 ls []))
    (fun (y1 : Int32) => ∀ (ls : Array Slot), lv_has ls 2 [(0, .ref (aR 0)), (1, .int y1)] → W p l e rmX7_period s m args below meth c s.heap [] 0 0 (MQ below (vp_Si Q) args s 0 0 (fun _ => False)) (F0 m 25 ls []))
    (by
      intro y1 hf ls hl
      refine lv_iload_n hx hb dX7_period_7 rfl (lv_at hl 1 rfl) ?_
      refine lv_if_le (tgt := 25) hx hb dX7_period_8 (by decide) (fun c1 => ?_) (fun c1 => ?_)
      · have hf := hf.1 (c1)
        exact hf ls (lv_sub hl [0, 1] rfl)
      · have hf := hf.2 (c1)
        refine lv_aload_n hx hb dX7_period_11 rfl (lv_at hl 0 rfl) ?_
        refine lv_iload_n hx hb dX7_period_12 rfl (lv_at hl 1 rfl) ?_
        refine k_si (k_runV (As := [.int y1]) (rest := []) ⟨hx, hb, hml, hown, hts⟩ (c_X7_isBorder l D q aR uR y1 _ hf) (cwV 1 hts gX7_period_X7_isBorder rfl rfl rfl cdX7_isBorder ⟨Nat.le_of_ble_eq_true rfl, Nat.le_of_ble_eq_true rfl⟩) hK hP hD 0 rfl rfl rfl hl.1 rfl (Nat.le_of_ble_eq_true rfl) dX7_period_13 ⟨Nat.le_of_ble_eq_true rfl, Nat.le_of_ble_eq_true rfl⟩) (fun r2 hf => ?_)
        refine lv_if_ne (tgt := 25) hx hb dX7_period_16 (by decide) (fun c3 => ?_) (fun c3 => ?_)
        · have hf := hf.2 (c3)
          exact hf ls (lv_sub hl [0, 1] rfl)
        · have hf := hf.1 (c3)
          refine lv_iinc (v := (y1 + (-1))) (lv' := [(1, .int (y1 + (-1))), (0, .ref (aR 0))]) hx hb dX7_period_19 hl (k := 1) rfl rfl (by decide) rfl (fun ls hl => ?_)
          refine lv_goto (tgt := 7) hx hb dX7_period_22 (by decide) ?_
          exact hf ls (lv_sub hl [1, 0] rfl))
    (by
      intro y1 hf ls hl
      refine lv_aload_n hx hb dX7_period_25 rfl (lv_at hl 0 rfl) ?_
      refine va_get (D := D) (ci := 5) (v := .int (gR_n uR)) (C := RX7) (T := TX7) (N := 14) hx hb hts inX7_period_X7 hown hK hP 0 rfl rfl 1 (by decide) (hts (.fieldLink RX7 56 "GrowingTextModel" "n" "I") (List.mem_of_getElem? (i := 1) rfl)) (fun _ h9 => h9) rfl dX7_period_26 ?_
      refine lv_if_ne (tgt := 37) hx hb dX7_period_29 (by decide) (fun c4 => ?_) (fun c4 => ?_)
      · have hf := hf.2 (c4)
        refine lv_aload_n hx hb dX7_period_37 rfl (lv_at hl 0 rfl) ?_
        refine va_get (D := D) (ci := 5) (v := .int (gR_n uR)) (C := RX7) (T := TX7) (N := 14) hx hb hts inX7_period_X7 hown hK hP 0 rfl rfl 1 (by decide) (hts (.fieldLink RX7 56 "GrowingTextModel" "n" "I") (List.mem_of_getElem? (i := 1) rfl)) (fun _ h9 => h9) rfl dX7_period_38 ?_
        refine lv_iload_n hx hb dX7_period_41 rfl (lv_at hl 1 rfl) ?_
        refine lv_isub hx hb dX7_period_42 ?_
        exact k_iret_r (v := ((gR_n uR) - y1)) hx hb hr hlocks hf dX7_period_43
      · have hf := hf.1 (c4)
        refine lv_bipush (v := (-4)) hx hb dX7_period_32 (by decide) ?_
        refine lv_goto (tgt := 43) hx hb dX7_period_34 (by decide) ?_
        exact k_iret_r (v := (-4)) hx hb hr hlocks hf dX7_period_43)
  refine lv_aload_n hx hb dX7_period_0 rfl (lv_at hl 0 rfl) ?_
  refine va_get (D := D) (ci := 5) (v := .int (gR_n uR)) (C := RX7) (T := TX7) (N := 14) hx hb hts inX7_period_X7 hown hK hP 0 rfl rfl 1 (by decide) (hts (.fieldLink RX7 56 "GrowingTextModel" "n" "I") (List.mem_of_getElem? (i := 1) rfl)) (fun _ h9 => h9) rfl dX7_period_1 ?_
  refine lv_iconst (v := 1) hx hb dX7_period_4 (by decide) ?_
  refine lv_isub hx hb dX7_period_5 ?_
  refine lv_istore_n (lv' := [(1, .int ((gR_n uR) - 1)), (0, .ref (aR 0))]) hx hb dX7_period_6 rfl hl (by decide) rfl (fun ls hl => ?_)
  exact hf ls (lv_sub hl [1, 0] rfl)
def wpX7_next (uR : RSt) (x1 : Int32) (Q : Int32 → Prop) : Prop :=
  ∀ (X38 : Int64 → Int32 → Int32 → Int32 → Prop) (X73 : Int64 → Int32 → Int32 → Int32 → Int32 → Prop),
  (∀ (y2 : Int64) (y4 : Int32) (y5 : Int32) (y6 : Int32),
    (((gR_letters uR) ≤ y6 →
      Q y4) ∧
    (¬ ((gR_letters uR) ≤ y6) →
      wpX7_behind uR y2 y6 (fun r4 =>
        wpX7_bits r4 (fun r5 =>
          (r5 ≤ y5 →
            X73 y2 y5 y6 r5 y4) ∧
          (¬ (r5 ≤ y5) →
            X73 y2 y5 y6 r5 y6))))) → X38 y2 y4 y5 y6) →
  (∀ (y2 : Int64) (y5 : Int32) (y6 : Int32) (y7 : Int32) (z0 : Int32),
    ((y7 ≤ y5 →
      X38 y2 z0 y5 (y6 + 1)) ∧
    (¬ (y7 ≤ y5) →
      X38 y2 z0 y7 (y6 + 1))) → X73 y2 y5 y6 y7 z0) →
  (((fX7_in x1 0 (gR_n uR)) = 0 →
    Q (-1)) ∧
  (¬ ((fX7_in x1 0 (gR_n uR)) = 0) →
    wpX7_endsOf uR (gR_n uR) x1 (gR_n uR) (fun r2 =>
      X38 r2 (-4) 0 0)))
def rmX7_next : Room := { frames := 2, cells := 0, slots := 0, locals := 49 }
theorem inX7_next_X7 : ∀ w ∈ wsX70, w ∈ wsX7_next := fun w h => List.mem_cons_of_mem _ (List.mem_append_right _ h)
set_option maxRecDepth 100000 in
set_option maxHeartbeats 4000000 in
theorem c_X7_next (l : Launch) (D : va_G) (q : Nat → ClassId) (aR : Nat → Nat) (uR : RSt) (x1 : Int32) (Q : Int32 → Prop) (hf : wpX7_next uR x1 Q) : Met l yX7_next wsX7_next rmX7_next (va_Pc [.ref (aR 0), .int x1] (kP D q (wR aR q uR))) (vp_Si Q) 0 0 (fun _ => False) := by
  refine Met.ofW (cc := cX7_next) (maxL := 8) (ret := (some .int)) (by decide) rfl ?_
  intro p e s m args below meth c s₁ B hml hv
  obtain ⟨hargs, hP, hK, hD⟩ := hv
  have hx := B.exec
  have hb := B.bytes
  have hr := B.returns
  have hts := atoms_spec (ws := wsX7_next) B.pre
  have hown : s.vm.findClass RX7 = some m.cls := findClass_of_methodNamed B.named
  have hlocks := B.notSynchronized
  refine k_entry hargs (Nat.le_of_ble_eq_true rfl) (fun ls hl => ?_)
  have hl : lv_has ls 8 [(0, .ref (aR 0)), (1, .int x1)] := hl
  change W p l e rmX7_next s m args below meth c s.heap [] 0 0 (MQ below (vp_Si Q) args s 0 0 (fun _ => False)) _
  unfold wpX7_next at hf
  have hf := hf
    (fun (y2 : Int64) (y4 : Int32) (y5 : Int32) (y6 : Int32) => ∀ (ls : Array Slot), lv_has ls 8 [(0, .ref (aR 0)), (2, .long y2), (4, .int y4), (5, .int y5), (6, .int y6)] → W p l e rmX7_next s m args below meth c s.heap [] 0 0 (MQ below (vp_Si Q) args s 0 0 (fun _ => False)) (F0 m 38 ls []))
    (fun (y2 : Int64) (y5 : Int32) (y6 : Int32) (y7 : Int32) (z0 : Int32) => ∀ (ls : Array Slot), lv_has ls 8 [(0, .ref (aR 0)), (2, .long y2), (5, .int y5), (6, .int y6), (7, .int y7)] → W p l e rmX7_next s m args below meth c s.heap [] 0 0 (MQ below (vp_Si Q) args s 0 0 (fun _ => False)) (F0 m 73 ls [.int z0]))
    (by
      intro y2 y4 y5 y6 hf ls hl
      refine lv_iload hx hb dX7_next_38 (lv_at hl 4 rfl) ?_
      refine lv_aload_n hx hb dX7_next_40 rfl (lv_at hl 0 rfl) ?_
      refine va_get (D := D) (ci := 5) (v := .int (gR_letters uR)) (C := RX7) (T := TX7) (N := 14) hx hb hts inX7_next_X7 hown hK hP 0 rfl rfl 0 (by decide) (hts (.fieldLink RX7 52 "GrowingTextModel" "letters" "I") (List.mem_of_getElem? (i := 2) rfl)) (fun _ h9 => h9) rfl dX7_next_41 ?_
      refine lv_icmp_ge (tgt := 97) hx hb dX7_next_44 (by decide) (fun c3 => ?_) (fun c3 => ?_)
      · have hf := hf.1 (c3)
        refine lv_iload hx hb dX7_next_97 (lv_at hl 2 rfl) ?_
        exact k_iret_r (v := y4) hx hb hr hlocks hf dX7_next_99
      · have hf := hf.2 (c3)
        refine lv_aload_n hx hb dX7_next_47 rfl (lv_at hl 0 rfl) ?_
        refine lv_lload_n hx hb dX7_next_48 rfl (lv_at hl 1 rfl) ?_
        refine lv_iload hx hb dX7_next_49 (lv_at hl 4 rfl) ?_
        refine k_sl (k_runV (As := [.long y2, .int y6]) (rest := []) ⟨hx, hb, hml, hown, hts⟩ (c_X7_behind l D q aR uR y2 y6 _ hf) (cwV 2 hts gX7_next_X7_behind rfl rfl rfl cdX7_behind ⟨Nat.le_of_ble_eq_true rfl, Nat.le_of_ble_eq_true rfl⟩) hK hP hD 0 rfl rfl rfl hl.1 rfl (Nat.le_of_ble_eq_true rfl) dX7_next_51 ⟨Nat.le_of_ble_eq_true rfl, Nat.le_of_ble_eq_true rfl⟩) (fun r4 hf => ?_)
        refine k_si (k_runS (As := [.long r4]) (rest := []) ⟨hx, hb, hml, hown, hts⟩ (c_X7_bits l D q r4 _ hf) (va_cwS 1 hts gX7_next_X7_bits rfl rfl rfl cdX7_bits ⟨Nat.le_of_ble_eq_true rfl, Nat.le_of_ble_eq_true rfl⟩) hK k_nilP k_nilD rfl hl.1 rfl (Nat.le_of_ble_eq_true rfl) dX7_next_54 ⟨Nat.le_of_ble_eq_true rfl, Nat.le_of_ble_eq_true rfl⟩) (fun r5 hf => ?_)
        refine lv_istore (lv' := [(7, .int r5), (0, .ref (aR 0)), (2, .long y2), (4, .int y4), (5, .int y5), (6, .int y6)]) hx hb dX7_next_57 hl (by decide) rfl (fun ls hl => ?_)
        refine lv_iload hx hb dX7_next_59 (lv_at hl 0 rfl) ?_
        refine lv_iload hx hb dX7_next_61 (lv_at hl 4 rfl) ?_
        refine lv_icmp_le (tgt := 71) hx hb dX7_next_63 (by decide) (fun c6 => ?_) (fun c6 => ?_)
        · have hf := hf.1 (c6)
          refine lv_iload hx hb dX7_next_71 (lv_at hl 3 rfl) ?_
          exact hf ls (lv_sub hl [1, 2, 4, 5, 0] rfl)
        · have hf := hf.2 (c6)
          refine lv_iload hx hb dX7_next_66 (lv_at hl 5 rfl) ?_
          refine lv_goto (tgt := 73) hx hb dX7_next_68 (by decide) ?_
          exact hf ls (lv_sub hl [1, 2, 4, 5, 0] rfl))
    (by
      intro y2 y5 y6 y7 z0 hf ls hl
      refine lv_istore (lv' := [(4, .int z0), (0, .ref (aR 0)), (2, .long y2), (5, .int y5), (6, .int y6), (7, .int y7)]) hx hb dX7_next_73 hl (by decide) rfl (fun ls hl => ?_)
      refine lv_iload hx hb dX7_next_75 (lv_at hl 5 rfl) ?_
      refine lv_iload hx hb dX7_next_77 (lv_at hl 3 rfl) ?_
      refine lv_icmp_le (tgt := 87) hx hb dX7_next_79 (by decide) (fun c7 => ?_) (fun c7 => ?_)
      · have hf := hf.1 (c7)
        refine lv_iload hx hb dX7_next_87 (lv_at hl 3 rfl) ?_
        refine lv_istore (lv' := [(5, .int y5), (4, .int z0), (0, .ref (aR 0)), (2, .long y2), (6, .int y6), (7, .int y7)]) hx hb dX7_next_89 hl (by decide) rfl (fun ls hl => ?_)
        refine lv_iinc (v := (y6 + 1)) (lv' := [(6, .int (y6 + 1)), (5, .int y5), (4, .int z0), (0, .ref (aR 0)), (2, .long y2), (7, .int y7)]) hx hb dX7_next_91 hl (k := 4) rfl rfl (by decide) rfl (fun ls hl => ?_)
        refine lv_goto (tgt := 38) hx hb dX7_next_94 (by decide) ?_
        exact hf ls (lv_sub hl [3, 4, 2, 1, 0] rfl)
      · have hf := hf.2 (c7)
        refine lv_iload hx hb dX7_next_82 (lv_at hl 5 rfl) ?_
        refine lv_goto (tgt := 89) hx hb dX7_next_84 (by decide) ?_
        refine lv_istore (lv' := [(5, .int y7), (4, .int z0), (0, .ref (aR 0)), (2, .long y2), (6, .int y6), (7, .int y7)]) hx hb dX7_next_89 hl (by decide) rfl (fun ls hl => ?_)
        refine lv_iinc (v := (y6 + 1)) (lv' := [(6, .int (y6 + 1)), (5, .int y7), (4, .int z0), (0, .ref (aR 0)), (2, .long y2), (7, .int y7)]) hx hb dX7_next_91 hl (k := 4) rfl rfl (by decide) rfl (fun ls hl => ?_)
        refine lv_goto (tgt := 38) hx hb dX7_next_94 (by decide) ?_
        exact hf ls (lv_sub hl [3, 4, 2, 1, 0] rfl))
  refine lv_iload_n hx hb dX7_next_0 rfl (lv_at hl 1 rfl) ?_
  refine lv_iconst (v := 0) hx hb dX7_next_1 (by decide) ?_
  refine lv_aload_n hx hb dX7_next_2 rfl (lv_at hl 0 rfl) ?_
  refine va_get (D := D) (ci := 5) (v := .int (gR_n uR)) (C := RX7) (T := TX7) (N := 14) hx hb hts inX7_next_X7 hown hK hP 0 rfl rfl 1 (by decide) (hts (.fieldLink RX7 56 "GrowingTextModel" "n" "I") (List.mem_of_getElem? (i := 1) rfl)) (fun _ h9 => h9) rfl dX7_next_3 ?_
  refine k_si (k_runS (As := [.int x1, .int 0, .int (gR_n uR)]) (rest := []) ⟨hx, hb, hml, hown, hts⟩ (cF_X7_in l D q x1 0 (gR_n uR)) (va_cwS 3 hts gX7_next_X7_in rfl rfl rfl cdX7_in ⟨Nat.le_of_ble_eq_true rfl, Nat.le_of_ble_eq_true rfl⟩) hK k_nilP k_nilD rfl hl.1 rfl (Nat.le_of_ble_eq_true rfl) dX7_next_6 ⟨Nat.le_of_ble_eq_true rfl, Nat.le_of_ble_eq_true rfl⟩) (fun r hr => ?_)
  subst hr
  refine lv_if_ne (tgt := 14) hx hb dX7_next_9 (by decide) (fun c1 => ?_) (fun c1 => ?_)
  · have hf := hf.2 (c1)
    refine lv_aload_n hx hb dX7_next_14 rfl (lv_at hl 0 rfl) ?_
    refine lv_aload_n hx hb dX7_next_15 rfl (lv_at hl 0 rfl) ?_
    refine va_get (D := D) (ci := 5) (v := .int (gR_n uR)) (C := RX7) (T := TX7) (N := 14) hx hb hts inX7_next_X7 hown hK hP 0 rfl rfl 1 (by decide) (hts (.fieldLink RX7 56 "GrowingTextModel" "n" "I") (List.mem_of_getElem? (i := 1) rfl)) (fun _ h9 => h9) rfl dX7_next_16 ?_
    refine lv_iload_n hx hb dX7_next_19 rfl (lv_at hl 1 rfl) ?_
    refine lv_aload_n hx hb dX7_next_20 rfl (lv_at hl 0 rfl) ?_
    refine va_get (D := D) (ci := 5) (v := .int (gR_n uR)) (C := RX7) (T := TX7) (N := 14) hx hb hts inX7_next_X7 hown hK hP 0 rfl rfl 1 (by decide) (hts (.fieldLink RX7 56 "GrowingTextModel" "n" "I") (List.mem_of_getElem? (i := 1) rfl)) (fun _ h9 => h9) rfl dX7_next_21 ?_
    refine k_sl (k_runV (As := [.int (gR_n uR), .int x1, .int (gR_n uR)]) (rest := []) ⟨hx, hb, hml, hown, hts⟩ (c_X7_endsOf l D q aR uR (gR_n uR) x1 (gR_n uR) _ hf) (cwV 3 hts gX7_next_X7_endsOf rfl rfl rfl cdX7_endsOf ⟨Nat.le_of_ble_eq_true rfl, Nat.le_of_ble_eq_true rfl⟩) hK hP hD 0 rfl rfl rfl hl.1 rfl (Nat.le_of_ble_eq_true rfl) dX7_next_24 ⟨Nat.le_of_ble_eq_true rfl, Nat.le_of_ble_eq_true rfl⟩) (fun r2 hf => ?_)
    refine lv_lstore_n (lv' := [(2, .long r2), (0, .ref (aR 0)), (1, .int x1)]) hx hb dX7_next_27 rfl hl (by decide) rfl (fun ls hl => ?_)
    refine lv_bipush (v := (-4)) hx hb dX7_next_28 (by decide) ?_
    refine lv_istore (lv' := [(4, .int (-4)), (2, .long r2), (0, .ref (aR 0)), (1, .int x1)]) hx hb dX7_next_30 hl (by decide) rfl (fun ls hl => ?_)
    refine lv_iconst (v := 0) hx hb dX7_next_32 (by decide) ?_
    refine lv_istore (lv' := [(5, .int 0), (4, .int (-4)), (2, .long r2), (0, .ref (aR 0)), (1, .int x1)]) hx hb dX7_next_33 hl (by decide) rfl (fun ls hl => ?_)
    refine lv_iconst (v := 0) hx hb dX7_next_35 (by decide) ?_
    refine lv_istore (lv' := [(6, .int 0), (5, .int 0), (4, .int (-4)), (2, .long r2), (0, .ref (aR 0)), (1, .int x1)]) hx hb dX7_next_36 hl (by decide) rfl (fun ls hl => ?_)
    exact hf ls (lv_sub hl [4, 3, 2, 1, 0] rfl)
  · have hf := hf.1 (c1)
    refine lv_iconst (v := (-1)) hx hb dX7_next_12 (by decide) ?_
    exact k_iret_r (v := (-1)) hx hb hr hlocks hf dX7_next_13
def wpX7_worth (uR : RSt) (x1 : Int32) (Q : Int32 → Prop) : Prop :=
  ∀ (X20 : Int64 → Int64 → Int32 → Prop) (X48 : Int64 → Int32 → Int64 → Prop),
  (∀ (y2 : Int64) (y4 : Int64) (y6 : Int32),
    (((gR_n uR) < y6 →
      Q (y2.toInt32)) ∧
    (¬ ((gR_n uR) < y6) →
      ((y4 : Int64) ≤ 2147483647 →
        X48 y2 y6 (y4 * ((x1).toInt64))) ∧
      (¬ ((y4 : Int64) ≤ 2147483647) →
        X48 y2 y6 y4))) → X20 y2 y4 y6) →
  (∀ (y2 : Int64) (y6 : Int32) (z0 : Int64),
    wpX7_unlikeOf uR y6 (gR_n uR) (fun r4 =>
      (((y2 + (z0 * ((r4).toInt64))) : Int64) ≤ 2147483647 →
        X20 (y2 + (z0 * ((r4).toInt64))) z0 (y6 + 1)) ∧
      (¬ (((y2 + (z0 * ((r4).toInt64))) : Int64) ≤ 2147483647) →
        Q (-13))) → X48 y2 y6 z0) →
  (((fX7_in x1 1 9) = 0 →
    Q (-1)) ∧
  (¬ ((fX7_in x1 1 9) = 0) →
    X20 0 1 1))
def rmX7_worth : Room := { frames := 2, cells := 0, slots := 0, locals := 49 }
theorem inX7_worth_X7 : ∀ w ∈ wsX70, w ∈ wsX7_worth := fun w h => List.mem_cons_of_mem _ (List.mem_append_right _ h)
set_option maxRecDepth 100000 in
set_option maxHeartbeats 4000000 in
theorem c_X7_worth (l : Launch) (D : va_G) (q : Nat → ClassId) (aR : Nat → Nat) (uR : RSt) (x1 : Int32) (Q : Int32 → Prop) (hf : wpX7_worth uR x1 Q) : Met l yX7_worth wsX7_worth rmX7_worth (va_Pc [.ref (aR 0), .int x1] (kP D q (wR aR q uR))) (vp_Si Q) 0 0 (fun _ => False) := by
  refine Met.ofW (cc := cX7_worth) (maxL := 7) (ret := (some .int)) (by decide) rfl ?_
  intro p e s m args below meth c s₁ B hml hv
  obtain ⟨hargs, hP, hK, hD⟩ := hv
  have hx := B.exec
  have hb := B.bytes
  have hr := B.returns
  have hts := atoms_spec (ws := wsX7_worth) B.pre
  have hown : s.vm.findClass RX7 = some m.cls := findClass_of_methodNamed B.named
  have hlocks := B.notSynchronized
  refine k_entry hargs (Nat.le_of_ble_eq_true rfl) (fun ls hl => ?_)
  have hl : lv_has ls 7 [(0, .ref (aR 0)), (1, .int x1)] := hl
  change W p l e rmX7_worth s m args below meth c s.heap [] 0 0 (MQ below (vp_Si Q) args s 0 0 (fun _ => False)) _
  unfold wpX7_worth at hf
  have hf := hf
    (fun (y2 : Int64) (y4 : Int64) (y6 : Int32) => ∀ (ls : Array Slot), lv_has ls 7 [(0, .ref (aR 0)), (1, .int x1), (2, .long y2), (4, .long y4), (6, .int y6)] → W p l e rmX7_worth s m args below meth c s.heap [] 0 0 (MQ below (vp_Si Q) args s 0 0 (fun _ => False)) (F0 m 20 ls []))
    (fun (y2 : Int64) (y6 : Int32) (z0 : Int64) => ∀ (ls : Array Slot), lv_has ls 7 [(0, .ref (aR 0)), (1, .int x1), (2, .long y2), (6, .int y6)] → W p l e rmX7_worth s m args below meth c s.heap [] 0 0 (MQ below (vp_Si Q) args s 0 0 (fun _ => False)) (F0 m 48 ls [.long z0]))
    (by
      intro y2 y4 y6 hf ls hl
      refine lv_iload hx hb dX7_worth_20 (lv_at hl 4 rfl) ?_
      refine lv_aload_n hx hb dX7_worth_22 rfl (lv_at hl 0 rfl) ?_
      refine va_get (D := D) (ci := 5) (v := .int (gR_n uR)) (C := RX7) (T := TX7) (N := 14) hx hb hts inX7_worth_X7 hown hK hP 0 rfl rfl 1 (by decide) (hts (.fieldLink RX7 56 "GrowingTextModel" "n" "I") (List.mem_of_getElem? (i := 1) rfl)) (fun _ h9 => h9) rfl dX7_worth_23 ?_
      refine lv_icmp_gt (tgt := 84) hx hb dX7_worth_26 (by decide) (fun c2 => ?_) (fun c2 => ?_)
      · have hf := hf.1 (c2)
        refine lv_lload_n hx hb dX7_worth_84 rfl (lv_at hl 2 rfl) ?_
        refine lv_l2i (v := y2.toInt32) hx hb dX7_worth_85 rfl ?_
        exact k_iret_r (v := (y2.toInt32)) hx hb hr hlocks hf dX7_worth_86
      · have hf := hf.2 (c2)
        refine lv_lload hx hb dX7_worth_29 (lv_at hl 3 rfl) ?_
        refine lv_ldc2 (v := 2147483647) hx hb hown (hts (.constantLong RX7 102 (2147483647)) (List.mem_of_getElem? (i := 2) rfl)) dX7_worth_31 ?_
        refine W.lcmp hx hb dX7_worth_34 ?_
        refine lv_if_le (tgt := 43) hx hb dX7_worth_35 (by decide) (fun c3 => ?_) (fun c3 => ?_)
        · have hf := hf.1 ((k_cmp_le y4 2147483647).mp c3)
          refine lv_lload hx hb dX7_worth_43 (lv_at hl 3 rfl) ?_
          refine lv_iload_n hx hb dX7_worth_45 rfl (lv_at hl 1 rfl) ?_
          refine lv_i2l (v := (x1).toInt64) hx hb dX7_worth_46 rfl ?_
          refine lv_lmul hx hb dX7_worth_47 ?_
          exact hf ls (lv_sub hl [0, 1, 2, 4] rfl)
        · have hf := hf.2 ((fun h => c3 ((k_cmp_le y4 2147483647).mpr h)))
          refine lv_lload hx hb dX7_worth_38 (lv_at hl 3 rfl) ?_
          refine lv_goto (tgt := 48) hx hb dX7_worth_40 (by decide) ?_
          exact hf ls (lv_sub hl [0, 1, 2, 4] rfl))
    (by
      intro y2 y6 z0 hf ls hl
      refine lv_lstore (lv' := [(4, .long z0), (0, .ref (aR 0)), (1, .int x1), (2, .long y2), (6, .int y6)]) hx hb dX7_worth_48 hl (by decide) rfl (fun ls hl => ?_)
      refine lv_lload_n hx hb dX7_worth_50 rfl (lv_at hl 3 rfl) ?_
      refine lv_lload hx hb dX7_worth_51 (lv_at hl 0 rfl) ?_
      refine lv_aload_n hx hb dX7_worth_53 rfl (lv_at hl 1 rfl) ?_
      refine lv_iload hx hb dX7_worth_54 (lv_at hl 4 rfl) ?_
      refine lv_aload_n hx hb dX7_worth_56 rfl (lv_at hl 1 rfl) ?_
      refine va_get (D := D) (ci := 5) (v := .int (gR_n uR)) (C := RX7) (T := TX7) (N := 14) hx hb hts inX7_worth_X7 hown hK hP 0 rfl rfl 1 (by decide) (hts (.fieldLink RX7 56 "GrowingTextModel" "n" "I") (List.mem_of_getElem? (i := 1) rfl)) (fun _ h9 => h9) rfl dX7_worth_57 ?_
      refine k_si (k_runV (As := [.int y6, .int (gR_n uR)]) (rest := [.long z0, .long y2]) ⟨hx, hb, hml, hown, hts⟩ (c_X7_unlikeOf l D q aR uR y6 (gR_n uR) _ hf) (cwV 2 hts gX7_worth_X7_unlikeOf rfl rfl rfl cdX7_unlikeOf ⟨Nat.le_of_ble_eq_true rfl, Nat.le_of_ble_eq_true rfl⟩) hK hP hD 0 rfl rfl rfl hl.1 rfl (Nat.le_of_ble_eq_true rfl) dX7_worth_60 ⟨Nat.le_of_ble_eq_true rfl, Nat.le_of_ble_eq_true rfl⟩) (fun r4 hf => ?_)
      refine lv_i2l (v := (r4).toInt64) hx hb dX7_worth_63 rfl ?_
      refine lv_lmul hx hb dX7_worth_64 ?_
      refine lv_ladd hx hb dX7_worth_65 ?_
      refine lv_lstore_n (lv' := [(2, .long (y2 + (z0 * ((r4).toInt64)))), (4, .long z0), (0, .ref (aR 0)), (1, .int x1), (6, .int y6)]) hx hb dX7_worth_66 rfl hl (by decide) rfl (fun ls hl => ?_)
      refine lv_lload_n hx hb dX7_worth_67 rfl (lv_at hl 0 rfl) ?_
      refine lv_ldc2 (v := 2147483647) hx hb hown (hts (.constantLong RX7 102 (2147483647)) (List.mem_of_getElem? (i := 2) rfl)) dX7_worth_68 ?_
      refine W.lcmp hx hb dX7_worth_71 ?_
      refine lv_if_le (tgt := 78) hx hb dX7_worth_72 (by decide) (fun c5 => ?_) (fun c5 => ?_)
      · have hf := hf.1 ((k_cmp_le (y2 + (z0 * ((r4).toInt64))) 2147483647).mp c5)
        refine lv_iinc (v := (y6 + 1)) (lv' := [(6, .int (y6 + 1)), (2, .long (y2 + (z0 * ((r4).toInt64)))), (4, .long z0), (0, .ref (aR 0)), (1, .int x1)]) hx hb dX7_worth_78 hl (k := 4) rfl rfl (by decide) rfl (fun ls hl => ?_)
        refine lv_goto (tgt := 20) hx hb dX7_worth_81 (by decide) ?_
        exact hf ls (lv_sub hl [3, 4, 1, 2, 0] rfl)
      · have hf := hf.2 ((fun h => c5 ((k_cmp_le (y2 + (z0 * ((r4).toInt64))) 2147483647).mpr h)))
        refine lv_bipush (v := (-13)) hx hb dX7_worth_75 (by decide) ?_
        exact k_iret_r (v := (-13)) hx hb hr hlocks hf dX7_worth_77)
  refine lv_iload_n hx hb dX7_worth_0 rfl (lv_at hl 1 rfl) ?_
  refine lv_iconst (v := 1) hx hb dX7_worth_1 (by decide) ?_
  refine lv_bipush (v := 9) hx hb dX7_worth_2 (by decide) ?_
  refine k_si (k_runS (As := [.int x1, .int 1, .int 9]) (rest := []) ⟨hx, hb, hml, hown, hts⟩ (cF_X7_in l D q x1 1 9) (va_cwS 3 hts gX7_worth_X7_in rfl rfl rfl cdX7_in ⟨Nat.le_of_ble_eq_true rfl, Nat.le_of_ble_eq_true rfl⟩) hK k_nilP k_nilD rfl hl.1 rfl (Nat.le_of_ble_eq_true rfl) dX7_worth_4 ⟨Nat.le_of_ble_eq_true rfl, Nat.le_of_ble_eq_true rfl⟩) (fun r hr => ?_)
  subst hr
  refine lv_if_ne (tgt := 12) hx hb dX7_worth_7 (by decide) (fun c1 => ?_) (fun c1 => ?_)
  · have hf := hf.2 (c1)
    refine lv_lconst (v := 0) hx hb dX7_worth_12 (by decide) ?_
    refine lv_lstore_n (lv' := [(2, .long 0), (0, .ref (aR 0)), (1, .int x1)]) hx hb dX7_worth_13 rfl hl (by decide) rfl (fun ls hl => ?_)
    refine lv_lconst (v := 1) hx hb dX7_worth_14 (by decide) ?_
    refine lv_lstore (lv' := [(4, .long 1), (2, .long 0), (0, .ref (aR 0)), (1, .int x1)]) hx hb dX7_worth_15 hl (by decide) rfl (fun ls hl => ?_)
    refine lv_iconst (v := 1) hx hb dX7_worth_17 (by decide) ?_
    refine lv_istore (lv' := [(6, .int 1), (4, .long 1), (2, .long 0), (0, .ref (aR 0)), (1, .int x1)]) hx hb dX7_worth_18 hl (by decide) rfl (fun ls hl => ?_)
    exact hf ls (lv_sub hl [3, 4, 2, 1, 0] rfl)
  · have hf := hf.1 (c1)
    refine lv_iconst (v := (-1)) hx hb dX7_worth_10 (by decide) ?_
    exact k_iret_r (v := (-1)) hx hb hr hlocks hf dX7_worth_11
def wpX7_lengths (uR : RSt) (Q : Int32 → Prop) : Prop :=
  ∀ (X4 : Int32 → Int32 → Prop),
  (∀ (y1 : Int32) (y2 : Int32),
    (((gR_n uR) < y2 →
      Q y1) ∧
    (¬ ((gR_n uR) < y2) →
      wpX7_unlikeOf uR y2 (gR_n uR) (fun r2 =>
        X4 (y1 + (y2 * r2)) (y2 + 1)))) → X4 y1 y2) →
  X4 0 1
def rmX7_lengths : Room := { frames := 2, cells := 0, slots := 0, locals := 49 }
theorem inX7_lengths_X7 : ∀ w ∈ wsX70, w ∈ wsX7_lengths := fun w h => List.mem_cons_of_mem _ (List.mem_append_right _ h)
set_option maxRecDepth 100000 in
set_option maxHeartbeats 4000000 in
theorem c_X7_lengths (l : Launch) (D : va_G) (q : Nat → ClassId) (aR : Nat → Nat) (uR : RSt) (Q : Int32 → Prop) (hf : wpX7_lengths uR Q) : Met l yX7_lengths wsX7_lengths rmX7_lengths (va_Pc [.ref (aR 0)] (kP D q (wR aR q uR))) (vp_Si Q) 0 0 (fun _ => False) := by
  refine Met.ofW (cc := cX7_lengths) (maxL := 3) (ret := (some .int)) (by decide) rfl ?_
  intro p e s m args below meth c s₁ B hml hv
  obtain ⟨hargs, hP, hK, hD⟩ := hv
  have hx := B.exec
  have hb := B.bytes
  have hr := B.returns
  have hts := atoms_spec (ws := wsX7_lengths) B.pre
  have hown : s.vm.findClass RX7 = some m.cls := findClass_of_methodNamed B.named
  have hlocks := B.notSynchronized
  refine k_entry hargs (Nat.le_of_ble_eq_true rfl) (fun ls hl => ?_)
  have hl : lv_has ls 3 [(0, .ref (aR 0))] := hl
  change W p l e rmX7_lengths s m args below meth c s.heap [] 0 0 (MQ below (vp_Si Q) args s 0 0 (fun _ => False)) _
  unfold wpX7_lengths at hf
  have hf := hf
    (fun (y1 : Int32) (y2 : Int32) => ∀ (ls : Array Slot), lv_has ls 3 [(0, .ref (aR 0)), (1, .int y1), (2, .int y2)] → W p l e rmX7_lengths s m args below meth c s.heap [] 0 0 (MQ below (vp_Si Q) args s 0 0 (fun _ => False)) (F0 m 4 ls []))
    (by
      intro y1 y2 hf ls hl
      refine lv_iload_n hx hb dX7_lengths_4 rfl (lv_at hl 2 rfl) ?_
      refine lv_aload_n hx hb dX7_lengths_5 rfl (lv_at hl 0 rfl) ?_
      refine va_get (D := D) (ci := 5) (v := .int (gR_n uR)) (C := RX7) (T := TX7) (N := 14) hx hb hts inX7_lengths_X7 hown hK hP 0 rfl rfl 1 (by decide) (hts (.fieldLink RX7 56 "GrowingTextModel" "n" "I") (List.mem_of_getElem? (i := 1) rfl)) (fun _ h9 => h9) rfl dX7_lengths_6 ?_
      refine lv_icmp_gt (tgt := 32) hx hb dX7_lengths_9 (by decide) (fun c1 => ?_) (fun c1 => ?_)
      · have hf := hf.1 (c1)
        refine lv_iload_n hx hb dX7_lengths_32 rfl (lv_at hl 1 rfl) ?_
        exact k_iret_r (v := y1) hx hb hr hlocks hf dX7_lengths_33
      · have hf := hf.2 (c1)
        refine lv_iload_n hx hb dX7_lengths_12 rfl (lv_at hl 1 rfl) ?_
        refine lv_iload_n hx hb dX7_lengths_13 rfl (lv_at hl 2 rfl) ?_
        refine lv_aload_n hx hb dX7_lengths_14 rfl (lv_at hl 0 rfl) ?_
        refine lv_iload_n hx hb dX7_lengths_15 rfl (lv_at hl 2 rfl) ?_
        refine lv_aload_n hx hb dX7_lengths_16 rfl (lv_at hl 0 rfl) ?_
        refine va_get (D := D) (ci := 5) (v := .int (gR_n uR)) (C := RX7) (T := TX7) (N := 14) hx hb hts inX7_lengths_X7 hown hK hP 0 rfl rfl 1 (by decide) (hts (.fieldLink RX7 56 "GrowingTextModel" "n" "I") (List.mem_of_getElem? (i := 1) rfl)) (fun _ h9 => h9) rfl dX7_lengths_17 ?_
        refine k_si (k_runV (As := [.int y2, .int (gR_n uR)]) (rest := [.int y2, .int y1]) ⟨hx, hb, hml, hown, hts⟩ (c_X7_unlikeOf l D q aR uR y2 (gR_n uR) _ hf) (cwV 2 hts gX7_lengths_X7_unlikeOf rfl rfl rfl cdX7_unlikeOf ⟨Nat.le_of_ble_eq_true rfl, Nat.le_of_ble_eq_true rfl⟩) hK hP hD 0 rfl rfl rfl hl.1 rfl (Nat.le_of_ble_eq_true rfl) dX7_lengths_20 ⟨Nat.le_of_ble_eq_true rfl, Nat.le_of_ble_eq_true rfl⟩) (fun r2 hf => ?_)
        refine lv_imul hx hb dX7_lengths_23 ?_
        refine lv_iadd hx hb dX7_lengths_24 ?_
        refine lv_istore_n (lv' := [(1, .int (y1 + (y2 * r2))), (0, .ref (aR 0)), (2, .int y2)]) hx hb dX7_lengths_25 rfl hl (by decide) rfl (fun ls hl => ?_)
        refine lv_iinc (v := (y2 + 1)) (lv' := [(2, .int (y2 + 1)), (1, .int (y1 + (y2 * r2))), (0, .ref (aR 0))]) hx hb dX7_lengths_26 hl (k := 2) rfl rfl (by decide) rfl (fun ls hl => ?_)
        refine lv_goto (tgt := 4) hx hb dX7_lengths_29 (by decide) ?_
        exact hf ls (lv_sub hl [2, 1, 0] rfl))
  refine lv_iconst (v := 0) hx hb dX7_lengths_0 (by decide) ?_
  refine lv_istore_n (lv' := [(1, .int 0), (0, .ref (aR 0))]) hx hb dX7_lengths_1 rfl hl (by decide) rfl (fun ls hl => ?_)
  refine lv_iconst (v := 1) hx hb dX7_lengths_2 (by decide) ?_
  refine lv_istore_n (lv' := [(2, .int 1), (1, .int 0), (0, .ref (aR 0))]) hx hb dX7_lengths_3 rfl hl (by decide) rfl (fun ls hl => ?_)
  exact hf ls (lv_sub hl [2, 1, 0] rfl)
def wpX7_moves (uR : RSt) (Q : Int32 → Prop) : Prop :=
  ∀ (X4 : Int32 → Int32 → Prop) (X14 : Int32 → Int32 → Int32 → Prop) (X39 : Int32 → Int32 → Int32 → Int32 → Prop),
  (∀ (y1 : Int32) (y2 : Int32),
    (((gR_stateMany uR) ≤ y2 →
      Q y1) ∧
    (¬ ((gR_stateMany uR) ≤ y2) →
      X14 y1 y2 0)) → X4 y1 y2) →
  (∀ (y1 : Int32) (y2 : Int32) (y3 : Int32),
    (((gR_letters uR) ≤ y3 →
      X4 y1 (y2 + 1)) ∧
    (¬ ((gR_letters uR) ≤ y3) →
      wpX7_moveOf uR y2 y3 (fun r3 =>
        (r3 = (-4) →
          X39 y2 y3 0 y1) ∧
        (¬ (r3 = (-4)) →
          X39 y2 y3 1 y1)))) → X14 y1 y2 y3) →
  (∀ (y2 : Int32) (y3 : Int32) (z0 : Int32) (z1 : Int32),
    X14 (z1 + z0) y2 (y3 + 1) → X39 y2 y3 z0 z1) →
  X4 0 0
def rmX7_moves : Room := { frames := 3, cells := 0, slots := 0, locals := 70 }
theorem inX7_moves_X7 : ∀ w ∈ wsX70, w ∈ wsX7_moves := fun w h => List.mem_cons_of_mem _ (List.mem_append_right _ h)
set_option maxRecDepth 100000 in
set_option maxHeartbeats 4000000 in
theorem c_X7_moves (l : Launch) (D : va_G) (q : Nat → ClassId) (aR : Nat → Nat) (uR : RSt) (Q : Int32 → Prop) (hf : wpX7_moves uR Q) : Met l yX7_moves wsX7_moves rmX7_moves (va_Pc [.ref (aR 0)] (kP D q (wR aR q uR))) (vp_Si Q) 0 0 (fun _ => False) := by
  refine Met.ofW (cc := cX7_moves) (maxL := 4) (ret := (some .int)) (by decide) rfl ?_
  intro p e s m args below meth c s₁ B hml hv
  obtain ⟨hargs, hP, hK, hD⟩ := hv
  have hx := B.exec
  have hb := B.bytes
  have hr := B.returns
  have hts := atoms_spec (ws := wsX7_moves) B.pre
  have hown : s.vm.findClass RX7 = some m.cls := findClass_of_methodNamed B.named
  have hlocks := B.notSynchronized
  refine k_entry hargs (Nat.le_of_ble_eq_true rfl) (fun ls hl => ?_)
  have hl : lv_has ls 4 [(0, .ref (aR 0))] := hl
  change W p l e rmX7_moves s m args below meth c s.heap [] 0 0 (MQ below (vp_Si Q) args s 0 0 (fun _ => False)) _
  unfold wpX7_moves at hf
  have hf := hf
    (fun (y1 : Int32) (y2 : Int32) => ∀ (ls : Array Slot), lv_has ls 4 [(0, .ref (aR 0)), (1, .int y1), (2, .int y2)] → W p l e rmX7_moves s m args below meth c s.heap [] 0 0 (MQ below (vp_Si Q) args s 0 0 (fun _ => False)) (F0 m 4 ls []))
    (fun (y1 : Int32) (y2 : Int32) (y3 : Int32) => ∀ (ls : Array Slot), lv_has ls 4 [(0, .ref (aR 0)), (1, .int y1), (2, .int y2), (3, .int y3)] → W p l e rmX7_moves s m args below meth c s.heap [] 0 0 (MQ below (vp_Si Q) args s 0 0 (fun _ => False)) (F0 m 14 ls []))
    (fun (y2 : Int32) (y3 : Int32) (z0 : Int32) (z1 : Int32) => ∀ (ls : Array Slot), lv_has ls 4 [(0, .ref (aR 0)), (2, .int y2), (3, .int y3)] → W p l e rmX7_moves s m args below meth c s.heap [] 0 0 (MQ below (vp_Si Q) args s 0 0 (fun _ => False)) (F0 m 39 ls [.int z0, .int z1]))
    (by
      intro y1 y2 hf ls hl
      refine lv_iload_n hx hb dX7_moves_4 rfl (lv_at hl 2 rfl) ?_
      refine lv_aload_n hx hb dX7_moves_5 rfl (lv_at hl 0 rfl) ?_
      refine va_get (D := D) (ci := 5) (v := .int (gR_stateMany uR)) (C := RX7) (T := TX7) (N := 14) hx hb hts inX7_moves_X7 hown hK hP 0 rfl rfl 3 (by decide) (hts (.fieldLink RX7 59 "GrowingTextModel" "stateMany" "I") (List.mem_of_getElem? (i := 1) rfl)) (fun _ h9 => h9) rfl dX7_moves_6 ?_
      refine lv_icmp_ge (tgt := 53) hx hb dX7_moves_9 (by decide) (fun c1 => ?_) (fun c1 => ?_)
      · have hf := hf.1 (c1)
        refine lv_iload_n hx hb dX7_moves_53 rfl (lv_at hl 1 rfl) ?_
        exact k_iret_r (v := y1) hx hb hr hlocks hf dX7_moves_54
      · have hf := hf.2 (c1)
        refine lv_iconst (v := 0) hx hb dX7_moves_12 (by decide) ?_
        refine lv_istore_n (lv' := [(3, .int 0), (0, .ref (aR 0)), (1, .int y1), (2, .int y2)]) hx hb dX7_moves_13 rfl hl (by decide) rfl (fun ls hl => ?_)
        exact hf ls (lv_sub hl [1, 2, 3, 0] rfl))
    (by
      intro y1 y2 y3 hf ls hl
      refine lv_iload_n hx hb dX7_moves_14 rfl (lv_at hl 3 rfl) ?_
      refine lv_aload_n hx hb dX7_moves_15 rfl (lv_at hl 0 rfl) ?_
      refine va_get (D := D) (ci := 5) (v := .int (gR_letters uR)) (C := RX7) (T := TX7) (N := 14) hx hb hts inX7_moves_X7 hown hK hP 0 rfl rfl 0 (by decide) (hts (.fieldLink RX7 52 "GrowingTextModel" "letters" "I") (List.mem_of_getElem? (i := 2) rfl)) (fun _ h9 => h9) rfl dX7_moves_16 ?_
      refine lv_icmp_ge (tgt := 47) hx hb dX7_moves_19 (by decide) (fun c2 => ?_) (fun c2 => ?_)
      · have hf := hf.1 (c2)
        refine lv_iinc (v := (y2 + 1)) (lv' := [(2, .int (y2 + 1)), (0, .ref (aR 0)), (1, .int y1), (3, .int y3)]) hx hb dX7_moves_47 hl (k := 2) rfl rfl (by decide) rfl (fun ls hl => ?_)
        refine lv_goto (tgt := 4) hx hb dX7_moves_50 (by decide) ?_
        exact hf ls (lv_sub hl [1, 2, 0] rfl)
      · have hf := hf.2 (c2)
        refine lv_iload_n hx hb dX7_moves_22 rfl (lv_at hl 1 rfl) ?_
        refine lv_aload_n hx hb dX7_moves_23 rfl (lv_at hl 0 rfl) ?_
        refine lv_iload_n hx hb dX7_moves_24 rfl (lv_at hl 2 rfl) ?_
        refine lv_iload_n hx hb dX7_moves_25 rfl (lv_at hl 3 rfl) ?_
        refine k_si (k_runV (As := [.int y2, .int y3]) (rest := [.int y1]) ⟨hx, hb, hml, hown, hts⟩ (c_X7_moveOf l D q aR uR y2 y3 _ hf) (cwV 2 hts gX7_moves_X7_moveOf rfl rfl rfl cdX7_moveOf ⟨Nat.le_of_ble_eq_true rfl, Nat.le_of_ble_eq_true rfl⟩) hK hP hD 0 rfl rfl rfl hl.1 rfl (Nat.le_of_ble_eq_true rfl) dX7_moves_26 ⟨Nat.le_of_ble_eq_true rfl, Nat.le_of_ble_eq_true rfl⟩) (fun r3 hf => ?_)
        refine lv_bipush (v := (-4)) hx hb dX7_moves_29 (by decide) ?_
        refine lv_icmp_ne (tgt := 38) hx hb dX7_moves_31 (by decide) (fun c4 => ?_) (fun c4 => ?_)
        · have hf := hf.2 (c4)
          refine lv_iconst (v := 1) hx hb dX7_moves_38 (by decide) ?_
          exact hf ls (lv_sub hl [0, 2, 3] rfl)
        · have hf := hf.1 (c4)
          refine lv_iconst (v := 0) hx hb dX7_moves_34 (by decide) ?_
          refine lv_goto (tgt := 39) hx hb dX7_moves_35 (by decide) ?_
          exact hf ls (lv_sub hl [0, 2, 3] rfl))
    (by
      intro y2 y3 z0 z1 hf ls hl
      refine lv_iadd hx hb dX7_moves_39 ?_
      refine lv_istore_n (lv' := [(1, .int (z1 + z0)), (0, .ref (aR 0)), (2, .int y2), (3, .int y3)]) hx hb dX7_moves_40 rfl hl (by decide) rfl (fun ls hl => ?_)
      refine lv_iinc (v := (y3 + 1)) (lv' := [(3, .int (y3 + 1)), (1, .int (z1 + z0)), (0, .ref (aR 0)), (2, .int y2)]) hx hb dX7_moves_41 hl (k := 3) rfl rfl (by decide) rfl (fun ls hl => ?_)
      refine lv_goto (tgt := 14) hx hb dX7_moves_44 (by decide) ?_
      exact hf ls (lv_sub hl [2, 1, 3, 0] rfl))
  refine lv_iconst (v := 0) hx hb dX7_moves_0 (by decide) ?_
  refine lv_istore_n (lv' := [(1, .int 0), (0, .ref (aR 0))]) hx hb dX7_moves_1 rfl hl (by decide) rfl (fun ls hl => ?_)
  refine lv_iconst (v := 0) hx hb dX7_moves_2 (by decide) ?_
  refine lv_istore_n (lv' := [(2, .int 0), (1, .int 0), (0, .ref (aR 0))]) hx hb dX7_moves_3 rfl hl (by decide) rfl (fun ls hl => ?_)
  exact hf ls (lv_sub hl [2, 1, 0] rfl)
def wpX7_clones (uR : RSt) (Q : Int32 → Prop) : Prop :=
  ∀ (X4 : Int32 → Int32 → Prop) (X29 : Int32 → Int32 → Int32 → Prop),
  (∀ (y1 : Int32) (y2 : Int32),
    (((gR_stateMany uR) ≤ y2 →
      Q y1) ∧
    (¬ ((gR_stateMany uR) ≤ y2) →
      vp_in y2 121 ∧
      ((((gR_cloneOf uR) (y2 : Int32).toNatClampNeg) = (-4) →
        X29 y2 0 y1) ∧
      (¬ (((gR_cloneOf uR) (y2 : Int32).toNatClampNeg) = (-4)) →
        X29 y2 1 y1)))) → X4 y1 y2) →
  (∀ (y2 : Int32) (z0 : Int32) (z1 : Int32),
    X4 (z1 + z0) (y2 + 1) → X29 y2 z0 z1) →
  X4 0 0
def rmX7_clones : Room := { frames := 0, cells := 0, slots := 0, locals := 0 }
theorem inX7_clones_X7 : ∀ w ∈ wsX70, w ∈ wsX7_clones := fun w h => List.mem_cons_of_mem _ (List.mem_append_right _ h)
set_option maxRecDepth 100000 in
set_option maxHeartbeats 4000000 in
theorem c_X7_clones (l : Launch) (D : va_G) (q : Nat → ClassId) (aR : Nat → Nat) (uR : RSt) (Q : Int32 → Prop) (hf : wpX7_clones uR Q) : Met l yX7_clones wsX7_clones rmX7_clones (va_Pc [.ref (aR 0)] (kP D q (wR aR q uR))) (vp_Si Q) 0 0 (fun _ => False) := by
  refine Met.ofW (cc := cX7_clones) (maxL := 3) (ret := (some .int)) (by decide) rfl ?_
  intro p e s m args below meth c s₁ B hml hv
  obtain ⟨hargs, hP, hK, hD⟩ := hv
  have hx := B.exec
  have hb := B.bytes
  have hr := B.returns
  have hts := atoms_spec (ws := wsX7_clones) B.pre
  have hown : s.vm.findClass RX7 = some m.cls := findClass_of_methodNamed B.named
  have hlocks := B.notSynchronized
  refine k_entry hargs (Nat.le_of_ble_eq_true rfl) (fun ls hl => ?_)
  have hl : lv_has ls 3 [(0, .ref (aR 0))] := hl
  change W p l e rmX7_clones s m args below meth c s.heap [] 0 0 (MQ below (vp_Si Q) args s 0 0 (fun _ => False)) _
  unfold wpX7_clones at hf
  have hf := hf
    (fun (y1 : Int32) (y2 : Int32) => ∀ (ls : Array Slot), lv_has ls 3 [(0, .ref (aR 0)), (1, .int y1), (2, .int y2)] → W p l e rmX7_clones s m args below meth c s.heap [] 0 0 (MQ below (vp_Si Q) args s 0 0 (fun _ => False)) (F0 m 4 ls []))
    (fun (y2 : Int32) (z0 : Int32) (z1 : Int32) => ∀ (ls : Array Slot), lv_has ls 3 [(0, .ref (aR 0)), (2, .int y2)] → W p l e rmX7_clones s m args below meth c s.heap [] 0 0 (MQ below (vp_Si Q) args s 0 0 (fun _ => False)) (F0 m 29 ls [.int z0, .int z1]))
    (by
      intro y1 y2 hf ls hl
      refine lv_iload_n hx hb dX7_clones_4 rfl (lv_at hl 2 rfl) ?_
      refine lv_aload_n hx hb dX7_clones_5 rfl (lv_at hl 0 rfl) ?_
      refine va_get (D := D) (ci := 5) (v := .int (gR_stateMany uR)) (C := RX7) (T := TX7) (N := 14) hx hb hts inX7_clones_X7 hown hK hP 0 rfl rfl 3 (by decide) (hts (.fieldLink RX7 59 "GrowingTextModel" "stateMany" "I") (List.mem_of_getElem? (i := 1) rfl)) (fun _ h9 => h9) rfl dX7_clones_6 ?_
      refine lv_icmp_ge (tgt := 37) hx hb dX7_clones_9 (by decide) (fun c1 => ?_) (fun c1 => ?_)
      · have hf := hf.1 (c1)
        refine lv_iload_n hx hb dX7_clones_37 rfl (lv_at hl 1 rfl) ?_
        exact k_iret_r (v := y1) hx hb hr hlocks hf dX7_clones_38
      · have hf := hf.2 (c1)
        refine lv_iload_n hx hb dX7_clones_12 rfl (lv_at hl 1 rfl) ?_
        refine lv_aload_n hx hb dX7_clones_13 rfl (lv_at hl 0 rfl) ?_
        refine va_get (D := D) (ci := 5) (v := .ref (aR 4)) (C := RX7) (T := TX7) (N := 14) hx hb hts inX7_clones_X7 hown hK hP 0 rfl rfl 6 (by decide) (hts (.fieldLink RX7 19 "GrowingTextModel" "cloneOf" "[I") (List.mem_of_getElem? (i := 2) rfl)) (fun _ h9 => h9) rfl dX7_clones_14 ?_
        refine lv_iload_n hx hb dX7_clones_17 rfl (lv_at hl 2 rfl) ?_
        refine va_iald hx hb hK hP 4 0 (f := (gR_cloneOf uR)) rfl rfl hf.1 dX7_clones_18 ?_
        have hf := hf.2
        refine lv_bipush (v := (-4)) hx hb dX7_clones_19 (by decide) ?_
        refine lv_icmp_ne (tgt := 28) hx hb dX7_clones_21 (by decide) (fun c2 => ?_) (fun c2 => ?_)
        · have hf := hf.2 (c2)
          refine lv_iconst (v := 1) hx hb dX7_clones_28 (by decide) ?_
          exact hf ls (lv_sub hl [0, 2] rfl)
        · have hf := hf.1 (c2)
          refine lv_iconst (v := 0) hx hb dX7_clones_24 (by decide) ?_
          refine lv_goto (tgt := 29) hx hb dX7_clones_25 (by decide) ?_
          exact hf ls (lv_sub hl [0, 2] rfl))
    (by
      intro y2 z0 z1 hf ls hl
      refine lv_iadd hx hb dX7_clones_29 ?_
      refine lv_istore_n (lv' := [(1, .int (z1 + z0)), (0, .ref (aR 0)), (2, .int y2)]) hx hb dX7_clones_30 rfl hl (by decide) rfl (fun ls hl => ?_)
      refine lv_iinc (v := (y2 + 1)) (lv' := [(2, .int (y2 + 1)), (1, .int (z1 + z0)), (0, .ref (aR 0))]) hx hb dX7_clones_31 hl (k := 2) rfl rfl (by decide) rfl (fun ls hl => ?_)
      refine lv_goto (tgt := 4) hx hb dX7_clones_34 (by decide) ?_
      exact hf ls (lv_sub hl [2, 1, 0] rfl))
  refine lv_iconst (v := 0) hx hb dX7_clones_0 (by decide) ?_
  refine lv_istore_n (lv' := [(1, .int 0), (0, .ref (aR 0))]) hx hb dX7_clones_1 rfl hl (by decide) rfl (fun ls hl => ?_)
  refine lv_iconst (v := 0) hx hb dX7_clones_2 (by decide) ?_
  refine lv_istore_n (lv' := [(2, .int 0), (1, .int 0), (0, .ref (aR 0))]) hx hb dX7_clones_3 rfl hl (by decide) rfl (fun ls hl => ?_)
  exact hf ls (lv_sub hl [2, 1, 0] rfl)
def wpX7_sheetMany (uR : RSt) (Q : Int32 → Prop) : Prop :=
  ∀ (X4 : Int32 → Int32 → Prop) (X24 : Int32 → Int32 → Int32 → Prop),
  (∀ (y1 : Int32) (y2 : Int32),
    (((4 : Int32) ≤ y2 →
      Q y1) ∧
    (¬ ((4 : Int32) ≤ y2) →
      vp_in y2 4 ∧
      (((0 : Int32) ≤ ((gR_sizes uR) (y2 : Int32).toNatClampNeg) →
        X24 y2 1 y1) ∧
      (¬ ((0 : Int32) ≤ ((gR_sizes uR) (y2 : Int32).toNatClampNeg)) →
        X24 y2 0 y1)))) → X4 y1 y2) →
  (∀ (y2 : Int32) (z0 : Int32) (z1 : Int32),
    X4 (z1 + z0) (y2 + 1) → X24 y2 z0 z1) →
  X4 0 0
def rmX7_sheetMany : Room := { frames := 0, cells := 0, slots := 0, locals := 0 }
theorem inX7_sheetMany_X7 : ∀ w ∈ wsX70, w ∈ wsX7_sheetMany := fun w h => List.mem_cons_of_mem _ (List.mem_append_right _ h)
set_option maxRecDepth 100000 in
set_option maxHeartbeats 4000000 in
theorem c_X7_sheetMany (l : Launch) (D : va_G) (q : Nat → ClassId) (aR : Nat → Nat) (uR : RSt) (Q : Int32 → Prop) (hf : wpX7_sheetMany uR Q) : Met l yX7_sheetMany wsX7_sheetMany rmX7_sheetMany (va_Pc [.ref (aR 0)] (kP D q (wR aR q uR))) (vp_Si Q) 0 0 (fun _ => False) := by
  refine Met.ofW (cc := cX7_sheetMany) (maxL := 3) (ret := (some .int)) (by decide) rfl ?_
  intro p e s m args below meth c s₁ B hml hv
  obtain ⟨hargs, hP, hK, hD⟩ := hv
  have hx := B.exec
  have hb := B.bytes
  have hr := B.returns
  have hts := atoms_spec (ws := wsX7_sheetMany) B.pre
  have hown : s.vm.findClass RX7 = some m.cls := findClass_of_methodNamed B.named
  have hlocks := B.notSynchronized
  refine k_entry hargs (Nat.le_of_ble_eq_true rfl) (fun ls hl => ?_)
  have hl : lv_has ls 3 [(0, .ref (aR 0))] := hl
  change W p l e rmX7_sheetMany s m args below meth c s.heap [] 0 0 (MQ below (vp_Si Q) args s 0 0 (fun _ => False)) _
  unfold wpX7_sheetMany at hf
  have hf := hf
    (fun (y1 : Int32) (y2 : Int32) => ∀ (ls : Array Slot), lv_has ls 3 [(0, .ref (aR 0)), (1, .int y1), (2, .int y2)] → W p l e rmX7_sheetMany s m args below meth c s.heap [] 0 0 (MQ below (vp_Si Q) args s 0 0 (fun _ => False)) (F0 m 4 ls []))
    (fun (y2 : Int32) (z0 : Int32) (z1 : Int32) => ∀ (ls : Array Slot), lv_has ls 3 [(0, .ref (aR 0)), (2, .int y2)] → W p l e rmX7_sheetMany s m args below meth c s.heap [] 0 0 (MQ below (vp_Si Q) args s 0 0 (fun _ => False)) (F0 m 24 ls [.int z0, .int z1]))
    (by
      intro y1 y2 hf ls hl
      refine lv_iload_n hx hb dX7_sheetMany_4 rfl (lv_at hl 2 rfl) ?_
      refine lv_iconst (v := 4) hx hb dX7_sheetMany_5 (by decide) ?_
      refine lv_icmp_ge (tgt := 32) hx hb dX7_sheetMany_6 (by decide) (fun c1 => ?_) (fun c1 => ?_)
      · have hf := hf.1 (c1)
        refine lv_iload_n hx hb dX7_sheetMany_32 rfl (lv_at hl 1 rfl) ?_
        exact k_iret_r (v := y1) hx hb hr hlocks hf dX7_sheetMany_33
      · have hf := hf.2 (c1)
        refine lv_iload_n hx hb dX7_sheetMany_9 rfl (lv_at hl 1 rfl) ?_
        refine lv_aload_n hx hb dX7_sheetMany_10 rfl (lv_at hl 0 rfl) ?_
        refine va_get (D := D) (ci := 5) (v := .ref (aR 6)) (C := RX7) (T := TX7) (N := 14) hx hb hts inX7_sheetMany_X7 hown hK hP 0 rfl rfl 8 (by decide) (hts (.fieldLink RX7 26 "GrowingTextModel" "sizes" "[I") (List.mem_of_getElem? (i := 1) rfl)) (fun _ h9 => h9) rfl dX7_sheetMany_11 ?_
        refine lv_iload_n hx hb dX7_sheetMany_14 rfl (lv_at hl 2 rfl) ?_
        refine va_iald hx hb hK hP 6 0 (f := (gR_sizes uR)) rfl rfl hf.1 dX7_sheetMany_15 ?_
        have hf := hf.2
        refine lv_if_ge (tgt := 23) hx hb dX7_sheetMany_16 (by decide) (fun c2 => ?_) (fun c2 => ?_)
        · have hf := hf.1 (c2)
          refine lv_iconst (v := 1) hx hb dX7_sheetMany_23 (by decide) ?_
          exact hf ls (lv_sub hl [0, 2] rfl)
        · have hf := hf.2 (c2)
          refine lv_iconst (v := 0) hx hb dX7_sheetMany_19 (by decide) ?_
          refine lv_goto (tgt := 24) hx hb dX7_sheetMany_20 (by decide) ?_
          exact hf ls (lv_sub hl [0, 2] rfl))
    (by
      intro y2 z0 z1 hf ls hl
      refine lv_iadd hx hb dX7_sheetMany_24 ?_
      refine lv_istore_n (lv' := [(1, .int (z1 + z0)), (0, .ref (aR 0)), (2, .int y2)]) hx hb dX7_sheetMany_25 rfl hl (by decide) rfl (fun ls hl => ?_)
      refine lv_iinc (v := (y2 + 1)) (lv' := [(2, .int (y2 + 1)), (1, .int (z1 + z0)), (0, .ref (aR 0))]) hx hb dX7_sheetMany_26 hl (k := 2) rfl rfl (by decide) rfl (fun ls hl => ?_)
      refine lv_goto (tgt := 4) hx hb dX7_sheetMany_29 (by decide) ?_
      exact hf ls (lv_sub hl [2, 1, 0] rfl))
  refine lv_iconst (v := 0) hx hb dX7_sheetMany_0 (by decide) ?_
  refine lv_istore_n (lv' := [(1, .int 0), (0, .ref (aR 0))]) hx hb dX7_sheetMany_1 rfl hl (by decide) rfl (fun ls hl => ?_)
  refine lv_iconst (v := 0) hx hb dX7_sheetMany_2 (by decide) ?_
  refine lv_istore_n (lv' := [(2, .int 0), (1, .int 0), (0, .ref (aR 0))]) hx hb dX7_sheetMany_3 rfl hl (by decide) rfl (fun ls hl => ?_)
  exact hf ls (lv_sub hl [2, 1, 0] rfl)
def wpX7_count (uR : RSt) (x1 : Int32) (Q : Int32 → Prop) : Prop :=
  ((x1 = 0 →
    Q (gR_letters uR)) ∧
  (¬ (x1 = 0) →
    (x1 = 1 →
      Q (gR_n uR)) ∧
    (¬ (x1 = 1) →
      (x1 = 2 →
        Q (gR_stateMany uR)) ∧
      (¬ (x1 = 2) →
        (x1 = 3 →
          wpX7_clones uR (fun r5 =>
            Q r5)) ∧
        (¬ (x1 = 3) →
          (x1 = 4 →
            wpX7_moves uR (fun r7 =>
              Q r7)) ∧
          (¬ (x1 = 4) →
            (x1 = 5 →
              wpX7_unlike uR (gR_n uR) (fun r9 =>
                Q r9)) ∧
            (¬ (x1 = 5) →
              (x1 = 6 →
                ((gR_n uR) = 0 →
                  Q (-4)) ∧
                (¬ ((gR_n uR) = 0) →
                  wpX7_againAt uR (gR_n uR) (fun r12 =>
                    Q r12))) ∧
              (¬ (x1 = 6) →
                (x1 = 7 →
                  wpX7_period uR (fun r14 =>
                    Q r14)) ∧
                (¬ (x1 = 7) →
                  (x1 = 8 →
                    wpX7_lengths uR (fun r16 =>
                      Q r16)) ∧
                  (¬ (x1 = 8) →
                    (x1 = 9 →
                      wpX7_sheetMany uR (fun r18 =>
                        Q r18)) ∧
                    (¬ (x1 = 9) →
                      (x1 = 10 →
                        wpX7_partMany uR (fun r20 =>
                          Q r20)) ∧
                      (¬ (x1 = 10) →
                        Q (-1)))))))))))))
def rmX7_count : Room := { frames := 4, cells := 0, slots := 0, locals := 93 }
theorem inX7_count_X7 : ∀ w ∈ wsX70, w ∈ wsX7_count := fun w h => List.mem_cons_of_mem _ (List.mem_append_right _ h)
set_option maxRecDepth 100000 in
set_option maxHeartbeats 4000000 in
theorem c_X7_count (l : Launch) (D : va_G) (q : Nat → ClassId) (aR : Nat → Nat) (uR : RSt) (x1 : Int32) (Q : Int32 → Prop) (hf : wpX7_count uR x1 Q) : Met l yX7_count wsX7_count rmX7_count (va_Pc [.ref (aR 0), .int x1] (kP D q (wR aR q uR))) (vp_Si Q) 0 0 (fun _ => False) := by
  refine Met.ofW (cc := cX7_count) (maxL := 2) (ret := (some .int)) (by decide) rfl ?_
  intro p e s m args below meth c s₁ B hml hv
  obtain ⟨hargs, hP, hK, hD⟩ := hv
  have hx := B.exec
  have hb := B.bytes
  have hr := B.returns
  have hts := atoms_spec (ws := wsX7_count) B.pre
  have hown : s.vm.findClass RX7 = some m.cls := findClass_of_methodNamed B.named
  have hlocks := B.notSynchronized
  refine k_entry hargs (Nat.le_of_ble_eq_true rfl) (fun ls hl => ?_)
  have hl : lv_has ls 2 [(0, .ref (aR 0)), (1, .int x1)] := hl
  change W p l e rmX7_count s m args below meth c s.heap [] 0 0 (MQ below (vp_Si Q) args s 0 0 (fun _ => False)) _
  unfold wpX7_count at hf
  refine lv_iload_n hx hb dX7_count_0 rfl (lv_at hl 1 rfl) ?_
  by_cases c1 : x1 = 0
  · have hf := hf.1 c1
    refine lv_tableIn (tgt := 60) hx hb dX7_count_1 (by rw [c1]; decide) (by rw [c1]; decide) (by rw [c1]; rfl) (by decide) ?_
    refine lv_aload_n hx hb dX7_count_60 rfl (lv_at hl 0 rfl) ?_
    refine va_get (D := D) (ci := 5) (v := .int (gR_letters uR)) (C := RX7) (T := TX7) (N := 14) hx hb hts inX7_count_X7 hown hK hP 0 rfl rfl 0 (by decide) (hts (.fieldLink RX7 52 "GrowingTextModel" "letters" "I") (List.mem_of_getElem? (i := 1) rfl)) (fun _ h9 => h9) rfl dX7_count_61 ?_
    exact k_iret_r (v := (gR_letters uR)) hx hb hr hlocks hf dX7_count_64
  have hf := hf.2 c1
  by_cases c2 : x1 = 1
  · have hf := hf.1 c2
    refine lv_tableIn (tgt := 65) hx hb dX7_count_1 (by rw [c2]; decide) (by rw [c2]; decide) (by rw [c2]; rfl) (by decide) ?_
    refine lv_aload_n hx hb dX7_count_65 rfl (lv_at hl 0 rfl) ?_
    refine va_get (D := D) (ci := 5) (v := .int (gR_n uR)) (C := RX7) (T := TX7) (N := 14) hx hb hts inX7_count_X7 hown hK hP 0 rfl rfl 1 (by decide) (hts (.fieldLink RX7 56 "GrowingTextModel" "n" "I") (List.mem_of_getElem? (i := 2) rfl)) (fun _ h9 => h9) rfl dX7_count_66 ?_
    exact k_iret_r (v := (gR_n uR)) hx hb hr hlocks hf dX7_count_69
  have hf := hf.2 c2
  by_cases c3 : x1 = 2
  · have hf := hf.1 c3
    refine lv_tableIn (tgt := 70) hx hb dX7_count_1 (by rw [c3]; decide) (by rw [c3]; decide) (by rw [c3]; rfl) (by decide) ?_
    refine lv_aload_n hx hb dX7_count_70 rfl (lv_at hl 0 rfl) ?_
    refine va_get (D := D) (ci := 5) (v := .int (gR_stateMany uR)) (C := RX7) (T := TX7) (N := 14) hx hb hts inX7_count_X7 hown hK hP 0 rfl rfl 3 (by decide) (hts (.fieldLink RX7 59 "GrowingTextModel" "stateMany" "I") (List.mem_of_getElem? (i := 3) rfl)) (fun _ h9 => h9) rfl dX7_count_71 ?_
    exact k_iret_r (v := (gR_stateMany uR)) hx hb hr hlocks hf dX7_count_74
  have hf := hf.2 c3
  by_cases c4 : x1 = 3
  · have hf := hf.1 c4
    refine lv_tableIn (tgt := 75) hx hb dX7_count_1 (by rw [c4]; decide) (by rw [c4]; decide) (by rw [c4]; rfl) (by decide) ?_
    refine lv_aload_n hx hb dX7_count_75 rfl (lv_at hl 0 rfl) ?_
    refine k_si (k_runV (As := []) (rest := []) ⟨hx, hb, hml, hown, hts⟩ (c_X7_clones l D q aR uR _ hf) (cwV 0 hts gX7_count_X7_clones rfl rfl rfl cdX7_clones ⟨Nat.le_of_ble_eq_true rfl, Nat.le_of_ble_eq_true rfl⟩) hK hP hD 0 rfl rfl rfl hl.1 rfl (Nat.le_of_ble_eq_true rfl) dX7_count_76 ⟨Nat.le_of_ble_eq_true rfl, Nat.le_of_ble_eq_true rfl⟩) (fun r5 hf => ?_)
    exact k_iret_r (v := r5) hx hb hr hlocks hf dX7_count_79
  have hf := hf.2 c4
  by_cases c6 : x1 = 4
  · have hf := hf.1 c6
    refine lv_tableIn (tgt := 80) hx hb dX7_count_1 (by rw [c6]; decide) (by rw [c6]; decide) (by rw [c6]; rfl) (by decide) ?_
    refine lv_aload_n hx hb dX7_count_80 rfl (lv_at hl 0 rfl) ?_
    refine k_si (k_runV (As := []) (rest := []) ⟨hx, hb, hml, hown, hts⟩ (c_X7_moves l D q aR uR _ hf) (cwV 0 hts gX7_count_X7_moves rfl rfl rfl cdX7_moves ⟨Nat.le_of_ble_eq_true rfl, Nat.le_of_ble_eq_true rfl⟩) hK hP hD 0 rfl rfl rfl hl.1 rfl (Nat.le_of_ble_eq_true rfl) dX7_count_81 ⟨Nat.le_of_ble_eq_true rfl, Nat.le_of_ble_eq_true rfl⟩) (fun r7 hf => ?_)
    exact k_iret_r (v := r7) hx hb hr hlocks hf dX7_count_84
  have hf := hf.2 c6
  by_cases c8 : x1 = 5
  · have hf := hf.1 c8
    refine lv_tableIn (tgt := 85) hx hb dX7_count_1 (by rw [c8]; decide) (by rw [c8]; decide) (by rw [c8]; rfl) (by decide) ?_
    refine lv_aload_n hx hb dX7_count_85 rfl (lv_at hl 0 rfl) ?_
    refine lv_aload_n hx hb dX7_count_86 rfl (lv_at hl 0 rfl) ?_
    refine va_get (D := D) (ci := 5) (v := .int (gR_n uR)) (C := RX7) (T := TX7) (N := 14) hx hb hts inX7_count_X7 hown hK hP 0 rfl rfl 1 (by decide) (hts (.fieldLink RX7 56 "GrowingTextModel" "n" "I") (List.mem_of_getElem? (i := 2) rfl)) (fun _ h9 => h9) rfl dX7_count_87 ?_
    refine k_si (k_runV (As := [.int (gR_n uR)]) (rest := []) ⟨hx, hb, hml, hown, hts⟩ (c_X7_unlike l D q aR uR (gR_n uR) _ hf) (cwV 1 hts gX7_count_X7_unlike rfl rfl rfl cdX7_unlike ⟨Nat.le_of_ble_eq_true rfl, Nat.le_of_ble_eq_true rfl⟩) hK hP hD 0 rfl rfl rfl hl.1 rfl (Nat.le_of_ble_eq_true rfl) dX7_count_90 ⟨Nat.le_of_ble_eq_true rfl, Nat.le_of_ble_eq_true rfl⟩) (fun r9 hf => ?_)
    exact k_iret_r (v := r9) hx hb hr hlocks hf dX7_count_93
  have hf := hf.2 c8
  by_cases c10 : x1 = 6
  · have hf := hf.1 c10
    refine lv_tableIn (tgt := 94) hx hb dX7_count_1 (by rw [c10]; decide) (by rw [c10]; decide) (by rw [c10]; rfl) (by decide) ?_
    refine lv_aload_n hx hb dX7_count_94 rfl (lv_at hl 0 rfl) ?_
    refine va_get (D := D) (ci := 5) (v := .int (gR_n uR)) (C := RX7) (T := TX7) (N := 14) hx hb hts inX7_count_X7 hown hK hP 0 rfl rfl 1 (by decide) (hts (.fieldLink RX7 56 "GrowingTextModel" "n" "I") (List.mem_of_getElem? (i := 2) rfl)) (fun _ h9 => h9) rfl dX7_count_95 ?_
    refine lv_if_ne (tgt := 106) hx hb dX7_count_98 (by decide) (fun c11 => ?_) (fun c11 => ?_)
    · have hf := hf.2 (c11)
      refine lv_aload_n hx hb dX7_count_106 rfl (lv_at hl 0 rfl) ?_
      refine lv_aload_n hx hb dX7_count_107 rfl (lv_at hl 0 rfl) ?_
      refine va_get (D := D) (ci := 5) (v := .int (gR_n uR)) (C := RX7) (T := TX7) (N := 14) hx hb hts inX7_count_X7 hown hK hP 0 rfl rfl 1 (by decide) (hts (.fieldLink RX7 56 "GrowingTextModel" "n" "I") (List.mem_of_getElem? (i := 2) rfl)) (fun _ h9 => h9) rfl dX7_count_108 ?_
      refine k_si (k_runV (As := [.int (gR_n uR)]) (rest := []) ⟨hx, hb, hml, hown, hts⟩ (c_X7_againAt l D q aR uR (gR_n uR) _ hf) (cwV 1 hts gX7_count_X7_againAt rfl rfl rfl cdX7_againAt ⟨Nat.le_of_ble_eq_true rfl, Nat.le_of_ble_eq_true rfl⟩) hK hP hD 0 rfl rfl rfl hl.1 rfl (Nat.le_of_ble_eq_true rfl) dX7_count_111 ⟨Nat.le_of_ble_eq_true rfl, Nat.le_of_ble_eq_true rfl⟩) (fun r12 hf => ?_)
      exact k_iret_r (v := r12) hx hb hr hlocks hf dX7_count_114
    · have hf := hf.1 (c11)
      refine lv_bipush (v := (-4)) hx hb dX7_count_101 (by decide) ?_
      refine lv_goto (tgt := 114) hx hb dX7_count_103 (by decide) ?_
      exact k_iret_r (v := (-4)) hx hb hr hlocks hf dX7_count_114
  have hf := hf.2 c10
  by_cases c13 : x1 = 7
  · have hf := hf.1 c13
    refine lv_tableIn (tgt := 115) hx hb dX7_count_1 (by rw [c13]; decide) (by rw [c13]; decide) (by rw [c13]; rfl) (by decide) ?_
    refine lv_aload_n hx hb dX7_count_115 rfl (lv_at hl 0 rfl) ?_
    refine k_si (k_runV (As := []) (rest := []) ⟨hx, hb, hml, hown, hts⟩ (c_X7_period l D q aR uR _ hf) (cwV 0 hts gX7_count_X7_period rfl rfl rfl cdX7_period ⟨Nat.le_of_ble_eq_true rfl, Nat.le_of_ble_eq_true rfl⟩) hK hP hD 0 rfl rfl rfl hl.1 rfl (Nat.le_of_ble_eq_true rfl) dX7_count_116 ⟨Nat.le_of_ble_eq_true rfl, Nat.le_of_ble_eq_true rfl⟩) (fun r14 hf => ?_)
    exact k_iret_r (v := r14) hx hb hr hlocks hf dX7_count_119
  have hf := hf.2 c13
  by_cases c15 : x1 = 8
  · have hf := hf.1 c15
    refine lv_tableIn (tgt := 120) hx hb dX7_count_1 (by rw [c15]; decide) (by rw [c15]; decide) (by rw [c15]; rfl) (by decide) ?_
    refine lv_aload_n hx hb dX7_count_120 rfl (lv_at hl 0 rfl) ?_
    refine k_si (k_runV (As := []) (rest := []) ⟨hx, hb, hml, hown, hts⟩ (c_X7_lengths l D q aR uR _ hf) (cwV 0 hts gX7_count_X7_lengths rfl rfl rfl cdX7_lengths ⟨Nat.le_of_ble_eq_true rfl, Nat.le_of_ble_eq_true rfl⟩) hK hP hD 0 rfl rfl rfl hl.1 rfl (Nat.le_of_ble_eq_true rfl) dX7_count_121 ⟨Nat.le_of_ble_eq_true rfl, Nat.le_of_ble_eq_true rfl⟩) (fun r16 hf => ?_)
    exact k_iret_r (v := r16) hx hb hr hlocks hf dX7_count_124
  have hf := hf.2 c15
  by_cases c17 : x1 = 9
  · have hf := hf.1 c17
    refine lv_tableIn (tgt := 125) hx hb dX7_count_1 (by rw [c17]; decide) (by rw [c17]; decide) (by rw [c17]; rfl) (by decide) ?_
    refine lv_aload_n hx hb dX7_count_125 rfl (lv_at hl 0 rfl) ?_
    refine k_si (k_runV (As := []) (rest := []) ⟨hx, hb, hml, hown, hts⟩ (c_X7_sheetMany l D q aR uR _ hf) (cwV 0 hts gX7_count_X7_sheetMany rfl rfl rfl cdX7_sheetMany ⟨Nat.le_of_ble_eq_true rfl, Nat.le_of_ble_eq_true rfl⟩) hK hP hD 0 rfl rfl rfl hl.1 rfl (Nat.le_of_ble_eq_true rfl) dX7_count_126 ⟨Nat.le_of_ble_eq_true rfl, Nat.le_of_ble_eq_true rfl⟩) (fun r18 hf => ?_)
    exact k_iret_r (v := r18) hx hb hr hlocks hf dX7_count_129
  have hf := hf.2 c17
  by_cases c19 : x1 = 10
  · have hf := hf.1 c19
    refine lv_tableIn (tgt := 130) hx hb dX7_count_1 (by rw [c19]; decide) (by rw [c19]; decide) (by rw [c19]; rfl) (by decide) ?_
    refine lv_aload_n hx hb dX7_count_130 rfl (lv_at hl 0 rfl) ?_
    refine k_si (k_runV (As := []) (rest := []) ⟨hx, hb, hml, hown, hts⟩ (c_X7_partMany l D q aR uR _ hf) (cwV 0 hts gX7_count_X7_partMany rfl rfl rfl cdX7_partMany ⟨Nat.le_of_ble_eq_true rfl, Nat.le_of_ble_eq_true rfl⟩) hK hP hD 0 rfl rfl rfl hl.1 rfl (Nat.le_of_ble_eq_true rfl) dX7_count_131 ⟨Nat.le_of_ble_eq_true rfl, Nat.le_of_ble_eq_true rfl⟩) (fun r20 hf => ?_)
    exact k_iret_r (v := r20) hx hb hr hlocks hf dX7_count_134
  have hf := hf.2 c19
  refine lv_tableOut (tgt := 135) hx hb dX7_count_1 (k_sw10 c1 c2 c3 c4 c6 c8 c10 c13 c15 c17 c19) (by decide) ?_
  refine lv_iconst (v := (-1)) hx hb dX7_count_135 (by decide) ?_
  exact k_iret_r (v := (-1)) hx hb hr hlocks hf dX7_count_136
