def wpX5_stateOf (uW : WSt) (uM : MSt) (uS : SSt) (Q : Int32 → Prop) : Prop :=
  ∀ (X4 : Int32 → Int32 → Prop),
  (∀ (y2 : Int32) (y3 : Int32),
    (((gS_length uS) ≤ y3 →
      Q y2) ∧
    (¬ ((gS_length uS) ≤ y3) →
      (y2 = (-4) →
        Q y2) ∧
      (¬ (y2 = (-4)) →
        X4 (fX2_moveOf uM y2 (fX4_letterAt uS y3)) (y3 + 1)))) → X4 y2 y3) →
  X4 0 0
def rmX5_stateOf : Room := { frames := 3, cells := 0, slots := 0, locals := 63 }
theorem inX5_stateOf_X4 : ∀ w ∈ wsX40, w ∈ wsX5_stateOf := fun w h => List.mem_cons_of_mem _ (List.mem_append_left _ (List.mem_append_left _ (List.mem_append_right _ h)))
theorem inX5_stateOf_X5 : ∀ w ∈ wsX50, w ∈ wsX5_stateOf := fun w h => List.mem_cons_of_mem _ (List.mem_append_left _ (List.mem_append_right _ h))
set_option maxRecDepth 100000 in
set_option maxHeartbeats 4000000 in
theorem c_X5_stateOf (l : Launch) (D : va_G) (q : Nat → ClassId) (aW : Nat → Nat) (aM : Nat → Nat) (aS : Nat → Nat) (uW : WSt) (uM : MSt) (uS : SSt) (Q : Int32 → Prop) (hf : wpX5_stateOf uW uM uS Q) : Met l yX5_stateOf wsX5_stateOf rmX5_stateOf (va_Pc [.ref (aW 0), .ref (aS 0)] (kP D q (wW aW aM q uW ++ (wM aM q uM ++ wS aS q uS)))) (vp_Si Q) 0 0 (fun _ => False) := by
  refine Met.ofW (cc := cX5_stateOf) (maxL := 4) (ret := (some .int)) (by decide) rfl ?_
  intro p e s m args below meth c s₁ B hml hv
  obtain ⟨hargs, hP, hK, hD⟩ := hv
  have hx := B.exec
  have hb := B.bytes
  have hr := B.returns
  have hts := atoms_spec (ws := wsX5_stateOf) B.pre
  have hown : s.vm.findClass RX5 = some m.cls := findClass_of_methodNamed B.named
  have hlocks := B.notSynchronized
  refine k_entry hargs (Nat.le_of_ble_eq_true rfl) (fun ls hl => ?_)
  have hl : lv_has ls 4 [(0, .ref (aW 0)), (1, .ref (aS 0))] := hl
  change W p l e rmX5_stateOf s m args below meth c s.heap [] 0 0 (MQ below (vp_Si Q) args s 0 0 (fun _ => False)) _
  unfold wpX5_stateOf at hf
  have hf := hf
    (fun (y2 : Int32) (y3 : Int32) => ∀ (ls : Array Slot), lv_has ls 4 [(0, .ref (aW 0)), (1, .ref (aS 0)), (2, .int y2), (3, .int y3)] → W p l e rmX5_stateOf s m args below meth c s.heap [] 0 0 (MQ below (vp_Si Q) args s 0 0 (fun _ => False)) (F0 m 4 ls []))
    (by
      intro y2 y3 hf ls hl
      refine lv_iload_n hx hb dX5_stateOf_4 rfl (lv_at hl 3 rfl) ?_
      refine lv_aload_n hx hb dX5_stateOf_5 rfl (lv_at hl 1 rfl) ?_
      refine va_get (D := D) (ci := 2) (v := .int (gS_length uS)) (C := RX4) (T := TX4) (N := 3) hx hb hts inX5_stateOf_X4 hown hK hP 14 rfl rfl 2 (by decide) (hts (.fieldLink RX5 29 "GrowingText$Sheet" "length" "I") (List.mem_of_getElem? (i := 1) rfl)) (fun _ h9 => h9) rfl dX5_stateOf_6 ?_
      refine lv_icmp_ge (tgt := 38) hx hb dX5_stateOf_9 (by decide) (fun c1 => ?_) (fun c1 => ?_)
      · have hf := hf.1 (c1)
        refine lv_iload_n hx hb dX5_stateOf_38 rfl (lv_at hl 2 rfl) ?_
        exact k_iret_r (v := y2) hx hb hr hlocks hf dX5_stateOf_39
      · have hf := hf.2 (c1)
        refine lv_iload_n hx hb dX5_stateOf_12 rfl (lv_at hl 2 rfl) ?_
        refine lv_bipush (v := (-4)) hx hb dX5_stateOf_13 (by decide) ?_
        refine lv_icmp_eq (tgt := 38) hx hb dX5_stateOf_15 (by decide) (fun c2 => ?_) (fun c2 => ?_)
        · have hf := hf.1 (c2)
          refine lv_iload_n hx hb dX5_stateOf_38 rfl (lv_at hl 2 rfl) ?_
          exact k_iret_r (v := y2) hx hb hr hlocks hf dX5_stateOf_39
        · have hf := hf.2 (c2)
          refine lv_aload_n hx hb dX5_stateOf_18 rfl (lv_at hl 0 rfl) ?_
          refine va_get (D := D) (ci := 3) (v := .ref (aM 0)) (C := RX5) (T := TX5) (N := 5) hx hb hts inX5_stateOf_X5 hown hK hP 0 rfl rfl 0 (by decide) (hts (.fieldLink RX5 9 "GrowingText$Words" "machine" "LGrowingText$Machine;") (List.mem_of_getElem? (i := 2) rfl)) (fun _ h9 => h9) rfl dX5_stateOf_19 ?_
          refine lv_iload_n hx hb dX5_stateOf_22 rfl (lv_at hl 2 rfl) ?_
          refine lv_aload_n hx hb dX5_stateOf_23 rfl (lv_at hl 1 rfl) ?_
          refine lv_iload_n hx hb dX5_stateOf_24 rfl (lv_at hl 3 rfl) ?_
          refine k_si (k_runV (As := [.int y3]) (rest := [.int y2, .ref (aM 0)]) ⟨hx, hb, hml, hown, hts⟩ (cF_X4_letterAt l D q aS uS y3) (cwV 1 hts gX5_stateOf_X4_letterAt rfl rfl rfl cdX4_letterAt ⟨Nat.le_of_ble_eq_true rfl, Nat.le_of_ble_eq_true rfl⟩) hK (kp_r (kp_r hP)) (kd_r (kd_r hD)) 0 rfl rfl rfl hl.1 rfl (Nat.le_of_ble_eq_true rfl) dX5_stateOf_25 ⟨Nat.le_of_ble_eq_true rfl, Nat.le_of_ble_eq_true rfl⟩) (fun r hr => ?_)
          subst hr
          refine k_si (k_runV (As := [.int y2, .int (fX4_letterAt uS y3)]) (rest := []) ⟨hx, hb, hml, hown, hts⟩ (cF_X2_moveOf l D q aM uM y2 (fX4_letterAt uS y3)) (cwV 2 hts gX5_stateOf_X2_moveOf rfl rfl rfl cdX2_moveOf ⟨Nat.le_of_ble_eq_true rfl, Nat.le_of_ble_eq_true rfl⟩) hK (kp_l (a := wM aM q uM) (b := wS aS q uS) (kp_r hP)) (kd_l (a := wM aM q uM) (b := wS aS q uS) (kd_r hD)) 0 rfl rfl rfl hl.1 rfl (Nat.le_of_ble_eq_true rfl) dX5_stateOf_28 ⟨Nat.le_of_ble_eq_true rfl, Nat.le_of_ble_eq_true rfl⟩) (fun r hr => ?_)
          subst hr
          refine lv_istore_n (lv' := [(2, .int (fX2_moveOf uM y2 (fX4_letterAt uS y3))), (0, .ref (aW 0)), (1, .ref (aS 0)), (3, .int y3)]) hx hb dX5_stateOf_31 rfl hl (by decide) rfl (fun ls hl => ?_)
          refine lv_iinc (v := (y3 + 1)) (lv' := [(3, .int (y3 + 1)), (2, .int (fX2_moveOf uM y2 (fX4_letterAt uS y3))), (0, .ref (aW 0)), (1, .ref (aS 0))]) hx hb dX5_stateOf_32 hl (k := 3) rfl rfl (by decide) rfl (fun ls hl => ?_)
          refine lv_goto (tgt := 4) hx hb dX5_stateOf_35 (by decide) ?_
          exact hf ls (lv_sub hl [2, 3, 1, 0] rfl))
  refine lv_iconst (v := 0) hx hb dX5_stateOf_0 (by decide) ?_
  refine lv_istore_n (lv' := [(2, .int 0), (0, .ref (aW 0)), (1, .ref (aS 0))]) hx hb dX5_stateOf_1 rfl hl (by decide) rfl (fun ls hl => ?_)
  refine lv_iconst (v := 0) hx hb dX5_stateOf_2 (by decide) ?_
  refine lv_istore_n (lv' := [(3, .int 0), (2, .int 0), (0, .ref (aW 0)), (1, .ref (aS 0))]) hx hb dX5_stateOf_3 rfl hl (by decide) rfl (fun ls hl => ?_)
  exact hf ls (lv_sub hl [2, 3, 1, 0] rfl)
def wpX5_unlikeUpTo (uW : WSt) (uM : MSt) (x1 : Int32) (Q : Int32 → Prop) : Prop :=
  ∀ (X4 : Int32 → Int32 → Prop),
  (∀ (y2 : Int32) (y3 : Int32),
    ((x1 < y3 →
      Q y2) ∧
    (¬ (x1 < y3) →
      X4 (y2 + (y3 - (fX2_againAt uM y3))) (y3 + 1))) → X4 y2 y3) →
  X4 0 1
def rmX5_unlikeUpTo : Room := { frames := 2, cells := 0, slots := 0, locals := 42 }
theorem inX5_unlikeUpTo_X5 : ∀ w ∈ wsX50, w ∈ wsX5_unlikeUpTo := fun w h => List.mem_cons_of_mem _ (List.mem_append_left _ (List.mem_append_right _ h))
set_option maxRecDepth 100000 in
set_option maxHeartbeats 4000000 in
theorem c_X5_unlikeUpTo (l : Launch) (D : va_G) (q : Nat → ClassId) (aW : Nat → Nat) (aM : Nat → Nat) (uW : WSt) (uM : MSt) (x1 : Int32) (Q : Int32 → Prop) (hf : wpX5_unlikeUpTo uW uM x1 Q) : Met l yX5_unlikeUpTo wsX5_unlikeUpTo rmX5_unlikeUpTo (va_Pc [.ref (aW 0), .int x1] (kP D q (wW aW aM q uW ++ wM aM q uM))) (vp_Si Q) 0 0 (fun _ => False) := by
  refine Met.ofW (cc := cX5_unlikeUpTo) (maxL := 4) (ret := (some .int)) (by decide) rfl ?_
  intro p e s m args below meth c s₁ B hml hv
  obtain ⟨hargs, hP, hK, hD⟩ := hv
  have hx := B.exec
  have hb := B.bytes
  have hr := B.returns
  have hts := atoms_spec (ws := wsX5_unlikeUpTo) B.pre
  have hown : s.vm.findClass RX5 = some m.cls := findClass_of_methodNamed B.named
  have hlocks := B.notSynchronized
  refine k_entry hargs (Nat.le_of_ble_eq_true rfl) (fun ls hl => ?_)
  have hl : lv_has ls 4 [(0, .ref (aW 0)), (1, .int x1)] := hl
  change W p l e rmX5_unlikeUpTo s m args below meth c s.heap [] 0 0 (MQ below (vp_Si Q) args s 0 0 (fun _ => False)) _
  unfold wpX5_unlikeUpTo at hf
  have hf := hf
    (fun (y2 : Int32) (y3 : Int32) => ∀ (ls : Array Slot), lv_has ls 4 [(0, .ref (aW 0)), (1, .int x1), (2, .int y2), (3, .int y3)] → W p l e rmX5_unlikeUpTo s m args below meth c s.heap [] 0 0 (MQ below (vp_Si Q) args s 0 0 (fun _ => False)) (F0 m 4 ls []))
    (by
      intro y2 y3 hf ls hl
      refine lv_iload_n hx hb dX5_unlikeUpTo_4 rfl (lv_at hl 3 rfl) ?_
      refine lv_iload_n hx hb dX5_unlikeUpTo_5 rfl (lv_at hl 1 rfl) ?_
      refine lv_icmp_gt (tgt := 28) hx hb dX5_unlikeUpTo_6 (by decide) (fun c1 => ?_) (fun c1 => ?_)
      · have hf := hf.1 (c1)
        refine lv_iload_n hx hb dX5_unlikeUpTo_28 rfl (lv_at hl 2 rfl) ?_
        exact k_iret_r (v := y2) hx hb hr hlocks hf dX5_unlikeUpTo_29
      · have hf := hf.2 (c1)
        refine lv_iload_n hx hb dX5_unlikeUpTo_9 rfl (lv_at hl 2 rfl) ?_
        refine lv_iload_n hx hb dX5_unlikeUpTo_10 rfl (lv_at hl 3 rfl) ?_
        refine lv_aload_n hx hb dX5_unlikeUpTo_11 rfl (lv_at hl 0 rfl) ?_
        refine va_get (D := D) (ci := 3) (v := .ref (aM 0)) (C := RX5) (T := TX5) (N := 5) hx hb hts inX5_unlikeUpTo_X5 hown hK hP 0 rfl rfl 0 (by decide) (hts (.fieldLink RX5 9 "GrowingText$Words" "machine" "LGrowingText$Machine;") (List.mem_of_getElem? (i := 1) rfl)) (fun _ h9 => h9) rfl dX5_unlikeUpTo_12 ?_
        refine lv_iload_n hx hb dX5_unlikeUpTo_15 rfl (lv_at hl 3 rfl) ?_
        refine k_si (k_runV (As := [.int y3]) (rest := [.int y3, .int y2]) ⟨hx, hb, hml, hown, hts⟩ (cF_X2_againAt l D q aM uM y3) (cwV 1 hts gX5_unlikeUpTo_X2_againAt rfl rfl rfl cdX2_againAt ⟨Nat.le_of_ble_eq_true rfl, Nat.le_of_ble_eq_true rfl⟩) hK (kp_r hP) (kd_r hD) 0 rfl rfl rfl hl.1 rfl (Nat.le_of_ble_eq_true rfl) dX5_unlikeUpTo_16 ⟨Nat.le_of_ble_eq_true rfl, Nat.le_of_ble_eq_true rfl⟩) (fun r hr => ?_)
        subst hr
        refine lv_isub hx hb dX5_unlikeUpTo_19 ?_
        refine lv_iadd hx hb dX5_unlikeUpTo_20 ?_
        refine lv_istore_n (lv' := [(2, .int (y2 + (y3 - (fX2_againAt uM y3)))), (0, .ref (aW 0)), (1, .int x1), (3, .int y3)]) hx hb dX5_unlikeUpTo_21 rfl hl (by decide) rfl (fun ls hl => ?_)
        refine lv_iinc (v := (y3 + 1)) (lv' := [(3, .int (y3 + 1)), (2, .int (y2 + (y3 - (fX2_againAt uM y3)))), (0, .ref (aW 0)), (1, .int x1)]) hx hb dX5_unlikeUpTo_22 hl (k := 3) rfl rfl (by decide) rfl (fun ls hl => ?_)
        refine lv_goto (tgt := 4) hx hb dX5_unlikeUpTo_25 (by decide) ?_
        exact hf ls (lv_sub hl [2, 3, 1, 0] rfl))
  refine lv_iconst (v := 0) hx hb dX5_unlikeUpTo_0 (by decide) ?_
  refine lv_istore_n (lv' := [(2, .int 0), (0, .ref (aW 0)), (1, .int x1)]) hx hb dX5_unlikeUpTo_1 rfl hl (by decide) rfl (fun ls hl => ?_)
  refine lv_iconst (v := 1) hx hb dX5_unlikeUpTo_2 (by decide) ?_
  refine lv_istore_n (lv' := [(3, .int 1), (2, .int 0), (0, .ref (aW 0)), (1, .int x1)]) hx hb dX5_unlikeUpTo_3 rfl hl (by decide) rfl (fun ls hl => ?_)
  exact hf ls (lv_sub hl [2, 3, 1, 0] rfl)
def wpX5_sumUpTo (x0 : Int32) (Q : Int32 → Prop) : Prop :=
  Q ((x0 * (x0 + 1)) / 2)
def rmX5_sumUpTo : Room := { frames := 0, cells := 0, slots := 0, locals := 0 }
set_option maxRecDepth 100000 in
set_option maxHeartbeats 4000000 in
theorem c_X5_sumUpTo (l : Launch) (D : va_G) (q : Nat → ClassId) (x0 : Int32) (Q : Int32 → Prop) (hf : wpX5_sumUpTo x0 Q) : Met l yX5_sumUpTo wsX5_sumUpTo rmX5_sumUpTo (va_Pc [.int x0] (kP D q ([]))) (vp_Si Q) 0 0 (fun _ => False) := by
  refine Met.ofW (cc := cX5_sumUpTo) (maxL := 1) (ret := (some .int)) (by decide) rfl ?_
  intro p e s m args below meth c s₁ B hml hv
  obtain ⟨hargs, hP, hK, hD⟩ := hv
  have hx := B.exec
  have hb := B.bytes
  have hr := B.returns
  have hts := atoms_spec (ws := wsX5_sumUpTo) B.pre
  have hown : s.vm.findClass RX5 = some m.cls := findClass_of_methodNamed B.named
  have hlocks := B.notSynchronized
  refine k_entry hargs (Nat.le_of_ble_eq_true rfl) (fun ls hl => ?_)
  have hl : lv_has ls 1 [(0, .int x0)] := hl
  change W p l e rmX5_sumUpTo s m args below meth c s.heap [] 0 0 (MQ below (vp_Si Q) args s 0 0 (fun _ => False)) _
  unfold wpX5_sumUpTo at hf
  refine lv_iload_n hx hb dX5_sumUpTo_0 rfl (lv_at hl 0 rfl) ?_
  refine lv_iload_n hx hb dX5_sumUpTo_1 rfl (lv_at hl 0 rfl) ?_
  refine lv_iconst (v := 1) hx hb dX5_sumUpTo_2 (by decide) ?_
  refine lv_iadd hx hb dX5_sumUpTo_3 ?_
  refine lv_imul hx hb dX5_sumUpTo_4 ?_
  refine lv_iconst (v := 2) hx hb dX5_sumUpTo_5 (by decide) ?_
  refine lv_idiv hx hb dX5_sumUpTo_6 (by decide) ?_
  exact k_iret_r (v := ((x0 * (x0 + 1)) / 2)) hx hb hr hlocks hf dX5_sumUpTo_7
def fX5_sumUpTo (x0 : Int32) : Int32 := ((x0 * (x0 + 1)) / 2)
theorem pF_X5_sumUpTo (x0 : Int32) (Q : Int32 → Prop) (hq : Q (fX5_sumUpTo x0)) : wpX5_sumUpTo x0 Q := by
  unfold fX5_sumUpTo at hq; unfold wpX5_sumUpTo; exact hq
theorem cF_X5_sumUpTo (l : Launch) (D : va_G) (q : Nat → ClassId) (x0 : Int32) : Met l yX5_sumUpTo wsX5_sumUpTo rmX5_sumUpTo (va_Pc [.int x0] (kP D q ([]))) (vp_Si (fun r => r = fX5_sumUpTo x0)) 0 0 (fun _ => False) := c_X5_sumUpTo l D q x0 _ (pF_X5_sumUpTo x0 _ rfl)
def wpX5_lengthsTogether (uW : WSt) (uM : MSt) (Q : Int32 → Prop) : Prop :=
  ∀ (X4 : Int32 → Int32 → Prop),
  (∀ (y1 : Int32) (y2 : Int32),
    (((gM_length uM) < y2 →
      Q y1) ∧
    (¬ ((gM_length uM) < y2) →
      X4 (y1 + ((fX5_sumUpTo y2) - (fX5_sumUpTo (fX2_againAt uM y2)))) (y2 + 1))) → X4 y1 y2) →
  X4 0 1
def rmX5_lengthsTogether : Room := { frames := 2, cells := 0, slots := 0, locals := 42 }
theorem inX5_lengthsTogether_X2 : ∀ w ∈ wsX20, w ∈ wsX5_lengthsTogether := fun w h => List.mem_cons_of_mem _ (List.mem_append_right _ h)
theorem inX5_lengthsTogether_X5 : ∀ w ∈ wsX50, w ∈ wsX5_lengthsTogether := fun w h => List.mem_cons_of_mem _ (List.mem_append_left _ (List.mem_append_right _ h))
set_option maxRecDepth 100000 in
set_option maxHeartbeats 4000000 in
theorem c_X5_lengthsTogether (l : Launch) (D : va_G) (q : Nat → ClassId) (aW : Nat → Nat) (aM : Nat → Nat) (uW : WSt) (uM : MSt) (Q : Int32 → Prop) (hf : wpX5_lengthsTogether uW uM Q) : Met l yX5_lengthsTogether wsX5_lengthsTogether rmX5_lengthsTogether (va_Pc [.ref (aW 0)] (kP D q (wW aW aM q uW ++ wM aM q uM))) (vp_Si Q) 0 0 (fun _ => False) := by
  refine Met.ofW (cc := cX5_lengthsTogether) (maxL := 3) (ret := (some .int)) (by decide) rfl ?_
  intro p e s m args below meth c s₁ B hml hv
  obtain ⟨hargs, hP, hK, hD⟩ := hv
  have hx := B.exec
  have hb := B.bytes
  have hr := B.returns
  have hts := atoms_spec (ws := wsX5_lengthsTogether) B.pre
  have hown : s.vm.findClass RX5 = some m.cls := findClass_of_methodNamed B.named
  have hlocks := B.notSynchronized
  refine k_entry hargs (Nat.le_of_ble_eq_true rfl) (fun ls hl => ?_)
  have hl : lv_has ls 3 [(0, .ref (aW 0))] := hl
  change W p l e rmX5_lengthsTogether s m args below meth c s.heap [] 0 0 (MQ below (vp_Si Q) args s 0 0 (fun _ => False)) _
  unfold wpX5_lengthsTogether at hf
  have hf := hf
    (fun (y1 : Int32) (y2 : Int32) => ∀ (ls : Array Slot), lv_has ls 3 [(0, .ref (aW 0)), (1, .int y1), (2, .int y2)] → W p l e rmX5_lengthsTogether s m args below meth c s.heap [] 0 0 (MQ below (vp_Si Q) args s 0 0 (fun _ => False)) (F0 m 4 ls []))
    (by
      intro y1 y2 hf ls hl
      refine lv_iload_n hx hb dX5_lengthsTogether_4 rfl (lv_at hl 2 rfl) ?_
      refine lv_aload_n hx hb dX5_lengthsTogether_5 rfl (lv_at hl 0 rfl) ?_
      refine va_get (D := D) (ci := 3) (v := .ref (aM 0)) (C := RX5) (T := TX5) (N := 5) hx hb hts inX5_lengthsTogether_X5 hown hK hP 0 rfl rfl 0 (by decide) (hts (.fieldLink RX5 9 "GrowingText$Words" "machine" "LGrowingText$Machine;") (List.mem_of_getElem? (i := 1) rfl)) (fun _ h9 => h9) rfl dX5_lengthsTogether_6 ?_
      refine va_get (D := D) (ci := 1) (v := .int (gM_length uM)) (C := RX2) (T := TX2) (N := 12) hx hb hts inX5_lengthsTogether_X2 hown hK hP 5 rfl rfl 1 (by decide) (hts (.fieldLink RX5 48 "GrowingText$Machine" "length" "I") (List.mem_of_getElem? (i := 2) rfl)) (fun _ h9 => h9) rfl dX5_lengthsTogether_9 ?_
      refine lv_icmp_gt (tgt := 40) hx hb dX5_lengthsTogether_12 (by decide) (fun c1 => ?_) (fun c1 => ?_)
      · have hf := hf.1 (c1)
        refine lv_iload_n hx hb dX5_lengthsTogether_40 rfl (lv_at hl 1 rfl) ?_
        exact k_iret_r (v := y1) hx hb hr hlocks hf dX5_lengthsTogether_41
      · have hf := hf.2 (c1)
        refine lv_iload_n hx hb dX5_lengthsTogether_15 rfl (lv_at hl 1 rfl) ?_
        refine lv_iload_n hx hb dX5_lengthsTogether_16 rfl (lv_at hl 2 rfl) ?_
        refine k_si (k_runS (As := [.int y2]) (rest := [.int y1]) ⟨hx, hb, hml, hown, hts⟩ (cF_X5_sumUpTo l D q y2) (va_cwS 1 hts gX5_lengthsTogether_X5_sumUpTo rfl rfl rfl cdX5_sumUpTo ⟨Nat.le_of_ble_eq_true rfl, Nat.le_of_ble_eq_true rfl⟩) hK k_nilP k_nilD rfl hl.1 rfl (Nat.le_of_ble_eq_true rfl) dX5_lengthsTogether_17 ⟨Nat.le_of_ble_eq_true rfl, Nat.le_of_ble_eq_true rfl⟩) (fun r hr => ?_)
        subst hr
        refine lv_aload_n hx hb dX5_lengthsTogether_20 rfl (lv_at hl 0 rfl) ?_
        refine va_get (D := D) (ci := 3) (v := .ref (aM 0)) (C := RX5) (T := TX5) (N := 5) hx hb hts inX5_lengthsTogether_X5 hown hK hP 0 rfl rfl 0 (by decide) (hts (.fieldLink RX5 9 "GrowingText$Words" "machine" "LGrowingText$Machine;") (List.mem_of_getElem? (i := 1) rfl)) (fun _ h9 => h9) rfl dX5_lengthsTogether_21 ?_
        refine lv_iload_n hx hb dX5_lengthsTogether_24 rfl (lv_at hl 2 rfl) ?_
        refine k_si (k_runV (As := [.int y2]) (rest := [.int (fX5_sumUpTo y2), .int y1]) ⟨hx, hb, hml, hown, hts⟩ (cF_X2_againAt l D q aM uM y2) (cwV 1 hts gX5_lengthsTogether_X2_againAt rfl rfl rfl cdX2_againAt ⟨Nat.le_of_ble_eq_true rfl, Nat.le_of_ble_eq_true rfl⟩) hK (kp_r hP) (kd_r hD) 0 rfl rfl rfl hl.1 rfl (Nat.le_of_ble_eq_true rfl) dX5_lengthsTogether_25 ⟨Nat.le_of_ble_eq_true rfl, Nat.le_of_ble_eq_true rfl⟩) (fun r hr => ?_)
        subst hr
        refine k_si (k_runS (As := [.int (fX2_againAt uM y2)]) (rest := [.int (fX5_sumUpTo y2), .int y1]) ⟨hx, hb, hml, hown, hts⟩ (cF_X5_sumUpTo l D q (fX2_againAt uM y2)) (va_cwS 1 hts gX5_lengthsTogether_X5_sumUpTo rfl rfl rfl cdX5_sumUpTo ⟨Nat.le_of_ble_eq_true rfl, Nat.le_of_ble_eq_true rfl⟩) hK k_nilP k_nilD rfl hl.1 rfl (Nat.le_of_ble_eq_true rfl) dX5_lengthsTogether_28 ⟨Nat.le_of_ble_eq_true rfl, Nat.le_of_ble_eq_true rfl⟩) (fun r hr => ?_)
        subst hr
        refine lv_isub hx hb dX5_lengthsTogether_31 ?_
        refine lv_iadd hx hb dX5_lengthsTogether_32 ?_
        refine lv_istore_n (lv' := [(1, .int (y1 + ((fX5_sumUpTo y2) - (fX5_sumUpTo (fX2_againAt uM y2))))), (0, .ref (aW 0)), (2, .int y2)]) hx hb dX5_lengthsTogether_33 rfl hl (by decide) rfl (fun ls hl => ?_)
        refine lv_iinc (v := (y2 + 1)) (lv' := [(2, .int (y2 + 1)), (1, .int (y1 + ((fX5_sumUpTo y2) - (fX5_sumUpTo (fX2_againAt uM y2))))), (0, .ref (aW 0))]) hx hb dX5_lengthsTogether_34 hl (k := 2) rfl rfl (by decide) rfl (fun ls hl => ?_)
        refine lv_goto (tgt := 4) hx hb dX5_lengthsTogether_37 (by decide) ?_
        exact hf ls (lv_sub hl [2, 1, 0] rfl))
  refine lv_iconst (v := 0) hx hb dX5_lengthsTogether_0 (by decide) ?_
  refine lv_istore_n (lv' := [(1, .int 0), (0, .ref (aW 0))]) hx hb dX5_lengthsTogether_1 rfl hl (by decide) rfl (fun ls hl => ?_)
  refine lv_iconst (v := 1) hx hb dX5_lengthsTogether_2 (by decide) ?_
  refine lv_istore_n (lv' := [(2, .int 1), (1, .int 0), (0, .ref (aW 0))]) hx hb dX5_lengthsTogether_3 rfl hl (by decide) rfl (fun ls hl => ?_)
  exact hf ls (lv_sub hl [2, 1, 0] rfl)
def wpX5_wordsOfLength (uW : WSt) (uM : MSt) (x1 : Int32) (Q : Int32 → Prop) : Prop :=
  ∀ (X4 : Int32 → Int32 → Prop),
  (∀ (y2 : Int32) (y3 : Int32),
    (((gM_length uM) < y3 →
      Q y2) ∧
    (¬ ((gM_length uM) < y3) →
      (x1 ≤ (fX2_againAt uM y3) →
        X4 y2 (y3 + 1)) ∧
      (¬ (x1 ≤ (fX2_againAt uM y3)) →
        X4 (y2 + 1) (y3 + 1)))) → X4 y2 y3) →
  X4 0 x1
def rmX5_wordsOfLength : Room := { frames := 2, cells := 0, slots := 0, locals := 42 }
theorem inX5_wordsOfLength_X2 : ∀ w ∈ wsX20, w ∈ wsX5_wordsOfLength := fun w h => List.mem_cons_of_mem _ (List.mem_append_right _ h)
theorem inX5_wordsOfLength_X5 : ∀ w ∈ wsX50, w ∈ wsX5_wordsOfLength := fun w h => List.mem_cons_of_mem _ (List.mem_append_left _ (List.mem_append_right _ h))
set_option maxRecDepth 100000 in
set_option maxHeartbeats 4000000 in
theorem c_X5_wordsOfLength (l : Launch) (D : va_G) (q : Nat → ClassId) (aW : Nat → Nat) (aM : Nat → Nat) (uW : WSt) (uM : MSt) (x1 : Int32) (Q : Int32 → Prop) (hf : wpX5_wordsOfLength uW uM x1 Q) : Met l yX5_wordsOfLength wsX5_wordsOfLength rmX5_wordsOfLength (va_Pc [.ref (aW 0), .int x1] (kP D q (wW aW aM q uW ++ wM aM q uM))) (vp_Si Q) 0 0 (fun _ => False) := by
  refine Met.ofW (cc := cX5_wordsOfLength) (maxL := 4) (ret := (some .int)) (by decide) rfl ?_
  intro p e s m args below meth c s₁ B hml hv
  obtain ⟨hargs, hP, hK, hD⟩ := hv
  have hx := B.exec
  have hb := B.bytes
  have hr := B.returns
  have hts := atoms_spec (ws := wsX5_wordsOfLength) B.pre
  have hown : s.vm.findClass RX5 = some m.cls := findClass_of_methodNamed B.named
  have hlocks := B.notSynchronized
  refine k_entry hargs (Nat.le_of_ble_eq_true rfl) (fun ls hl => ?_)
  have hl : lv_has ls 4 [(0, .ref (aW 0)), (1, .int x1)] := hl
  change W p l e rmX5_wordsOfLength s m args below meth c s.heap [] 0 0 (MQ below (vp_Si Q) args s 0 0 (fun _ => False)) _
  unfold wpX5_wordsOfLength at hf
  have hf := hf
    (fun (y2 : Int32) (y3 : Int32) => ∀ (ls : Array Slot), lv_has ls 4 [(0, .ref (aW 0)), (1, .int x1), (2, .int y2), (3, .int y3)] → W p l e rmX5_wordsOfLength s m args below meth c s.heap [] 0 0 (MQ below (vp_Si Q) args s 0 0 (fun _ => False)) (F0 m 4 ls []))
    (by
      intro y2 y3 hf ls hl
      refine lv_iload_n hx hb dX5_wordsOfLength_4 rfl (lv_at hl 3 rfl) ?_
      refine lv_aload_n hx hb dX5_wordsOfLength_5 rfl (lv_at hl 0 rfl) ?_
      refine va_get (D := D) (ci := 3) (v := .ref (aM 0)) (C := RX5) (T := TX5) (N := 5) hx hb hts inX5_wordsOfLength_X5 hown hK hP 0 rfl rfl 0 (by decide) (hts (.fieldLink RX5 9 "GrowingText$Words" "machine" "LGrowingText$Machine;") (List.mem_of_getElem? (i := 1) rfl)) (fun _ h9 => h9) rfl dX5_wordsOfLength_6 ?_
      refine va_get (D := D) (ci := 1) (v := .int (gM_length uM)) (C := RX2) (T := TX2) (N := 12) hx hb hts inX5_wordsOfLength_X2 hown hK hP 5 rfl rfl 1 (by decide) (hts (.fieldLink RX5 48 "GrowingText$Machine" "length" "I") (List.mem_of_getElem? (i := 2) rfl)) (fun _ h9 => h9) rfl dX5_wordsOfLength_9 ?_
      refine lv_icmp_gt (tgt := 36) hx hb dX5_wordsOfLength_12 (by decide) (fun c1 => ?_) (fun c1 => ?_)
      · have hf := hf.1 (c1)
        refine lv_iload_n hx hb dX5_wordsOfLength_36 rfl (lv_at hl 2 rfl) ?_
        exact k_iret_r (v := y2) hx hb hr hlocks hf dX5_wordsOfLength_37
      · have hf := hf.2 (c1)
        refine lv_aload_n hx hb dX5_wordsOfLength_15 rfl (lv_at hl 0 rfl) ?_
        refine va_get (D := D) (ci := 3) (v := .ref (aM 0)) (C := RX5) (T := TX5) (N := 5) hx hb hts inX5_wordsOfLength_X5 hown hK hP 0 rfl rfl 0 (by decide) (hts (.fieldLink RX5 9 "GrowingText$Words" "machine" "LGrowingText$Machine;") (List.mem_of_getElem? (i := 1) rfl)) (fun _ h9 => h9) rfl dX5_wordsOfLength_16 ?_
        refine lv_iload_n hx hb dX5_wordsOfLength_19 rfl (lv_at hl 3 rfl) ?_
        refine k_si (k_runV (As := [.int y3]) (rest := []) ⟨hx, hb, hml, hown, hts⟩ (cF_X2_againAt l D q aM uM y3) (cwV 1 hts gX5_wordsOfLength_X2_againAt rfl rfl rfl cdX2_againAt ⟨Nat.le_of_ble_eq_true rfl, Nat.le_of_ble_eq_true rfl⟩) hK (kp_r hP) (kd_r hD) 0 rfl rfl rfl hl.1 rfl (Nat.le_of_ble_eq_true rfl) dX5_wordsOfLength_20 ⟨Nat.le_of_ble_eq_true rfl, Nat.le_of_ble_eq_true rfl⟩) (fun r hr => ?_)
        subst hr
        refine lv_iload_n hx hb dX5_wordsOfLength_23 rfl (lv_at hl 1 rfl) ?_
        refine lv_icmp_ge (tgt := 30) hx hb dX5_wordsOfLength_24 (by decide) (fun c2 => ?_) (fun c2 => ?_)
        · have hf := hf.1 (c2)
          refine lv_iinc (v := (y3 + 1)) (lv' := [(3, .int (y3 + 1)), (0, .ref (aW 0)), (1, .int x1), (2, .int y2)]) hx hb dX5_wordsOfLength_30 hl (k := 3) rfl rfl (by decide) rfl (fun ls hl => ?_)
          refine lv_goto (tgt := 4) hx hb dX5_wordsOfLength_33 (by decide) ?_
          exact hf ls (lv_sub hl [1, 2, 3, 0] rfl)
        · have hf := hf.2 (c2)
          refine lv_iinc (v := (y2 + 1)) (lv' := [(2, .int (y2 + 1)), (0, .ref (aW 0)), (1, .int x1), (3, .int y3)]) hx hb dX5_wordsOfLength_27 hl (k := 2) rfl rfl (by decide) rfl (fun ls hl => ?_)
          refine lv_iinc (v := (y3 + 1)) (lv' := [(3, .int (y3 + 1)), (2, .int (y2 + 1)), (0, .ref (aW 0)), (1, .int x1)]) hx hb dX5_wordsOfLength_30 hl (k := 3) rfl rfl (by decide) rfl (fun ls hl => ?_)
          refine lv_goto (tgt := 4) hx hb dX5_wordsOfLength_33 (by decide) ?_
          exact hf ls (lv_sub hl [2, 3, 1, 0] rfl))
  refine lv_iconst (v := 0) hx hb dX5_wordsOfLength_0 (by decide) ?_
  refine lv_istore_n (lv' := [(2, .int 0), (0, .ref (aW 0)), (1, .int x1)]) hx hb dX5_wordsOfLength_1 rfl hl (by decide) rfl (fun ls hl => ?_)
  refine lv_iload_n hx hb dX5_wordsOfLength_2 rfl (lv_at hl 2 rfl) ?_
  refine lv_istore_n (lv' := [(3, .int x1), (2, .int 0), (0, .ref (aW 0)), (1, .int x1)]) hx hb dX5_wordsOfLength_3 rfl hl (by decide) rfl (fun ls hl => ?_)
  exact hf ls (lv_sub hl [2, 3, 1, 0] rfl)
def wpX5_firstTwice (uW : WSt) (uM : MSt) (x1 : Int32) (Q : Int32 → Prop) : Prop :=
  ∀ (X2 : Int32 → Prop),
  (∀ (y2 : Int32),
    (((gM_length uM) < y2 →
      Q (-4)) ∧
    (¬ ((gM_length uM) < y2) →
      ((fX2_againAt uM y2) < x1 →
        X2 (y2 + 1)) ∧
      (¬ ((fX2_againAt uM y2) < x1) →
        Q y2))) → X2 y2) →
  X2 1
def rmX5_firstTwice : Room := { frames := 2, cells := 0, slots := 0, locals := 42 }
theorem inX5_firstTwice_X2 : ∀ w ∈ wsX20, w ∈ wsX5_firstTwice := fun w h => List.mem_cons_of_mem _ (List.mem_append_right _ h)
theorem inX5_firstTwice_X5 : ∀ w ∈ wsX50, w ∈ wsX5_firstTwice := fun w h => List.mem_cons_of_mem _ (List.mem_append_left _ (List.mem_append_right _ h))
set_option maxRecDepth 100000 in
set_option maxHeartbeats 4000000 in
theorem c_X5_firstTwice (l : Launch) (D : va_G) (q : Nat → ClassId) (aW : Nat → Nat) (aM : Nat → Nat) (uW : WSt) (uM : MSt) (x1 : Int32) (Q : Int32 → Prop) (hf : wpX5_firstTwice uW uM x1 Q) : Met l yX5_firstTwice wsX5_firstTwice rmX5_firstTwice (va_Pc [.ref (aW 0), .int x1] (kP D q (wW aW aM q uW ++ wM aM q uM))) (vp_Si Q) 0 0 (fun _ => False) := by
  refine Met.ofW (cc := cX5_firstTwice) (maxL := 3) (ret := (some .int)) (by decide) rfl ?_
  intro p e s m args below meth c s₁ B hml hv
  obtain ⟨hargs, hP, hK, hD⟩ := hv
  have hx := B.exec
  have hb := B.bytes
  have hr := B.returns
  have hts := atoms_spec (ws := wsX5_firstTwice) B.pre
  have hown : s.vm.findClass RX5 = some m.cls := findClass_of_methodNamed B.named
  have hlocks := B.notSynchronized
  refine k_entry hargs (Nat.le_of_ble_eq_true rfl) (fun ls hl => ?_)
  have hl : lv_has ls 3 [(0, .ref (aW 0)), (1, .int x1)] := hl
  change W p l e rmX5_firstTwice s m args below meth c s.heap [] 0 0 (MQ below (vp_Si Q) args s 0 0 (fun _ => False)) _
  unfold wpX5_firstTwice at hf
  have hf := hf
    (fun (y2 : Int32) => ∀ (ls : Array Slot), lv_has ls 3 [(0, .ref (aW 0)), (1, .int x1), (2, .int y2)] → W p l e rmX5_firstTwice s m args below meth c s.heap [] 0 0 (MQ below (vp_Si Q) args s 0 0 (fun _ => False)) (F0 m 2 ls []))
    (by
      intro y2 hf ls hl
      refine lv_iload_n hx hb dX5_firstTwice_2 rfl (lv_at hl 2 rfl) ?_
      refine lv_aload_n hx hb dX5_firstTwice_3 rfl (lv_at hl 0 rfl) ?_
      refine va_get (D := D) (ci := 3) (v := .ref (aM 0)) (C := RX5) (T := TX5) (N := 5) hx hb hts inX5_firstTwice_X5 hown hK hP 0 rfl rfl 0 (by decide) (hts (.fieldLink RX5 9 "GrowingText$Words" "machine" "LGrowingText$Machine;") (List.mem_of_getElem? (i := 1) rfl)) (fun _ h9 => h9) rfl dX5_firstTwice_4 ?_
      refine va_get (D := D) (ci := 1) (v := .int (gM_length uM)) (C := RX2) (T := TX2) (N := 12) hx hb hts inX5_firstTwice_X2 hown hK hP 5 rfl rfl 1 (by decide) (hts (.fieldLink RX5 48 "GrowingText$Machine" "length" "I") (List.mem_of_getElem? (i := 2) rfl)) (fun _ h9 => h9) rfl dX5_firstTwice_7 ?_
      refine lv_icmp_gt (tgt := 33) hx hb dX5_firstTwice_10 (by decide) (fun c1 => ?_) (fun c1 => ?_)
      · have hf := hf.1 (c1)
        refine lv_bipush (v := (-4)) hx hb dX5_firstTwice_33 (by decide) ?_
        exact k_iret_r (v := (-4)) hx hb hr hlocks hf dX5_firstTwice_35
      · have hf := hf.2 (c1)
        refine lv_aload_n hx hb dX5_firstTwice_13 rfl (lv_at hl 0 rfl) ?_
        refine va_get (D := D) (ci := 3) (v := .ref (aM 0)) (C := RX5) (T := TX5) (N := 5) hx hb hts inX5_firstTwice_X5 hown hK hP 0 rfl rfl 0 (by decide) (hts (.fieldLink RX5 9 "GrowingText$Words" "machine" "LGrowingText$Machine;") (List.mem_of_getElem? (i := 1) rfl)) (fun _ h9 => h9) rfl dX5_firstTwice_14 ?_
        refine lv_iload_n hx hb dX5_firstTwice_17 rfl (lv_at hl 2 rfl) ?_
        refine k_si (k_runV (As := [.int y2]) (rest := []) ⟨hx, hb, hml, hown, hts⟩ (cF_X2_againAt l D q aM uM y2) (cwV 1 hts gX5_firstTwice_X2_againAt rfl rfl rfl cdX2_againAt ⟨Nat.le_of_ble_eq_true rfl, Nat.le_of_ble_eq_true rfl⟩) hK (kp_r hP) (kd_r hD) 0 rfl rfl rfl hl.1 rfl (Nat.le_of_ble_eq_true rfl) dX5_firstTwice_18 ⟨Nat.le_of_ble_eq_true rfl, Nat.le_of_ble_eq_true rfl⟩) (fun r hr => ?_)
        subst hr
        refine lv_iload_n hx hb dX5_firstTwice_21 rfl (lv_at hl 1 rfl) ?_
        refine lv_icmp_lt (tgt := 27) hx hb dX5_firstTwice_22 (by decide) (fun c2 => ?_) (fun c2 => ?_)
        · have hf := hf.1 (c2)
          refine lv_iinc (v := (y2 + 1)) (lv' := [(2, .int (y2 + 1)), (0, .ref (aW 0)), (1, .int x1)]) hx hb dX5_firstTwice_27 hl (k := 2) rfl rfl (by decide) rfl (fun ls hl => ?_)
          refine lv_goto (tgt := 2) hx hb dX5_firstTwice_30 (by decide) ?_
          exact hf ls (lv_sub hl [1, 2, 0] rfl)
        · have hf := hf.2 (c2)
          refine lv_iload_n hx hb dX5_firstTwice_25 rfl (lv_at hl 2 rfl) ?_
          exact k_iret_r (v := y2) hx hb hr hlocks hf dX5_firstTwice_26)
  refine lv_iconst (v := 1) hx hb dX5_firstTwice_0 (by decide) ?_
  refine lv_istore_n (lv' := [(2, .int 1), (0, .ref (aW 0)), (1, .int x1)]) hx hb dX5_firstTwice_1 rfl hl (by decide) rfl (fun ls hl => ?_)
  exact hf ls (lv_sub hl [1, 2, 0] rfl)
def wpX5_worthTogether (uW : WSt) (uM : MSt) (x1 : Int32) (Q : Int32 → WSt → Prop) : Prop :=
  ∀ (X17 : Int64 → Int64 → Int32 → WSt → Prop) (X75 : Int64 → Int32 → WSt → Prop),
  (∀ (y2 : Int64) (y4 : Int64) (y6 : Int32) (tW : WSt),
    (((gM_length uM) < y6 →
      X75 0 1 tW) ∧
    (¬ ((gM_length uM) < y6) →
      (((y4 + (y2 * ((x1).toInt64))) : Int64) ≤ 2147483647 →
        X17 (y2 * ((x1).toInt64)) (y4 + (y2 * ((x1).toInt64))) (y6 + 1) (gW_set_sums tW (kPutL 61 (gW_sums tW) y6 (y4 + (y2 * ((x1).toInt64)))))) ∧
      (¬ (((y4 + (y2 * ((x1).toInt64))) : Int64) ≤ 2147483647) →
        Q (-13) tW))) → X17 y2 y4 y6 tW) →
  (∀ (y6 : Int64) (y8 : Int32) (tW : WSt),
    (((gM_length uM) < y8 →
      ((y6 : Int64) ≤ 2147483647 →
        Q (y6.toInt32) tW) ∧
      (¬ ((y6 : Int64) ≤ 2147483647) →
        Q (-13) tW)) ∧
    (¬ ((gM_length uM) < y8) →
      X75 (y6 + ((kAtL 61 (gW_sums tW) y8) - (kAtL 61 (gW_sums tW) (fX2_againAt uM y8)))) (y8 + 1) tW)) → X75 y6 y8 tW) →
  X17 1 0 1 (gW_set_sums uW (kPutL 61 (gW_sums uW) 0 0))
def rmX5_worthTogether : Room := { frames := 2, cells := 0, slots := 0, locals := 42 }
theorem inX5_worthTogether_X2 : ∀ w ∈ wsX20, w ∈ wsX5_worthTogether := fun w h => List.mem_cons_of_mem _ (List.mem_append_right _ h)
theorem inX5_worthTogether_X5 : ∀ w ∈ wsX50, w ∈ wsX5_worthTogether := fun w h => List.mem_cons_of_mem _ (List.mem_append_left _ (List.mem_append_right _ h))
set_option maxRecDepth 100000 in
set_option maxHeartbeats 4000000 in
theorem c_X5_worthTogether (l : Launch) (D : va_G) (q : Nat → ClassId) (aW : Nat → Nat) (aM : Nat → Nat) (uW : WSt) (uM : MSt) (x1 : Int32) (Q : Int32 → WSt → Prop) (hf : wpX5_worthTogether uW uM x1 Q) : Met l yX5_worthTogether wsX5_worthTogether rmX5_worthTogether (va_Pc [.ref (aW 0), .int x1] (kP D q (wW aW aM q uW ++ wM aM q uM))) (va_Qi Q (fun u t => kP D q (wW aW aM q u ++ wM aM q uM) t) (kIn (wW aW aM q uW ++ wM aM q uM))) 0 0 (kIn (wW aW aM q uW ++ wM aM q uM)) := by
  refine Met.ofW (cc := cX5_worthTogether) (maxL := 9) (ret := (some .int)) (by decide) rfl ?_
  intro p e s m args below meth c s₁ B hml hv
  obtain ⟨hargs, hP, hK, hD⟩ := hv
  have hx := B.exec
  have hb := B.bytes
  have hr := B.returns
  have hts := atoms_spec (ws := wsX5_worthTogether) B.pre
  have hown : s.vm.findClass RX5 = some m.cls := findClass_of_methodNamed B.named
  have hlocks := B.notSynchronized
  have hD := kd_self hD
  generalize kIn (wW aW aM q uW ++ wM aM q uM) = A at hD ⊢
  have hS : va_S A s.heap s.heap [] := va_S.rf
  refine k_entry hargs (Nat.le_of_ble_eq_true rfl) (fun ls hl => ?_)
  have hl : lv_has ls 9 [(0, .ref (aW 0)), (1, .int x1)] := hl
  change W p l e rmX5_worthTogether s m args below meth c s.heap [] 0 0 (MQ below (va_Qi Q (fun u t => kP D q (wW aW aM q u ++ wM aM q uM) t) A) args s 0 0 A) _
  unfold wpX5_worthTogether at hf
  obtain ⟨H, hH⟩ : ∃ H, H = s.heap := ⟨_, rfl⟩
  obtain ⟨locs, hlocs⟩ : ∃ x : List Loc, x = [] := ⟨_, rfl⟩
  rw [← hH] at hP
  have hS : va_S A s.heap H locs := by rw [hH, hlocs]; exact hS
  rw [show W p l e rmX5_worthTogether s m args below meth c s.heap [] 0 0 (MQ below (va_Qi Q (fun u t => kP D q (wW aW aM q u ++ wM aM q uM) t) A) args s 0 0 A) (F0 m 0 ls []) = W p l e rmX5_worthTogether s m args below meth c H locs 0 0 (MQ below (va_Qi Q (fun u t => kP D q (wW aW aM q u ++ wM aM q uM) t) A) args s 0 0 A) (F0 m 0 ls []) by rw [hH, hlocs]]
  clear hH hlocs
  have hf := hf
    (fun (y2 : Int64) (y4 : Int64) (y6 : Int32) (tW : WSt) => ∀ (H : Heap) (locs : List Loc) (ls : Array Slot), va_P D vwCl (wW aW aM q tW ++ wM aM q uM) H → va_D A (wW aW aM q tW ++ wM aM q uM) → va_S A s.heap H locs → lv_has ls 9 [(0, .ref (aW 0)), (1, .int x1), (2, .long y2), (4, .long y4), (6, .int y6)] → W p l e rmX5_worthTogether s m args below meth c H locs 0 0 (MQ below (va_Qi Q (fun u t => kP D q (wW aW aM q u ++ wM aM q uM) t) A) args s 0 0 A) (F0 m 17 ls []))
    (fun (y6 : Int64) (y8 : Int32) (tW : WSt) => ∀ (H : Heap) (locs : List Loc) (ls : Array Slot), va_P D vwCl (wW aW aM q tW ++ wM aM q uM) H → va_D A (wW aW aM q tW ++ wM aM q uM) → va_S A s.heap H locs → lv_has ls 9 [(0, .ref (aW 0)), (6, .long y6), (8, .int y8)] → W p l e rmX5_worthTogether s m args below meth c H locs 0 0 (MQ below (va_Qi Q (fun u t => kP D q (wW aW aM q u ++ wM aM q uM) t) A) args s 0 0 A) (F0 m 75 ls []))
    (by
      intro y2 y4 y6 tW hf H locs ls hP hD hS hl
      refine lv_iload hx hb dX5_worthTogether_17 (lv_at hl 4 rfl) ?_
      refine lv_aload_n hx hb dX5_worthTogether_19 rfl (lv_at hl 0 rfl) ?_
      refine va_get (D := D) (ci := 3) (v := .ref (aM 0)) (C := RX5) (T := TX5) (N := 5) hx hb hts inX5_worthTogether_X5 hown hK hP 0 rfl rfl 0 (by decide) (hts (.fieldLink RX5 9 "GrowingText$Words" "machine" "LGrowingText$Machine;") (List.mem_of_getElem? (i := 2) rfl)) (fun _ h9 => h9) rfl dX5_worthTogether_20 ?_
      refine va_get (D := D) (ci := 1) (v := .int (gM_length uM)) (C := RX2) (T := TX2) (N := 12) hx hb hts inX5_worthTogether_X2 hown hK hP 5 rfl rfl 1 (by decide) (hts (.fieldLink RX5 48 "GrowingText$Machine" "length" "I") (List.mem_of_getElem? (i := 3) rfl)) (fun _ h9 => h9) rfl dX5_worthTogether_23 ?_
      refine lv_icmp_gt (tgt := 69) hx hb dX5_worthTogether_26 (by decide) (fun c1 => ?_) (fun c1 => ?_)
      · have hf := hf.1 (c1)
        refine lv_lconst (v := 0) hx hb dX5_worthTogether_69 (by decide) ?_
        refine lv_lstore (lv' := [(6, .long 0), (0, .ref (aW 0)), (1, .int x1), (2, .long y2), (4, .long y4)]) hx hb dX5_worthTogether_70 hl (by decide) rfl (fun ls hl => ?_)
        refine lv_iconst (v := 1) hx hb dX5_worthTogether_72 (by decide) ?_
        refine lv_istore (lv' := [(8, .int 1), (6, .long 0), (0, .ref (aW 0)), (1, .int x1), (2, .long y2), (4, .long y4)]) hx hb dX5_worthTogether_73 hl (by decide) rfl (fun ls hl => ?_)
        exact hf H locs ls hP hD hS (lv_sub hl [2, 1, 0] rfl)
      · have hf := hf.2 (c1)
        refine lv_lload_n hx hb dX5_worthTogether_29 rfl (lv_at hl 2 rfl) ?_
        refine lv_iload_n hx hb dX5_worthTogether_30 rfl (lv_at hl 1 rfl) ?_
        refine lv_i2l (v := (x1).toInt64) hx hb dX5_worthTogether_31 rfl ?_
        refine lv_lmul hx hb dX5_worthTogether_32 ?_
        refine lv_lstore_n (lv' := [(2, .long (y2 * ((x1).toInt64))), (0, .ref (aW 0)), (1, .int x1), (4, .long y4), (6, .int y6)]) hx hb dX5_worthTogether_33 rfl hl (by decide) rfl (fun ls hl => ?_)
        refine lv_lload hx hb dX5_worthTogether_34 (lv_at hl 3 rfl) ?_
        refine lv_lload_n hx hb dX5_worthTogether_36 rfl (lv_at hl 0 rfl) ?_
        refine lv_ladd hx hb dX5_worthTogether_37 ?_
        refine lv_lstore (lv' := [(4, .long (y4 + (y2 * ((x1).toInt64)))), (2, .long (y2 * ((x1).toInt64))), (0, .ref (aW 0)), (1, .int x1), (6, .int y6)]) hx hb dX5_worthTogether_38 hl (by decide) rfl (fun ls hl => ?_)
        refine lv_lload hx hb dX5_worthTogether_40 (lv_at hl 0 rfl) ?_
        refine lv_ldc2 (v := 2147483647) hx hb hown (hts (.constantLong RX5 58 (2147483647)) (List.mem_of_getElem? (i := 4) rfl)) dX5_worthTogether_42 ?_
        refine W.lcmp hx hb dX5_worthTogether_45 ?_
        refine lv_if_le (tgt := 52) hx hb dX5_worthTogether_46 (by decide) (fun c2 => ?_) (fun c2 => ?_)
        · have hf := hf.1 ((k_cmp_le (y4 + (y2 * ((x1).toInt64))) 2147483647).mp c2)
          refine lv_aload_n hx hb dX5_worthTogether_52 rfl (lv_at hl 2 rfl) ?_
          refine va_get (D := D) (ci := 3) (v := .ref (aW 4)) (C := RX5) (T := TX5) (N := 5) hx hb hts inX5_worthTogether_X5 hown hK hP 0 rfl rfl 4 (by decide) (hts (.fieldLink RX5 25 "GrowingText$Words" "sums" "[J") (List.mem_of_getElem? (i := 1) rfl)) (fun _ h9 => h9) rfl dX5_worthTogether_53 ?_
          refine lv_iload hx hb dX5_worthTogether_56 (lv_at hl 4 rfl) ?_
          refine lv_lload hx hb dX5_worthTogether_58 (lv_at hl 0 rfl) ?_
          refine k_wp (k := 4) (k_runS (As := [.ref (aW 4), .int y6, .long (y4 + (y2 * ((x1).toInt64)))]) (rest := []) ⟨hx, hb, hml, hown, hts⟩ (c_X3_put_ l D q (aW 4) 61 (gW_sums tW) y6 (y4 + (y2 * ((x1).toInt64))) (Nat.le_of_ble_eq_true rfl)) (va_cwS 3 hts gX5_worthTogether_X3_put_ rfl rfl rfl cdX3_put_ ⟨Nat.le_of_ble_eq_true rfl, Nat.le_of_ble_eq_true rfl⟩) hK (kp_1 hP 4 rfl) (kd_1 hD 4 rfl) rfl hl.1 rfl (Nat.le_of_ble_eq_true rfl) dX5_worthTogether_60 ⟨Nat.le_of_ble_eq_true rfl, Nat.le_of_ble_eq_true rfl⟩) rfl rfl hP hD hS (fun H locs _ hP hD hS => ?_)
          have hP : va_P D vwCl (wW aW aM q (gW_set_sums tW (kPutL 61 (gW_sums tW) y6 (y4 + (y2 * ((x1).toInt64))))) ++ wM aM q uM) H := hP
          have hD : va_D A (wW aW aM q (gW_set_sums tW (kPutL 61 (gW_sums tW) y6 (y4 + (y2 * ((x1).toInt64))))) ++ wM aM q uM) := hD
          refine lv_iinc (v := (y6 + 1)) (lv' := [(6, .int (y6 + 1)), (4, .long (y4 + (y2 * ((x1).toInt64)))), (2, .long (y2 * ((x1).toInt64))), (0, .ref (aW 0)), (1, .int x1)]) hx hb dX5_worthTogether_63 hl (k := 4) rfl rfl (by decide) rfl (fun ls hl => ?_)
          refine lv_goto (tgt := 17) hx hb dX5_worthTogether_66 (by decide) ?_
          exact hf H locs ls hP hD hS (lv_sub hl [3, 4, 2, 1, 0] rfl)
        · have hf := hf.2 ((fun h => c2 ((k_cmp_le (y4 + (y2 * ((x1).toInt64))) 2147483647).mpr h)))
          refine lv_bipush (v := (-13)) hx hb dX5_worthTogether_49 (by decide) ?_
          exact k_iret_w (wf := (fun u => wW aW aM q u ++ wM aM q uM)) (post := Q) (u := tW) (v := (-13)) hx hb hr hlocks hK hP hD hS hf dX5_worthTogether_51)
    (by
      intro y6 y8 tW hf H locs ls hP hD hS hl
      refine lv_iload hx hb dX5_worthTogether_75 (lv_at hl 2 rfl) ?_
      refine lv_aload_n hx hb dX5_worthTogether_77 rfl (lv_at hl 0 rfl) ?_
      refine va_get (D := D) (ci := 3) (v := .ref (aM 0)) (C := RX5) (T := TX5) (N := 5) hx hb hts inX5_worthTogether_X5 hown hK hP 0 rfl rfl 0 (by decide) (hts (.fieldLink RX5 9 "GrowingText$Words" "machine" "LGrowingText$Machine;") (List.mem_of_getElem? (i := 2) rfl)) (fun _ h9 => h9) rfl dX5_worthTogether_78 ?_
      refine va_get (D := D) (ci := 1) (v := .int (gM_length uM)) (C := RX2) (T := TX2) (N := 12) hx hb hts inX5_worthTogether_X2 hown hK hP 5 rfl rfl 1 (by decide) (hts (.fieldLink RX5 48 "GrowingText$Machine" "length" "I") (List.mem_of_getElem? (i := 3) rfl)) (fun _ h9 => h9) rfl dX5_worthTogether_81 ?_
      refine lv_icmp_gt (tgt := 124) hx hb dX5_worthTogether_84 (by decide) (fun c3 => ?_) (fun c3 => ?_)
      · have hf := hf.1 (c3)
        refine lv_lload hx hb dX5_worthTogether_124 (lv_at hl 1 rfl) ?_
        refine lv_ldc2 (v := 2147483647) hx hb hown (hts (.constantLong RX5 58 (2147483647)) (List.mem_of_getElem? (i := 4) rfl)) dX5_worthTogether_126 ?_
        refine W.lcmp hx hb dX5_worthTogether_129 ?_
        refine lv_if_le (tgt := 138) hx hb dX5_worthTogether_130 (by decide) (fun c4 => ?_) (fun c4 => ?_)
        · have hf := hf.1 ((k_cmp_le y6 2147483647).mp c4)
          refine lv_lload hx hb dX5_worthTogether_138 (lv_at hl 1 rfl) ?_
          refine lv_l2i (v := y6.toInt32) hx hb dX5_worthTogether_140 rfl ?_
          exact k_iret_w (wf := (fun u => wW aW aM q u ++ wM aM q uM)) (post := Q) (u := tW) (v := (y6.toInt32)) hx hb hr hlocks hK hP hD hS hf dX5_worthTogether_141
        · have hf := hf.2 ((fun h => c4 ((k_cmp_le y6 2147483647).mpr h)))
          refine lv_bipush (v := (-13)) hx hb dX5_worthTogether_133 (by decide) ?_
          refine lv_goto (tgt := 141) hx hb dX5_worthTogether_135 (by decide) ?_
          exact k_iret_w (wf := (fun u => wW aW aM q u ++ wM aM q uM)) (post := Q) (u := tW) (v := (-13)) hx hb hr hlocks hK hP hD hS hf dX5_worthTogether_141
      · have hf := hf.2 (c3)
        refine lv_lload hx hb dX5_worthTogether_87 (lv_at hl 1 rfl) ?_
        refine lv_aload_n hx hb dX5_worthTogether_89 rfl (lv_at hl 0 rfl) ?_
        refine va_get (D := D) (ci := 3) (v := .ref (aW 4)) (C := RX5) (T := TX5) (N := 5) hx hb hts inX5_worthTogether_X5 hown hK hP 0 rfl rfl 4 (by decide) (hts (.fieldLink RX5 25 "GrowingText$Words" "sums" "[J") (List.mem_of_getElem? (i := 1) rfl)) (fun _ h9 => h9) rfl dX5_worthTogether_90 ?_
        refine lv_iload hx hb dX5_worthTogether_93 (lv_at hl 2 rfl) ?_
        refine k_sl (k_runS (As := [.ref (aW 4), .int y8]) (rest := [.long y6]) ⟨hx, hb, hml, hown, hts⟩ (c_X3_at_ l D q (aW 4) 61 (gW_sums tW) y8 (Nat.le_of_ble_eq_true rfl)) (va_cwS 2 hts gX5_worthTogether_X3_at_ rfl rfl rfl cdX3_at_ ⟨Nat.le_of_ble_eq_true rfl, Nat.le_of_ble_eq_true rfl⟩) hK (kp_1 hP 4 rfl) (kd_1 hD 4 rfl) rfl hl.1 rfl (Nat.le_of_ble_eq_true rfl) dX5_worthTogether_95 ⟨Nat.le_of_ble_eq_true rfl, Nat.le_of_ble_eq_true rfl⟩) (fun r hr => ?_)
        subst hr
        refine lv_aload_n hx hb dX5_worthTogether_98 rfl (lv_at hl 0 rfl) ?_
        refine va_get (D := D) (ci := 3) (v := .ref (aW 4)) (C := RX5) (T := TX5) (N := 5) hx hb hts inX5_worthTogether_X5 hown hK hP 0 rfl rfl 4 (by decide) (hts (.fieldLink RX5 25 "GrowingText$Words" "sums" "[J") (List.mem_of_getElem? (i := 1) rfl)) (fun _ h9 => h9) rfl dX5_worthTogether_99 ?_
        refine lv_aload_n hx hb dX5_worthTogether_102 rfl (lv_at hl 0 rfl) ?_
        refine va_get (D := D) (ci := 3) (v := .ref (aM 0)) (C := RX5) (T := TX5) (N := 5) hx hb hts inX5_worthTogether_X5 hown hK hP 0 rfl rfl 0 (by decide) (hts (.fieldLink RX5 9 "GrowingText$Words" "machine" "LGrowingText$Machine;") (List.mem_of_getElem? (i := 2) rfl)) (fun _ h9 => h9) rfl dX5_worthTogether_103 ?_
        refine lv_iload hx hb dX5_worthTogether_106 (lv_at hl 2 rfl) ?_
        refine k_si (k_runV (As := [.int y8]) (rest := [.ref (aW 4), .long (kAtL 61 (gW_sums tW) y8), .long y6]) ⟨hx, hb, hml, hown, hts⟩ (cF_X2_againAt l D q aM uM y8) (cwV 1 hts gX5_worthTogether_X2_againAt rfl rfl rfl cdX2_againAt ⟨Nat.le_of_ble_eq_true rfl, Nat.le_of_ble_eq_true rfl⟩) hK (kp_r hP) (kd_r hD) 0 rfl rfl rfl hl.1 rfl (Nat.le_of_ble_eq_true rfl) dX5_worthTogether_108 ⟨Nat.le_of_ble_eq_true rfl, Nat.le_of_ble_eq_true rfl⟩) (fun r hr => ?_)
        subst hr
        refine k_sl (k_runS (As := [.ref (aW 4), .int (fX2_againAt uM y8)]) (rest := [.long (kAtL 61 (gW_sums tW) y8), .long y6]) ⟨hx, hb, hml, hown, hts⟩ (c_X3_at_ l D q (aW 4) 61 (gW_sums tW) (fX2_againAt uM y8) (Nat.le_of_ble_eq_true rfl)) (va_cwS 2 hts gX5_worthTogether_X3_at_ rfl rfl rfl cdX3_at_ ⟨Nat.le_of_ble_eq_true rfl, Nat.le_of_ble_eq_true rfl⟩) hK (kp_1 hP 4 rfl) (kd_1 hD 4 rfl) rfl hl.1 rfl (Nat.le_of_ble_eq_true rfl) dX5_worthTogether_111 ⟨Nat.le_of_ble_eq_true rfl, Nat.le_of_ble_eq_true rfl⟩) (fun r hr => ?_)
        subst hr
        refine lv_lsub hx hb dX5_worthTogether_114 ?_
        refine lv_ladd hx hb dX5_worthTogether_115 ?_
        refine lv_lstore (lv' := [(6, .long (y6 + ((kAtL 61 (gW_sums tW) y8) - (kAtL 61 (gW_sums tW) (fX2_againAt uM y8))))), (0, .ref (aW 0)), (8, .int y8)]) hx hb dX5_worthTogether_116 hl (by decide) rfl (fun ls hl => ?_)
        refine lv_iinc (v := (y8 + 1)) (lv' := [(8, .int (y8 + 1)), (6, .long (y6 + ((kAtL 61 (gW_sums tW) y8) - (kAtL 61 (gW_sums tW) (fX2_againAt uM y8))))), (0, .ref (aW 0))]) hx hb dX5_worthTogether_118 hl (k := 2) rfl rfl (by decide) rfl (fun ls hl => ?_)
        refine lv_goto (tgt := 75) hx hb dX5_worthTogether_121 (by decide) ?_
        exact hf H locs ls hP hD hS (lv_sub hl [2, 1, 0] rfl))
  refine lv_lconst (v := 1) hx hb dX5_worthTogether_0 (by decide) ?_
  refine lv_lstore_n (lv' := [(2, .long 1), (0, .ref (aW 0)), (1, .int x1)]) hx hb dX5_worthTogether_1 rfl hl (by decide) rfl (fun ls hl => ?_)
  refine lv_lconst (v := 0) hx hb dX5_worthTogether_2 (by decide) ?_
  refine lv_lstore (lv' := [(4, .long 0), (2, .long 1), (0, .ref (aW 0)), (1, .int x1)]) hx hb dX5_worthTogether_3 hl (by decide) rfl (fun ls hl => ?_)
  refine lv_aload_n hx hb dX5_worthTogether_5 rfl (lv_at hl 2 rfl) ?_
  refine va_get (D := D) (ci := 3) (v := .ref (aW 4)) (C := RX5) (T := TX5) (N := 5) hx hb hts inX5_worthTogether_X5 hown hK hP 0 rfl rfl 4 (by decide) (hts (.fieldLink RX5 25 "GrowingText$Words" "sums" "[J") (List.mem_of_getElem? (i := 1) rfl)) (fun _ h9 => h9) rfl dX5_worthTogether_6 ?_
  refine lv_iconst (v := 0) hx hb dX5_worthTogether_9 (by decide) ?_
  refine lv_lconst (v := 0) hx hb dX5_worthTogether_10 (by decide) ?_
  refine k_wp (k := 4) (k_runS (As := [.ref (aW 4), .int 0, .long 0]) (rest := []) ⟨hx, hb, hml, hown, hts⟩ (c_X3_put_ l D q (aW 4) 61 (gW_sums uW) 0 0 (Nat.le_of_ble_eq_true rfl)) (va_cwS 3 hts gX5_worthTogether_X3_put_ rfl rfl rfl cdX3_put_ ⟨Nat.le_of_ble_eq_true rfl, Nat.le_of_ble_eq_true rfl⟩) hK (kp_1 hP 4 rfl) (kd_1 hD 4 rfl) rfl hl.1 rfl (Nat.le_of_ble_eq_true rfl) dX5_worthTogether_11 ⟨Nat.le_of_ble_eq_true rfl, Nat.le_of_ble_eq_true rfl⟩) rfl rfl hP hD hS (fun H locs _ hP hD hS => ?_)
  have hP : va_P D vwCl (wW aW aM q (gW_set_sums uW (kPutL 61 (gW_sums uW) 0 0)) ++ wM aM q uM) H := hP
  have hD : va_D A (wW aW aM q (gW_set_sums uW (kPutL 61 (gW_sums uW) 0 0)) ++ wM aM q uM) := hD
  refine lv_iconst (v := 1) hx hb dX5_worthTogether_14 (by decide) ?_
  refine lv_istore (lv' := [(6, .int 1), (4, .long 0), (2, .long 1), (0, .ref (aW 0)), (1, .int x1)]) hx hb dX5_worthTogether_15 hl (by decide) rfl (fun ls hl => ?_)
  exact hf H locs ls hP hD hS (lv_sub hl [3, 4, 2, 1, 0] rfl)
def wpX5_orderByLongest (uW : WSt) (uM : MSt) (Q : WSt → Prop) : Prop :=
  ∀ (X2 : Int32 → WSt → Prop) (X25 : Int32 → WSt → Prop) (X73 : Int32 → WSt → Prop) (X114 : Int32 → WSt → Prop),
  (∀ (y1 : Int32) (tW : WSt),
    (((61 : Int32) < y1 →
      X25 0 tW) ∧
    (¬ ((61 : Int32) < y1) →
      X2 (y1 + 1) (gW_set_heads tW (kPut 62 (gW_heads tW) y1 0)))) → X2 y1 tW) →
  (∀ (y1 : Int32) (tW : WSt),
    (((gM_states uM) ≤ y1 →
      X73 1 tW) ∧
    (¬ ((gM_states uM) ≤ y1) →
      X25 (y1 + 1) (gW_set_heads tW (kPut 62 (gW_heads tW) ((fX2_longestOf uM y1) + 1) ((kAt 62 (gW_heads tW) ((fX2_longestOf uM y1) + 1)) + 1))))) → X25 y1 tW) →
  (∀ (y1 : Int32) (tW : WSt),
    (((61 : Int32) < y1 →
      X114 0 tW) ∧
    (¬ ((61 : Int32) < y1) →
      X73 (y1 + 1) (gW_set_heads tW (kPut 62 (gW_heads tW) y1 ((kAt 62 (gW_heads tW) y1) + (kAt 62 (gW_heads tW) (y1 - 1))))))) → X73 y1 tW) →
  (∀ (y1 : Int32) (tW : WSt),
    (((gM_states uM) ≤ y1 →
      Q tW) ∧
    (¬ ((gM_states uM) ≤ y1) →
      X114 (y1 + 1) (gW_set_heads (gW_set_order tW (kPut 121 (gW_order tW) (kAt 62 (gW_heads tW) (fX2_longestOf uM y1)) y1)) (kPut 62 (gW_heads tW) (fX2_longestOf uM y1) ((kAt 62 (gW_heads tW) (fX2_longestOf uM y1)) + 1))))) → X114 y1 tW) →
  X2 0 uW
def rmX5_orderByLongest : Room := { frames := 2, cells := 0, slots := 0, locals := 42 }
theorem inX5_orderByLongest_X2 : ∀ w ∈ wsX20, w ∈ wsX5_orderByLongest := fun w h => List.mem_cons_of_mem _ (List.mem_append_right _ h)
theorem inX5_orderByLongest_X5 : ∀ w ∈ wsX50, w ∈ wsX5_orderByLongest := fun w h => List.mem_cons_of_mem _ (List.mem_append_left _ (List.mem_append_right _ h))
set_option maxRecDepth 100000 in
set_option maxHeartbeats 4000000 in
theorem c_X5_orderByLongest (l : Launch) (D : va_G) (q : Nat → ClassId) (aW : Nat → Nat) (aM : Nat → Nat) (uW : WSt) (uM : MSt) (Q : WSt → Prop) (hf : wpX5_orderByLongest uW uM Q) : Met l yX5_orderByLongest wsX5_orderByLongest rmX5_orderByLongest (va_Pc [.ref (aW 0)] (kP D q (wW aW aM q uW ++ wM aM q uM))) (va_Qv Q (fun u t => kP D q (wW aW aM q u ++ wM aM q uM) t) (kIn (wW aW aM q uW ++ wM aM q uM))) 0 0 (kIn (wW aW aM q uW ++ wM aM q uM)) := by
  refine Met.ofW (cc := cX5_orderByLongest) (maxL := 4) (ret := none) (by decide) rfl ?_
  intro p e s m args below meth c s₁ B hml hv
  obtain ⟨hargs, hP, hK, hD⟩ := hv
  have hx := B.exec
  have hb := B.bytes
  have hr := B.returns
  have hts := atoms_spec (ws := wsX5_orderByLongest) B.pre
  have hown : s.vm.findClass RX5 = some m.cls := findClass_of_methodNamed B.named
  have hlocks := B.notSynchronized
  have hD := kd_self hD
  generalize kIn (wW aW aM q uW ++ wM aM q uM) = A at hD ⊢
  have hS : va_S A s.heap s.heap [] := va_S.rf
  refine k_entry hargs (Nat.le_of_ble_eq_true rfl) (fun ls hl => ?_)
  have hl : lv_has ls 4 [(0, .ref (aW 0))] := hl
  change W p l e rmX5_orderByLongest s m args below meth c s.heap [] 0 0 (MQ below (va_Qv Q (fun u t => kP D q (wW aW aM q u ++ wM aM q uM) t) A) args s 0 0 A) _
  unfold wpX5_orderByLongest at hf
  obtain ⟨H, hH⟩ : ∃ H, H = s.heap := ⟨_, rfl⟩
  obtain ⟨locs, hlocs⟩ : ∃ x : List Loc, x = [] := ⟨_, rfl⟩
  rw [← hH] at hP
  have hS : va_S A s.heap H locs := by rw [hH, hlocs]; exact hS
  rw [show W p l e rmX5_orderByLongest s m args below meth c s.heap [] 0 0 (MQ below (va_Qv Q (fun u t => kP D q (wW aW aM q u ++ wM aM q uM) t) A) args s 0 0 A) (F0 m 0 ls []) = W p l e rmX5_orderByLongest s m args below meth c H locs 0 0 (MQ below (va_Qv Q (fun u t => kP D q (wW aW aM q u ++ wM aM q uM) t) A) args s 0 0 A) (F0 m 0 ls []) by rw [hH, hlocs]]
  clear hH hlocs
  have hf := hf
    (fun (y1 : Int32) (tW : WSt) => ∀ (H : Heap) (locs : List Loc) (ls : Array Slot), va_P D vwCl (wW aW aM q tW ++ wM aM q uM) H → va_D A (wW aW aM q tW ++ wM aM q uM) → va_S A s.heap H locs → lv_has ls 4 [(0, .ref (aW 0)), (1, .int y1)] → W p l e rmX5_orderByLongest s m args below meth c H locs 0 0 (MQ below (va_Qv Q (fun u t => kP D q (wW aW aM q u ++ wM aM q uM) t) A) args s 0 0 A) (F0 m 2 ls []))
    (fun (y1 : Int32) (tW : WSt) => ∀ (H : Heap) (locs : List Loc) (ls : Array Slot), va_P D vwCl (wW aW aM q tW ++ wM aM q uM) H → va_D A (wW aW aM q tW ++ wM aM q uM) → va_S A s.heap H locs → lv_has ls 4 [(0, .ref (aW 0)), (1, .int y1)] → W p l e rmX5_orderByLongest s m args below meth c H locs 0 0 (MQ below (va_Qv Q (fun u t => kP D q (wW aW aM q u ++ wM aM q uM) t) A) args s 0 0 A) (F0 m 25 ls []))
    (fun (y1 : Int32) (tW : WSt) => ∀ (H : Heap) (locs : List Loc) (ls : Array Slot), va_P D vwCl (wW aW aM q tW ++ wM aM q uM) H → va_D A (wW aW aM q tW ++ wM aM q uM) → va_S A s.heap H locs → lv_has ls 4 [(0, .ref (aW 0)), (1, .int y1)] → W p l e rmX5_orderByLongest s m args below meth c H locs 0 0 (MQ below (va_Qv Q (fun u t => kP D q (wW aW aM q u ++ wM aM q uM) t) A) args s 0 0 A) (F0 m 73 ls []))
    (fun (y1 : Int32) (tW : WSt) => ∀ (H : Heap) (locs : List Loc) (ls : Array Slot), va_P D vwCl (wW aW aM q tW ++ wM aM q uM) H → va_D A (wW aW aM q tW ++ wM aM q uM) → va_S A s.heap H locs → lv_has ls 4 [(0, .ref (aW 0)), (1, .int y1)] → W p l e rmX5_orderByLongest s m args below meth c H locs 0 0 (MQ below (va_Qv Q (fun u t => kP D q (wW aW aM q u ++ wM aM q uM) t) A) args s 0 0 A) (F0 m 114 ls []))
    (by
      intro y1 tW hf H locs ls hP hD hS hl
      refine lv_iload_n hx hb dX5_orderByLongest_2 rfl (lv_at hl 1 rfl) ?_
      refine lv_bipush (v := 61) hx hb dX5_orderByLongest_3 (by decide) ?_
      refine lv_icmp_gt (tgt := 23) hx hb dX5_orderByLongest_5 (by decide) (fun c1 => ?_) (fun c1 => ?_)
      · have hf := hf.1 (c1)
        refine lv_iconst (v := 0) hx hb dX5_orderByLongest_23 (by decide) ?_
        refine lv_istore_n (lv' := [(1, .int 0), (0, .ref (aW 0))]) hx hb dX5_orderByLongest_24 rfl hl (by decide) rfl (fun ls hl => ?_)
        exact hf H locs ls hP hD hS (lv_sub hl [1, 0] rfl)
      · have hf := hf.2 (c1)
        refine lv_aload_n hx hb dX5_orderByLongest_8 rfl (lv_at hl 0 rfl) ?_
        refine va_get (D := D) (ci := 3) (v := .ref (aW 1)) (C := RX5) (T := TX5) (N := 5) hx hb hts inX5_orderByLongest_X5 hown hK hP 0 rfl rfl 1 (by decide) (hts (.fieldLink RX5 15 "GrowingText$Words" "heads" "[I") (List.mem_of_getElem? (i := 1) rfl)) (fun _ h9 => h9) rfl dX5_orderByLongest_9 ?_
        refine lv_iload_n hx hb dX5_orderByLongest_12 rfl (lv_at hl 1 rfl) ?_
        refine lv_iconst (v := 0) hx hb dX5_orderByLongest_13 (by decide) ?_
        refine k_wp (k := 1) (k_runS (As := [.ref (aW 1), .int y1, .int 0]) (rest := []) ⟨hx, hb, hml, hown, hts⟩ (c_X3_put l D q (aW 1) 62 (gW_heads tW) y1 0 (Nat.le_of_ble_eq_true rfl)) (va_cwS 3 hts gX5_orderByLongest_X3_put rfl rfl rfl cdX3_put ⟨Nat.le_of_ble_eq_true rfl, Nat.le_of_ble_eq_true rfl⟩) hK (kp_1 hP 1 rfl) (kd_1 hD 1 rfl) rfl hl.1 rfl (Nat.le_of_ble_eq_true rfl) dX5_orderByLongest_14 ⟨Nat.le_of_ble_eq_true rfl, Nat.le_of_ble_eq_true rfl⟩) rfl rfl hP hD hS (fun H locs _ hP hD hS => ?_)
        have hP : va_P D vwCl (wW aW aM q (gW_set_heads tW (kPut 62 (gW_heads tW) y1 0)) ++ wM aM q uM) H := hP
        have hD : va_D A (wW aW aM q (gW_set_heads tW (kPut 62 (gW_heads tW) y1 0)) ++ wM aM q uM) := hD
        refine lv_iinc (v := (y1 + 1)) (lv' := [(1, .int (y1 + 1)), (0, .ref (aW 0))]) hx hb dX5_orderByLongest_17 hl (k := 1) rfl rfl (by decide) rfl (fun ls hl => ?_)
        refine lv_goto (tgt := 2) hx hb dX5_orderByLongest_20 (by decide) ?_
        exact hf H locs ls hP hD hS (lv_sub hl [1, 0] rfl))
    (by
      intro y1 tW hf H locs ls hP hD hS hl
      refine lv_iload_n hx hb dX5_orderByLongest_25 rfl (lv_at hl 1 rfl) ?_
      refine lv_aload_n hx hb dX5_orderByLongest_26 rfl (lv_at hl 0 rfl) ?_
      refine va_get (D := D) (ci := 3) (v := .ref (aM 0)) (C := RX5) (T := TX5) (N := 5) hx hb hts inX5_orderByLongest_X5 hown hK hP 0 rfl rfl 0 (by decide) (hts (.fieldLink RX5 9 "GrowingText$Words" "machine" "LGrowingText$Machine;") (List.mem_of_getElem? (i := 2) rfl)) (fun _ h9 => h9) rfl dX5_orderByLongest_27 ?_
      refine va_get (D := D) (ci := 1) (v := .int (gM_states uM)) (C := RX2) (T := TX2) (N := 12) hx hb hts inX5_orderByLongest_X2 hown hK hP 5 rfl rfl 2 (by decide) (hts (.fieldLink RX5 67 "GrowingText$Machine" "states" "I") (List.mem_of_getElem? (i := 3) rfl)) (fun _ h9 => h9) rfl dX5_orderByLongest_30 ?_
      refine lv_icmp_ge (tgt := 71) hx hb dX5_orderByLongest_33 (by decide) (fun c2 => ?_) (fun c2 => ?_)
      · have hf := hf.1 (c2)
        refine lv_iconst (v := 1) hx hb dX5_orderByLongest_71 (by decide) ?_
        refine lv_istore_n (lv' := [(1, .int 1), (0, .ref (aW 0))]) hx hb dX5_orderByLongest_72 rfl hl (by decide) rfl (fun ls hl => ?_)
        exact hf H locs ls hP hD hS (lv_sub hl [1, 0] rfl)
      · have hf := hf.2 (c2)
        refine lv_aload_n hx hb dX5_orderByLongest_36 rfl (lv_at hl 0 rfl) ?_
        refine va_get (D := D) (ci := 3) (v := .ref (aM 0)) (C := RX5) (T := TX5) (N := 5) hx hb hts inX5_orderByLongest_X5 hown hK hP 0 rfl rfl 0 (by decide) (hts (.fieldLink RX5 9 "GrowingText$Words" "machine" "LGrowingText$Machine;") (List.mem_of_getElem? (i := 2) rfl)) (fun _ h9 => h9) rfl dX5_orderByLongest_37 ?_
        refine lv_iload_n hx hb dX5_orderByLongest_40 rfl (lv_at hl 1 rfl) ?_
        refine k_si (k_runV (As := [.int y1]) (rest := []) ⟨hx, hb, hml, hown, hts⟩ (cF_X2_longestOf l D q aM uM y1) (cwV 1 hts gX5_orderByLongest_X2_longestOf rfl rfl rfl cdX2_longestOf ⟨Nat.le_of_ble_eq_true rfl, Nat.le_of_ble_eq_true rfl⟩) hK (kp_r hP) (kd_r hD) 0 rfl rfl rfl hl.1 rfl (Nat.le_of_ble_eq_true rfl) dX5_orderByLongest_41 ⟨Nat.le_of_ble_eq_true rfl, Nat.le_of_ble_eq_true rfl⟩) (fun r hr => ?_)
        subst hr
        refine lv_iconst (v := 1) hx hb dX5_orderByLongest_44 (by decide) ?_
        refine lv_iadd hx hb dX5_orderByLongest_45 ?_
        refine lv_istore_n (lv' := [(2, .int ((fX2_longestOf uM y1) + 1)), (0, .ref (aW 0)), (1, .int y1)]) hx hb dX5_orderByLongest_46 rfl hl (by decide) rfl (fun ls hl => ?_)
        refine lv_aload_n hx hb dX5_orderByLongest_47 rfl (lv_at hl 1 rfl) ?_
        refine va_get (D := D) (ci := 3) (v := .ref (aW 1)) (C := RX5) (T := TX5) (N := 5) hx hb hts inX5_orderByLongest_X5 hown hK hP 0 rfl rfl 1 (by decide) (hts (.fieldLink RX5 15 "GrowingText$Words" "heads" "[I") (List.mem_of_getElem? (i := 1) rfl)) (fun _ h9 => h9) rfl dX5_orderByLongest_48 ?_
        refine lv_iload_n hx hb dX5_orderByLongest_51 rfl (lv_at hl 0 rfl) ?_
        refine lv_aload_n hx hb dX5_orderByLongest_52 rfl (lv_at hl 1 rfl) ?_
        refine va_get (D := D) (ci := 3) (v := .ref (aW 1)) (C := RX5) (T := TX5) (N := 5) hx hb hts inX5_orderByLongest_X5 hown hK hP 0 rfl rfl 1 (by decide) (hts (.fieldLink RX5 15 "GrowingText$Words" "heads" "[I") (List.mem_of_getElem? (i := 1) rfl)) (fun _ h9 => h9) rfl dX5_orderByLongest_53 ?_
        refine lv_iload_n hx hb dX5_orderByLongest_56 rfl (lv_at hl 0 rfl) ?_
        refine k_si (k_runS (As := [.ref (aW 1), .int ((fX2_longestOf uM y1) + 1)]) (rest := [.int ((fX2_longestOf uM y1) + 1), .ref (aW 1)]) ⟨hx, hb, hml, hown, hts⟩ (c_X3_at l D q (aW 1) 62 (gW_heads tW) ((fX2_longestOf uM y1) + 1) (Nat.le_of_ble_eq_true rfl)) (va_cwS 2 hts gX5_orderByLongest_X3_at rfl rfl rfl cdX3_at ⟨Nat.le_of_ble_eq_true rfl, Nat.le_of_ble_eq_true rfl⟩) hK (kp_1 hP 1 rfl) (kd_1 hD 1 rfl) rfl hl.1 rfl (Nat.le_of_ble_eq_true rfl) dX5_orderByLongest_57 ⟨Nat.le_of_ble_eq_true rfl, Nat.le_of_ble_eq_true rfl⟩) (fun r hr => ?_)
        subst hr
        refine lv_iconst (v := 1) hx hb dX5_orderByLongest_60 (by decide) ?_
        refine lv_iadd hx hb dX5_orderByLongest_61 ?_
        refine k_wp (k := 1) (k_runS (As := [.ref (aW 1), .int ((fX2_longestOf uM y1) + 1), .int ((kAt 62 (gW_heads tW) ((fX2_longestOf uM y1) + 1)) + 1)]) (rest := []) ⟨hx, hb, hml, hown, hts⟩ (c_X3_put l D q (aW 1) 62 (gW_heads tW) ((fX2_longestOf uM y1) + 1) ((kAt 62 (gW_heads tW) ((fX2_longestOf uM y1) + 1)) + 1) (Nat.le_of_ble_eq_true rfl)) (va_cwS 3 hts gX5_orderByLongest_X3_put rfl rfl rfl cdX3_put ⟨Nat.le_of_ble_eq_true rfl, Nat.le_of_ble_eq_true rfl⟩) hK (kp_1 hP 1 rfl) (kd_1 hD 1 rfl) rfl hl.1 rfl (Nat.le_of_ble_eq_true rfl) dX5_orderByLongest_62 ⟨Nat.le_of_ble_eq_true rfl, Nat.le_of_ble_eq_true rfl⟩) rfl rfl hP hD hS (fun H locs _ hP hD hS => ?_)
        have hP : va_P D vwCl (wW aW aM q (gW_set_heads tW (kPut 62 (gW_heads tW) ((fX2_longestOf uM y1) + 1) ((kAt 62 (gW_heads tW) ((fX2_longestOf uM y1) + 1)) + 1))) ++ wM aM q uM) H := hP
        have hD : va_D A (wW aW aM q (gW_set_heads tW (kPut 62 (gW_heads tW) ((fX2_longestOf uM y1) + 1) ((kAt 62 (gW_heads tW) ((fX2_longestOf uM y1) + 1)) + 1))) ++ wM aM q uM) := hD
        refine lv_iinc (v := (y1 + 1)) (lv' := [(1, .int (y1 + 1)), (2, .int ((fX2_longestOf uM y1) + 1)), (0, .ref (aW 0))]) hx hb dX5_orderByLongest_65 hl (k := 2) rfl rfl (by decide) rfl (fun ls hl => ?_)
        refine lv_goto (tgt := 25) hx hb dX5_orderByLongest_68 (by decide) ?_
        exact hf H locs ls hP hD hS (lv_sub hl [2, 0] rfl))
    (by
      intro y1 tW hf H locs ls hP hD hS hl
      refine lv_iload_n hx hb dX5_orderByLongest_73 rfl (lv_at hl 1 rfl) ?_
      refine lv_bipush (v := 61) hx hb dX5_orderByLongest_74 (by decide) ?_
      refine lv_icmp_gt (tgt := 112) hx hb dX5_orderByLongest_76 (by decide) (fun c3 => ?_) (fun c3 => ?_)
      · have hf := hf.1 (c3)
        refine lv_iconst (v := 0) hx hb dX5_orderByLongest_112 (by decide) ?_
        refine lv_istore_n (lv' := [(1, .int 0), (0, .ref (aW 0))]) hx hb dX5_orderByLongest_113 rfl hl (by decide) rfl (fun ls hl => ?_)
        exact hf H locs ls hP hD hS (lv_sub hl [1, 0] rfl)
      · have hf := hf.2 (c3)
        refine lv_aload_n hx hb dX5_orderByLongest_79 rfl (lv_at hl 0 rfl) ?_
        refine va_get (D := D) (ci := 3) (v := .ref (aW 1)) (C := RX5) (T := TX5) (N := 5) hx hb hts inX5_orderByLongest_X5 hown hK hP 0 rfl rfl 1 (by decide) (hts (.fieldLink RX5 15 "GrowingText$Words" "heads" "[I") (List.mem_of_getElem? (i := 1) rfl)) (fun _ h9 => h9) rfl dX5_orderByLongest_80 ?_
        refine lv_iload_n hx hb dX5_orderByLongest_83 rfl (lv_at hl 1 rfl) ?_
        refine lv_aload_n hx hb dX5_orderByLongest_84 rfl (lv_at hl 0 rfl) ?_
        refine va_get (D := D) (ci := 3) (v := .ref (aW 1)) (C := RX5) (T := TX5) (N := 5) hx hb hts inX5_orderByLongest_X5 hown hK hP 0 rfl rfl 1 (by decide) (hts (.fieldLink RX5 15 "GrowingText$Words" "heads" "[I") (List.mem_of_getElem? (i := 1) rfl)) (fun _ h9 => h9) rfl dX5_orderByLongest_85 ?_
        refine lv_iload_n hx hb dX5_orderByLongest_88 rfl (lv_at hl 1 rfl) ?_
        refine k_si (k_runS (As := [.ref (aW 1), .int y1]) (rest := [.int y1, .ref (aW 1)]) ⟨hx, hb, hml, hown, hts⟩ (c_X3_at l D q (aW 1) 62 (gW_heads tW) y1 (Nat.le_of_ble_eq_true rfl)) (va_cwS 2 hts gX5_orderByLongest_X3_at rfl rfl rfl cdX3_at ⟨Nat.le_of_ble_eq_true rfl, Nat.le_of_ble_eq_true rfl⟩) hK (kp_1 hP 1 rfl) (kd_1 hD 1 rfl) rfl hl.1 rfl (Nat.le_of_ble_eq_true rfl) dX5_orderByLongest_89 ⟨Nat.le_of_ble_eq_true rfl, Nat.le_of_ble_eq_true rfl⟩) (fun r hr => ?_)
        subst hr
        refine lv_aload_n hx hb dX5_orderByLongest_92 rfl (lv_at hl 0 rfl) ?_
        refine va_get (D := D) (ci := 3) (v := .ref (aW 1)) (C := RX5) (T := TX5) (N := 5) hx hb hts inX5_orderByLongest_X5 hown hK hP 0 rfl rfl 1 (by decide) (hts (.fieldLink RX5 15 "GrowingText$Words" "heads" "[I") (List.mem_of_getElem? (i := 1) rfl)) (fun _ h9 => h9) rfl dX5_orderByLongest_93 ?_
        refine lv_iload_n hx hb dX5_orderByLongest_96 rfl (lv_at hl 1 rfl) ?_
        refine lv_iconst (v := 1) hx hb dX5_orderByLongest_97 (by decide) ?_
        refine lv_isub hx hb dX5_orderByLongest_98 ?_
        refine k_si (k_runS (As := [.ref (aW 1), .int (y1 - 1)]) (rest := [.int (kAt 62 (gW_heads tW) y1), .int y1, .ref (aW 1)]) ⟨hx, hb, hml, hown, hts⟩ (c_X3_at l D q (aW 1) 62 (gW_heads tW) (y1 - 1) (Nat.le_of_ble_eq_true rfl)) (va_cwS 2 hts gX5_orderByLongest_X3_at rfl rfl rfl cdX3_at ⟨Nat.le_of_ble_eq_true rfl, Nat.le_of_ble_eq_true rfl⟩) hK (kp_1 hP 1 rfl) (kd_1 hD 1 rfl) rfl hl.1 rfl (Nat.le_of_ble_eq_true rfl) dX5_orderByLongest_99 ⟨Nat.le_of_ble_eq_true rfl, Nat.le_of_ble_eq_true rfl⟩) (fun r hr => ?_)
        subst hr
        refine lv_iadd hx hb dX5_orderByLongest_102 ?_
        refine k_wp (k := 1) (k_runS (As := [.ref (aW 1), .int y1, .int ((kAt 62 (gW_heads tW) y1) + (kAt 62 (gW_heads tW) (y1 - 1)))]) (rest := []) ⟨hx, hb, hml, hown, hts⟩ (c_X3_put l D q (aW 1) 62 (gW_heads tW) y1 ((kAt 62 (gW_heads tW) y1) + (kAt 62 (gW_heads tW) (y1 - 1))) (Nat.le_of_ble_eq_true rfl)) (va_cwS 3 hts gX5_orderByLongest_X3_put rfl rfl rfl cdX3_put ⟨Nat.le_of_ble_eq_true rfl, Nat.le_of_ble_eq_true rfl⟩) hK (kp_1 hP 1 rfl) (kd_1 hD 1 rfl) rfl hl.1 rfl (Nat.le_of_ble_eq_true rfl) dX5_orderByLongest_103 ⟨Nat.le_of_ble_eq_true rfl, Nat.le_of_ble_eq_true rfl⟩) rfl rfl hP hD hS (fun H locs _ hP hD hS => ?_)
        have hP : va_P D vwCl (wW aW aM q (gW_set_heads tW (kPut 62 (gW_heads tW) y1 ((kAt 62 (gW_heads tW) y1) + (kAt 62 (gW_heads tW) (y1 - 1))))) ++ wM aM q uM) H := hP
        have hD : va_D A (wW aW aM q (gW_set_heads tW (kPut 62 (gW_heads tW) y1 ((kAt 62 (gW_heads tW) y1) + (kAt 62 (gW_heads tW) (y1 - 1))))) ++ wM aM q uM) := hD
        refine lv_iinc (v := (y1 + 1)) (lv' := [(1, .int (y1 + 1)), (0, .ref (aW 0))]) hx hb dX5_orderByLongest_106 hl (k := 1) rfl rfl (by decide) rfl (fun ls hl => ?_)
        refine lv_goto (tgt := 73) hx hb dX5_orderByLongest_109 (by decide) ?_
        exact hf H locs ls hP hD hS (lv_sub hl [1, 0] rfl))
    (by
      intro y1 tW hf H locs ls hP hD hS hl
      refine lv_iload_n hx hb dX5_orderByLongest_114 rfl (lv_at hl 1 rfl) ?_
      refine lv_aload_n hx hb dX5_orderByLongest_115 rfl (lv_at hl 0 rfl) ?_
      refine va_get (D := D) (ci := 3) (v := .ref (aM 0)) (C := RX5) (T := TX5) (N := 5) hx hb hts inX5_orderByLongest_X5 hown hK hP 0 rfl rfl 0 (by decide) (hts (.fieldLink RX5 9 "GrowingText$Words" "machine" "LGrowingText$Machine;") (List.mem_of_getElem? (i := 2) rfl)) (fun _ h9 => h9) rfl dX5_orderByLongest_116 ?_
      refine va_get (D := D) (ci := 1) (v := .int (gM_states uM)) (C := RX2) (T := TX2) (N := 12) hx hb hts inX5_orderByLongest_X2 hown hK hP 5 rfl rfl 2 (by decide) (hts (.fieldLink RX5 67 "GrowingText$Machine" "states" "I") (List.mem_of_getElem? (i := 3) rfl)) (fun _ h9 => h9) rfl dX5_orderByLongest_119 ?_
      refine lv_icmp_ge (tgt := 169) hx hb dX5_orderByLongest_122 (by decide) (fun c4 => ?_) (fun c4 => ?_)
      · have hf := hf.1 (c4)
        exact k_vret_w (wf := (fun u => wW aW aM q u ++ wM aM q uM)) (post := Q) (u := tW) hx hb hr hlocks hK hP hD hS hf dX5_orderByLongest_169
      · have hf := hf.2 (c4)
        refine lv_aload_n hx hb dX5_orderByLongest_125 rfl (lv_at hl 0 rfl) ?_
        refine va_get (D := D) (ci := 3) (v := .ref (aM 0)) (C := RX5) (T := TX5) (N := 5) hx hb hts inX5_orderByLongest_X5 hown hK hP 0 rfl rfl 0 (by decide) (hts (.fieldLink RX5 9 "GrowingText$Words" "machine" "LGrowingText$Machine;") (List.mem_of_getElem? (i := 2) rfl)) (fun _ h9 => h9) rfl dX5_orderByLongest_126 ?_
        refine lv_iload_n hx hb dX5_orderByLongest_129 rfl (lv_at hl 1 rfl) ?_
        refine k_si (k_runV (As := [.int y1]) (rest := []) ⟨hx, hb, hml, hown, hts⟩ (cF_X2_longestOf l D q aM uM y1) (cwV 1 hts gX5_orderByLongest_X2_longestOf rfl rfl rfl cdX2_longestOf ⟨Nat.le_of_ble_eq_true rfl, Nat.le_of_ble_eq_true rfl⟩) hK (kp_r hP) (kd_r hD) 0 rfl rfl rfl hl.1 rfl (Nat.le_of_ble_eq_true rfl) dX5_orderByLongest_130 ⟨Nat.le_of_ble_eq_true rfl, Nat.le_of_ble_eq_true rfl⟩) (fun r hr => ?_)
        subst hr
        refine lv_istore_n (lv' := [(2, .int (fX2_longestOf uM y1)), (0, .ref (aW 0)), (1, .int y1)]) hx hb dX5_orderByLongest_133 rfl hl (by decide) rfl (fun ls hl => ?_)
        refine lv_aload_n hx hb dX5_orderByLongest_134 rfl (lv_at hl 1 rfl) ?_
        refine va_get (D := D) (ci := 3) (v := .ref (aW 1)) (C := RX5) (T := TX5) (N := 5) hx hb hts inX5_orderByLongest_X5 hown hK hP 0 rfl rfl 1 (by decide) (hts (.fieldLink RX5 15 "GrowingText$Words" "heads" "[I") (List.mem_of_getElem? (i := 1) rfl)) (fun _ h9 => h9) rfl dX5_orderByLongest_135 ?_
        refine lv_iload_n hx hb dX5_orderByLongest_138 rfl (lv_at hl 0 rfl) ?_
        refine k_si (k_runS (As := [.ref (aW 1), .int (fX2_longestOf uM y1)]) (rest := []) ⟨hx, hb, hml, hown, hts⟩ (c_X3_at l D q (aW 1) 62 (gW_heads tW) (fX2_longestOf uM y1) (Nat.le_of_ble_eq_true rfl)) (va_cwS 2 hts gX5_orderByLongest_X3_at rfl rfl rfl cdX3_at ⟨Nat.le_of_ble_eq_true rfl, Nat.le_of_ble_eq_true rfl⟩) hK (kp_1 hP 1 rfl) (kd_1 hD 1 rfl) rfl hl.1 rfl (Nat.le_of_ble_eq_true rfl) dX5_orderByLongest_139 ⟨Nat.le_of_ble_eq_true rfl, Nat.le_of_ble_eq_true rfl⟩) (fun r hr => ?_)
        subst hr
        refine lv_istore_n (lv' := [(3, .int (kAt 62 (gW_heads tW) (fX2_longestOf uM y1))), (2, .int (fX2_longestOf uM y1)), (0, .ref (aW 0)), (1, .int y1)]) hx hb dX5_orderByLongest_142 rfl hl (by decide) rfl (fun ls hl => ?_)
        refine lv_aload_n hx hb dX5_orderByLongest_143 rfl (lv_at hl 2 rfl) ?_
        refine va_get (D := D) (ci := 3) (v := .ref (aW 2)) (C := RX5) (T := TX5) (N := 5) hx hb hts inX5_orderByLongest_X5 hown hK hP 0 rfl rfl 2 (by decide) (hts (.fieldLink RX5 19 "GrowingText$Words" "order" "[I") (List.mem_of_getElem? (i := 4) rfl)) (fun _ h9 => h9) rfl dX5_orderByLongest_144 ?_
        refine lv_iload_n hx hb dX5_orderByLongest_147 rfl (lv_at hl 0 rfl) ?_
        refine lv_iload_n hx hb dX5_orderByLongest_148 rfl (lv_at hl 3 rfl) ?_
        refine k_wp (k := 2) (k_runS (As := [.ref (aW 2), .int (kAt 62 (gW_heads tW) (fX2_longestOf uM y1)), .int y1]) (rest := []) ⟨hx, hb, hml, hown, hts⟩ (c_X3_put l D q (aW 2) 121 (gW_order tW) (kAt 62 (gW_heads tW) (fX2_longestOf uM y1)) y1 (Nat.le_of_ble_eq_true rfl)) (va_cwS 3 hts gX5_orderByLongest_X3_put rfl rfl rfl cdX3_put ⟨Nat.le_of_ble_eq_true rfl, Nat.le_of_ble_eq_true rfl⟩) hK (kp_1 hP 2 rfl) (kd_1 hD 2 rfl) rfl hl.1 rfl (Nat.le_of_ble_eq_true rfl) dX5_orderByLongest_149 ⟨Nat.le_of_ble_eq_true rfl, Nat.le_of_ble_eq_true rfl⟩) rfl rfl hP hD hS (fun H locs _ hP hD hS => ?_)
        have hP : va_P D vwCl (wW aW aM q (gW_set_order tW (kPut 121 (gW_order tW) (kAt 62 (gW_heads tW) (fX2_longestOf uM y1)) y1)) ++ wM aM q uM) H := hP
        have hD : va_D A (wW aW aM q (gW_set_order tW (kPut 121 (gW_order tW) (kAt 62 (gW_heads tW) (fX2_longestOf uM y1)) y1)) ++ wM aM q uM) := hD
        refine lv_aload_n hx hb dX5_orderByLongest_152 rfl (lv_at hl 2 rfl) ?_
        refine va_get (D := D) (ci := 3) (v := .ref (aW 1)) (C := RX5) (T := TX5) (N := 5) hx hb hts inX5_orderByLongest_X5 hown hK hP 0 rfl rfl 1 (by decide) (hts (.fieldLink RX5 15 "GrowingText$Words" "heads" "[I") (List.mem_of_getElem? (i := 1) rfl)) (fun _ h9 => h9) rfl dX5_orderByLongest_153 ?_
        refine lv_iload_n hx hb dX5_orderByLongest_156 rfl (lv_at hl 1 rfl) ?_
        refine lv_iload_n hx hb dX5_orderByLongest_157 rfl (lv_at hl 0 rfl) ?_
        refine lv_iconst (v := 1) hx hb dX5_orderByLongest_158 (by decide) ?_
        refine lv_iadd hx hb dX5_orderByLongest_159 ?_
        refine k_wp (k := 1) (k_runS (As := [.ref (aW 1), .int (fX2_longestOf uM y1), .int ((kAt 62 (gW_heads tW) (fX2_longestOf uM y1)) + 1)]) (rest := []) ⟨hx, hb, hml, hown, hts⟩ (c_X3_put l D q (aW 1) 62 (gW_heads tW) (fX2_longestOf uM y1) ((kAt 62 (gW_heads tW) (fX2_longestOf uM y1)) + 1) (Nat.le_of_ble_eq_true rfl)) (va_cwS 3 hts gX5_orderByLongest_X3_put rfl rfl rfl cdX3_put ⟨Nat.le_of_ble_eq_true rfl, Nat.le_of_ble_eq_true rfl⟩) hK (kp_1 hP 1 rfl) (kd_1 hD 1 rfl) rfl hl.1 rfl (Nat.le_of_ble_eq_true rfl) dX5_orderByLongest_160 ⟨Nat.le_of_ble_eq_true rfl, Nat.le_of_ble_eq_true rfl⟩) rfl rfl hP hD hS (fun H locs _ hP hD hS => ?_)
        have hP : va_P D vwCl (wW aW aM q (gW_set_heads (gW_set_order tW (kPut 121 (gW_order tW) (kAt 62 (gW_heads tW) (fX2_longestOf uM y1)) y1)) (kPut 62 (gW_heads tW) (fX2_longestOf uM y1) ((kAt 62 (gW_heads tW) (fX2_longestOf uM y1)) + 1))) ++ wM aM q uM) H := hP
        have hD : va_D A (wW aW aM q (gW_set_heads (gW_set_order tW (kPut 121 (gW_order tW) (kAt 62 (gW_heads tW) (fX2_longestOf uM y1)) y1)) (kPut 62 (gW_heads tW) (fX2_longestOf uM y1) ((kAt 62 (gW_heads tW) (fX2_longestOf uM y1)) + 1))) ++ wM aM q uM) := hD
        refine lv_iinc (v := (y1 + 1)) (lv' := [(1, .int (y1 + 1)), (3, .int (kAt 62 (gW_heads tW) (fX2_longestOf uM y1))), (2, .int (fX2_longestOf uM y1)), (0, .ref (aW 0))]) hx hb dX5_orderByLongest_163 hl (k := 3) rfl rfl (by decide) rfl (fun ls hl => ?_)
        refine lv_goto (tgt := 114) hx hb dX5_orderByLongest_166 (by decide) ?_
        exact hf H locs ls hP hD hS (lv_sub hl [3, 0] rfl))
  refine lv_iconst (v := 0) hx hb dX5_orderByLongest_0 (by decide) ?_
  refine lv_istore_n (lv' := [(1, .int 0), (0, .ref (aW 0))]) hx hb dX5_orderByLongest_1 rfl hl (by decide) rfl (fun ls hl => ?_)
  exact hf H locs ls hP hD hS (lv_sub hl [1, 0] rfl)
def wpX5_onwardBy (uW : WSt) (uM : MSt) (x1 : Int32) (x2 : Int32) (Q : Int32 → Prop) : Prop :=
  (((fX2_moveOf uM x1 x2) = (-4) →
    Q 0) ∧
  (¬ ((fX2_moveOf uM x1 x2) = (-4)) →
    Q (kAt 121 (gW_onward uW) (fX2_moveOf uM x1 x2))))
def rmX5_onwardBy : Room := { frames := 2, cells := 0, slots := 0, locals := 43 }
theorem inX5_onwardBy_X5 : ∀ w ∈ wsX50, w ∈ wsX5_onwardBy := fun w h => List.mem_cons_of_mem _ (List.mem_append_left _ (List.mem_append_right _ h))
set_option maxRecDepth 100000 in
set_option maxHeartbeats 4000000 in
theorem c_X5_onwardBy (l : Launch) (D : va_G) (q : Nat → ClassId) (aW : Nat → Nat) (aM : Nat → Nat) (uW : WSt) (uM : MSt) (x1 : Int32) (x2 : Int32) (Q : Int32 → Prop) (hf : wpX5_onwardBy uW uM x1 x2 Q) : Met l yX5_onwardBy wsX5_onwardBy rmX5_onwardBy (va_Pc [.ref (aW 0), .int x1, .int x2] (kP D q (wW aW aM q uW ++ wM aM q uM))) (vp_Si Q) 0 0 (fun _ => False) := by
  refine Met.ofW (cc := cX5_onwardBy) (maxL := 4) (ret := (some .int)) (by decide) rfl ?_
  intro p e s m args below meth c s₁ B hml hv
  obtain ⟨hargs, hP, hK, hD⟩ := hv
  have hx := B.exec
  have hb := B.bytes
  have hr := B.returns
  have hts := atoms_spec (ws := wsX5_onwardBy) B.pre
  have hown : s.vm.findClass RX5 = some m.cls := findClass_of_methodNamed B.named
  have hlocks := B.notSynchronized
  refine k_entry hargs (Nat.le_of_ble_eq_true rfl) (fun ls hl => ?_)
  have hl : lv_has ls 4 [(0, .ref (aW 0)), (1, .int x1), (2, .int x2)] := hl
  change W p l e rmX5_onwardBy s m args below meth c s.heap [] 0 0 (MQ below (vp_Si Q) args s 0 0 (fun _ => False)) _
  unfold wpX5_onwardBy at hf
  refine lv_aload_n hx hb dX5_onwardBy_0 rfl (lv_at hl 0 rfl) ?_
  refine va_get (D := D) (ci := 3) (v := .ref (aM 0)) (C := RX5) (T := TX5) (N := 5) hx hb hts inX5_onwardBy_X5 hown hK hP 0 rfl rfl 0 (by decide) (hts (.fieldLink RX5 9 "GrowingText$Words" "machine" "LGrowingText$Machine;") (List.mem_of_getElem? (i := 1) rfl)) (fun _ h9 => h9) rfl dX5_onwardBy_1 ?_
  refine lv_iload_n hx hb dX5_onwardBy_4 rfl (lv_at hl 1 rfl) ?_
  refine lv_iload_n hx hb dX5_onwardBy_5 rfl (lv_at hl 2 rfl) ?_
  refine k_si (k_runV (As := [.int x1, .int x2]) (rest := []) ⟨hx, hb, hml, hown, hts⟩ (cF_X2_moveOf l D q aM uM x1 x2) (cwV 2 hts gX5_onwardBy_X2_moveOf rfl rfl rfl cdX2_moveOf ⟨Nat.le_of_ble_eq_true rfl, Nat.le_of_ble_eq_true rfl⟩) hK (kp_r hP) (kd_r hD) 0 rfl rfl rfl hl.1 rfl (Nat.le_of_ble_eq_true rfl) dX5_onwardBy_6 ⟨Nat.le_of_ble_eq_true rfl, Nat.le_of_ble_eq_true rfl⟩) (fun r hr => ?_)
  subst hr
  refine lv_istore_n (lv' := [(3, .int (fX2_moveOf uM x1 x2)), (0, .ref (aW 0)), (1, .int x1), (2, .int x2)]) hx hb dX5_onwardBy_9 rfl hl (by decide) rfl (fun ls hl => ?_)
  refine lv_iload_n hx hb dX5_onwardBy_10 rfl (lv_at hl 0 rfl) ?_
  refine lv_bipush (v := (-4)) hx hb dX5_onwardBy_11 (by decide) ?_
  refine lv_icmp_ne (tgt := 20) hx hb dX5_onwardBy_13 (by decide) (fun c1 => ?_) (fun c1 => ?_)
  · have hf := hf.2 (c1)
    refine lv_aload_n hx hb dX5_onwardBy_20 rfl (lv_at hl 1 rfl) ?_
    refine va_get (D := D) (ci := 3) (v := .ref (aW 3)) (C := RX5) (T := TX5) (N := 5) hx hb hts inX5_onwardBy_X5 hown hK hP 0 rfl rfl 3 (by decide) (hts (.fieldLink RX5 22 "GrowingText$Words" "onward" "[I") (List.mem_of_getElem? (i := 2) rfl)) (fun _ h9 => h9) rfl dX5_onwardBy_21 ?_
    refine lv_iload_n hx hb dX5_onwardBy_24 rfl (lv_at hl 0 rfl) ?_
    refine k_si (k_runS (As := [.ref (aW 3), .int (fX2_moveOf uM x1 x2)]) (rest := []) ⟨hx, hb, hml, hown, hts⟩ (c_X3_at l D q (aW 3) 121 (gW_onward uW) (fX2_moveOf uM x1 x2) (Nat.le_of_ble_eq_true rfl)) (va_cwS 2 hts gX5_onwardBy_X3_at rfl rfl rfl cdX3_at ⟨Nat.le_of_ble_eq_true rfl, Nat.le_of_ble_eq_true rfl⟩) hK (kp_1 hP 3 rfl) (kd_1 hD 3 rfl) rfl hl.1 rfl (Nat.le_of_ble_eq_true rfl) dX5_onwardBy_25 ⟨Nat.le_of_ble_eq_true rfl, Nat.le_of_ble_eq_true rfl⟩) (fun r hr => ?_)
    subst hr
    exact k_iret_r (v := (kAt 121 (gW_onward uW) (fX2_moveOf uM x1 x2))) hx hb hr hlocks hf dX5_onwardBy_28
  · have hf := hf.1 (c1)
    refine lv_iconst (v := 0) hx hb dX5_onwardBy_16 (by decide) ?_
    refine lv_goto (tgt := 28) hx hb dX5_onwardBy_17 (by decide) ?_
    exact k_iret_r (v := 0) hx hb hr hlocks hf dX5_onwardBy_28
def fX5_onwardBy (uW : WSt) (uM : MSt) (x1 : Int32) (x2 : Int32) : Int32 := (if (fX2_moveOf uM x1 x2) = (-4) then 0 else (kAt 121 (gW_onward uW) (fX2_moveOf uM x1 x2)))
theorem pF_X5_onwardBy (uW : WSt) (uM : MSt) (x1 : Int32) (x2 : Int32) (Q : Int32 → Prop) (hq : Q (fX5_onwardBy uW uM x1 x2)) : wpX5_onwardBy uW uM x1 x2 Q := by
  unfold fX5_onwardBy at hq; unfold wpX5_onwardBy; exact k_ite hq (fun hq => hq) (fun hq => hq)
theorem cF_X5_onwardBy (l : Launch) (D : va_G) (q : Nat → ClassId) (aW : Nat → Nat) (aM : Nat → Nat) (uW : WSt) (uM : MSt) (x1 : Int32) (x2 : Int32) : Met l yX5_onwardBy wsX5_onwardBy rmX5_onwardBy (va_Pc [.ref (aW 0), .int x1, .int x2] (kP D q (wW aW aM q uW ++ wM aM q uM))) (vp_Si (fun r => r = fX5_onwardBy uW uM x1 x2)) 0 0 (fun _ => False) := c_X5_onwardBy l D q aW aM uW uM x1 x2 _ (pF_X5_onwardBy uW uM x1 x2 _ rfl)
def wpX5_countOnward (uW : WSt) (uM : MSt) (Q : WSt → Prop) : Prop :=
  ∀ (X14 : Int32 → WSt → Prop) (X32 : Int32 → Int32 → Int32 → Int32 → WSt → Prop),
  (∀ (y1 : Int32) (tW : WSt),
    ((y1 < 0 →
      Q tW) ∧
    (¬ (y1 < 0) →
      X32 y1 (kAt 121 (gW_order tW) y1) 1 0 tW)) → X14 y1 tW) →
  (∀ (y1 : Int32) (y2 : Int32) (y3 : Int32) (y4 : Int32) (tW : WSt),
    (((gM_alphabet uM) ≤ y4 →
      X14 (y1 + (-1)) (gW_set_onward tW (kPut 121 (gW_onward tW) y2 y3))) ∧
    (¬ ((gM_alphabet uM) ≤ y4) →
      X32 y1 y2 (y3 + (fX5_onwardBy tW uM y2 y4)) (y4 + 1) tW)) → X32 y1 y2 y3 y4 tW) →
  wpX5_orderByLongest uW uM (fun uW1 =>
    X14 ((gM_states uM) - 1) uW1)
def rmX5_countOnward : Room := { frames := 3, cells := 0, slots := 0, locals := 66 }
theorem inX5_countOnward_X2 : ∀ w ∈ wsX20, w ∈ wsX5_countOnward := fun w h => List.mem_cons_of_mem _ (List.mem_append_right _ h)
theorem inX5_countOnward_X5 : ∀ w ∈ wsX50, w ∈ wsX5_countOnward := fun w h => List.mem_cons_of_mem _ (List.mem_append_left _ (List.mem_append_right _ h))
set_option maxRecDepth 100000 in
set_option maxHeartbeats 4000000 in
theorem c_X5_countOnward (l : Launch) (D : va_G) (q : Nat → ClassId) (aW : Nat → Nat) (aM : Nat → Nat) (uW : WSt) (uM : MSt) (Q : WSt → Prop) (hf : wpX5_countOnward uW uM Q) : Met l yX5_countOnward wsX5_countOnward rmX5_countOnward (va_Pc [.ref (aW 0)] (kP D q (wW aW aM q uW ++ wM aM q uM))) (va_Qv Q (fun u t => kP D q (wW aW aM q u ++ wM aM q uM) t) (kIn (wW aW aM q uW ++ wM aM q uM))) 0 0 (kIn (wW aW aM q uW ++ wM aM q uM)) := by
  refine Met.ofW (cc := cX5_countOnward) (maxL := 5) (ret := none) (by decide) rfl ?_
  intro p e s m args below meth c s₁ B hml hv
  obtain ⟨hargs, hP, hK, hD⟩ := hv
  have hx := B.exec
  have hb := B.bytes
  have hr := B.returns
  have hts := atoms_spec (ws := wsX5_countOnward) B.pre
  have hown : s.vm.findClass RX5 = some m.cls := findClass_of_methodNamed B.named
  have hlocks := B.notSynchronized
  have hD := kd_self hD
  generalize kIn (wW aW aM q uW ++ wM aM q uM) = A at hD ⊢
  have hS : va_S A s.heap s.heap [] := va_S.rf
  refine k_entry hargs (Nat.le_of_ble_eq_true rfl) (fun ls hl => ?_)
  have hl : lv_has ls 5 [(0, .ref (aW 0))] := hl
  change W p l e rmX5_countOnward s m args below meth c s.heap [] 0 0 (MQ below (va_Qv Q (fun u t => kP D q (wW aW aM q u ++ wM aM q uM) t) A) args s 0 0 A) _
  unfold wpX5_countOnward at hf
  obtain ⟨H, hH⟩ : ∃ H, H = s.heap := ⟨_, rfl⟩
  obtain ⟨locs, hlocs⟩ : ∃ x : List Loc, x = [] := ⟨_, rfl⟩
  rw [← hH] at hP
  have hS : va_S A s.heap H locs := by rw [hH, hlocs]; exact hS
  rw [show W p l e rmX5_countOnward s m args below meth c s.heap [] 0 0 (MQ below (va_Qv Q (fun u t => kP D q (wW aW aM q u ++ wM aM q uM) t) A) args s 0 0 A) (F0 m 0 ls []) = W p l e rmX5_countOnward s m args below meth c H locs 0 0 (MQ below (va_Qv Q (fun u t => kP D q (wW aW aM q u ++ wM aM q uM) t) A) args s 0 0 A) (F0 m 0 ls []) by rw [hH, hlocs]]
  clear hH hlocs
  have hf := hf
    (fun (y1 : Int32) (tW : WSt) => ∀ (H : Heap) (locs : List Loc) (ls : Array Slot), va_P D vwCl (wW aW aM q tW ++ wM aM q uM) H → va_D A (wW aW aM q tW ++ wM aM q uM) → va_S A s.heap H locs → lv_has ls 5 [(0, .ref (aW 0)), (1, .int y1)] → W p l e rmX5_countOnward s m args below meth c H locs 0 0 (MQ below (va_Qv Q (fun u t => kP D q (wW aW aM q u ++ wM aM q uM) t) A) args s 0 0 A) (F0 m 14 ls []))
    (fun (y1 : Int32) (y2 : Int32) (y3 : Int32) (y4 : Int32) (tW : WSt) => ∀ (H : Heap) (locs : List Loc) (ls : Array Slot), va_P D vwCl (wW aW aM q tW ++ wM aM q uM) H → va_D A (wW aW aM q tW ++ wM aM q uM) → va_S A s.heap H locs → lv_has ls 5 [(0, .ref (aW 0)), (1, .int y1), (2, .int y2), (3, .int y3), (4, .int y4)] → W p l e rmX5_countOnward s m args below meth c H locs 0 0 (MQ below (va_Qv Q (fun u t => kP D q (wW aW aM q u ++ wM aM q uM) t) A) args s 0 0 A) (F0 m 32 ls []))
    (by
      intro y1 tW hf H locs ls hP hD hS hl
      refine lv_iload_n hx hb dX5_countOnward_14 rfl (lv_at hl 1 rfl) ?_
      refine lv_if_lt (tgt := 75) hx hb dX5_countOnward_15 (by decide) (fun c2 => ?_) (fun c2 => ?_)
      · have hf := hf.1 (c2)
        exact k_vret_w (wf := (fun u => wW aW aM q u ++ wM aM q uM)) (post := Q) (u := tW) hx hb hr hlocks hK hP hD hS hf dX5_countOnward_75
      · have hf := hf.2 (c2)
        refine lv_aload_n hx hb dX5_countOnward_18 rfl (lv_at hl 0 rfl) ?_
        refine va_get (D := D) (ci := 3) (v := .ref (aW 2)) (C := RX5) (T := TX5) (N := 5) hx hb hts inX5_countOnward_X5 hown hK hP 0 rfl rfl 2 (by decide) (hts (.fieldLink RX5 19 "GrowingText$Words" "order" "[I") (List.mem_of_getElem? (i := 3) rfl)) (fun _ h9 => h9) rfl dX5_countOnward_19 ?_
        refine lv_iload_n hx hb dX5_countOnward_22 rfl (lv_at hl 1 rfl) ?_
        refine k_si (k_runS (As := [.ref (aW 2), .int y1]) (rest := []) ⟨hx, hb, hml, hown, hts⟩ (c_X3_at l D q (aW 2) 121 (gW_order tW) y1 (Nat.le_of_ble_eq_true rfl)) (va_cwS 2 hts gX5_countOnward_X3_at rfl rfl rfl cdX3_at ⟨Nat.le_of_ble_eq_true rfl, Nat.le_of_ble_eq_true rfl⟩) hK (kp_1 hP 2 rfl) (kd_1 hD 2 rfl) rfl hl.1 rfl (Nat.le_of_ble_eq_true rfl) dX5_countOnward_23 ⟨Nat.le_of_ble_eq_true rfl, Nat.le_of_ble_eq_true rfl⟩) (fun r hr => ?_)
        subst hr
        refine lv_istore_n (lv' := [(2, .int (kAt 121 (gW_order tW) y1)), (0, .ref (aW 0)), (1, .int y1)]) hx hb dX5_countOnward_26 rfl hl (by decide) rfl (fun ls hl => ?_)
        refine lv_iconst (v := 1) hx hb dX5_countOnward_27 (by decide) ?_
        refine lv_istore_n (lv' := [(3, .int 1), (2, .int (kAt 121 (gW_order tW) y1)), (0, .ref (aW 0)), (1, .int y1)]) hx hb dX5_countOnward_28 rfl hl (by decide) rfl (fun ls hl => ?_)
        refine lv_iconst (v := 0) hx hb dX5_countOnward_29 (by decide) ?_
        refine lv_istore (lv' := [(4, .int 0), (3, .int 1), (2, .int (kAt 121 (gW_order tW) y1)), (0, .ref (aW 0)), (1, .int y1)]) hx hb dX5_countOnward_30 hl (by decide) rfl (fun ls hl => ?_)
        exact hf H locs ls hP hD hS (lv_sub hl [3, 4, 2, 1, 0] rfl))
    (by
      intro y1 y2 y3 y4 tW hf H locs ls hP hD hS hl
      refine lv_iload hx hb dX5_countOnward_32 (lv_at hl 4 rfl) ?_
      refine lv_aload_n hx hb dX5_countOnward_34 rfl (lv_at hl 0 rfl) ?_
      refine va_get (D := D) (ci := 3) (v := .ref (aM 0)) (C := RX5) (T := TX5) (N := 5) hx hb hts inX5_countOnward_X5 hown hK hP 0 rfl rfl 0 (by decide) (hts (.fieldLink RX5 9 "GrowingText$Words" "machine" "LGrowingText$Machine;") (List.mem_of_getElem? (i := 1) rfl)) (fun _ h9 => h9) rfl dX5_countOnward_35 ?_
      refine va_get (D := D) (ci := 1) (v := .int (gM_alphabet uM)) (C := RX2) (T := TX2) (N := 12) hx hb hts inX5_countOnward_X2 hown hK hP 5 rfl rfl 0 (by decide) (hts (.fieldLink RX5 79 "GrowingText$Machine" "alphabet" "I") (List.mem_of_getElem? (i := 4) rfl)) (fun _ h9 => h9) rfl dX5_countOnward_38 ?_
      refine lv_icmp_ge (tgt := 60) hx hb dX5_countOnward_41 (by decide) (fun c3 => ?_) (fun c3 => ?_)
      · have hf := hf.1 (c3)
        refine lv_aload_n hx hb dX5_countOnward_60 rfl (lv_at hl 0 rfl) ?_
        refine va_get (D := D) (ci := 3) (v := .ref (aW 3)) (C := RX5) (T := TX5) (N := 5) hx hb hts inX5_countOnward_X5 hown hK hP 0 rfl rfl 3 (by decide) (hts (.fieldLink RX5 22 "GrowingText$Words" "onward" "[I") (List.mem_of_getElem? (i := 5) rfl)) (fun _ h9 => h9) rfl dX5_countOnward_61 ?_
        refine lv_iload_n hx hb dX5_countOnward_64 rfl (lv_at hl 2 rfl) ?_
        refine lv_iload_n hx hb dX5_countOnward_65 rfl (lv_at hl 3 rfl) ?_
        refine k_wp (k := 3) (k_runS (As := [.ref (aW 3), .int y2, .int y3]) (rest := []) ⟨hx, hb, hml, hown, hts⟩ (c_X3_put l D q (aW 3) 121 (gW_onward tW) y2 y3 (Nat.le_of_ble_eq_true rfl)) (va_cwS 3 hts gX5_countOnward_X3_put rfl rfl rfl cdX3_put ⟨Nat.le_of_ble_eq_true rfl, Nat.le_of_ble_eq_true rfl⟩) hK (kp_1 hP 3 rfl) (kd_1 hD 3 rfl) rfl hl.1 rfl (Nat.le_of_ble_eq_true rfl) dX5_countOnward_66 ⟨Nat.le_of_ble_eq_true rfl, Nat.le_of_ble_eq_true rfl⟩) rfl rfl hP hD hS (fun H locs _ hP hD hS => ?_)
        have hP : va_P D vwCl (wW aW aM q (gW_set_onward tW (kPut 121 (gW_onward tW) y2 y3)) ++ wM aM q uM) H := hP
        have hD : va_D A (wW aW aM q (gW_set_onward tW (kPut 121 (gW_onward tW) y2 y3)) ++ wM aM q uM) := hD
        refine lv_iinc (v := (y1 + (-1))) (lv' := [(1, .int (y1 + (-1))), (0, .ref (aW 0)), (2, .int y2), (3, .int y3), (4, .int y4)]) hx hb dX5_countOnward_69 hl (k := 1) rfl rfl (by decide) rfl (fun ls hl => ?_)
        refine lv_goto (tgt := 14) hx hb dX5_countOnward_72 (by decide) ?_
        exact hf H locs ls hP hD hS (lv_sub hl [1, 0] rfl)
      · have hf := hf.2 (c3)
        refine lv_iload_n hx hb dX5_countOnward_44 rfl (lv_at hl 3 rfl) ?_
        refine lv_aload_n hx hb dX5_countOnward_45 rfl (lv_at hl 0 rfl) ?_
        refine lv_iload_n hx hb dX5_countOnward_46 rfl (lv_at hl 2 rfl) ?_
        refine lv_iload hx hb dX5_countOnward_47 (lv_at hl 4 rfl) ?_
        refine k_si (k_runV (As := [.int y2, .int y4]) (rest := [.int y3]) ⟨hx, hb, hml, hown, hts⟩ (cF_X5_onwardBy l D q aW aM tW uM y2 y4) (cwV 2 hts gX5_countOnward_X5_onwardBy rfl rfl rfl cdX5_onwardBy ⟨Nat.le_of_ble_eq_true rfl, Nat.le_of_ble_eq_true rfl⟩) hK hP hD 0 rfl rfl rfl hl.1 rfl (Nat.le_of_ble_eq_true rfl) dX5_countOnward_49 ⟨Nat.le_of_ble_eq_true rfl, Nat.le_of_ble_eq_true rfl⟩) (fun r hr => ?_)
        subst hr
        refine lv_iadd hx hb dX5_countOnward_52 ?_
        refine lv_istore_n (lv' := [(3, .int (y3 + (fX5_onwardBy tW uM y2 y4))), (0, .ref (aW 0)), (1, .int y1), (2, .int y2), (4, .int y4)]) hx hb dX5_countOnward_53 rfl hl (by decide) rfl (fun ls hl => ?_)
        refine lv_iinc (v := (y4 + 1)) (lv' := [(4, .int (y4 + 1)), (3, .int (y3 + (fX5_onwardBy tW uM y2 y4))), (0, .ref (aW 0)), (1, .int y1), (2, .int y2)]) hx hb dX5_countOnward_54 hl (k := 4) rfl rfl (by decide) rfl (fun ls hl => ?_)
        refine lv_goto (tgt := 32) hx hb dX5_countOnward_57 (by decide) ?_
        exact hf H locs ls hP hD hS (lv_sub hl [2, 3, 4, 1, 0] rfl))
  refine lv_aload_n hx hb dX5_countOnward_0 rfl (lv_at hl 0 rfl) ?_
  refine k_wv (wf := fun u => wW aW aM q u ++ wM aM q uM) (u0 := uW) (k_runV (As := []) (rest := []) ⟨hx, hb, hml, hown, hts⟩ (c_X5_orderByLongest l D q aW aM uW uM _ hf) (cwV 0 hts gX5_countOnward_X5_orderByLongest rfl rfl rfl cdX5_orderByLongest ⟨Nat.le_of_ble_eq_true rfl, Nat.le_of_ble_eq_true rfl⟩) hK hP hD 0 rfl rfl rfl hl.1 rfl (Nat.le_of_ble_eq_true rfl) dX5_countOnward_1 ⟨Nat.le_of_ble_eq_true rfl, Nat.le_of_ble_eq_true rfl⟩) ([]) ([]) (fun _ => rfl) hP hD hS (fun uW1 H locs hf hP hD hS => ?_)
  have hP : va_P D vwCl (wW aW aM q uW1 ++ wM aM q uM) H := hP
  have hD : va_D A (wW aW aM q uW1 ++ wM aM q uM) := hD
  refine lv_aload_n hx hb dX5_countOnward_4 rfl (lv_at hl 0 rfl) ?_
  refine va_get (D := D) (ci := 3) (v := .ref (aM 0)) (C := RX5) (T := TX5) (N := 5) hx hb hts inX5_countOnward_X5 hown hK hP 0 rfl rfl 0 (by decide) (hts (.fieldLink RX5 9 "GrowingText$Words" "machine" "LGrowingText$Machine;") (List.mem_of_getElem? (i := 1) rfl)) (fun _ h9 => h9) rfl dX5_countOnward_5 ?_
  refine va_get (D := D) (ci := 1) (v := .int (gM_states uM)) (C := RX2) (T := TX2) (N := 12) hx hb hts inX5_countOnward_X2 hown hK hP 5 rfl rfl 2 (by decide) (hts (.fieldLink RX5 67 "GrowingText$Machine" "states" "I") (List.mem_of_getElem? (i := 2) rfl)) (fun _ h9 => h9) rfl dX5_countOnward_8 ?_
  refine lv_iconst (v := 1) hx hb dX5_countOnward_11 (by decide) ?_
  refine lv_isub hx hb dX5_countOnward_12 ?_
  refine lv_istore_n (lv' := [(1, .int ((gM_states uM) - 1)), (0, .ref (aW 0))]) hx hb dX5_countOnward_13 rfl hl (by decide) rfl (fun ls hl => ?_)
  exact hf H locs ls hP hD hS (lv_sub hl [1, 0] rfl)
def wpX5_writeKth (uW : WSt) (uM : MSt) (uS : SSt) (x1 : Int32) (Q : WSt → SSt → Prop) : Prop :=
  ∀ (X17 : Int32 → Int32 → Int32 → WSt → SSt → Prop) (X32 : Int32 → Int32 → Int32 → Int32 → WSt → SSt → Prop) (X76 : Int32 → Int32 → Int32 → Int32 → WSt → SSt → Prop),
  (∀ (y3 : Int32) (y4 : Int32) (y5 : Int32) (tW : WSt) (tS : SSt),
    (((60 : Int32) ≤ y5 →
      Q tW tS) ∧
    (¬ ((60 : Int32) ≤ y5) →
      (y4 < 0 →
        Q tW tS) ∧
      (¬ (y4 < 0) →
        X32 y3 y4 y5 0 tW tS))) → X17 y3 y4 y5 tW tS) →
  (∀ (y3 : Int32) (y4 : Int32) (y5 : Int32) (y6 : Int32) (tW : WSt) (tS : SSt),
    ((((gM_alphabet uM) - 1) ≤ y6 →
      X76 y3 y4 y5 y6 tW tS) ∧
    (¬ (((gM_alphabet uM) - 1) ≤ y6) →
      (y4 < (fX5_onwardBy tW uM y3 y6) →
        X76 y3 y4 y5 y6 tW tS) ∧
      (¬ (y4 < (fX5_onwardBy tW uM y3 y6)) →
        X32 y3 (y4 - (fX5_onwardBy tW uM y3 y6)) y5 (y6 + 1) tW tS))) → X32 y3 y4 y5 y6 tW tS) →
  (∀ (y3 : Int32) (y4 : Int32) (y5 : Int32) (y6 : Int32) (tW : WSt) (tS : SSt),
    X17 (fX2_moveOf uM y3 y6) (y4 + (-1)) (y5 + 1) tW (fX4_addLetter tS y6) → X76 y3 y4 y5 y6 tW tS) →
  wpX5_countOnward uW uM (fun uW1 =>
    wpX4_layOut uS 0 (fun uS2 =>
      X17 0 x1 0 uW1 uS2))
def rmX5_writeKth : Room := { frames := 4, cells := 0, slots := 0, locals := 90 }
theorem inX5_writeKth_X2 : ∀ w ∈ wsX20, w ∈ wsX5_writeKth := fun w h => List.mem_cons_of_mem _ (List.mem_append_left _ (List.mem_append_right _ h))
theorem inX5_writeKth_X5 : ∀ w ∈ wsX50, w ∈ wsX5_writeKth := fun w h => List.mem_cons_of_mem _ (List.mem_append_left _ (List.mem_append_left _ (List.mem_append_right _ h)))
set_option maxRecDepth 100000 in
set_option maxHeartbeats 4000000 in
theorem c_X5_writeKth (l : Launch) (D : va_G) (q : Nat → ClassId) (aW : Nat → Nat) (aM : Nat → Nat) (aS : Nat → Nat) (uW : WSt) (uM : MSt) (uS : SSt) (x1 : Int32) (Q : WSt → SSt → Prop) (hf : wpX5_writeKth uW uM uS x1 Q) : Met l yX5_writeKth wsX5_writeKth rmX5_writeKth (va_Pc [.ref (aW 0), .int x1, .ref (aS 0)] (kP D q (wW aW aM q uW ++ (wM aM q uM ++ wS aS q uS)))) (va_Qv (fun (u : WSt × SSt) => Q u.1 u.2) (fun u t => kP D q (wW aW aM q u.1 ++ (wM aM q uM ++ wS aS q u.2)) t) (kIn (wW aW aM q uW ++ (wM aM q uM ++ wS aS q uS)))) 0 0 (kIn (wW aW aM q uW ++ (wM aM q uM ++ wS aS q uS))) := by
  refine Met.ofW (cc := cX5_writeKth) (maxL := 7) (ret := none) (by decide) rfl ?_
  intro p e s m args below meth c s₁ B hml hv
  obtain ⟨hargs, hP, hK, hD⟩ := hv
  have hx := B.exec
  have hb := B.bytes
  have hr := B.returns
  have hts := atoms_spec (ws := wsX5_writeKth) B.pre
  have hown : s.vm.findClass RX5 = some m.cls := findClass_of_methodNamed B.named
  have hlocks := B.notSynchronized
  have hD := kd_self hD
  generalize kIn (wW aW aM q uW ++ (wM aM q uM ++ wS aS q uS)) = A at hD ⊢
  have hS : va_S A s.heap s.heap [] := va_S.rf
  refine k_entry hargs (Nat.le_of_ble_eq_true rfl) (fun ls hl => ?_)
  have hl : lv_has ls 7 [(0, .ref (aW 0)), (1, .int x1), (2, .ref (aS 0))] := hl
  change W p l e rmX5_writeKth s m args below meth c s.heap [] 0 0 (MQ below (va_Qv (fun (u : WSt × SSt) => Q u.1 u.2) (fun u t => kP D q (wW aW aM q u.1 ++ (wM aM q uM ++ wS aS q u.2)) t) A) args s 0 0 A) _
  unfold wpX5_writeKth at hf
  obtain ⟨H, hH⟩ : ∃ H, H = s.heap := ⟨_, rfl⟩
  obtain ⟨locs, hlocs⟩ : ∃ x : List Loc, x = [] := ⟨_, rfl⟩
  rw [← hH] at hP
  have hS : va_S A s.heap H locs := by rw [hH, hlocs]; exact hS
  rw [show W p l e rmX5_writeKth s m args below meth c s.heap [] 0 0 (MQ below (va_Qv (fun (u : WSt × SSt) => Q u.1 u.2) (fun u t => kP D q (wW aW aM q u.1 ++ (wM aM q uM ++ wS aS q u.2)) t) A) args s 0 0 A) (F0 m 0 ls []) = W p l e rmX5_writeKth s m args below meth c H locs 0 0 (MQ below (va_Qv (fun (u : WSt × SSt) => Q u.1 u.2) (fun u t => kP D q (wW aW aM q u.1 ++ (wM aM q uM ++ wS aS q u.2)) t) A) args s 0 0 A) (F0 m 0 ls []) by rw [hH, hlocs]]
  clear hH hlocs
  have hf := hf
    (fun (y3 : Int32) (y4 : Int32) (y5 : Int32) (tW : WSt) (tS : SSt) => ∀ (H : Heap) (locs : List Loc) (ls : Array Slot), va_P D vwCl (wW aW aM q tW ++ (wM aM q uM ++ wS aS q tS)) H → va_D A (wW aW aM q tW ++ (wM aM q uM ++ wS aS q tS)) → va_S A s.heap H locs → lv_has ls 7 [(0, .ref (aW 0)), (2, .ref (aS 0)), (3, .int y3), (4, .int y4), (5, .int y5)] → W p l e rmX5_writeKth s m args below meth c H locs 0 0 (MQ below (va_Qv (fun (u : WSt × SSt) => Q u.1 u.2) (fun u t => kP D q (wW aW aM q u.1 ++ (wM aM q uM ++ wS aS q u.2)) t) A) args s 0 0 A) (F0 m 17 ls []))
    (fun (y3 : Int32) (y4 : Int32) (y5 : Int32) (y6 : Int32) (tW : WSt) (tS : SSt) => ∀ (H : Heap) (locs : List Loc) (ls : Array Slot), va_P D vwCl (wW aW aM q tW ++ (wM aM q uM ++ wS aS q tS)) H → va_D A (wW aW aM q tW ++ (wM aM q uM ++ wS aS q tS)) → va_S A s.heap H locs → lv_has ls 7 [(0, .ref (aW 0)), (2, .ref (aS 0)), (3, .int y3), (4, .int y4), (5, .int y5), (6, .int y6)] → W p l e rmX5_writeKth s m args below meth c H locs 0 0 (MQ below (va_Qv (fun (u : WSt × SSt) => Q u.1 u.2) (fun u t => kP D q (wW aW aM q u.1 ++ (wM aM q uM ++ wS aS q u.2)) t) A) args s 0 0 A) (F0 m 32 ls []))
    (fun (y3 : Int32) (y4 : Int32) (y5 : Int32) (y6 : Int32) (tW : WSt) (tS : SSt) => ∀ (H : Heap) (locs : List Loc) (ls : Array Slot), va_P D vwCl (wW aW aM q tW ++ (wM aM q uM ++ wS aS q tS)) H → va_D A (wW aW aM q tW ++ (wM aM q uM ++ wS aS q tS)) → va_S A s.heap H locs → lv_has ls 7 [(0, .ref (aW 0)), (2, .ref (aS 0)), (3, .int y3), (4, .int y4), (5, .int y5), (6, .int y6)] → W p l e rmX5_writeKth s m args below meth c H locs 0 0 (MQ below (va_Qv (fun (u : WSt × SSt) => Q u.1 u.2) (fun u t => kP D q (wW aW aM q u.1 ++ (wM aM q uM ++ wS aS q u.2)) t) A) args s 0 0 A) (F0 m 76 ls []))
    (by
      intro y3 y4 y5 tW tS hf H locs ls hP hD hS hl
      refine lv_iload hx hb dX5_writeKth_17 (lv_at hl 4 rfl) ?_
      refine lv_bipush (v := 60) hx hb dX5_writeKth_19 (by decide) ?_
      refine lv_icmp_ge (tgt := 102) hx hb dX5_writeKth_21 (by decide) (fun c3 => ?_) (fun c3 => ?_)
      · have hf := hf.1 (c3)
        exact k_vret_w (wf := (fun u => wW aW aM q u.1 ++ (wM aM q uM ++ wS aS q u.2))) (post := (fun (u : WSt × SSt) => Q u.1 u.2)) (u := (tW, tS)) hx hb hr hlocks hK hP hD hS hf dX5_writeKth_102
      · have hf := hf.2 (c3)
        refine lv_iload hx hb dX5_writeKth_24 (lv_at hl 3 rfl) ?_
        refine lv_if_lt (tgt := 102) hx hb dX5_writeKth_26 (by decide) (fun c4 => ?_) (fun c4 => ?_)
        · have hf := hf.1 (c4)
          exact k_vret_w (wf := (fun u => wW aW aM q u.1 ++ (wM aM q uM ++ wS aS q u.2))) (post := (fun (u : WSt × SSt) => Q u.1 u.2)) (u := (tW, tS)) hx hb hr hlocks hK hP hD hS hf dX5_writeKth_102
        · have hf := hf.2 (c4)
          refine lv_iconst (v := 0) hx hb dX5_writeKth_29 (by decide) ?_
          refine lv_istore (lv' := [(6, .int 0), (0, .ref (aW 0)), (2, .ref (aS 0)), (3, .int y3), (4, .int y4), (5, .int y5)]) hx hb dX5_writeKth_30 hl (by decide) rfl (fun ls hl => ?_)
          exact hf H locs ls hP hD hS (lv_sub hl [1, 2, 3, 4, 5, 0] rfl))
    (by
      intro y3 y4 y5 y6 tW tS hf H locs ls hP hD hS hl
      refine lv_iload hx hb dX5_writeKth_32 (lv_at hl 5 rfl) ?_
      refine lv_aload_n hx hb dX5_writeKth_34 rfl (lv_at hl 0 rfl) ?_
      refine va_get (D := D) (ci := 3) (v := .ref (aM 0)) (C := RX5) (T := TX5) (N := 5) hx hb hts inX5_writeKth_X5 hown hK hP 0 rfl rfl 0 (by decide) (hts (.fieldLink RX5 9 "GrowingText$Words" "machine" "LGrowingText$Machine;") (List.mem_of_getElem? (i := 1) rfl)) (fun _ h9 => h9) rfl dX5_writeKth_35 ?_
      refine va_get (D := D) (ci := 1) (v := .int (gM_alphabet uM)) (C := RX2) (T := TX2) (N := 12) hx hb hts inX5_writeKth_X2 hown hK hP 5 rfl rfl 0 (by decide) (hts (.fieldLink RX5 79 "GrowingText$Machine" "alphabet" "I") (List.mem_of_getElem? (i := 2) rfl)) (fun _ h9 => h9) rfl dX5_writeKth_38 ?_
      refine lv_iconst (v := 1) hx hb dX5_writeKth_41 (by decide) ?_
      refine lv_isub hx hb dX5_writeKth_42 ?_
      refine lv_icmp_ge (tgt := 76) hx hb dX5_writeKth_43 (by decide) (fun c5 => ?_) (fun c5 => ?_)
      · have hf := hf.1 (c5)
        exact hf H locs ls hP hD hS (lv_sub hl [0, 1, 2, 3, 4, 5] rfl)
      · have hf := hf.2 (c5)
        refine lv_iload hx hb dX5_writeKth_46 (lv_at hl 3 rfl) ?_
        refine lv_aload_n hx hb dX5_writeKth_48 rfl (lv_at hl 0 rfl) ?_
        refine lv_iload_n hx hb dX5_writeKth_49 rfl (lv_at hl 2 rfl) ?_
        refine lv_iload hx hb dX5_writeKth_50 (lv_at hl 5 rfl) ?_
        refine k_si (k_runV (As := [.int y3, .int y6]) (rest := [.int y4]) ⟨hx, hb, hml, hown, hts⟩ (cF_X5_onwardBy l D q aW aM tW uM y3 y6) (cwV 2 hts gX5_writeKth_X5_onwardBy rfl rfl rfl cdX5_onwardBy ⟨Nat.le_of_ble_eq_true rfl, Nat.le_of_ble_eq_true rfl⟩) hK (kp_l (a := wW aW aM q tW ++ wM aM q uM) (b := wS aS q tS) hP) (kd_l (a := wW aW aM q tW ++ wM aM q uM) (b := wS aS q tS) hD) 0 rfl rfl rfl hl.1 rfl (Nat.le_of_ble_eq_true rfl) dX5_writeKth_52 ⟨Nat.le_of_ble_eq_true rfl, Nat.le_of_ble_eq_true rfl⟩) (fun r hr => ?_)
        subst hr
        refine lv_icmp_lt (tgt := 76) hx hb dX5_writeKth_55 (by decide) (fun c6 => ?_) (fun c6 => ?_)
        · have hf := hf.1 (c6)
          exact hf H locs ls hP hD hS (lv_sub hl [0, 1, 2, 3, 4, 5] rfl)
        · have hf := hf.2 (c6)
          refine lv_iload hx hb dX5_writeKth_58 (lv_at hl 3 rfl) ?_
          refine lv_aload_n hx hb dX5_writeKth_60 rfl (lv_at hl 0 rfl) ?_
          refine lv_iload_n hx hb dX5_writeKth_61 rfl (lv_at hl 2 rfl) ?_
          refine lv_iload hx hb dX5_writeKth_62 (lv_at hl 5 rfl) ?_
          refine k_si (k_runV (As := [.int y3, .int y6]) (rest := [.int y4]) ⟨hx, hb, hml, hown, hts⟩ (cF_X5_onwardBy l D q aW aM tW uM y3 y6) (cwV 2 hts gX5_writeKth_X5_onwardBy rfl rfl rfl cdX5_onwardBy ⟨Nat.le_of_ble_eq_true rfl, Nat.le_of_ble_eq_true rfl⟩) hK (kp_l (a := wW aW aM q tW ++ wM aM q uM) (b := wS aS q tS) hP) (kd_l (a := wW aW aM q tW ++ wM aM q uM) (b := wS aS q tS) hD) 0 rfl rfl rfl hl.1 rfl (Nat.le_of_ble_eq_true rfl) dX5_writeKth_64 ⟨Nat.le_of_ble_eq_true rfl, Nat.le_of_ble_eq_true rfl⟩) (fun r hr => ?_)
          subst hr
          refine lv_isub hx hb dX5_writeKth_67 ?_
          refine lv_istore (lv' := [(4, .int (y4 - (fX5_onwardBy tW uM y3 y6))), (0, .ref (aW 0)), (2, .ref (aS 0)), (3, .int y3), (5, .int y5), (6, .int y6)]) hx hb dX5_writeKth_68 hl (by decide) rfl (fun ls hl => ?_)
          refine lv_iinc (v := (y6 + 1)) (lv' := [(6, .int (y6 + 1)), (4, .int (y4 - (fX5_onwardBy tW uM y3 y6))), (0, .ref (aW 0)), (2, .ref (aS 0)), (3, .int y3), (5, .int y5)]) hx hb dX5_writeKth_70 hl (k := 5) rfl rfl (by decide) rfl (fun ls hl => ?_)
          refine lv_goto (tgt := 32) hx hb dX5_writeKth_73 (by decide) ?_
          exact hf H locs ls hP hD hS (lv_sub hl [2, 3, 4, 1, 5, 0] rfl))
    (by
      intro y3 y4 y5 y6 tW tS hf H locs ls hP hD hS hl
      refine lv_aload_n hx hb dX5_writeKth_76 rfl (lv_at hl 1 rfl) ?_
      refine lv_iload hx hb dX5_writeKth_77 (lv_at hl 5 rfl) ?_
      refine k_wv (wf := fun u => wS aS q u) (u0 := tS) (k_runV (As := [.int y6]) (rest := []) ⟨hx, hb, hml, hown, hts⟩ (cF_X4_addLetter l D q aS tS y6) (cwV 1 hts gX5_writeKth_X4_addLetter rfl rfl rfl cdX4_addLetter ⟨Nat.le_of_ble_eq_true rfl, Nat.le_of_ble_eq_true rfl⟩) hK (kp_r (kp_r hP)) (kd_r (kd_r hD)) 0 rfl rfl rfl hl.1 rfl (Nat.le_of_ble_eq_true rfl) dX5_writeKth_79 ⟨Nat.le_of_ble_eq_true rfl, Nat.le_of_ble_eq_true rfl⟩) (wW aW aM q tW ++ wM aM q uM) ([]) (fun _ => rfl) hP hD hS (fun u H locs hu hP hD hS => ?_)
      subst hu
      have hP : va_P D vwCl (wW aW aM q tW ++ (wM aM q uM ++ wS aS q (fX4_addLetter tS y6))) H := hP
      have hD : va_D A (wW aW aM q tW ++ (wM aM q uM ++ wS aS q (fX4_addLetter tS y6))) := hD
      refine lv_aload_n hx hb dX5_writeKth_82 rfl (lv_at hl 0 rfl) ?_
      refine va_get (D := D) (ci := 3) (v := .ref (aM 0)) (C := RX5) (T := TX5) (N := 5) hx hb hts inX5_writeKth_X5 hown hK hP 0 rfl rfl 0 (by decide) (hts (.fieldLink RX5 9 "GrowingText$Words" "machine" "LGrowingText$Machine;") (List.mem_of_getElem? (i := 1) rfl)) (fun _ h9 => h9) rfl dX5_writeKth_83 ?_
      refine lv_iload_n hx hb dX5_writeKth_86 rfl (lv_at hl 2 rfl) ?_
      refine lv_iload hx hb dX5_writeKth_87 (lv_at hl 5 rfl) ?_
      refine k_si (k_runV (As := [.int y3, .int y6]) (rest := []) ⟨hx, hb, hml, hown, hts⟩ (cF_X2_moveOf l D q aM uM y3 y6) (cwV 2 hts gX5_writeKth_X2_moveOf rfl rfl rfl cdX2_moveOf ⟨Nat.le_of_ble_eq_true rfl, Nat.le_of_ble_eq_true rfl⟩) hK (kp_l (a := wM aM q uM) (b := wS aS q (fX4_addLetter tS y6)) (kp_r hP)) (kd_l (a := wM aM q uM) (b := wS aS q (fX4_addLetter tS y6)) (kd_r hD)) 0 rfl rfl rfl hl.1 rfl (Nat.le_of_ble_eq_true rfl) dX5_writeKth_89 ⟨Nat.le_of_ble_eq_true rfl, Nat.le_of_ble_eq_true rfl⟩) (fun r hr => ?_)
      subst hr
      refine lv_istore_n (lv' := [(3, .int (fX2_moveOf uM y3 y6)), (0, .ref (aW 0)), (2, .ref (aS 0)), (4, .int y4), (5, .int y5), (6, .int y6)]) hx hb dX5_writeKth_92 rfl hl (by decide) rfl (fun ls hl => ?_)
      refine lv_iinc (v := (y4 + (-1))) (lv' := [(4, .int (y4 + (-1))), (3, .int (fX2_moveOf uM y3 y6)), (0, .ref (aW 0)), (2, .ref (aS 0)), (5, .int y5), (6, .int y6)]) hx hb dX5_writeKth_93 hl (k := 3) rfl rfl (by decide) rfl (fun ls hl => ?_)
      refine lv_iinc (v := (y5 + 1)) (lv' := [(5, .int (y5 + 1)), (4, .int (y4 + (-1))), (3, .int (fX2_moveOf uM y3 y6)), (0, .ref (aW 0)), (2, .ref (aS 0)), (6, .int y6)]) hx hb dX5_writeKth_96 hl (k := 4) rfl rfl (by decide) rfl (fun ls hl => ?_)
      refine lv_goto (tgt := 17) hx hb dX5_writeKth_99 (by decide) ?_
      exact hf H locs ls hP hD hS (lv_sub hl [3, 4, 2, 1, 0] rfl))
  refine lv_aload_n hx hb dX5_writeKth_0 rfl (lv_at hl 0 rfl) ?_
  refine k_wv (wf := fun u => wW aW aM q u ++ wM aM q uM) (u0 := uW) (k_runV (As := []) (rest := []) ⟨hx, hb, hml, hown, hts⟩ (c_X5_countOnward l D q aW aM uW uM _ hf) (cwV 0 hts gX5_writeKth_X5_countOnward rfl rfl rfl cdX5_countOnward ⟨Nat.le_of_ble_eq_true rfl, Nat.le_of_ble_eq_true rfl⟩) hK (kp_l (a := wW aW aM q uW ++ wM aM q uM) (b := wS aS q uS) hP) (kd_l (a := wW aW aM q uW ++ wM aM q uM) (b := wS aS q uS) hD) 0 rfl rfl rfl hl.1 rfl (Nat.le_of_ble_eq_true rfl) dX5_writeKth_1 ⟨Nat.le_of_ble_eq_true rfl, Nat.le_of_ble_eq_true rfl⟩) ([]) (wS aS q uS) (fun _ => rfl) hP hD hS (fun uW1 H locs hf hP hD hS => ?_)
  have hP : va_P D vwCl (wW aW aM q uW1 ++ (wM aM q uM ++ wS aS q uS)) H := hP
  have hD : va_D A (wW aW aM q uW1 ++ (wM aM q uM ++ wS aS q uS)) := hD
  refine lv_aload_n hx hb dX5_writeKth_4 rfl (lv_at hl 2 rfl) ?_
  refine lv_iconst (v := 0) hx hb dX5_writeKth_5 (by decide) ?_
  refine k_wv (wf := fun u => wS aS q u) (u0 := uS) (k_runV (As := [.int 0]) (rest := []) ⟨hx, hb, hml, hown, hts⟩ (c_X4_layOut l D q aS uS 0 _ hf) (cwV 1 hts gX5_writeKth_X4_layOut rfl rfl rfl cdX4_layOut ⟨Nat.le_of_ble_eq_true rfl, Nat.le_of_ble_eq_true rfl⟩) hK (kp_r (kp_r hP)) (kd_r (kd_r hD)) 0 rfl rfl rfl hl.1 rfl (Nat.le_of_ble_eq_true rfl) dX5_writeKth_6 ⟨Nat.le_of_ble_eq_true rfl, Nat.le_of_ble_eq_true rfl⟩) (wW aW aM q uW1 ++ wM aM q uM) ([]) (fun _ => rfl) hP hD hS (fun uS2 H locs hf hP hD hS => ?_)
  have hP : va_P D vwCl (wW aW aM q uW1 ++ (wM aM q uM ++ wS aS q uS2)) H := hP
  have hD : va_D A (wW aW aM q uW1 ++ (wM aM q uM ++ wS aS q uS2)) := hD
  refine lv_iconst (v := 0) hx hb dX5_writeKth_9 (by decide) ?_
  refine lv_istore_n (lv' := [(3, .int 0), (0, .ref (aW 0)), (1, .int x1), (2, .ref (aS 0))]) hx hb dX5_writeKth_10 rfl hl (by decide) rfl (fun ls hl => ?_)
  refine lv_iload_n hx hb dX5_writeKth_11 rfl (lv_at hl 2 rfl) ?_
  refine lv_istore (lv' := [(4, .int x1), (3, .int 0), (0, .ref (aW 0)), (1, .int x1), (2, .ref (aS 0))]) hx hb dX5_writeKth_12 hl (by decide) rfl (fun ls hl => ?_)
  refine lv_iconst (v := 0) hx hb dX5_writeKth_14 (by decide) ?_
  refine lv_istore (lv' := [(5, .int 0), (4, .int x1), (3, .int 0), (0, .ref (aW 0)), (1, .int x1), (2, .ref (aS 0))]) hx hb dX5_writeKth_15 hl (by decide) rfl (fun ls hl => ?_)
  exact hf H locs ls hP hD hS (lv_sub hl [3, 5, 2, 1, 0] rfl)
def wpX5_wordsAheadOf (uW : WSt) (uM : MSt) (uS : SSt) (Q : Int32 → WSt → Prop) : Prop :=
  ∀ (X11 : Int32 → Int32 → Int32 → WSt → Prop) (X31 : Int32 → Int32 → Int32 → Int32 → Int32 → WSt → Prop) (X66 : Int32 → Int32 → Int32 → Int32 → WSt → Prop),
  (∀ (y2 : Int32) (y3 : Int32) (y4 : Int32) (tW : WSt),
    (((gS_length uS) ≤ y4 →
      Q y3 tW) ∧
    (¬ ((gS_length uS) ≤ y4) →
      X31 y2 y3 y4 (fX4_letterAt uS y4) 0 tW)) → X11 y2 y3 y4 tW) →
  (∀ (y2 : Int32) (y3 : Int32) (y4 : Int32) (y5 : Int32) (y6 : Int32) (tW : WSt),
    ((y5 ≤ y6 →
      X66 y2 y3 y4 y5 tW) ∧
    (¬ (y5 ≤ y6) →
      ((gM_alphabet uM) ≤ y6 →
        X66 y2 y3 y4 y5 tW) ∧
      (¬ ((gM_alphabet uM) ≤ y6) →
        X31 y2 (y3 + (fX5_onwardBy tW uM y2 y6)) y4 y5 (y6 + 1) tW))) → X31 y2 y3 y4 y5 y6 tW) →
  (∀ (y2 : Int32) (y3 : Int32) (y4 : Int32) (y5 : Int32) (tW : WSt),
    X11 (fX2_moveOf uM y2 y5) (y3 + 1) (y4 + 1) tW → X66 y2 y3 y4 y5 tW) →
  wpX5_countOnward uW uM (fun uW1 =>
    X11 0 (-1) 0 uW1)
def rmX5_wordsAheadOf : Room := { frames := 4, cells := 0, slots := 0, locals := 90 }
theorem inX5_wordsAheadOf_X2 : ∀ w ∈ wsX20, w ∈ wsX5_wordsAheadOf := fun w h => List.mem_cons_of_mem _ (List.mem_append_right _ h)
theorem inX5_wordsAheadOf_X4 : ∀ w ∈ wsX40, w ∈ wsX5_wordsAheadOf := fun w h => List.mem_cons_of_mem _ (List.mem_append_left _ (List.mem_append_left _ (List.mem_append_right _ h)))
theorem inX5_wordsAheadOf_X5 : ∀ w ∈ wsX50, w ∈ wsX5_wordsAheadOf := fun w h => List.mem_cons_of_mem _ (List.mem_append_left _ (List.mem_append_right _ h))
set_option maxRecDepth 100000 in
set_option maxHeartbeats 4000000 in
theorem c_X5_wordsAheadOf (l : Launch) (D : va_G) (q : Nat → ClassId) (aW : Nat → Nat) (aM : Nat → Nat) (aS : Nat → Nat) (uW : WSt) (uM : MSt) (uS : SSt) (Q : Int32 → WSt → Prop) (hf : wpX5_wordsAheadOf uW uM uS Q) : Met l yX5_wordsAheadOf wsX5_wordsAheadOf rmX5_wordsAheadOf (va_Pc [.ref (aW 0), .ref (aS 0)] (kP D q (wW aW aM q uW ++ (wM aM q uM ++ wS aS q uS)))) (va_Qi Q (fun u t => kP D q (wW aW aM q u ++ (wM aM q uM ++ wS aS q uS)) t) (kIn (wW aW aM q uW ++ (wM aM q uM ++ wS aS q uS)))) 0 0 (kIn (wW aW aM q uW ++ (wM aM q uM ++ wS aS q uS))) := by
  refine Met.ofW (cc := cX5_wordsAheadOf) (maxL := 7) (ret := (some .int)) (by decide) rfl ?_
  intro p e s m args below meth c s₁ B hml hv
  obtain ⟨hargs, hP, hK, hD⟩ := hv
  have hx := B.exec
  have hb := B.bytes
  have hr := B.returns
  have hts := atoms_spec (ws := wsX5_wordsAheadOf) B.pre
  have hown : s.vm.findClass RX5 = some m.cls := findClass_of_methodNamed B.named
  have hlocks := B.notSynchronized
  have hD := kd_self hD
  generalize kIn (wW aW aM q uW ++ (wM aM q uM ++ wS aS q uS)) = A at hD ⊢
  have hS : va_S A s.heap s.heap [] := va_S.rf
  refine k_entry hargs (Nat.le_of_ble_eq_true rfl) (fun ls hl => ?_)
  have hl : lv_has ls 7 [(0, .ref (aW 0)), (1, .ref (aS 0))] := hl
  change W p l e rmX5_wordsAheadOf s m args below meth c s.heap [] 0 0 (MQ below (va_Qi Q (fun u t => kP D q (wW aW aM q u ++ (wM aM q uM ++ wS aS q uS)) t) A) args s 0 0 A) _
  unfold wpX5_wordsAheadOf at hf
  obtain ⟨H, hH⟩ : ∃ H, H = s.heap := ⟨_, rfl⟩
  obtain ⟨locs, hlocs⟩ : ∃ x : List Loc, x = [] := ⟨_, rfl⟩
  rw [← hH] at hP
  have hS : va_S A s.heap H locs := by rw [hH, hlocs]; exact hS
  rw [show W p l e rmX5_wordsAheadOf s m args below meth c s.heap [] 0 0 (MQ below (va_Qi Q (fun u t => kP D q (wW aW aM q u ++ (wM aM q uM ++ wS aS q uS)) t) A) args s 0 0 A) (F0 m 0 ls []) = W p l e rmX5_wordsAheadOf s m args below meth c H locs 0 0 (MQ below (va_Qi Q (fun u t => kP D q (wW aW aM q u ++ (wM aM q uM ++ wS aS q uS)) t) A) args s 0 0 A) (F0 m 0 ls []) by rw [hH, hlocs]]
  clear hH hlocs
  have hf := hf
    (fun (y2 : Int32) (y3 : Int32) (y4 : Int32) (tW : WSt) => ∀ (H : Heap) (locs : List Loc) (ls : Array Slot), va_P D vwCl (wW aW aM q tW ++ (wM aM q uM ++ wS aS q uS)) H → va_D A (wW aW aM q tW ++ (wM aM q uM ++ wS aS q uS)) → va_S A s.heap H locs → lv_has ls 7 [(0, .ref (aW 0)), (1, .ref (aS 0)), (2, .int y2), (3, .int y3), (4, .int y4)] → W p l e rmX5_wordsAheadOf s m args below meth c H locs 0 0 (MQ below (va_Qi Q (fun u t => kP D q (wW aW aM q u ++ (wM aM q uM ++ wS aS q uS)) t) A) args s 0 0 A) (F0 m 11 ls []))
    (fun (y2 : Int32) (y3 : Int32) (y4 : Int32) (y5 : Int32) (y6 : Int32) (tW : WSt) => ∀ (H : Heap) (locs : List Loc) (ls : Array Slot), va_P D vwCl (wW aW aM q tW ++ (wM aM q uM ++ wS aS q uS)) H → va_D A (wW aW aM q tW ++ (wM aM q uM ++ wS aS q uS)) → va_S A s.heap H locs → lv_has ls 7 [(0, .ref (aW 0)), (1, .ref (aS 0)), (2, .int y2), (3, .int y3), (4, .int y4), (5, .int y5), (6, .int y6)] → W p l e rmX5_wordsAheadOf s m args below meth c H locs 0 0 (MQ below (va_Qi Q (fun u t => kP D q (wW aW aM q u ++ (wM aM q uM ++ wS aS q uS)) t) A) args s 0 0 A) (F0 m 31 ls []))
    (fun (y2 : Int32) (y3 : Int32) (y4 : Int32) (y5 : Int32) (tW : WSt) => ∀ (H : Heap) (locs : List Loc) (ls : Array Slot), va_P D vwCl (wW aW aM q tW ++ (wM aM q uM ++ wS aS q uS)) H → va_D A (wW aW aM q tW ++ (wM aM q uM ++ wS aS q uS)) → va_S A s.heap H locs → lv_has ls 7 [(0, .ref (aW 0)), (1, .ref (aS 0)), (2, .int y2), (3, .int y3), (4, .int y4), (5, .int y5)] → W p l e rmX5_wordsAheadOf s m args below meth c H locs 0 0 (MQ below (va_Qi Q (fun u t => kP D q (wW aW aM q u ++ (wM aM q uM ++ wS aS q uS)) t) A) args s 0 0 A) (F0 m 66 ls []))
    (by
      intro y2 y3 y4 tW hf H locs ls hP hD hS hl
      refine lv_iload hx hb dX5_wordsAheadOf_11 (lv_at hl 4 rfl) ?_
      refine lv_aload_n hx hb dX5_wordsAheadOf_13 rfl (lv_at hl 1 rfl) ?_
      refine va_get (D := D) (ci := 2) (v := .int (gS_length uS)) (C := RX4) (T := TX4) (N := 3) hx hb hts inX5_wordsAheadOf_X4 hown hK hP 14 rfl rfl 2 (by decide) (hts (.fieldLink RX5 29 "GrowingText$Sheet" "length" "I") (List.mem_of_getElem? (i := 1) rfl)) (fun _ h9 => h9) rfl dX5_wordsAheadOf_14 ?_
      refine lv_icmp_ge (tgt := 86) hx hb dX5_wordsAheadOf_17 (by decide) (fun c2 => ?_) (fun c2 => ?_)
      · have hf := hf.1 (c2)
        refine lv_iload_n hx hb dX5_wordsAheadOf_86 rfl (lv_at hl 3 rfl) ?_
        exact k_iret_w (wf := (fun u => wW aW aM q u ++ (wM aM q uM ++ wS aS q uS))) (post := Q) (u := tW) (v := y3) hx hb hr hlocks hK hP hD hS hf dX5_wordsAheadOf_87
      · have hf := hf.2 (c2)
        refine lv_aload_n hx hb dX5_wordsAheadOf_20 rfl (lv_at hl 1 rfl) ?_
        refine lv_iload hx hb dX5_wordsAheadOf_21 (lv_at hl 4 rfl) ?_
        refine k_si (k_runV (As := [.int y4]) (rest := []) ⟨hx, hb, hml, hown, hts⟩ (cF_X4_letterAt l D q aS uS y4) (cwV 1 hts gX5_wordsAheadOf_X4_letterAt rfl rfl rfl cdX4_letterAt ⟨Nat.le_of_ble_eq_true rfl, Nat.le_of_ble_eq_true rfl⟩) hK (kp_r (kp_r hP)) (kd_r (kd_r hD)) 0 rfl rfl rfl hl.1 rfl (Nat.le_of_ble_eq_true rfl) dX5_wordsAheadOf_23 ⟨Nat.le_of_ble_eq_true rfl, Nat.le_of_ble_eq_true rfl⟩) (fun r hr => ?_)
        subst hr
        refine lv_istore (lv' := [(5, .int (fX4_letterAt uS y4)), (0, .ref (aW 0)), (1, .ref (aS 0)), (2, .int y2), (3, .int y3), (4, .int y4)]) hx hb dX5_wordsAheadOf_26 hl (by decide) rfl (fun ls hl => ?_)
        refine lv_iconst (v := 0) hx hb dX5_wordsAheadOf_28 (by decide) ?_
        refine lv_istore (lv' := [(6, .int 0), (5, .int (fX4_letterAt uS y4)), (0, .ref (aW 0)), (1, .ref (aS 0)), (2, .int y2), (3, .int y3), (4, .int y4)]) hx hb dX5_wordsAheadOf_29 hl (by decide) rfl (fun ls hl => ?_)
        exact hf H locs ls hP hD hS (lv_sub hl [2, 3, 4, 5, 6, 1, 0] rfl))
    (by
      intro y2 y3 y4 y5 y6 tW hf H locs ls hP hD hS hl
      refine lv_iload hx hb dX5_wordsAheadOf_31 (lv_at hl 6 rfl) ?_
      refine lv_iload hx hb dX5_wordsAheadOf_33 (lv_at hl 5 rfl) ?_
      refine lv_icmp_ge (tgt := 66) hx hb dX5_wordsAheadOf_35 (by decide) (fun c3 => ?_) (fun c3 => ?_)
      · have hf := hf.1 (c3)
        exact hf H locs ls hP hD hS (lv_sub hl [0, 1, 2, 3, 4, 5] rfl)
      · have hf := hf.2 (c3)
        refine lv_iload hx hb dX5_wordsAheadOf_38 (lv_at hl 6 rfl) ?_
        refine lv_aload_n hx hb dX5_wordsAheadOf_40 rfl (lv_at hl 0 rfl) ?_
        refine va_get (D := D) (ci := 3) (v := .ref (aM 0)) (C := RX5) (T := TX5) (N := 5) hx hb hts inX5_wordsAheadOf_X5 hown hK hP 0 rfl rfl 0 (by decide) (hts (.fieldLink RX5 9 "GrowingText$Words" "machine" "LGrowingText$Machine;") (List.mem_of_getElem? (i := 2) rfl)) (fun _ h9 => h9) rfl dX5_wordsAheadOf_41 ?_
        refine va_get (D := D) (ci := 1) (v := .int (gM_alphabet uM)) (C := RX2) (T := TX2) (N := 12) hx hb hts inX5_wordsAheadOf_X2 hown hK hP 5 rfl rfl 0 (by decide) (hts (.fieldLink RX5 79 "GrowingText$Machine" "alphabet" "I") (List.mem_of_getElem? (i := 3) rfl)) (fun _ h9 => h9) rfl dX5_wordsAheadOf_44 ?_
        refine lv_icmp_ge (tgt := 66) hx hb dX5_wordsAheadOf_47 (by decide) (fun c4 => ?_) (fun c4 => ?_)
        · have hf := hf.1 (c4)
          exact hf H locs ls hP hD hS (lv_sub hl [0, 1, 2, 3, 4, 5] rfl)
        · have hf := hf.2 (c4)
          refine lv_iload_n hx hb dX5_wordsAheadOf_50 rfl (lv_at hl 3 rfl) ?_
          refine lv_aload_n hx hb dX5_wordsAheadOf_51 rfl (lv_at hl 0 rfl) ?_
          refine lv_iload_n hx hb dX5_wordsAheadOf_52 rfl (lv_at hl 2 rfl) ?_
          refine lv_iload hx hb dX5_wordsAheadOf_53 (lv_at hl 6 rfl) ?_
          refine k_si (k_runV (As := [.int y2, .int y6]) (rest := [.int y3]) ⟨hx, hb, hml, hown, hts⟩ (cF_X5_onwardBy l D q aW aM tW uM y2 y6) (cwV 2 hts gX5_wordsAheadOf_X5_onwardBy rfl rfl rfl cdX5_onwardBy ⟨Nat.le_of_ble_eq_true rfl, Nat.le_of_ble_eq_true rfl⟩) hK (kp_l (a := wW aW aM q tW ++ wM aM q uM) (b := wS aS q uS) hP) (kd_l (a := wW aW aM q tW ++ wM aM q uM) (b := wS aS q uS) hD) 0 rfl rfl rfl hl.1 rfl (Nat.le_of_ble_eq_true rfl) dX5_wordsAheadOf_55 ⟨Nat.le_of_ble_eq_true rfl, Nat.le_of_ble_eq_true rfl⟩) (fun r hr => ?_)
          subst hr
          refine lv_iadd hx hb dX5_wordsAheadOf_58 ?_
          refine lv_istore_n (lv' := [(3, .int (y3 + (fX5_onwardBy tW uM y2 y6))), (0, .ref (aW 0)), (1, .ref (aS 0)), (2, .int y2), (4, .int y4), (5, .int y5), (6, .int y6)]) hx hb dX5_wordsAheadOf_59 rfl hl (by decide) rfl (fun ls hl => ?_)
          refine lv_iinc (v := (y6 + 1)) (lv' := [(6, .int (y6 + 1)), (3, .int (y3 + (fX5_onwardBy tW uM y2 y6))), (0, .ref (aW 0)), (1, .ref (aS 0)), (2, .int y2), (4, .int y4), (5, .int y5)]) hx hb dX5_wordsAheadOf_60 hl (k := 6) rfl rfl (by decide) rfl (fun ls hl => ?_)
          refine lv_goto (tgt := 31) hx hb dX5_wordsAheadOf_63 (by decide) ?_
          exact hf H locs ls hP hD hS (lv_sub hl [2, 3, 4, 1, 5, 6, 0] rfl))
    (by
      intro y2 y3 y4 y5 tW hf H locs ls hP hD hS hl
      refine lv_aload_n hx hb dX5_wordsAheadOf_66 rfl (lv_at hl 0 rfl) ?_
      refine va_get (D := D) (ci := 3) (v := .ref (aM 0)) (C := RX5) (T := TX5) (N := 5) hx hb hts inX5_wordsAheadOf_X5 hown hK hP 0 rfl rfl 0 (by decide) (hts (.fieldLink RX5 9 "GrowingText$Words" "machine" "LGrowingText$Machine;") (List.mem_of_getElem? (i := 2) rfl)) (fun _ h9 => h9) rfl dX5_wordsAheadOf_67 ?_
      refine lv_iload_n hx hb dX5_wordsAheadOf_70 rfl (lv_at hl 2 rfl) ?_
      refine lv_iload hx hb dX5_wordsAheadOf_71 (lv_at hl 5 rfl) ?_
      refine k_si (k_runV (As := [.int y2, .int y5]) (rest := []) ⟨hx, hb, hml, hown, hts⟩ (cF_X2_moveOf l D q aM uM y2 y5) (cwV 2 hts gX5_wordsAheadOf_X2_moveOf rfl rfl rfl cdX2_moveOf ⟨Nat.le_of_ble_eq_true rfl, Nat.le_of_ble_eq_true rfl⟩) hK (kp_l (a := wM aM q uM) (b := wS aS q uS) (kp_r hP)) (kd_l (a := wM aM q uM) (b := wS aS q uS) (kd_r hD)) 0 rfl rfl rfl hl.1 rfl (Nat.le_of_ble_eq_true rfl) dX5_wordsAheadOf_73 ⟨Nat.le_of_ble_eq_true rfl, Nat.le_of_ble_eq_true rfl⟩) (fun r hr => ?_)
      subst hr
      refine lv_istore_n (lv' := [(2, .int (fX2_moveOf uM y2 y5)), (0, .ref (aW 0)), (1, .ref (aS 0)), (3, .int y3), (4, .int y4), (5, .int y5)]) hx hb dX5_wordsAheadOf_76 rfl hl (by decide) rfl (fun ls hl => ?_)
      refine lv_iinc (v := (y3 + 1)) (lv' := [(3, .int (y3 + 1)), (2, .int (fX2_moveOf uM y2 y5)), (0, .ref (aW 0)), (1, .ref (aS 0)), (4, .int y4), (5, .int y5)]) hx hb dX5_wordsAheadOf_77 hl (k := 3) rfl rfl (by decide) rfl (fun ls hl => ?_)
      refine lv_iinc (v := (y4 + 1)) (lv' := [(4, .int (y4 + 1)), (3, .int (y3 + 1)), (2, .int (fX2_moveOf uM y2 y5)), (0, .ref (aW 0)), (1, .ref (aS 0)), (5, .int y5)]) hx hb dX5_wordsAheadOf_80 hl (k := 4) rfl rfl (by decide) rfl (fun ls hl => ?_)
      refine lv_goto (tgt := 11) hx hb dX5_wordsAheadOf_83 (by decide) ?_
      exact hf H locs ls hP hD hS (lv_sub hl [3, 4, 2, 1, 0] rfl))
  refine lv_aload_n hx hb dX5_wordsAheadOf_0 rfl (lv_at hl 0 rfl) ?_
  refine k_wv (wf := fun u => wW aW aM q u ++ wM aM q uM) (u0 := uW) (k_runV (As := []) (rest := []) ⟨hx, hb, hml, hown, hts⟩ (c_X5_countOnward l D q aW aM uW uM _ hf) (cwV 0 hts gX5_wordsAheadOf_X5_countOnward rfl rfl rfl cdX5_countOnward ⟨Nat.le_of_ble_eq_true rfl, Nat.le_of_ble_eq_true rfl⟩) hK (kp_l (a := wW aW aM q uW ++ wM aM q uM) (b := wS aS q uS) hP) (kd_l (a := wW aW aM q uW ++ wM aM q uM) (b := wS aS q uS) hD) 0 rfl rfl rfl hl.1 rfl (Nat.le_of_ble_eq_true rfl) dX5_wordsAheadOf_1 ⟨Nat.le_of_ble_eq_true rfl, Nat.le_of_ble_eq_true rfl⟩) ([]) (wS aS q uS) (fun _ => rfl) hP hD hS (fun uW1 H locs hf hP hD hS => ?_)
  have hP : va_P D vwCl (wW aW aM q uW1 ++ (wM aM q uM ++ wS aS q uS)) H := hP
  have hD : va_D A (wW aW aM q uW1 ++ (wM aM q uM ++ wS aS q uS)) := hD
  refine lv_iconst (v := 0) hx hb dX5_wordsAheadOf_4 (by decide) ?_
  refine lv_istore_n (lv' := [(2, .int 0), (0, .ref (aW 0)), (1, .ref (aS 0))]) hx hb dX5_wordsAheadOf_5 rfl hl (by decide) rfl (fun ls hl => ?_)
  refine lv_iconst (v := (-1)) hx hb dX5_wordsAheadOf_6 (by decide) ?_
  refine lv_istore_n (lv' := [(3, .int (-1)), (2, .int 0), (0, .ref (aW 0)), (1, .ref (aS 0))]) hx hb dX5_wordsAheadOf_7 rfl hl (by decide) rfl (fun ls hl => ?_)
  refine lv_iconst (v := 0) hx hb dX5_wordsAheadOf_8 (by decide) ?_
  refine lv_istore (lv' := [(4, .int 0), (3, .int (-1)), (2, .int 0), (0, .ref (aW 0)), (1, .ref (aS 0))]) hx hb dX5_wordsAheadOf_9 hl (by decide) rfl (fun ls hl => ?_)
  exact hf H locs ls hP hD hS (lv_sub hl [3, 4, 2, 1, 0] rfl)
def wpX5_wayOutBy (uW : WSt) (uM : MSt) (x1 : Int32) (x2 : Int32) (Q : Int32 → Prop) : Prop :=
  (((fX2_moveOf uM x1 x2) = (-4) →
    Q 1) ∧
  (¬ ((fX2_moveOf uM x1 x2) = (-4)) →
    Q (1 + (kAt 121 (gW_onward uW) (fX2_moveOf uM x1 x2)))))
def rmX5_wayOutBy : Room := { frames := 2, cells := 0, slots := 0, locals := 43 }
theorem inX5_wayOutBy_X5 : ∀ w ∈ wsX50, w ∈ wsX5_wayOutBy := fun w h => List.mem_cons_of_mem _ (List.mem_append_left _ (List.mem_append_right _ h))
set_option maxRecDepth 100000 in
set_option maxHeartbeats 4000000 in
theorem c_X5_wayOutBy (l : Launch) (D : va_G) (q : Nat → ClassId) (aW : Nat → Nat) (aM : Nat → Nat) (uW : WSt) (uM : MSt) (x1 : Int32) (x2 : Int32) (Q : Int32 → Prop) (hf : wpX5_wayOutBy uW uM x1 x2 Q) : Met l yX5_wayOutBy wsX5_wayOutBy rmX5_wayOutBy (va_Pc [.ref (aW 0), .int x1, .int x2] (kP D q (wW aW aM q uW ++ wM aM q uM))) (vp_Si Q) 0 0 (fun _ => False) := by
  refine Met.ofW (cc := cX5_wayOutBy) (maxL := 4) (ret := (some .int)) (by decide) rfl ?_
  intro p e s m args below meth c s₁ B hml hv
  obtain ⟨hargs, hP, hK, hD⟩ := hv
  have hx := B.exec
  have hb := B.bytes
  have hr := B.returns
  have hts := atoms_spec (ws := wsX5_wayOutBy) B.pre
  have hown : s.vm.findClass RX5 = some m.cls := findClass_of_methodNamed B.named
  have hlocks := B.notSynchronized
  refine k_entry hargs (Nat.le_of_ble_eq_true rfl) (fun ls hl => ?_)
  have hl : lv_has ls 4 [(0, .ref (aW 0)), (1, .int x1), (2, .int x2)] := hl
  change W p l e rmX5_wayOutBy s m args below meth c s.heap [] 0 0 (MQ below (vp_Si Q) args s 0 0 (fun _ => False)) _
  unfold wpX5_wayOutBy at hf
  refine lv_aload_n hx hb dX5_wayOutBy_0 rfl (lv_at hl 0 rfl) ?_
  refine va_get (D := D) (ci := 3) (v := .ref (aM 0)) (C := RX5) (T := TX5) (N := 5) hx hb hts inX5_wayOutBy_X5 hown hK hP 0 rfl rfl 0 (by decide) (hts (.fieldLink RX5 9 "GrowingText$Words" "machine" "LGrowingText$Machine;") (List.mem_of_getElem? (i := 1) rfl)) (fun _ h9 => h9) rfl dX5_wayOutBy_1 ?_
  refine lv_iload_n hx hb dX5_wayOutBy_4 rfl (lv_at hl 1 rfl) ?_
  refine lv_iload_n hx hb dX5_wayOutBy_5 rfl (lv_at hl 2 rfl) ?_
  refine k_si (k_runV (As := [.int x1, .int x2]) (rest := []) ⟨hx, hb, hml, hown, hts⟩ (cF_X2_moveOf l D q aM uM x1 x2) (cwV 2 hts gX5_wayOutBy_X2_moveOf rfl rfl rfl cdX2_moveOf ⟨Nat.le_of_ble_eq_true rfl, Nat.le_of_ble_eq_true rfl⟩) hK (kp_r hP) (kd_r hD) 0 rfl rfl rfl hl.1 rfl (Nat.le_of_ble_eq_true rfl) dX5_wayOutBy_6 ⟨Nat.le_of_ble_eq_true rfl, Nat.le_of_ble_eq_true rfl⟩) (fun r hr => ?_)
  subst hr
  refine lv_istore_n (lv' := [(3, .int (fX2_moveOf uM x1 x2)), (0, .ref (aW 0)), (1, .int x1), (2, .int x2)]) hx hb dX5_wayOutBy_9 rfl hl (by decide) rfl (fun ls hl => ?_)
  refine lv_iload_n hx hb dX5_wayOutBy_10 rfl (lv_at hl 0 rfl) ?_
  refine lv_bipush (v := (-4)) hx hb dX5_wayOutBy_11 (by decide) ?_
  refine lv_icmp_ne (tgt := 20) hx hb dX5_wayOutBy_13 (by decide) (fun c1 => ?_) (fun c1 => ?_)
  · have hf := hf.2 (c1)
    refine lv_iconst (v := 1) hx hb dX5_wayOutBy_20 (by decide) ?_
    refine lv_aload_n hx hb dX5_wayOutBy_21 rfl (lv_at hl 1 rfl) ?_
    refine va_get (D := D) (ci := 3) (v := .ref (aW 3)) (C := RX5) (T := TX5) (N := 5) hx hb hts inX5_wayOutBy_X5 hown hK hP 0 rfl rfl 3 (by decide) (hts (.fieldLink RX5 22 "GrowingText$Words" "onward" "[I") (List.mem_of_getElem? (i := 2) rfl)) (fun _ h9 => h9) rfl dX5_wayOutBy_22 ?_
    refine lv_iload_n hx hb dX5_wayOutBy_25 rfl (lv_at hl 0 rfl) ?_
    refine k_si (k_runS (As := [.ref (aW 3), .int (fX2_moveOf uM x1 x2)]) (rest := [.int 1]) ⟨hx, hb, hml, hown, hts⟩ (c_X3_at l D q (aW 3) 121 (gW_onward uW) (fX2_moveOf uM x1 x2) (Nat.le_of_ble_eq_true rfl)) (va_cwS 2 hts gX5_wayOutBy_X3_at rfl rfl rfl cdX3_at ⟨Nat.le_of_ble_eq_true rfl, Nat.le_of_ble_eq_true rfl⟩) hK (kp_1 hP 3 rfl) (kd_1 hD 3 rfl) rfl hl.1 rfl (Nat.le_of_ble_eq_true rfl) dX5_wayOutBy_26 ⟨Nat.le_of_ble_eq_true rfl, Nat.le_of_ble_eq_true rfl⟩) (fun r hr => ?_)
    subst hr
    refine lv_iadd hx hb dX5_wayOutBy_29 ?_
    exact k_iret_r (v := (1 + (kAt 121 (gW_onward uW) (fX2_moveOf uM x1 x2)))) hx hb hr hlocks hf dX5_wayOutBy_30
  · have hf := hf.1 (c1)
    refine lv_iconst (v := 1) hx hb dX5_wayOutBy_16 (by decide) ?_
    refine lv_goto (tgt := 30) hx hb dX5_wayOutBy_17 (by decide) ?_
    exact k_iret_r (v := 1) hx hb hr hlocks hf dX5_wayOutBy_30
def fX5_wayOutBy (uW : WSt) (uM : MSt) (x1 : Int32) (x2 : Int32) : Int32 := (if (fX2_moveOf uM x1 x2) = (-4) then 1 else (1 + (kAt 121 (gW_onward uW) (fX2_moveOf uM x1 x2))))
theorem pF_X5_wayOutBy (uW : WSt) (uM : MSt) (x1 : Int32) (x2 : Int32) (Q : Int32 → Prop) (hq : Q (fX5_wayOutBy uW uM x1 x2)) : wpX5_wayOutBy uW uM x1 x2 Q := by
  unfold fX5_wayOutBy at hq; unfold wpX5_wayOutBy; exact k_ite hq (fun hq => hq) (fun hq => hq)
theorem cF_X5_wayOutBy (l : Launch) (D : va_G) (q : Nat → ClassId) (aW : Nat → Nat) (aM : Nat → Nat) (uW : WSt) (uM : MSt) (x1 : Int32) (x2 : Int32) : Met l yX5_wayOutBy wsX5_wayOutBy rmX5_wayOutBy (va_Pc [.ref (aW 0), .int x1, .int x2] (kP D q (wW aW aM q uW ++ wM aM q uM))) (vp_Si (fun r => r = fX5_wayOutBy uW uM x1 x2)) 0 0 (fun _ => False) := c_X5_wayOutBy l D q aW aM uW uM x1 x2 _ (pF_X5_wayOutBy uW uM x1 x2 _ rfl)
def wpX5_countWayOut (uW : WSt) (uM : MSt) (Q : WSt → Prop) : Prop :=
  ∀ (X14 : Int32 → WSt → Prop) (X37 : Int32 → Int32 → Int32 → Int32 → WSt → Prop),
  (∀ (y1 : Int32) (tW : WSt),
    ((y1 < 0 →
      Q tW) ∧
    (¬ (y1 < 0) →
      X37 y1 (kAt 121 (gW_order tW) y1) (fX5_wayOutBy tW uM (kAt 121 (gW_order tW) y1) 0) 1 tW)) → X14 y1 tW) →
  (∀ (y1 : Int32) (y2 : Int32) (y3 : Int32) (y4 : Int32) (tW : WSt),
    (((gM_alphabet uM) ≤ y4 →
      X14 (y1 + (-1)) (gW_set_onward tW (kPut 121 (gW_onward tW) y2 y3))) ∧
    (¬ ((gM_alphabet uM) ≤ y4) →
      X37 y1 y2 (if ((fX5_wayOutBy tW uM y2 y4) : Int32) < y3 then (fX5_wayOutBy tW uM y2 y4) else y3) (y4 + 1) tW)) → X37 y1 y2 y3 y4 tW) →
  wpX5_orderByLongest uW uM (fun uW1 =>
    X14 ((gM_states uM) - 1) uW1)
def rmX5_countWayOut : Room := { frames := 3, cells := 0, slots := 0, locals := 66 }
theorem inX5_countWayOut_X2 : ∀ w ∈ wsX20, w ∈ wsX5_countWayOut := fun w h => List.mem_cons_of_mem _ (List.mem_append_right _ h)
theorem inX5_countWayOut_X5 : ∀ w ∈ wsX50, w ∈ wsX5_countWayOut := fun w h => List.mem_cons_of_mem _ (List.mem_append_left _ (List.mem_append_right _ h))
set_option maxRecDepth 100000 in
set_option maxHeartbeats 4000000 in
theorem c_X5_countWayOut (l : Launch) (D : va_G) (q : Nat → ClassId) (aW : Nat → Nat) (aM : Nat → Nat) (uW : WSt) (uM : MSt) (Q : WSt → Prop) (hf : wpX5_countWayOut uW uM Q) : Met l yX5_countWayOut wsX5_countWayOut rmX5_countWayOut (va_Pc [.ref (aW 0)] (kP D q (wW aW aM q uW ++ wM aM q uM))) (va_Qv Q (fun u t => kP D q (wW aW aM q u ++ wM aM q uM) t) (kIn (wW aW aM q uW ++ wM aM q uM))) 0 0 (kIn (wW aW aM q uW ++ wM aM q uM)) := by
  refine Met.ofW (cc := cX5_countWayOut) (maxL := 5) (ret := none) (by decide) rfl ?_
  intro p e s m args below meth c s₁ B hml hv
  obtain ⟨hargs, hP, hK, hD⟩ := hv
  have hx := B.exec
  have hb := B.bytes
  have hr := B.returns
  have hts := atoms_spec (ws := wsX5_countWayOut) B.pre
  have hown : s.vm.findClass RX5 = some m.cls := findClass_of_methodNamed B.named
  have hlocks := B.notSynchronized
  have hD := kd_self hD
  generalize kIn (wW aW aM q uW ++ wM aM q uM) = A at hD ⊢
  have hS : va_S A s.heap s.heap [] := va_S.rf
  refine k_entry hargs (Nat.le_of_ble_eq_true rfl) (fun ls hl => ?_)
  have hl : lv_has ls 5 [(0, .ref (aW 0))] := hl
  change W p l e rmX5_countWayOut s m args below meth c s.heap [] 0 0 (MQ below (va_Qv Q (fun u t => kP D q (wW aW aM q u ++ wM aM q uM) t) A) args s 0 0 A) _
  unfold wpX5_countWayOut at hf
  obtain ⟨H, hH⟩ : ∃ H, H = s.heap := ⟨_, rfl⟩
  obtain ⟨locs, hlocs⟩ : ∃ x : List Loc, x = [] := ⟨_, rfl⟩
  rw [← hH] at hP
  have hS : va_S A s.heap H locs := by rw [hH, hlocs]; exact hS
  rw [show W p l e rmX5_countWayOut s m args below meth c s.heap [] 0 0 (MQ below (va_Qv Q (fun u t => kP D q (wW aW aM q u ++ wM aM q uM) t) A) args s 0 0 A) (F0 m 0 ls []) = W p l e rmX5_countWayOut s m args below meth c H locs 0 0 (MQ below (va_Qv Q (fun u t => kP D q (wW aW aM q u ++ wM aM q uM) t) A) args s 0 0 A) (F0 m 0 ls []) by rw [hH, hlocs]]
  clear hH hlocs
  have hf := hf
    (fun (y1 : Int32) (tW : WSt) => ∀ (H : Heap) (locs : List Loc) (ls : Array Slot), va_P D vwCl (wW aW aM q tW ++ wM aM q uM) H → va_D A (wW aW aM q tW ++ wM aM q uM) → va_S A s.heap H locs → lv_has ls 5 [(0, .ref (aW 0)), (1, .int y1)] → W p l e rmX5_countWayOut s m args below meth c H locs 0 0 (MQ below (va_Qv Q (fun u t => kP D q (wW aW aM q u ++ wM aM q uM) t) A) args s 0 0 A) (F0 m 14 ls []))
    (fun (y1 : Int32) (y2 : Int32) (y3 : Int32) (y4 : Int32) (tW : WSt) => ∀ (H : Heap) (locs : List Loc) (ls : Array Slot), va_P D vwCl (wW aW aM q tW ++ wM aM q uM) H → va_D A (wW aW aM q tW ++ wM aM q uM) → va_S A s.heap H locs → lv_has ls 5 [(0, .ref (aW 0)), (1, .int y1), (2, .int y2), (3, .int y3), (4, .int y4)] → W p l e rmX5_countWayOut s m args below meth c H locs 0 0 (MQ below (va_Qv Q (fun u t => kP D q (wW aW aM q u ++ wM aM q uM) t) A) args s 0 0 A) (F0 m 37 ls []))
    (by
      intro y1 tW hf H locs ls hP hD hS hl
      refine lv_iload_n hx hb dX5_countWayOut_14 rfl (lv_at hl 1 rfl) ?_
      refine lv_if_lt (tgt := 82) hx hb dX5_countWayOut_15 (by decide) (fun c2 => ?_) (fun c2 => ?_)
      · have hf := hf.1 (c2)
        exact k_vret_w (wf := (fun u => wW aW aM q u ++ wM aM q uM)) (post := Q) (u := tW) hx hb hr hlocks hK hP hD hS hf dX5_countWayOut_82
      · have hf := hf.2 (c2)
        refine lv_aload_n hx hb dX5_countWayOut_18 rfl (lv_at hl 0 rfl) ?_
        refine va_get (D := D) (ci := 3) (v := .ref (aW 2)) (C := RX5) (T := TX5) (N := 5) hx hb hts inX5_countWayOut_X5 hown hK hP 0 rfl rfl 2 (by decide) (hts (.fieldLink RX5 19 "GrowingText$Words" "order" "[I") (List.mem_of_getElem? (i := 3) rfl)) (fun _ h9 => h9) rfl dX5_countWayOut_19 ?_
        refine lv_iload_n hx hb dX5_countWayOut_22 rfl (lv_at hl 1 rfl) ?_
        refine k_si (k_runS (As := [.ref (aW 2), .int y1]) (rest := []) ⟨hx, hb, hml, hown, hts⟩ (c_X3_at l D q (aW 2) 121 (gW_order tW) y1 (Nat.le_of_ble_eq_true rfl)) (va_cwS 2 hts gX5_countWayOut_X3_at rfl rfl rfl cdX3_at ⟨Nat.le_of_ble_eq_true rfl, Nat.le_of_ble_eq_true rfl⟩) hK (kp_1 hP 2 rfl) (kd_1 hD 2 rfl) rfl hl.1 rfl (Nat.le_of_ble_eq_true rfl) dX5_countWayOut_23 ⟨Nat.le_of_ble_eq_true rfl, Nat.le_of_ble_eq_true rfl⟩) (fun r hr => ?_)
        subst hr
        refine lv_istore_n (lv' := [(2, .int (kAt 121 (gW_order tW) y1)), (0, .ref (aW 0)), (1, .int y1)]) hx hb dX5_countWayOut_26 rfl hl (by decide) rfl (fun ls hl => ?_)
        refine lv_aload_n hx hb dX5_countWayOut_27 rfl (lv_at hl 1 rfl) ?_
        refine lv_iload_n hx hb dX5_countWayOut_28 rfl (lv_at hl 0 rfl) ?_
        refine lv_iconst (v := 0) hx hb dX5_countWayOut_29 (by decide) ?_
        refine k_si (k_runV (As := [.int (kAt 121 (gW_order tW) y1), .int 0]) (rest := []) ⟨hx, hb, hml, hown, hts⟩ (cF_X5_wayOutBy l D q aW aM tW uM (kAt 121 (gW_order tW) y1) 0) (cwV 2 hts gX5_countWayOut_X5_wayOutBy rfl rfl rfl cdX5_wayOutBy ⟨Nat.le_of_ble_eq_true rfl, Nat.le_of_ble_eq_true rfl⟩) hK hP hD 0 rfl rfl rfl hl.1 rfl (Nat.le_of_ble_eq_true rfl) dX5_countWayOut_30 ⟨Nat.le_of_ble_eq_true rfl, Nat.le_of_ble_eq_true rfl⟩) (fun r hr => ?_)
        subst hr
        refine lv_istore_n (lv' := [(3, .int (fX5_wayOutBy tW uM (kAt 121 (gW_order tW) y1) 0)), (2, .int (kAt 121 (gW_order tW) y1)), (0, .ref (aW 0)), (1, .int y1)]) hx hb dX5_countWayOut_33 rfl hl (by decide) rfl (fun ls hl => ?_)
        refine lv_iconst (v := 1) hx hb dX5_countWayOut_34 (by decide) ?_
        refine lv_istore (lv' := [(4, .int 1), (3, .int (fX5_wayOutBy tW uM (kAt 121 (gW_order tW) y1) 0)), (2, .int (kAt 121 (gW_order tW) y1)), (0, .ref (aW 0)), (1, .int y1)]) hx hb dX5_countWayOut_35 hl (by decide) rfl (fun ls hl => ?_)
        exact hf H locs ls hP hD hS (lv_sub hl [3, 4, 2, 1, 0] rfl))
    (by
      intro y1 y2 y3 y4 tW hf H locs ls hP hD hS hl
      refine lv_iload hx hb dX5_countWayOut_37 (lv_at hl 4 rfl) ?_
      refine lv_aload_n hx hb dX5_countWayOut_39 rfl (lv_at hl 0 rfl) ?_
      refine va_get (D := D) (ci := 3) (v := .ref (aM 0)) (C := RX5) (T := TX5) (N := 5) hx hb hts inX5_countWayOut_X5 hown hK hP 0 rfl rfl 0 (by decide) (hts (.fieldLink RX5 9 "GrowingText$Words" "machine" "LGrowingText$Machine;") (List.mem_of_getElem? (i := 1) rfl)) (fun _ h9 => h9) rfl dX5_countWayOut_40 ?_
      refine va_get (D := D) (ci := 1) (v := .int (gM_alphabet uM)) (C := RX2) (T := TX2) (N := 12) hx hb hts inX5_countWayOut_X2 hown hK hP 5 rfl rfl 0 (by decide) (hts (.fieldLink RX5 79 "GrowingText$Machine" "alphabet" "I") (List.mem_of_getElem? (i := 4) rfl)) (fun _ h9 => h9) rfl dX5_countWayOut_43 ?_
      refine lv_icmp_ge (tgt := 67) hx hb dX5_countWayOut_46 (by decide) (fun c3 => ?_) (fun c3 => ?_)
      · have hf := hf.1 (c3)
        refine lv_aload_n hx hb dX5_countWayOut_67 rfl (lv_at hl 0 rfl) ?_
        refine va_get (D := D) (ci := 3) (v := .ref (aW 3)) (C := RX5) (T := TX5) (N := 5) hx hb hts inX5_countWayOut_X5 hown hK hP 0 rfl rfl 3 (by decide) (hts (.fieldLink RX5 22 "GrowingText$Words" "onward" "[I") (List.mem_of_getElem? (i := 9) rfl)) (fun _ h9 => h9) rfl dX5_countWayOut_68 ?_
        refine lv_iload_n hx hb dX5_countWayOut_71 rfl (lv_at hl 2 rfl) ?_
        refine lv_iload_n hx hb dX5_countWayOut_72 rfl (lv_at hl 3 rfl) ?_
        refine k_wp (k := 3) (k_runS (As := [.ref (aW 3), .int y2, .int y3]) (rest := []) ⟨hx, hb, hml, hown, hts⟩ (c_X3_put l D q (aW 3) 121 (gW_onward tW) y2 y3 (Nat.le_of_ble_eq_true rfl)) (va_cwS 3 hts gX5_countWayOut_X3_put rfl rfl rfl cdX3_put ⟨Nat.le_of_ble_eq_true rfl, Nat.le_of_ble_eq_true rfl⟩) hK (kp_1 hP 3 rfl) (kd_1 hD 3 rfl) rfl hl.1 rfl (Nat.le_of_ble_eq_true rfl) dX5_countWayOut_73 ⟨Nat.le_of_ble_eq_true rfl, Nat.le_of_ble_eq_true rfl⟩) rfl rfl hP hD hS (fun H locs _ hP hD hS => ?_)
        have hP : va_P D vwCl (wW aW aM q (gW_set_onward tW (kPut 121 (gW_onward tW) y2 y3)) ++ wM aM q uM) H := hP
        have hD : va_D A (wW aW aM q (gW_set_onward tW (kPut 121 (gW_onward tW) y2 y3)) ++ wM aM q uM) := hD
        refine lv_iinc (v := (y1 + (-1))) (lv' := [(1, .int (y1 + (-1))), (0, .ref (aW 0)), (2, .int y2), (3, .int y3), (4, .int y4)]) hx hb dX5_countWayOut_76 hl (k := 1) rfl rfl (by decide) rfl (fun ls hl => ?_)
        refine lv_goto (tgt := 14) hx hb dX5_countWayOut_79 (by decide) ?_
        exact hf H locs ls hP hD hS (lv_sub hl [1, 0] rfl)
      · have hf := hf.2 (c3)
        refine lv_iload_n hx hb dX5_countWayOut_49 rfl (lv_at hl 3 rfl) ?_
        refine lv_aload_n hx hb dX5_countWayOut_50 rfl (lv_at hl 0 rfl) ?_
        refine lv_iload_n hx hb dX5_countWayOut_51 rfl (lv_at hl 2 rfl) ?_
        refine lv_iload hx hb dX5_countWayOut_52 (lv_at hl 4 rfl) ?_
        refine k_si (k_runV (As := [.int y2, .int y4]) (rest := [.int y3]) ⟨hx, hb, hml, hown, hts⟩ (cF_X5_wayOutBy l D q aW aM tW uM y2 y4) (cwV 2 hts gX5_countWayOut_X5_wayOutBy rfl rfl rfl cdX5_wayOutBy ⟨Nat.le_of_ble_eq_true rfl, Nat.le_of_ble_eq_true rfl⟩) hK hP hD 0 rfl rfl rfl hl.1 rfl (Nat.le_of_ble_eq_true rfl) dX5_countWayOut_54 ⟨Nat.le_of_ble_eq_true rfl, Nat.le_of_ble_eq_true rfl⟩) (fun r hr => ?_)
        subst hr
        refine va_mmin hx hb (hml.trans hl.1.symm) hown (hts (.methodLink RX5 101 Lib.Math.min.name) (List.mem_of_getElem? (i := 5) rfl)) (hts (.static Lib.Math.min.name) (List.mem_of_getElem? (i := 6) rfl)) (hts (.initialized "java/lang/Math") (List.mem_of_getElem? (i := 7) rfl)) (hts (.code Lib.Math.min.name Lib.Math.min.code 2 (some .int)) (List.mem_of_getElem? (i := 8) rfl)) (Nat.le_of_ble_eq_true rfl) (Nat.le_of_ble_eq_true rfl) (Nat.le_of_ble_eq_true rfl) (Nat.le_of_ble_eq_true rfl) dX5_countWayOut_57 ?_
        refine lv_istore_n (lv' := [(3, .int (if ((fX5_wayOutBy tW uM y2 y4) : Int32) < y3 then (fX5_wayOutBy tW uM y2 y4) else y3)), (0, .ref (aW 0)), (1, .int y1), (2, .int y2), (4, .int y4)]) hx hb dX5_countWayOut_60 rfl hl (by decide) rfl (fun ls hl => ?_)
        refine lv_iinc (v := (y4 + 1)) (lv' := [(4, .int (y4 + 1)), (3, .int (if ((fX5_wayOutBy tW uM y2 y4) : Int32) < y3 then (fX5_wayOutBy tW uM y2 y4) else y3)), (0, .ref (aW 0)), (1, .int y1), (2, .int y2)]) hx hb dX5_countWayOut_61 hl (k := 4) rfl rfl (by decide) rfl (fun ls hl => ?_)
        refine lv_goto (tgt := 37) hx hb dX5_countWayOut_64 (by decide) ?_
        exact hf H locs ls hP hD hS (lv_sub hl [2, 3, 4, 1, 0] rfl))
  refine lv_aload_n hx hb dX5_countWayOut_0 rfl (lv_at hl 0 rfl) ?_
  refine k_wv (wf := fun u => wW aW aM q u ++ wM aM q uM) (u0 := uW) (k_runV (As := []) (rest := []) ⟨hx, hb, hml, hown, hts⟩ (c_X5_orderByLongest l D q aW aM uW uM _ hf) (cwV 0 hts gX5_countWayOut_X5_orderByLongest rfl rfl rfl cdX5_orderByLongest ⟨Nat.le_of_ble_eq_true rfl, Nat.le_of_ble_eq_true rfl⟩) hK hP hD 0 rfl rfl rfl hl.1 rfl (Nat.le_of_ble_eq_true rfl) dX5_countWayOut_1 ⟨Nat.le_of_ble_eq_true rfl, Nat.le_of_ble_eq_true rfl⟩) ([]) ([]) (fun _ => rfl) hP hD hS (fun uW1 H locs hf hP hD hS => ?_)
  have hP : va_P D vwCl (wW aW aM q uW1 ++ wM aM q uM) H := hP
  have hD : va_D A (wW aW aM q uW1 ++ wM aM q uM) := hD
  refine lv_aload_n hx hb dX5_countWayOut_4 rfl (lv_at hl 0 rfl) ?_
  refine va_get (D := D) (ci := 3) (v := .ref (aM 0)) (C := RX5) (T := TX5) (N := 5) hx hb hts inX5_countWayOut_X5 hown hK hP 0 rfl rfl 0 (by decide) (hts (.fieldLink RX5 9 "GrowingText$Words" "machine" "LGrowingText$Machine;") (List.mem_of_getElem? (i := 1) rfl)) (fun _ h9 => h9) rfl dX5_countWayOut_5 ?_
  refine va_get (D := D) (ci := 1) (v := .int (gM_states uM)) (C := RX2) (T := TX2) (N := 12) hx hb hts inX5_countWayOut_X2 hown hK hP 5 rfl rfl 2 (by decide) (hts (.fieldLink RX5 67 "GrowingText$Machine" "states" "I") (List.mem_of_getElem? (i := 2) rfl)) (fun _ h9 => h9) rfl dX5_countWayOut_8 ?_
  refine lv_iconst (v := 1) hx hb dX5_countWayOut_11 (by decide) ?_
  refine lv_isub hx hb dX5_countWayOut_12 ?_
  refine lv_istore_n (lv' := [(1, .int ((gM_states uM) - 1)), (0, .ref (aW 0))]) hx hb dX5_countWayOut_13 rfl hl (by decide) rfl (fun ls hl => ?_)
  exact hf H locs ls hP hD hS (lv_sub hl [1, 0] rfl)
def wpX5_writeAbsent (uW : WSt) (uM : MSt) (uS : SSt) (Q : WSt → SSt → Prop) : Prop :=
  ∀ (X13 : Int32 → Int32 → WSt → SSt → Prop) (X28 : Int32 → Int32 → Int32 → WSt → SSt → Prop) (X66 : Int32 → Int32 → Int32 → WSt → SSt → Prop),
  (∀ (y2 : Int32) (y3 : Int32) (tW : WSt) (tS : SSt),
    (((60 : Int32) < y3 →
      Q tW tS) ∧
    (¬ ((60 : Int32) < y3) →
      (y2 = (-4) →
        Q tW tS) ∧
      (¬ (y2 = (-4)) →
        X28 y2 y3 0 tW tS))) → X13 y2 y3 tW tS) →
  (∀ (y2 : Int32) (y3 : Int32) (y4 : Int32) (tW : WSt) (tS : SSt),
    ((((gM_alphabet uM) - 1) ≤ y4 →
      X66 y2 y3 y4 tW tS) ∧
    (¬ (((gM_alphabet uM) - 1) ≤ y4) →
      ((fX5_wayOutBy tW uM y2 y4) ≤ (kAt 121 (gW_onward tW) y2) →
        X66 y2 y3 y4 tW tS) ∧
      (¬ ((fX5_wayOutBy tW uM y2 y4) ≤ (kAt 121 (gW_onward tW) y2)) →
        X28 y2 y3 (y4 + 1) tW tS))) → X28 y2 y3 y4 tW tS) →
  (∀ (y2 : Int32) (y3 : Int32) (y4 : Int32) (tW : WSt) (tS : SSt),
    X13 (fX2_moveOf uM y2 y4) (y3 + 1) tW (fX4_addLetter tS y4) → X66 y2 y3 y4 tW tS) →
  wpX5_countWayOut uW uM (fun uW1 =>
    wpX4_layOut uS 0 (fun uS2 =>
      X13 0 0 uW1 uS2))
def rmX5_writeAbsent : Room := { frames := 4, cells := 0, slots := 0, locals := 90 }
theorem inX5_writeAbsent_X2 : ∀ w ∈ wsX20, w ∈ wsX5_writeAbsent := fun w h => List.mem_cons_of_mem _ (List.mem_append_left _ (List.mem_append_right _ h))
theorem inX5_writeAbsent_X5 : ∀ w ∈ wsX50, w ∈ wsX5_writeAbsent := fun w h => List.mem_cons_of_mem _ (List.mem_append_left _ (List.mem_append_left _ (List.mem_append_right _ h)))
set_option maxRecDepth 100000 in
set_option maxHeartbeats 4000000 in
theorem c_X5_writeAbsent (l : Launch) (D : va_G) (q : Nat → ClassId) (aW : Nat → Nat) (aM : Nat → Nat) (aS : Nat → Nat) (uW : WSt) (uM : MSt) (uS : SSt) (Q : WSt → SSt → Prop) (hf : wpX5_writeAbsent uW uM uS Q) : Met l yX5_writeAbsent wsX5_writeAbsent rmX5_writeAbsent (va_Pc [.ref (aW 0), .ref (aS 0)] (kP D q (wW aW aM q uW ++ (wM aM q uM ++ wS aS q uS)))) (va_Qv (fun (u : WSt × SSt) => Q u.1 u.2) (fun u t => kP D q (wW aW aM q u.1 ++ (wM aM q uM ++ wS aS q u.2)) t) (kIn (wW aW aM q uW ++ (wM aM q uM ++ wS aS q uS)))) 0 0 (kIn (wW aW aM q uW ++ (wM aM q uM ++ wS aS q uS))) := by
  refine Met.ofW (cc := cX5_writeAbsent) (maxL := 5) (ret := none) (by decide) rfl ?_
  intro p e s m args below meth c s₁ B hml hv
  obtain ⟨hargs, hP, hK, hD⟩ := hv
  have hx := B.exec
  have hb := B.bytes
  have hr := B.returns
  have hts := atoms_spec (ws := wsX5_writeAbsent) B.pre
  have hown : s.vm.findClass RX5 = some m.cls := findClass_of_methodNamed B.named
  have hlocks := B.notSynchronized
  have hD := kd_self hD
  generalize kIn (wW aW aM q uW ++ (wM aM q uM ++ wS aS q uS)) = A at hD ⊢
  have hS : va_S A s.heap s.heap [] := va_S.rf
  refine k_entry hargs (Nat.le_of_ble_eq_true rfl) (fun ls hl => ?_)
  have hl : lv_has ls 5 [(0, .ref (aW 0)), (1, .ref (aS 0))] := hl
  change W p l e rmX5_writeAbsent s m args below meth c s.heap [] 0 0 (MQ below (va_Qv (fun (u : WSt × SSt) => Q u.1 u.2) (fun u t => kP D q (wW aW aM q u.1 ++ (wM aM q uM ++ wS aS q u.2)) t) A) args s 0 0 A) _
  unfold wpX5_writeAbsent at hf
  obtain ⟨H, hH⟩ : ∃ H, H = s.heap := ⟨_, rfl⟩
  obtain ⟨locs, hlocs⟩ : ∃ x : List Loc, x = [] := ⟨_, rfl⟩
  rw [← hH] at hP
  have hS : va_S A s.heap H locs := by rw [hH, hlocs]; exact hS
  rw [show W p l e rmX5_writeAbsent s m args below meth c s.heap [] 0 0 (MQ below (va_Qv (fun (u : WSt × SSt) => Q u.1 u.2) (fun u t => kP D q (wW aW aM q u.1 ++ (wM aM q uM ++ wS aS q u.2)) t) A) args s 0 0 A) (F0 m 0 ls []) = W p l e rmX5_writeAbsent s m args below meth c H locs 0 0 (MQ below (va_Qv (fun (u : WSt × SSt) => Q u.1 u.2) (fun u t => kP D q (wW aW aM q u.1 ++ (wM aM q uM ++ wS aS q u.2)) t) A) args s 0 0 A) (F0 m 0 ls []) by rw [hH, hlocs]]
  clear hH hlocs
  have hf := hf
    (fun (y2 : Int32) (y3 : Int32) (tW : WSt) (tS : SSt) => ∀ (H : Heap) (locs : List Loc) (ls : Array Slot), va_P D vwCl (wW aW aM q tW ++ (wM aM q uM ++ wS aS q tS)) H → va_D A (wW aW aM q tW ++ (wM aM q uM ++ wS aS q tS)) → va_S A s.heap H locs → lv_has ls 5 [(0, .ref (aW 0)), (1, .ref (aS 0)), (2, .int y2), (3, .int y3)] → W p l e rmX5_writeAbsent s m args below meth c H locs 0 0 (MQ below (va_Qv (fun (u : WSt × SSt) => Q u.1 u.2) (fun u t => kP D q (wW aW aM q u.1 ++ (wM aM q uM ++ wS aS q u.2)) t) A) args s 0 0 A) (F0 m 13 ls []))
    (fun (y2 : Int32) (y3 : Int32) (y4 : Int32) (tW : WSt) (tS : SSt) => ∀ (H : Heap) (locs : List Loc) (ls : Array Slot), va_P D vwCl (wW aW aM q tW ++ (wM aM q uM ++ wS aS q tS)) H → va_D A (wW aW aM q tW ++ (wM aM q uM ++ wS aS q tS)) → va_S A s.heap H locs → lv_has ls 5 [(0, .ref (aW 0)), (1, .ref (aS 0)), (2, .int y2), (3, .int y3), (4, .int y4)] → W p l e rmX5_writeAbsent s m args below meth c H locs 0 0 (MQ below (va_Qv (fun (u : WSt × SSt) => Q u.1 u.2) (fun u t => kP D q (wW aW aM q u.1 ++ (wM aM q uM ++ wS aS q u.2)) t) A) args s 0 0 A) (F0 m 28 ls []))
    (fun (y2 : Int32) (y3 : Int32) (y4 : Int32) (tW : WSt) (tS : SSt) => ∀ (H : Heap) (locs : List Loc) (ls : Array Slot), va_P D vwCl (wW aW aM q tW ++ (wM aM q uM ++ wS aS q tS)) H → va_D A (wW aW aM q tW ++ (wM aM q uM ++ wS aS q tS)) → va_S A s.heap H locs → lv_has ls 5 [(0, .ref (aW 0)), (1, .ref (aS 0)), (2, .int y2), (3, .int y3), (4, .int y4)] → W p l e rmX5_writeAbsent s m args below meth c H locs 0 0 (MQ below (va_Qv (fun (u : WSt × SSt) => Q u.1 u.2) (fun u t => kP D q (wW aW aM q u.1 ++ (wM aM q uM ++ wS aS q u.2)) t) A) args s 0 0 A) (F0 m 66 ls []))
    (by
      intro y2 y3 tW tS hf H locs ls hP hD hS hl
      refine lv_iload_n hx hb dX5_writeAbsent_13 rfl (lv_at hl 3 rfl) ?_
      refine lv_bipush (v := 60) hx hb dX5_writeAbsent_14 (by decide) ?_
      refine lv_icmp_gt (tgt := 89) hx hb dX5_writeAbsent_16 (by decide) (fun c3 => ?_) (fun c3 => ?_)
      · have hf := hf.1 (c3)
        exact k_vret_w (wf := (fun u => wW aW aM q u.1 ++ (wM aM q uM ++ wS aS q u.2))) (post := (fun (u : WSt × SSt) => Q u.1 u.2)) (u := (tW, tS)) hx hb hr hlocks hK hP hD hS hf dX5_writeAbsent_89
      · have hf := hf.2 (c3)
        refine lv_iload_n hx hb dX5_writeAbsent_19 rfl (lv_at hl 2 rfl) ?_
        refine lv_bipush (v := (-4)) hx hb dX5_writeAbsent_20 (by decide) ?_
        refine lv_icmp_eq (tgt := 89) hx hb dX5_writeAbsent_22 (by decide) (fun c4 => ?_) (fun c4 => ?_)
        · have hf := hf.1 (c4)
          exact k_vret_w (wf := (fun u => wW aW aM q u.1 ++ (wM aM q uM ++ wS aS q u.2))) (post := (fun (u : WSt × SSt) => Q u.1 u.2)) (u := (tW, tS)) hx hb hr hlocks hK hP hD hS hf dX5_writeAbsent_89
        · have hf := hf.2 (c4)
          refine lv_iconst (v := 0) hx hb dX5_writeAbsent_25 (by decide) ?_
          refine lv_istore (lv' := [(4, .int 0), (0, .ref (aW 0)), (1, .ref (aS 0)), (2, .int y2), (3, .int y3)]) hx hb dX5_writeAbsent_26 hl (by decide) rfl (fun ls hl => ?_)
          exact hf H locs ls hP hD hS (lv_sub hl [1, 2, 3, 4, 0] rfl))
    (by
      intro y2 y3 y4 tW tS hf H locs ls hP hD hS hl
      refine lv_iload hx hb dX5_writeAbsent_28 (lv_at hl 4 rfl) ?_
      refine lv_aload_n hx hb dX5_writeAbsent_30 rfl (lv_at hl 0 rfl) ?_
      refine va_get (D := D) (ci := 3) (v := .ref (aM 0)) (C := RX5) (T := TX5) (N := 5) hx hb hts inX5_writeAbsent_X5 hown hK hP 0 rfl rfl 0 (by decide) (hts (.fieldLink RX5 9 "GrowingText$Words" "machine" "LGrowingText$Machine;") (List.mem_of_getElem? (i := 1) rfl)) (fun _ h9 => h9) rfl dX5_writeAbsent_31 ?_
      refine va_get (D := D) (ci := 1) (v := .int (gM_alphabet uM)) (C := RX2) (T := TX2) (N := 12) hx hb hts inX5_writeAbsent_X2 hown hK hP 5 rfl rfl 0 (by decide) (hts (.fieldLink RX5 79 "GrowingText$Machine" "alphabet" "I") (List.mem_of_getElem? (i := 2) rfl)) (fun _ h9 => h9) rfl dX5_writeAbsent_34 ?_
      refine lv_iconst (v := 1) hx hb dX5_writeAbsent_37 (by decide) ?_
      refine lv_isub hx hb dX5_writeAbsent_38 ?_
      refine lv_icmp_ge (tgt := 66) hx hb dX5_writeAbsent_39 (by decide) (fun c5 => ?_) (fun c5 => ?_)
      · have hf := hf.1 (c5)
        exact hf H locs ls hP hD hS (lv_sub hl [0, 1, 2, 3, 4] rfl)
      · have hf := hf.2 (c5)
        refine lv_aload_n hx hb dX5_writeAbsent_42 rfl (lv_at hl 0 rfl) ?_
        refine lv_iload_n hx hb dX5_writeAbsent_43 rfl (lv_at hl 2 rfl) ?_
        refine lv_iload hx hb dX5_writeAbsent_44 (lv_at hl 4 rfl) ?_
        refine k_si (k_runV (As := [.int y2, .int y4]) (rest := []) ⟨hx, hb, hml, hown, hts⟩ (cF_X5_wayOutBy l D q aW aM tW uM y2 y4) (cwV 2 hts gX5_writeAbsent_X5_wayOutBy rfl rfl rfl cdX5_wayOutBy ⟨Nat.le_of_ble_eq_true rfl, Nat.le_of_ble_eq_true rfl⟩) hK (kp_l (a := wW aW aM q tW ++ wM aM q uM) (b := wS aS q tS) hP) (kd_l (a := wW aW aM q tW ++ wM aM q uM) (b := wS aS q tS) hD) 0 rfl rfl rfl hl.1 rfl (Nat.le_of_ble_eq_true rfl) dX5_writeAbsent_46 ⟨Nat.le_of_ble_eq_true rfl, Nat.le_of_ble_eq_true rfl⟩) (fun r hr => ?_)
        subst hr
        refine lv_aload_n hx hb dX5_writeAbsent_49 rfl (lv_at hl 0 rfl) ?_
        refine va_get (D := D) (ci := 3) (v := .ref (aW 3)) (C := RX5) (T := TX5) (N := 5) hx hb hts inX5_writeAbsent_X5 hown hK hP 0 rfl rfl 3 (by decide) (hts (.fieldLink RX5 22 "GrowingText$Words" "onward" "[I") (List.mem_of_getElem? (i := 3) rfl)) (fun _ h9 => h9) rfl dX5_writeAbsent_50 ?_
        refine lv_iload_n hx hb dX5_writeAbsent_53 rfl (lv_at hl 2 rfl) ?_
        refine k_si (k_runS (As := [.ref (aW 3), .int y2]) (rest := [.int (fX5_wayOutBy tW uM y2 y4)]) ⟨hx, hb, hml, hown, hts⟩ (c_X3_at l D q (aW 3) 121 (gW_onward tW) y2 (Nat.le_of_ble_eq_true rfl)) (va_cwS 2 hts gX5_writeAbsent_X3_at rfl rfl rfl cdX3_at ⟨Nat.le_of_ble_eq_true rfl, Nat.le_of_ble_eq_true rfl⟩) hK (kp_1 hP 3 rfl) (kd_1 hD 3 rfl) rfl hl.1 rfl (Nat.le_of_ble_eq_true rfl) dX5_writeAbsent_54 ⟨Nat.le_of_ble_eq_true rfl, Nat.le_of_ble_eq_true rfl⟩) (fun r hr => ?_)
        subst hr
        refine lv_icmp_le (tgt := 66) hx hb dX5_writeAbsent_57 (by decide) (fun c6 => ?_) (fun c6 => ?_)
        · have hf := hf.1 (c6)
          exact hf H locs ls hP hD hS (lv_sub hl [0, 1, 2, 3, 4] rfl)
        · have hf := hf.2 (c6)
          refine lv_iinc (v := (y4 + 1)) (lv' := [(4, .int (y4 + 1)), (0, .ref (aW 0)), (1, .ref (aS 0)), (2, .int y2), (3, .int y3)]) hx hb dX5_writeAbsent_60 hl (k := 4) rfl rfl (by decide) rfl (fun ls hl => ?_)
          refine lv_goto (tgt := 28) hx hb dX5_writeAbsent_63 (by decide) ?_
          exact hf H locs ls hP hD hS (lv_sub hl [1, 2, 3, 4, 0] rfl))
    (by
      intro y2 y3 y4 tW tS hf H locs ls hP hD hS hl
      refine lv_aload_n hx hb dX5_writeAbsent_66 rfl (lv_at hl 1 rfl) ?_
      refine lv_iload hx hb dX5_writeAbsent_67 (lv_at hl 4 rfl) ?_
      refine k_wv (wf := fun u => wS aS q u) (u0 := tS) (k_runV (As := [.int y4]) (rest := []) ⟨hx, hb, hml, hown, hts⟩ (cF_X4_addLetter l D q aS tS y4) (cwV 1 hts gX5_writeAbsent_X4_addLetter rfl rfl rfl cdX4_addLetter ⟨Nat.le_of_ble_eq_true rfl, Nat.le_of_ble_eq_true rfl⟩) hK (kp_r (kp_r hP)) (kd_r (kd_r hD)) 0 rfl rfl rfl hl.1 rfl (Nat.le_of_ble_eq_true rfl) dX5_writeAbsent_69 ⟨Nat.le_of_ble_eq_true rfl, Nat.le_of_ble_eq_true rfl⟩) (wW aW aM q tW ++ wM aM q uM) ([]) (fun _ => rfl) hP hD hS (fun u H locs hu hP hD hS => ?_)
      subst hu
      have hP : va_P D vwCl (wW aW aM q tW ++ (wM aM q uM ++ wS aS q (fX4_addLetter tS y4))) H := hP
      have hD : va_D A (wW aW aM q tW ++ (wM aM q uM ++ wS aS q (fX4_addLetter tS y4))) := hD
      refine lv_aload_n hx hb dX5_writeAbsent_72 rfl (lv_at hl 0 rfl) ?_
      refine va_get (D := D) (ci := 3) (v := .ref (aM 0)) (C := RX5) (T := TX5) (N := 5) hx hb hts inX5_writeAbsent_X5 hown hK hP 0 rfl rfl 0 (by decide) (hts (.fieldLink RX5 9 "GrowingText$Words" "machine" "LGrowingText$Machine;") (List.mem_of_getElem? (i := 1) rfl)) (fun _ h9 => h9) rfl dX5_writeAbsent_73 ?_
      refine lv_iload_n hx hb dX5_writeAbsent_76 rfl (lv_at hl 2 rfl) ?_
      refine lv_iload hx hb dX5_writeAbsent_77 (lv_at hl 4 rfl) ?_
      refine k_si (k_runV (As := [.int y2, .int y4]) (rest := []) ⟨hx, hb, hml, hown, hts⟩ (cF_X2_moveOf l D q aM uM y2 y4) (cwV 2 hts gX5_writeAbsent_X2_moveOf rfl rfl rfl cdX2_moveOf ⟨Nat.le_of_ble_eq_true rfl, Nat.le_of_ble_eq_true rfl⟩) hK (kp_l (a := wM aM q uM) (b := wS aS q (fX4_addLetter tS y4)) (kp_r hP)) (kd_l (a := wM aM q uM) (b := wS aS q (fX4_addLetter tS y4)) (kd_r hD)) 0 rfl rfl rfl hl.1 rfl (Nat.le_of_ble_eq_true rfl) dX5_writeAbsent_79 ⟨Nat.le_of_ble_eq_true rfl, Nat.le_of_ble_eq_true rfl⟩) (fun r hr => ?_)
      subst hr
      refine lv_istore_n (lv' := [(2, .int (fX2_moveOf uM y2 y4)), (0, .ref (aW 0)), (1, .ref (aS 0)), (3, .int y3), (4, .int y4)]) hx hb dX5_writeAbsent_82 rfl hl (by decide) rfl (fun ls hl => ?_)
      refine lv_iinc (v := (y3 + 1)) (lv' := [(3, .int (y3 + 1)), (2, .int (fX2_moveOf uM y2 y4)), (0, .ref (aW 0)), (1, .ref (aS 0)), (4, .int y4)]) hx hb dX5_writeAbsent_83 hl (k := 3) rfl rfl (by decide) rfl (fun ls hl => ?_)
      refine lv_goto (tgt := 13) hx hb dX5_writeAbsent_86 (by decide) ?_
      exact hf H locs ls hP hD hS (lv_sub hl [2, 3, 1, 0] rfl))
  refine lv_aload_n hx hb dX5_writeAbsent_0 rfl (lv_at hl 0 rfl) ?_
  refine k_wv (wf := fun u => wW aW aM q u ++ wM aM q uM) (u0 := uW) (k_runV (As := []) (rest := []) ⟨hx, hb, hml, hown, hts⟩ (c_X5_countWayOut l D q aW aM uW uM _ hf) (cwV 0 hts gX5_writeAbsent_X5_countWayOut rfl rfl rfl cdX5_countWayOut ⟨Nat.le_of_ble_eq_true rfl, Nat.le_of_ble_eq_true rfl⟩) hK (kp_l (a := wW aW aM q uW ++ wM aM q uM) (b := wS aS q uS) hP) (kd_l (a := wW aW aM q uW ++ wM aM q uM) (b := wS aS q uS) hD) 0 rfl rfl rfl hl.1 rfl (Nat.le_of_ble_eq_true rfl) dX5_writeAbsent_1 ⟨Nat.le_of_ble_eq_true rfl, Nat.le_of_ble_eq_true rfl⟩) ([]) (wS aS q uS) (fun _ => rfl) hP hD hS (fun uW1 H locs hf hP hD hS => ?_)
  have hP : va_P D vwCl (wW aW aM q uW1 ++ (wM aM q uM ++ wS aS q uS)) H := hP
  have hD : va_D A (wW aW aM q uW1 ++ (wM aM q uM ++ wS aS q uS)) := hD
  refine lv_aload_n hx hb dX5_writeAbsent_4 rfl (lv_at hl 1 rfl) ?_
  refine lv_iconst (v := 0) hx hb dX5_writeAbsent_5 (by decide) ?_
  refine k_wv (wf := fun u => wS aS q u) (u0 := uS) (k_runV (As := [.int 0]) (rest := []) ⟨hx, hb, hml, hown, hts⟩ (c_X4_layOut l D q aS uS 0 _ hf) (cwV 1 hts gX5_writeAbsent_X4_layOut rfl rfl rfl cdX4_layOut ⟨Nat.le_of_ble_eq_true rfl, Nat.le_of_ble_eq_true rfl⟩) hK (kp_r (kp_r hP)) (kd_r (kd_r hD)) 0 rfl rfl rfl hl.1 rfl (Nat.le_of_ble_eq_true rfl) dX5_writeAbsent_6 ⟨Nat.le_of_ble_eq_true rfl, Nat.le_of_ble_eq_true rfl⟩) (wW aW aM q uW1 ++ wM aM q uM) ([]) (fun _ => rfl) hP hD hS (fun uS2 H locs hf hP hD hS => ?_)
  have hP : va_P D vwCl (wW aW aM q uW1 ++ (wM aM q uM ++ wS aS q uS2)) H := hP
  have hD : va_D A (wW aW aM q uW1 ++ (wM aM q uM ++ wS aS q uS2)) := hD
  refine lv_iconst (v := 0) hx hb dX5_writeAbsent_9 (by decide) ?_
  refine lv_istore_n (lv' := [(2, .int 0), (0, .ref (aW 0)), (1, .ref (aS 0))]) hx hb dX5_writeAbsent_10 rfl hl (by decide) rfl (fun ls hl => ?_)
  refine lv_iconst (v := 0) hx hb dX5_writeAbsent_11 (by decide) ?_
  refine lv_istore_n (lv' := [(3, .int 0), (2, .int 0), (0, .ref (aW 0)), (1, .ref (aS 0))]) hx hb dX5_writeAbsent_12 rfl hl (by decide) rfl (fun ls hl => ?_)
  exact hf H locs ls hP hD hS (lv_sub hl [2, 3, 1, 0] rfl)
def wpX5_isAhead (uW : WSt) (uM : MSt) (x1 : Int32) (x2 : Int32) (x3 : Int32) (Q : Int32 → Prop) : Prop :=
  ∀ (X23 : Int32 → Int32 → Int32 → Prop),
  (∀ (y4 : Int32) (y5 : Int32) (y6 : Int32),
    ((y6 ≤ 0 →
      Q 0) ∧
    (¬ (y6 ≤ 0) →
      ((fX2_letterAt uM (y4 - y6)) = (fX2_letterAt uM (y5 - y6)) →
        X23 y4 y5 (y6 + (-1))) ∧
      (¬ ((fX2_letterAt uM (y4 - y6)) = (fX2_letterAt uM (y5 - y6))) →
        ((fX2_letterAt uM (y5 - y6)) ≤ (fX2_letterAt uM (y4 - y6)) →
          Q 0) ∧
        (¬ ((fX2_letterAt uM (y5 - y6)) ≤ (fX2_letterAt uM (y4 - y6))) →
          Q 1)))) → X23 y4 y5 y6) →
  X23 (fX2_firstEndOf uM x1) (fX2_firstEndOf uM x2) x3
def rmX5_isAhead : Room := { frames := 3, cells := 0, slots := 0, locals := 65 }
theorem inX5_isAhead_X5 : ∀ w ∈ wsX50, w ∈ wsX5_isAhead := fun w h => List.mem_cons_of_mem _ (List.mem_append_left _ (List.mem_append_right _ h))
set_option maxRecDepth 100000 in
set_option maxHeartbeats 4000000 in
theorem c_X5_isAhead (l : Launch) (D : va_G) (q : Nat → ClassId) (aW : Nat → Nat) (aM : Nat → Nat) (uW : WSt) (uM : MSt) (x1 : Int32) (x2 : Int32) (x3 : Int32) (Q : Int32 → Prop) (hf : wpX5_isAhead uW uM x1 x2 x3 Q) : Met l yX5_isAhead wsX5_isAhead rmX5_isAhead (va_Pc [.ref (aW 0), .int x1, .int x2, .int x3] (kP D q (wW aW aM q uW ++ wM aM q uM))) (vp_Si Q) 0 0 (fun _ => False) := by
  refine Met.ofW (cc := cX5_isAhead) (maxL := 9) (ret := (some .boolean)) (by decide) rfl ?_
  intro p e s m args below meth c s₁ B hml hv
  obtain ⟨hargs, hP, hK, hD⟩ := hv
  have hx := B.exec
  have hb := B.bytes
  have hr := B.returns
  have hts := atoms_spec (ws := wsX5_isAhead) B.pre
  have hown : s.vm.findClass RX5 = some m.cls := findClass_of_methodNamed B.named
  have hlocks := B.notSynchronized
  refine k_entry hargs (Nat.le_of_ble_eq_true rfl) (fun ls hl => ?_)
  have hl : lv_has ls 9 [(0, .ref (aW 0)), (1, .int x1), (2, .int x2), (3, .int x3)] := hl
  change W p l e rmX5_isAhead s m args below meth c s.heap [] 0 0 (MQ below (vp_Si Q) args s 0 0 (fun _ => False)) _
  unfold wpX5_isAhead at hf
  have hf := hf
    (fun (y4 : Int32) (y5 : Int32) (y6 : Int32) => ∀ (ls : Array Slot), lv_has ls 9 [(0, .ref (aW 0)), (4, .int y4), (5, .int y5), (6, .int y6)] → W p l e rmX5_isAhead s m args below meth c s.heap [] 0 0 (MQ below (vp_Si Q) args s 0 0 (fun _ => False)) (F0 m 23 ls []))
    (by
      intro y4 y5 y6 hf ls hl
      refine lv_iload hx hb dX5_isAhead_23 (lv_at hl 3 rfl) ?_
      refine lv_if_le (tgt := 82) hx hb dX5_isAhead_25 (by decide) (fun c1 => ?_) (fun c1 => ?_)
      · have hf := hf.1 (c1)
        refine lv_iconst (v := 0) hx hb dX5_isAhead_82 (by decide) ?_
        exact k_zret_r (v := 0) hx hb hr rfl hlocks hf dX5_isAhead_83
      · have hf := hf.2 (c1)
        refine lv_aload_n hx hb dX5_isAhead_28 rfl (lv_at hl 0 rfl) ?_
        refine va_get (D := D) (ci := 3) (v := .ref (aM 0)) (C := RX5) (T := TX5) (N := 5) hx hb hts inX5_isAhead_X5 hown hK hP 0 rfl rfl 0 (by decide) (hts (.fieldLink RX5 9 "GrowingText$Words" "machine" "LGrowingText$Machine;") (List.mem_of_getElem? (i := 1) rfl)) (fun _ h9 => h9) rfl dX5_isAhead_29 ?_
        refine lv_iload hx hb dX5_isAhead_32 (lv_at hl 1 rfl) ?_
        refine lv_iload hx hb dX5_isAhead_34 (lv_at hl 3 rfl) ?_
        refine lv_isub hx hb dX5_isAhead_36 ?_
        refine k_si (k_runV (As := [.int (y4 - y6)]) (rest := []) ⟨hx, hb, hml, hown, hts⟩ (cF_X2_letterAt l D q aM uM (y4 - y6)) (cwV 1 hts gX5_isAhead_X2_letterAt rfl rfl rfl cdX2_letterAt ⟨Nat.le_of_ble_eq_true rfl, Nat.le_of_ble_eq_true rfl⟩) hK (kp_r hP) (kd_r hD) 0 rfl rfl rfl hl.1 rfl (Nat.le_of_ble_eq_true rfl) dX5_isAhead_37 ⟨Nat.le_of_ble_eq_true rfl, Nat.le_of_ble_eq_true rfl⟩) (fun r hr => ?_)
        subst hr
        refine lv_istore (lv' := [(7, .int (fX2_letterAt uM (y4 - y6))), (0, .ref (aW 0)), (4, .int y4), (5, .int y5), (6, .int y6)]) hx hb dX5_isAhead_40 hl (by decide) rfl (fun ls hl => ?_)
        refine lv_aload_n hx hb dX5_isAhead_42 rfl (lv_at hl 1 rfl) ?_
        refine va_get (D := D) (ci := 3) (v := .ref (aM 0)) (C := RX5) (T := TX5) (N := 5) hx hb hts inX5_isAhead_X5 hown hK hP 0 rfl rfl 0 (by decide) (hts (.fieldLink RX5 9 "GrowingText$Words" "machine" "LGrowingText$Machine;") (List.mem_of_getElem? (i := 1) rfl)) (fun _ h9 => h9) rfl dX5_isAhead_43 ?_
        refine lv_iload hx hb dX5_isAhead_46 (lv_at hl 3 rfl) ?_
        refine lv_iload hx hb dX5_isAhead_48 (lv_at hl 4 rfl) ?_
        refine lv_isub hx hb dX5_isAhead_50 ?_
        refine k_si (k_runV (As := [.int (y5 - y6)]) (rest := []) ⟨hx, hb, hml, hown, hts⟩ (cF_X2_letterAt l D q aM uM (y5 - y6)) (cwV 1 hts gX5_isAhead_X2_letterAt rfl rfl rfl cdX2_letterAt ⟨Nat.le_of_ble_eq_true rfl, Nat.le_of_ble_eq_true rfl⟩) hK (kp_r hP) (kd_r hD) 0 rfl rfl rfl hl.1 rfl (Nat.le_of_ble_eq_true rfl) dX5_isAhead_51 ⟨Nat.le_of_ble_eq_true rfl, Nat.le_of_ble_eq_true rfl⟩) (fun r hr => ?_)
        subst hr
        refine lv_istore (lv' := [(8, .int (fX2_letterAt uM (y5 - y6))), (7, .int (fX2_letterAt uM (y4 - y6))), (0, .ref (aW 0)), (4, .int y4), (5, .int y5), (6, .int y6)]) hx hb dX5_isAhead_54 hl (by decide) rfl (fun ls hl => ?_)
        refine lv_iload hx hb dX5_isAhead_56 (lv_at hl 1 rfl) ?_
        refine lv_iload hx hb dX5_isAhead_58 (lv_at hl 0 rfl) ?_
        refine lv_icmp_eq (tgt := 76) hx hb dX5_isAhead_60 (by decide) (fun c2 => ?_) (fun c2 => ?_)
        · have hf := hf.1 (c2)
          refine lv_iinc (v := (y6 + (-1))) (lv' := [(6, .int (y6 + (-1))), (8, .int (fX2_letterAt uM (y5 - y6))), (7, .int (fX2_letterAt uM (y4 - y6))), (0, .ref (aW 0)), (4, .int y4), (5, .int y5)]) hx hb dX5_isAhead_76 hl (k := 5) rfl rfl (by decide) rfl (fun ls hl => ?_)
          refine lv_goto (tgt := 23) hx hb dX5_isAhead_79 (by decide) ?_
          exact hf ls (lv_sub hl [3, 4, 5, 0] rfl)
        · have hf := hf.2 (c2)
          refine lv_iload hx hb dX5_isAhead_63 (lv_at hl 1 rfl) ?_
          refine lv_iload hx hb dX5_isAhead_65 (lv_at hl 0 rfl) ?_
          refine lv_icmp_ge (tgt := 74) hx hb dX5_isAhead_67 (by decide) (fun c3 => ?_) (fun c3 => ?_)
          · have hf := hf.1 (c3)
            refine lv_iconst (v := 0) hx hb dX5_isAhead_74 (by decide) ?_
            exact k_zret_r (v := 0) hx hb hr rfl hlocks hf dX5_isAhead_75
          · have hf := hf.2 (c3)
            refine lv_iconst (v := 1) hx hb dX5_isAhead_70 (by decide) ?_
            refine lv_goto (tgt := 75) hx hb dX5_isAhead_71 (by decide) ?_
            exact k_zret_r (v := 1) hx hb hr rfl hlocks hf dX5_isAhead_75)
  refine lv_aload_n hx hb dX5_isAhead_0 rfl (lv_at hl 0 rfl) ?_
  refine va_get (D := D) (ci := 3) (v := .ref (aM 0)) (C := RX5) (T := TX5) (N := 5) hx hb hts inX5_isAhead_X5 hown hK hP 0 rfl rfl 0 (by decide) (hts (.fieldLink RX5 9 "GrowingText$Words" "machine" "LGrowingText$Machine;") (List.mem_of_getElem? (i := 1) rfl)) (fun _ h9 => h9) rfl dX5_isAhead_1 ?_
  refine lv_iload_n hx hb dX5_isAhead_4 rfl (lv_at hl 1 rfl) ?_
  refine k_si (k_runV (As := [.int x1]) (rest := []) ⟨hx, hb, hml, hown, hts⟩ (cF_X2_firstEndOf l D q aM uM x1) (cwV 1 hts gX5_isAhead_X2_firstEndOf rfl rfl rfl cdX2_firstEndOf ⟨Nat.le_of_ble_eq_true rfl, Nat.le_of_ble_eq_true rfl⟩) hK (kp_r hP) (kd_r hD) 0 rfl rfl rfl hl.1 rfl (Nat.le_of_ble_eq_true rfl) dX5_isAhead_5 ⟨Nat.le_of_ble_eq_true rfl, Nat.le_of_ble_eq_true rfl⟩) (fun r hr => ?_)
  subst hr
  refine lv_istore (lv' := [(4, .int (fX2_firstEndOf uM x1)), (0, .ref (aW 0)), (1, .int x1), (2, .int x2), (3, .int x3)]) hx hb dX5_isAhead_8 hl (by decide) rfl (fun ls hl => ?_)
  refine lv_aload_n hx hb dX5_isAhead_10 rfl (lv_at hl 1 rfl) ?_
  refine va_get (D := D) (ci := 3) (v := .ref (aM 0)) (C := RX5) (T := TX5) (N := 5) hx hb hts inX5_isAhead_X5 hown hK hP 0 rfl rfl 0 (by decide) (hts (.fieldLink RX5 9 "GrowingText$Words" "machine" "LGrowingText$Machine;") (List.mem_of_getElem? (i := 1) rfl)) (fun _ h9 => h9) rfl dX5_isAhead_11 ?_
  refine lv_iload_n hx hb dX5_isAhead_14 rfl (lv_at hl 3 rfl) ?_
  refine k_si (k_runV (As := [.int x2]) (rest := []) ⟨hx, hb, hml, hown, hts⟩ (cF_X2_firstEndOf l D q aM uM x2) (cwV 1 hts gX5_isAhead_X2_firstEndOf rfl rfl rfl cdX2_firstEndOf ⟨Nat.le_of_ble_eq_true rfl, Nat.le_of_ble_eq_true rfl⟩) hK (kp_r hP) (kd_r hD) 0 rfl rfl rfl hl.1 rfl (Nat.le_of_ble_eq_true rfl) dX5_isAhead_15 ⟨Nat.le_of_ble_eq_true rfl, Nat.le_of_ble_eq_true rfl⟩) (fun r hr => ?_)
  subst hr
  refine lv_istore (lv' := [(5, .int (fX2_firstEndOf uM x2)), (4, .int (fX2_firstEndOf uM x1)), (0, .ref (aW 0)), (1, .int x1), (2, .int x2), (3, .int x3)]) hx hb dX5_isAhead_18 hl (by decide) rfl (fun ls hl => ?_)
  refine lv_iload_n hx hb dX5_isAhead_20 rfl (lv_at hl 5 rfl) ?_
  refine lv_istore (lv' := [(6, .int x3), (5, .int (fX2_firstEndOf uM x2)), (4, .int (fX2_firstEndOf uM x1)), (0, .ref (aW 0)), (1, .int x1), (2, .int x2), (3, .int x3)]) hx hb dX5_isAhead_21 hl (by decide) rfl (fun ls hl => ?_)
  exact hf ls (lv_sub hl [3, 2, 1, 0] rfl)
def wpX5_longestStateWith (uW : WSt) (uM : MSt) (x1 : Int32) (Q : Int32 → Prop) : Prop :=
  ∀ (X4 : Int32 → Int32 → Prop) (X58 : Int32 → Int32 → Int32 → Int32 → Int32 → Prop) (X86 : Int32 → Prop),
  (∀ (y2 : Int32) (y3 : Int32),
    (((gM_states uM) ≤ y3 →
      Q y2) ∧
    (¬ ((gM_states uM) ≤ y3) →
      ((fJ13_bitCount_95d88 (fX2_endsOf uM y3)) < x1 →
        X58 y2 y3 (fX2_longestOf uM y3) ((fX2_longestOf uM y3) - (fX2_longestOf uM y2)) 0) ∧
      (¬ ((fJ13_bitCount_95d88 (fX2_endsOf uM y3)) < x1) →
        X58 y2 y3 (fX2_longestOf uM y3) ((fX2_longestOf uM y3) - (fX2_longestOf uM y2)) 1))) → X4 y2 y3) →
  (∀ (y2 : Int32) (y3 : Int32) (y4 : Int32) (y5 : Int32) (z0 : Int32),
    ((z0 = 0 →
      X4 y2 (y3 + 1)) ∧
    (¬ (z0 = 0) →
      ((0 : Int32) < y5 →
        X86 y3) ∧
      (¬ ((0 : Int32) < y5) →
        (y5 = 0 →
          wpX5_isAhead uW uM y3 y2 y4 (fun r6 =>
            (r6 = 0 →
              X4 y2 (y3 + 1)) ∧
            (¬ (r6 = 0) →
              X86 y3))) ∧
        (¬ (y5 = 0) →
          X4 y2 (y3 + 1))))) → X58 y2 y3 y4 y5 z0) →
  (∀ (y3 : Int32),
    X4 y3 (y3 + 1) → X86 y3) →
  X4 0 1
def rmX5_longestStateWith : Room := { frames := 4, cells := 0, slots := 0, locals := 93 }
theorem inX5_longestStateWith_X2 : ∀ w ∈ wsX20, w ∈ wsX5_longestStateWith := fun w h => List.mem_cons_of_mem _ (List.mem_append_right _ h)
theorem inX5_longestStateWith_X5 : ∀ w ∈ wsX50, w ∈ wsX5_longestStateWith := fun w h => List.mem_cons_of_mem _ (List.mem_append_left _ (List.mem_append_right _ h))
set_option maxRecDepth 100000 in
set_option maxHeartbeats 4000000 in
theorem c_X5_longestStateWith (l : Launch) (D : va_G) (q : Nat → ClassId) (aW : Nat → Nat) (aM : Nat → Nat) (uW : WSt) (uM : MSt) (x1 : Int32) (Q : Int32 → Prop) (hf : wpX5_longestStateWith uW uM x1 Q) : Met l yX5_longestStateWith wsX5_longestStateWith rmX5_longestStateWith (va_Pc [.ref (aW 0), .int x1] (kP D q (wW aW aM q uW ++ wM aM q uM))) (vp_Si Q) 0 0 (fun _ => False) := by
  refine Met.ofW (cc := cX5_longestStateWith) (maxL := 7) (ret := (some .int)) (by decide) rfl ?_
  intro p e s m args below meth c s₁ B hml hv
  obtain ⟨hargs, hP, hK, hD⟩ := hv
  have hx := B.exec
  have hb := B.bytes
  have hr := B.returns
  have hts := atoms_spec (ws := wsX5_longestStateWith) B.pre
  have hown : s.vm.findClass RX5 = some m.cls := findClass_of_methodNamed B.named
  have hlocks := B.notSynchronized
  refine k_entry hargs (Nat.le_of_ble_eq_true rfl) (fun ls hl => ?_)
  have hl : lv_has ls 7 [(0, .ref (aW 0)), (1, .int x1)] := hl
  change W p l e rmX5_longestStateWith s m args below meth c s.heap [] 0 0 (MQ below (vp_Si Q) args s 0 0 (fun _ => False)) _
  unfold wpX5_longestStateWith at hf
  have hf := hf
    (fun (y2 : Int32) (y3 : Int32) => ∀ (ls : Array Slot), lv_has ls 7 [(0, .ref (aW 0)), (1, .int x1), (2, .int y2), (3, .int y3)] → W p l e rmX5_longestStateWith s m args below meth c s.heap [] 0 0 (MQ below (vp_Si Q) args s 0 0 (fun _ => False)) (F0 m 4 ls []))
    (fun (y2 : Int32) (y3 : Int32) (y4 : Int32) (y5 : Int32) (z0 : Int32) => ∀ (ls : Array Slot), lv_has ls 7 [(0, .ref (aW 0)), (1, .int x1), (2, .int y2), (3, .int y3), (4, .int y4), (5, .int y5)] → W p l e rmX5_longestStateWith s m args below meth c s.heap [] 0 0 (MQ below (vp_Si Q) args s 0 0 (fun _ => False)) (F0 m 58 ls [.int z0]))
    (fun (y3 : Int32) => ∀ (ls : Array Slot), lv_has ls 7 [(0, .ref (aW 0)), (1, .int x1), (3, .int y3)] → W p l e rmX5_longestStateWith s m args below meth c s.heap [] 0 0 (MQ below (vp_Si Q) args s 0 0 (fun _ => False)) (F0 m 86 ls []))
    (by
      intro y2 y3 hf ls hl
      refine lv_iload_n hx hb dX5_longestStateWith_4 rfl (lv_at hl 3 rfl) ?_
      refine lv_aload_n hx hb dX5_longestStateWith_5 rfl (lv_at hl 0 rfl) ?_
      refine va_get (D := D) (ci := 3) (v := .ref (aM 0)) (C := RX5) (T := TX5) (N := 5) hx hb hts inX5_longestStateWith_X5 hown hK hP 0 rfl rfl 0 (by decide) (hts (.fieldLink RX5 9 "GrowingText$Words" "machine" "LGrowingText$Machine;") (List.mem_of_getElem? (i := 1) rfl)) (fun _ h9 => h9) rfl dX5_longestStateWith_6 ?_
      refine va_get (D := D) (ci := 1) (v := .int (gM_states uM)) (C := RX2) (T := TX2) (N := 12) hx hb hts inX5_longestStateWith_X2 hown hK hP 5 rfl rfl 2 (by decide) (hts (.fieldLink RX5 67 "GrowingText$Machine" "states" "I") (List.mem_of_getElem? (i := 2) rfl)) (fun _ h9 => h9) rfl dX5_longestStateWith_9 ?_
      refine lv_icmp_ge (tgt := 94) hx hb dX5_longestStateWith_12 (by decide) (fun c1 => ?_) (fun c1 => ?_)
      · have hf := hf.1 (c1)
        refine lv_iload_n hx hb dX5_longestStateWith_94 rfl (lv_at hl 2 rfl) ?_
        exact k_iret_r (v := y2) hx hb hr hlocks hf dX5_longestStateWith_95
      · have hf := hf.2 (c1)
        refine lv_aload_n hx hb dX5_longestStateWith_15 rfl (lv_at hl 0 rfl) ?_
        refine va_get (D := D) (ci := 3) (v := .ref (aM 0)) (C := RX5) (T := TX5) (N := 5) hx hb hts inX5_longestStateWith_X5 hown hK hP 0 rfl rfl 0 (by decide) (hts (.fieldLink RX5 9 "GrowingText$Words" "machine" "LGrowingText$Machine;") (List.mem_of_getElem? (i := 1) rfl)) (fun _ h9 => h9) rfl dX5_longestStateWith_16 ?_
        refine lv_iload_n hx hb dX5_longestStateWith_19 rfl (lv_at hl 3 rfl) ?_
        refine k_si (k_runV (As := [.int y3]) (rest := []) ⟨hx, hb, hml, hown, hts⟩ (cF_X2_longestOf l D q aM uM y3) (cwV 1 hts gX5_longestStateWith_X2_longestOf rfl rfl rfl cdX2_longestOf ⟨Nat.le_of_ble_eq_true rfl, Nat.le_of_ble_eq_true rfl⟩) hK (kp_r hP) (kd_r hD) 0 rfl rfl rfl hl.1 rfl (Nat.le_of_ble_eq_true rfl) dX5_longestStateWith_20 ⟨Nat.le_of_ble_eq_true rfl, Nat.le_of_ble_eq_true rfl⟩) (fun r hr => ?_)
        subst hr
        refine lv_istore (lv' := [(4, .int (fX2_longestOf uM y3)), (0, .ref (aW 0)), (1, .int x1), (2, .int y2), (3, .int y3)]) hx hb dX5_longestStateWith_23 hl (by decide) rfl (fun ls hl => ?_)
        refine lv_iload hx hb dX5_longestStateWith_25 (lv_at hl 0 rfl) ?_
        refine lv_aload_n hx hb dX5_longestStateWith_27 rfl (lv_at hl 1 rfl) ?_
        refine va_get (D := D) (ci := 3) (v := .ref (aM 0)) (C := RX5) (T := TX5) (N := 5) hx hb hts inX5_longestStateWith_X5 hown hK hP 0 rfl rfl 0 (by decide) (hts (.fieldLink RX5 9 "GrowingText$Words" "machine" "LGrowingText$Machine;") (List.mem_of_getElem? (i := 1) rfl)) (fun _ h9 => h9) rfl dX5_longestStateWith_28 ?_
        refine lv_iload_n hx hb dX5_longestStateWith_31 rfl (lv_at hl 3 rfl) ?_
        refine k_si (k_runV (As := [.int y2]) (rest := [.int (fX2_longestOf uM y3)]) ⟨hx, hb, hml, hown, hts⟩ (cF_X2_longestOf l D q aM uM y2) (cwV 1 hts gX5_longestStateWith_X2_longestOf rfl rfl rfl cdX2_longestOf ⟨Nat.le_of_ble_eq_true rfl, Nat.le_of_ble_eq_true rfl⟩) hK (kp_r hP) (kd_r hD) 0 rfl rfl rfl hl.1 rfl (Nat.le_of_ble_eq_true rfl) dX5_longestStateWith_32 ⟨Nat.le_of_ble_eq_true rfl, Nat.le_of_ble_eq_true rfl⟩) (fun r hr => ?_)
        subst hr
        refine lv_isub hx hb dX5_longestStateWith_35 ?_
        refine lv_istore (lv' := [(5, .int ((fX2_longestOf uM y3) - (fX2_longestOf uM y2))), (4, .int (fX2_longestOf uM y3)), (0, .ref (aW 0)), (1, .int x1), (2, .int y2), (3, .int y3)]) hx hb dX5_longestStateWith_36 hl (by decide) rfl (fun ls hl => ?_)
        refine lv_aload_n hx hb dX5_longestStateWith_38 rfl (lv_at hl 2 rfl) ?_
        refine va_get (D := D) (ci := 3) (v := .ref (aM 0)) (C := RX5) (T := TX5) (N := 5) hx hb hts inX5_longestStateWith_X5 hown hK hP 0 rfl rfl 0 (by decide) (hts (.fieldLink RX5 9 "GrowingText$Words" "machine" "LGrowingText$Machine;") (List.mem_of_getElem? (i := 1) rfl)) (fun _ h9 => h9) rfl dX5_longestStateWith_39 ?_
        refine lv_iload_n hx hb dX5_longestStateWith_42 rfl (lv_at hl 5 rfl) ?_
        refine k_sl (k_runV (As := [.int y3]) (rest := []) ⟨hx, hb, hml, hown, hts⟩ (cF_X2_endsOf l D q aM uM y3) (cwV 1 hts gX5_longestStateWith_X2_endsOf rfl rfl rfl cdX2_endsOf ⟨Nat.le_of_ble_eq_true rfl, Nat.le_of_ble_eq_true rfl⟩) hK (kp_r hP) (kd_r hD) 0 rfl rfl rfl hl.1 rfl (Nat.le_of_ble_eq_true rfl) dX5_longestStateWith_43 ⟨Nat.le_of_ble_eq_true rfl, Nat.le_of_ble_eq_true rfl⟩) (fun r hr => ?_)
        subst hr
        refine k_si (k_runS (As := [.long (fX2_endsOf uM y3)]) (rest := []) ⟨hx, hb, hml, hown, hts⟩ (cF_J13_bitCount_95d88 l D q (fX2_endsOf uM y3)) (va_cwS 1 hts gX5_longestStateWith_J13_bitCount_95d88 rfl rfl rfl cdJ13_bitCount_95d88 ⟨Nat.le_of_ble_eq_true rfl, Nat.le_of_ble_eq_true rfl⟩) hK k_nilP k_nilD rfl hl.1 rfl (Nat.le_of_ble_eq_true rfl) dX5_longestStateWith_46 ⟨Nat.le_of_ble_eq_true rfl, Nat.le_of_ble_eq_true rfl⟩) (fun r hr => ?_)
        subst hr
        refine lv_iload_n hx hb dX5_longestStateWith_49 rfl (lv_at hl 3 rfl) ?_
        refine lv_icmp_lt (tgt := 57) hx hb dX5_longestStateWith_50 (by decide) (fun c2 => ?_) (fun c2 => ?_)
        · have hf := hf.1 (c2)
          refine lv_iconst (v := 0) hx hb dX5_longestStateWith_57 (by decide) ?_
          exact hf ls (lv_sub hl [2, 3, 4, 5, 1, 0] rfl)
        · have hf := hf.2 (c2)
          refine lv_iconst (v := 1) hx hb dX5_longestStateWith_53 (by decide) ?_
          refine lv_goto (tgt := 58) hx hb dX5_longestStateWith_54 (by decide) ?_
          exact hf ls (lv_sub hl [2, 3, 4, 5, 1, 0] rfl))
    (by
      intro y2 y3 y4 y5 z0 hf ls hl
      refine lv_istore (lv' := [(6, .int z0), (0, .ref (aW 0)), (1, .int x1), (2, .int y2), (3, .int y3), (4, .int y4), (5, .int y5)]) hx hb dX5_longestStateWith_58 hl (by decide) rfl (fun ls hl => ?_)
      refine lv_iload hx hb dX5_longestStateWith_60 (lv_at hl 0 rfl) ?_
      refine lv_if_eq (tgt := 88) hx hb dX5_longestStateWith_62 (by decide) (fun c3 => ?_) (fun c3 => ?_)
      · have hf := hf.1 (c3)
        refine lv_iinc (v := (y3 + 1)) (lv' := [(3, .int (y3 + 1)), (6, .int z0), (0, .ref (aW 0)), (1, .int x1), (2, .int y2), (4, .int y4), (5, .int y5)]) hx hb dX5_longestStateWith_88 hl (k := 4) rfl rfl (by decide) rfl (fun ls hl => ?_)
        refine lv_goto (tgt := 4) hx hb dX5_longestStateWith_91 (by decide) ?_
        exact hf ls (lv_sub hl [2, 3, 4, 0] rfl)
      · have hf := hf.2 (c3)
        refine lv_iload hx hb dX5_longestStateWith_65 (lv_at hl 6 rfl) ?_
        refine lv_if_gt (tgt := 86) hx hb dX5_longestStateWith_67 (by decide) (fun c4 => ?_) (fun c4 => ?_)
        · have hf := hf.1 (c4)
          exact hf ls (lv_sub hl [1, 2, 4] rfl)
        · have hf := hf.2 (c4)
          refine lv_iload hx hb dX5_longestStateWith_70 (lv_at hl 6 rfl) ?_
          refine lv_if_ne (tgt := 88) hx hb dX5_longestStateWith_72 (by decide) (fun c5 => ?_) (fun c5 => ?_)
          · have hf := hf.2 (c5)
            refine lv_iinc (v := (y3 + 1)) (lv' := [(3, .int (y3 + 1)), (6, .int z0), (0, .ref (aW 0)), (1, .int x1), (2, .int y2), (4, .int y4), (5, .int y5)]) hx hb dX5_longestStateWith_88 hl (k := 4) rfl rfl (by decide) rfl (fun ls hl => ?_)
            refine lv_goto (tgt := 4) hx hb dX5_longestStateWith_91 (by decide) ?_
            exact hf ls (lv_sub hl [2, 3, 4, 0] rfl)
          · have hf := hf.1 (c5)
            refine lv_aload_n hx hb dX5_longestStateWith_75 rfl (lv_at hl 1 rfl) ?_
            refine lv_iload_n hx hb dX5_longestStateWith_76 rfl (lv_at hl 4 rfl) ?_
            refine lv_iload_n hx hb dX5_longestStateWith_77 rfl (lv_at hl 3 rfl) ?_
            refine lv_iload hx hb dX5_longestStateWith_78 (lv_at hl 5 rfl) ?_
            refine k_si (k_runV (As := [.int y3, .int y2, .int y4]) (rest := []) ⟨hx, hb, hml, hown, hts⟩ (c_X5_isAhead l D q aW aM uW uM y3 y2 y4 _ hf) (cwV 3 hts gX5_longestStateWith_X5_isAhead rfl rfl rfl cdX5_isAhead ⟨Nat.le_of_ble_eq_true rfl, Nat.le_of_ble_eq_true rfl⟩) hK hP hD 0 rfl rfl rfl hl.1 rfl (Nat.le_of_ble_eq_true rfl) dX5_longestStateWith_80 ⟨Nat.le_of_ble_eq_true rfl, Nat.le_of_ble_eq_true rfl⟩) (fun r6 hf => ?_)
            refine lv_if_eq (tgt := 88) hx hb dX5_longestStateWith_83 (by decide) (fun c7 => ?_) (fun c7 => ?_)
            · have hf := hf.1 (c7)
              refine lv_iinc (v := (y3 + 1)) (lv' := [(3, .int (y3 + 1)), (6, .int z0), (0, .ref (aW 0)), (1, .int x1), (2, .int y2), (4, .int y4), (5, .int y5)]) hx hb dX5_longestStateWith_88 hl (k := 4) rfl rfl (by decide) rfl (fun ls hl => ?_)
              refine lv_goto (tgt := 4) hx hb dX5_longestStateWith_91 (by decide) ?_
              exact hf ls (lv_sub hl [2, 3, 4, 0] rfl)
            · have hf := hf.2 (c7)
              exact hf ls (lv_sub hl [1, 2, 4] rfl))
    (by
      intro y3 hf ls hl
      refine lv_iload_n hx hb dX5_longestStateWith_86 rfl (lv_at hl 2 rfl) ?_
      refine lv_istore_n (lv' := [(2, .int y3), (0, .ref (aW 0)), (1, .int x1), (3, .int y3)]) hx hb dX5_longestStateWith_87 rfl hl (by decide) rfl (fun ls hl => ?_)
      refine lv_iinc (v := (y3 + 1)) (lv' := [(3, .int (y3 + 1)), (2, .int y3), (0, .ref (aW 0)), (1, .int x1)]) hx hb dX5_longestStateWith_88 hl (k := 3) rfl rfl (by decide) rfl (fun ls hl => ?_)
      refine lv_goto (tgt := 4) hx hb dX5_longestStateWith_91 (by decide) ?_
      exact hf ls (lv_sub hl [2, 3, 1, 0] rfl))
  refine lv_iconst (v := 0) hx hb dX5_longestStateWith_0 (by decide) ?_
  refine lv_istore_n (lv' := [(2, .int 0), (0, .ref (aW 0)), (1, .int x1)]) hx hb dX5_longestStateWith_1 rfl hl (by decide) rfl (fun ls hl => ?_)
  refine lv_iconst (v := 1) hx hb dX5_longestStateWith_2 (by decide) ?_
  refine lv_istore_n (lv' := [(3, .int 1), (2, .int 0), (0, .ref (aW 0)), (1, .int x1)]) hx hb dX5_longestStateWith_3 rfl hl (by decide) rfl (fun ls hl => ?_)
  exact hf ls (lv_sub hl [2, 3, 1, 0] rfl)
def wpX5_shortestStateAlone (uW : WSt) (uM : MSt) (Q : Int32 → Prop) : Prop :=
  ∀ (X10 : Int32 → Int32 → Prop) (X62 : Int32 → Int32 → Int32 → Int32 → Int32 → Prop) (X89 : Int32 → Prop),
  (∀ (y1 : Int32) (y2 : Int32),
    (((gM_states uM) ≤ y2 →
      Q y1) ∧
    (¬ ((gM_states uM) ≤ y2) →
      ((fJ13_bitCount_95d88 (fX2_endsOf uM y2)) = 1 →
        X62 y1 y2 (fX2_shortestOf uM y2) ((fX2_shortestOf uM y2) - (fX2_shortestOf uM y1)) 1) ∧
      (¬ ((fJ13_bitCount_95d88 (fX2_endsOf uM y2)) = 1) →
        X62 y1 y2 (fX2_shortestOf uM y2) ((fX2_shortestOf uM y2) - (fX2_shortestOf uM y1)) 0))) → X10 y1 y2) →
  (∀ (y1 : Int32) (y2 : Int32) (y3 : Int32) (y4 : Int32) (z0 : Int32),
    ((z0 = 0 →
      X10 y1 (y2 + 1)) ∧
    (¬ (z0 = 0) →
      (y4 < 0 →
        X89 y2) ∧
      (¬ (y4 < 0) →
        (y4 = 0 →
          wpX5_isAhead uW uM y2 y1 y3 (fun r6 =>
            (r6 = 0 →
              X10 y1 (y2 + 1)) ∧
            (¬ (r6 = 0) →
              X89 y2))) ∧
        (¬ (y4 = 0) →
          X10 y1 (y2 + 1))))) → X62 y1 y2 y3 y4 z0) →
  (∀ (y2 : Int32),
    X10 y2 (y2 + 1) → X89 y2) →
  X10 (fX2_lastState uM) 0
def rmX5_shortestStateAlone : Room := { frames := 4, cells := 0, slots := 0, locals := 93 }
theorem inX5_shortestStateAlone_X2 : ∀ w ∈ wsX20, w ∈ wsX5_shortestStateAlone := fun w h => List.mem_cons_of_mem _ (List.mem_append_right _ h)
theorem inX5_shortestStateAlone_X5 : ∀ w ∈ wsX50, w ∈ wsX5_shortestStateAlone := fun w h => List.mem_cons_of_mem _ (List.mem_append_left _ (List.mem_append_right _ h))
set_option maxRecDepth 100000 in
set_option maxHeartbeats 4000000 in
theorem c_X5_shortestStateAlone (l : Launch) (D : va_G) (q : Nat → ClassId) (aW : Nat → Nat) (aM : Nat → Nat) (uW : WSt) (uM : MSt) (Q : Int32 → Prop) (hf : wpX5_shortestStateAlone uW uM Q) : Met l yX5_shortestStateAlone wsX5_shortestStateAlone rmX5_shortestStateAlone (va_Pc [.ref (aW 0)] (kP D q (wW aW aM q uW ++ wM aM q uM))) (vp_Si Q) 0 0 (fun _ => False) := by
  refine Met.ofW (cc := cX5_shortestStateAlone) (maxL := 6) (ret := (some .int)) (by decide) rfl ?_
  intro p e s m args below meth c s₁ B hml hv
  obtain ⟨hargs, hP, hK, hD⟩ := hv
  have hx := B.exec
  have hb := B.bytes
  have hr := B.returns
  have hts := atoms_spec (ws := wsX5_shortestStateAlone) B.pre
  have hown : s.vm.findClass RX5 = some m.cls := findClass_of_methodNamed B.named
  have hlocks := B.notSynchronized
  refine k_entry hargs (Nat.le_of_ble_eq_true rfl) (fun ls hl => ?_)
  have hl : lv_has ls 6 [(0, .ref (aW 0))] := hl
  change W p l e rmX5_shortestStateAlone s m args below meth c s.heap [] 0 0 (MQ below (vp_Si Q) args s 0 0 (fun _ => False)) _
  unfold wpX5_shortestStateAlone at hf
  have hf := hf
    (fun (y1 : Int32) (y2 : Int32) => ∀ (ls : Array Slot), lv_has ls 6 [(0, .ref (aW 0)), (1, .int y1), (2, .int y2)] → W p l e rmX5_shortestStateAlone s m args below meth c s.heap [] 0 0 (MQ below (vp_Si Q) args s 0 0 (fun _ => False)) (F0 m 10 ls []))
    (fun (y1 : Int32) (y2 : Int32) (y3 : Int32) (y4 : Int32) (z0 : Int32) => ∀ (ls : Array Slot), lv_has ls 6 [(0, .ref (aW 0)), (1, .int y1), (2, .int y2), (3, .int y3), (4, .int y4)] → W p l e rmX5_shortestStateAlone s m args below meth c s.heap [] 0 0 (MQ below (vp_Si Q) args s 0 0 (fun _ => False)) (F0 m 62 ls [.int z0]))
    (fun (y2 : Int32) => ∀ (ls : Array Slot), lv_has ls 6 [(0, .ref (aW 0)), (2, .int y2)] → W p l e rmX5_shortestStateAlone s m args below meth c s.heap [] 0 0 (MQ below (vp_Si Q) args s 0 0 (fun _ => False)) (F0 m 89 ls []))
    (by
      intro y1 y2 hf ls hl
      refine lv_iload_n hx hb dX5_shortestStateAlone_10 rfl (lv_at hl 2 rfl) ?_
      refine lv_aload_n hx hb dX5_shortestStateAlone_11 rfl (lv_at hl 0 rfl) ?_
      refine va_get (D := D) (ci := 3) (v := .ref (aM 0)) (C := RX5) (T := TX5) (N := 5) hx hb hts inX5_shortestStateAlone_X5 hown hK hP 0 rfl rfl 0 (by decide) (hts (.fieldLink RX5 9 "GrowingText$Words" "machine" "LGrowingText$Machine;") (List.mem_of_getElem? (i := 1) rfl)) (fun _ h9 => h9) rfl dX5_shortestStateAlone_12 ?_
      refine va_get (D := D) (ci := 1) (v := .int (gM_states uM)) (C := RX2) (T := TX2) (N := 12) hx hb hts inX5_shortestStateAlone_X2 hown hK hP 5 rfl rfl 2 (by decide) (hts (.fieldLink RX5 67 "GrowingText$Machine" "states" "I") (List.mem_of_getElem? (i := 2) rfl)) (fun _ h9 => h9) rfl dX5_shortestStateAlone_15 ?_
      refine lv_icmp_ge (tgt := 97) hx hb dX5_shortestStateAlone_18 (by decide) (fun c1 => ?_) (fun c1 => ?_)
      · have hf := hf.1 (c1)
        refine lv_iload_n hx hb dX5_shortestStateAlone_97 rfl (lv_at hl 1 rfl) ?_
        exact k_iret_r (v := y1) hx hb hr hlocks hf dX5_shortestStateAlone_98
      · have hf := hf.2 (c1)
        refine lv_aload_n hx hb dX5_shortestStateAlone_21 rfl (lv_at hl 0 rfl) ?_
        refine va_get (D := D) (ci := 3) (v := .ref (aM 0)) (C := RX5) (T := TX5) (N := 5) hx hb hts inX5_shortestStateAlone_X5 hown hK hP 0 rfl rfl 0 (by decide) (hts (.fieldLink RX5 9 "GrowingText$Words" "machine" "LGrowingText$Machine;") (List.mem_of_getElem? (i := 1) rfl)) (fun _ h9 => h9) rfl dX5_shortestStateAlone_22 ?_
        refine lv_iload_n hx hb dX5_shortestStateAlone_25 rfl (lv_at hl 2 rfl) ?_
        refine k_si (k_runV (As := [.int y2]) (rest := []) ⟨hx, hb, hml, hown, hts⟩ (cF_X2_shortestOf l D q aM uM y2) (cwV 1 hts gX5_shortestStateAlone_X2_shortestOf rfl rfl rfl cdX2_shortestOf ⟨Nat.le_of_ble_eq_true rfl, Nat.le_of_ble_eq_true rfl⟩) hK (kp_r hP) (kd_r hD) 0 rfl rfl rfl hl.1 rfl (Nat.le_of_ble_eq_true rfl) dX5_shortestStateAlone_26 ⟨Nat.le_of_ble_eq_true rfl, Nat.le_of_ble_eq_true rfl⟩) (fun r hr => ?_)
        subst hr
        refine lv_istore_n (lv' := [(3, .int (fX2_shortestOf uM y2)), (0, .ref (aW 0)), (1, .int y1), (2, .int y2)]) hx hb dX5_shortestStateAlone_29 rfl hl (by decide) rfl (fun ls hl => ?_)
        refine lv_iload_n hx hb dX5_shortestStateAlone_30 rfl (lv_at hl 0 rfl) ?_
        refine lv_aload_n hx hb dX5_shortestStateAlone_31 rfl (lv_at hl 1 rfl) ?_
        refine va_get (D := D) (ci := 3) (v := .ref (aM 0)) (C := RX5) (T := TX5) (N := 5) hx hb hts inX5_shortestStateAlone_X5 hown hK hP 0 rfl rfl 0 (by decide) (hts (.fieldLink RX5 9 "GrowingText$Words" "machine" "LGrowingText$Machine;") (List.mem_of_getElem? (i := 1) rfl)) (fun _ h9 => h9) rfl dX5_shortestStateAlone_32 ?_
        refine lv_iload_n hx hb dX5_shortestStateAlone_35 rfl (lv_at hl 2 rfl) ?_
        refine k_si (k_runV (As := [.int y1]) (rest := [.int (fX2_shortestOf uM y2)]) ⟨hx, hb, hml, hown, hts⟩ (cF_X2_shortestOf l D q aM uM y1) (cwV 1 hts gX5_shortestStateAlone_X2_shortestOf rfl rfl rfl cdX2_shortestOf ⟨Nat.le_of_ble_eq_true rfl, Nat.le_of_ble_eq_true rfl⟩) hK (kp_r hP) (kd_r hD) 0 rfl rfl rfl hl.1 rfl (Nat.le_of_ble_eq_true rfl) dX5_shortestStateAlone_36 ⟨Nat.le_of_ble_eq_true rfl, Nat.le_of_ble_eq_true rfl⟩) (fun r hr => ?_)
        subst hr
        refine lv_isub hx hb dX5_shortestStateAlone_39 ?_
        refine lv_istore (lv' := [(4, .int ((fX2_shortestOf uM y2) - (fX2_shortestOf uM y1))), (3, .int (fX2_shortestOf uM y2)), (0, .ref (aW 0)), (1, .int y1), (2, .int y2)]) hx hb dX5_shortestStateAlone_40 hl (by decide) rfl (fun ls hl => ?_)
        refine lv_aload_n hx hb dX5_shortestStateAlone_42 rfl (lv_at hl 2 rfl) ?_
        refine va_get (D := D) (ci := 3) (v := .ref (aM 0)) (C := RX5) (T := TX5) (N := 5) hx hb hts inX5_shortestStateAlone_X5 hown hK hP 0 rfl rfl 0 (by decide) (hts (.fieldLink RX5 9 "GrowingText$Words" "machine" "LGrowingText$Machine;") (List.mem_of_getElem? (i := 1) rfl)) (fun _ h9 => h9) rfl dX5_shortestStateAlone_43 ?_
        refine lv_iload_n hx hb dX5_shortestStateAlone_46 rfl (lv_at hl 4 rfl) ?_
        refine k_sl (k_runV (As := [.int y2]) (rest := []) ⟨hx, hb, hml, hown, hts⟩ (cF_X2_endsOf l D q aM uM y2) (cwV 1 hts gX5_shortestStateAlone_X2_endsOf rfl rfl rfl cdX2_endsOf ⟨Nat.le_of_ble_eq_true rfl, Nat.le_of_ble_eq_true rfl⟩) hK (kp_r hP) (kd_r hD) 0 rfl rfl rfl hl.1 rfl (Nat.le_of_ble_eq_true rfl) dX5_shortestStateAlone_47 ⟨Nat.le_of_ble_eq_true rfl, Nat.le_of_ble_eq_true rfl⟩) (fun r hr => ?_)
        subst hr
        refine k_si (k_runS (As := [.long (fX2_endsOf uM y2)]) (rest := []) ⟨hx, hb, hml, hown, hts⟩ (cF_J13_bitCount_95d88 l D q (fX2_endsOf uM y2)) (va_cwS 1 hts gX5_shortestStateAlone_J13_bitCount_95d88 rfl rfl rfl cdJ13_bitCount_95d88 ⟨Nat.le_of_ble_eq_true rfl, Nat.le_of_ble_eq_true rfl⟩) hK k_nilP k_nilD rfl hl.1 rfl (Nat.le_of_ble_eq_true rfl) dX5_shortestStateAlone_50 ⟨Nat.le_of_ble_eq_true rfl, Nat.le_of_ble_eq_true rfl⟩) (fun r hr => ?_)
        subst hr
        refine lv_iconst (v := 1) hx hb dX5_shortestStateAlone_53 (by decide) ?_
        refine lv_icmp_ne (tgt := 61) hx hb dX5_shortestStateAlone_54 (by decide) (fun c2 => ?_) (fun c2 => ?_)
        · have hf := hf.2 (c2)
          refine lv_iconst (v := 0) hx hb dX5_shortestStateAlone_61 (by decide) ?_
          exact hf ls (lv_sub hl [2, 3, 4, 1, 0] rfl)
        · have hf := hf.1 (c2)
          refine lv_iconst (v := 1) hx hb dX5_shortestStateAlone_57 (by decide) ?_
          refine lv_goto (tgt := 62) hx hb dX5_shortestStateAlone_58 (by decide) ?_
          exact hf ls (lv_sub hl [2, 3, 4, 1, 0] rfl))
    (by
      intro y1 y2 y3 y4 z0 hf ls hl
      refine lv_istore (lv' := [(5, .int z0), (0, .ref (aW 0)), (1, .int y1), (2, .int y2), (3, .int y3), (4, .int y4)]) hx hb dX5_shortestStateAlone_62 hl (by decide) rfl (fun ls hl => ?_)
      refine lv_iload hx hb dX5_shortestStateAlone_64 (lv_at hl 0 rfl) ?_
      refine lv_if_eq (tgt := 91) hx hb dX5_shortestStateAlone_66 (by decide) (fun c3 => ?_) (fun c3 => ?_)
      · have hf := hf.1 (c3)
        refine lv_iinc (v := (y2 + 1)) (lv' := [(2, .int (y2 + 1)), (5, .int z0), (0, .ref (aW 0)), (1, .int y1), (3, .int y3), (4, .int y4)]) hx hb dX5_shortestStateAlone_91 hl (k := 3) rfl rfl (by decide) rfl (fun ls hl => ?_)
        refine lv_goto (tgt := 10) hx hb dX5_shortestStateAlone_94 (by decide) ?_
        exact hf ls (lv_sub hl [2, 3, 0] rfl)
      · have hf := hf.2 (c3)
        refine lv_iload hx hb dX5_shortestStateAlone_69 (lv_at hl 5 rfl) ?_
        refine lv_if_lt (tgt := 89) hx hb dX5_shortestStateAlone_71 (by decide) (fun c4 => ?_) (fun c4 => ?_)
        · have hf := hf.1 (c4)
          exact hf ls (lv_sub hl [1, 3] rfl)
        · have hf := hf.2 (c4)
          refine lv_iload hx hb dX5_shortestStateAlone_74 (lv_at hl 5 rfl) ?_
          refine lv_if_ne (tgt := 91) hx hb dX5_shortestStateAlone_76 (by decide) (fun c5 => ?_) (fun c5 => ?_)
          · have hf := hf.2 (c5)
            refine lv_iinc (v := (y2 + 1)) (lv' := [(2, .int (y2 + 1)), (5, .int z0), (0, .ref (aW 0)), (1, .int y1), (3, .int y3), (4, .int y4)]) hx hb dX5_shortestStateAlone_91 hl (k := 3) rfl rfl (by decide) rfl (fun ls hl => ?_)
            refine lv_goto (tgt := 10) hx hb dX5_shortestStateAlone_94 (by decide) ?_
            exact hf ls (lv_sub hl [2, 3, 0] rfl)
          · have hf := hf.1 (c5)
            refine lv_aload_n hx hb dX5_shortestStateAlone_79 rfl (lv_at hl 1 rfl) ?_
            refine lv_iload_n hx hb dX5_shortestStateAlone_80 rfl (lv_at hl 3 rfl) ?_
            refine lv_iload_n hx hb dX5_shortestStateAlone_81 rfl (lv_at hl 2 rfl) ?_
            refine lv_iload_n hx hb dX5_shortestStateAlone_82 rfl (lv_at hl 4 rfl) ?_
            refine k_si (k_runV (As := [.int y2, .int y1, .int y3]) (rest := []) ⟨hx, hb, hml, hown, hts⟩ (c_X5_isAhead l D q aW aM uW uM y2 y1 y3 _ hf) (cwV 3 hts gX5_shortestStateAlone_X5_isAhead rfl rfl rfl cdX5_isAhead ⟨Nat.le_of_ble_eq_true rfl, Nat.le_of_ble_eq_true rfl⟩) hK hP hD 0 rfl rfl rfl hl.1 rfl (Nat.le_of_ble_eq_true rfl) dX5_shortestStateAlone_83 ⟨Nat.le_of_ble_eq_true rfl, Nat.le_of_ble_eq_true rfl⟩) (fun r6 hf => ?_)
            refine lv_if_eq (tgt := 91) hx hb dX5_shortestStateAlone_86 (by decide) (fun c7 => ?_) (fun c7 => ?_)
            · have hf := hf.1 (c7)
              refine lv_iinc (v := (y2 + 1)) (lv' := [(2, .int (y2 + 1)), (5, .int z0), (0, .ref (aW 0)), (1, .int y1), (3, .int y3), (4, .int y4)]) hx hb dX5_shortestStateAlone_91 hl (k := 3) rfl rfl (by decide) rfl (fun ls hl => ?_)
              refine lv_goto (tgt := 10) hx hb dX5_shortestStateAlone_94 (by decide) ?_
              exact hf ls (lv_sub hl [2, 3, 0] rfl)
            · have hf := hf.2 (c7)
              exact hf ls (lv_sub hl [1, 3] rfl))
    (by
      intro y2 hf ls hl
      refine lv_iload_n hx hb dX5_shortestStateAlone_89 rfl (lv_at hl 1 rfl) ?_
      refine lv_istore_n (lv' := [(1, .int y2), (0, .ref (aW 0)), (2, .int y2)]) hx hb dX5_shortestStateAlone_90 rfl hl (by decide) rfl (fun ls hl => ?_)
      refine lv_iinc (v := (y2 + 1)) (lv' := [(2, .int (y2 + 1)), (1, .int y2), (0, .ref (aW 0))]) hx hb dX5_shortestStateAlone_91 hl (k := 2) rfl rfl (by decide) rfl (fun ls hl => ?_)
      refine lv_goto (tgt := 10) hx hb dX5_shortestStateAlone_94 (by decide) ?_
      exact hf ls (lv_sub hl [2, 1, 0] rfl))
  refine lv_aload_n hx hb dX5_shortestStateAlone_0 rfl (lv_at hl 0 rfl) ?_
  refine va_get (D := D) (ci := 3) (v := .ref (aM 0)) (C := RX5) (T := TX5) (N := 5) hx hb hts inX5_shortestStateAlone_X5 hown hK hP 0 rfl rfl 0 (by decide) (hts (.fieldLink RX5 9 "GrowingText$Words" "machine" "LGrowingText$Machine;") (List.mem_of_getElem? (i := 1) rfl)) (fun _ h9 => h9) rfl dX5_shortestStateAlone_1 ?_
  refine k_si (k_runV (As := []) (rest := []) ⟨hx, hb, hml, hown, hts⟩ (cF_X2_lastState l D q aM uM) (cwV 0 hts gX5_shortestStateAlone_X2_lastState rfl rfl rfl cdX2_lastState ⟨Nat.le_of_ble_eq_true rfl, Nat.le_of_ble_eq_true rfl⟩) hK (kp_r hP) (kd_r hD) 0 rfl rfl rfl hl.1 rfl (Nat.le_of_ble_eq_true rfl) dX5_shortestStateAlone_4 ⟨Nat.le_of_ble_eq_true rfl, Nat.le_of_ble_eq_true rfl⟩) (fun r hr => ?_)
  subst hr
  refine lv_istore_n (lv' := [(1, .int (fX2_lastState uM)), (0, .ref (aW 0))]) hx hb dX5_shortestStateAlone_7 rfl hl (by decide) rfl (fun ls hl => ?_)
  refine lv_iconst (v := 0) hx hb dX5_shortestStateAlone_8 (by decide) ?_
  refine lv_istore_n (lv' := [(2, .int 0), (1, .int (fX2_lastState uM)), (0, .ref (aW 0))]) hx hb dX5_shortestStateAlone_9 rfl hl (by decide) rfl (fun ls hl => ?_)
  exact hf ls (lv_sub hl [2, 1, 0] rfl)
def wpX5_beginsText (uW : WSt) (uM : MSt) (x1 : Int32) (Q : Int32 → Prop) : Prop :=
  (((fX2_firstEndOf uM x1) = (fX2_longestOf uM x1) →
    Q 1) ∧
  (¬ ((fX2_firstEndOf uM x1) = (fX2_longestOf uM x1)) →
    Q 0))
def rmX5_beginsText : Room := { frames := 3, cells := 0, slots := 0, locals := 65 }
theorem inX5_beginsText_X5 : ∀ w ∈ wsX50, w ∈ wsX5_beginsText := fun w h => List.mem_cons_of_mem _ (List.mem_append_left _ (List.mem_append_right _ h))
set_option maxRecDepth 100000 in
set_option maxHeartbeats 4000000 in
theorem c_X5_beginsText (l : Launch) (D : va_G) (q : Nat → ClassId) (aW : Nat → Nat) (aM : Nat → Nat) (uW : WSt) (uM : MSt) (x1 : Int32) (Q : Int32 → Prop) (hf : wpX5_beginsText uW uM x1 Q) : Met l yX5_beginsText wsX5_beginsText rmX5_beginsText (va_Pc [.ref (aW 0), .int x1] (kP D q (wW aW aM q uW ++ wM aM q uM))) (vp_Si Q) 0 0 (fun _ => False) := by
  refine Met.ofW (cc := cX5_beginsText) (maxL := 2) (ret := (some .boolean)) (by decide) rfl ?_
  intro p e s m args below meth c s₁ B hml hv
  obtain ⟨hargs, hP, hK, hD⟩ := hv
  have hx := B.exec
  have hb := B.bytes
  have hr := B.returns
  have hts := atoms_spec (ws := wsX5_beginsText) B.pre
  have hown : s.vm.findClass RX5 = some m.cls := findClass_of_methodNamed B.named
  have hlocks := B.notSynchronized
  refine k_entry hargs (Nat.le_of_ble_eq_true rfl) (fun ls hl => ?_)
  have hl : lv_has ls 2 [(0, .ref (aW 0)), (1, .int x1)] := hl
  change W p l e rmX5_beginsText s m args below meth c s.heap [] 0 0 (MQ below (vp_Si Q) args s 0 0 (fun _ => False)) _
  unfold wpX5_beginsText at hf
  refine lv_aload_n hx hb dX5_beginsText_0 rfl (lv_at hl 0 rfl) ?_
  refine va_get (D := D) (ci := 3) (v := .ref (aM 0)) (C := RX5) (T := TX5) (N := 5) hx hb hts inX5_beginsText_X5 hown hK hP 0 rfl rfl 0 (by decide) (hts (.fieldLink RX5 9 "GrowingText$Words" "machine" "LGrowingText$Machine;") (List.mem_of_getElem? (i := 1) rfl)) (fun _ h9 => h9) rfl dX5_beginsText_1 ?_
  refine lv_iload_n hx hb dX5_beginsText_4 rfl (lv_at hl 1 rfl) ?_
  refine k_si (k_runV (As := [.int x1]) (rest := []) ⟨hx, hb, hml, hown, hts⟩ (cF_X2_firstEndOf l D q aM uM x1) (cwV 1 hts gX5_beginsText_X2_firstEndOf rfl rfl rfl cdX2_firstEndOf ⟨Nat.le_of_ble_eq_true rfl, Nat.le_of_ble_eq_true rfl⟩) hK (kp_r hP) (kd_r hD) 0 rfl rfl rfl hl.1 rfl (Nat.le_of_ble_eq_true rfl) dX5_beginsText_5 ⟨Nat.le_of_ble_eq_true rfl, Nat.le_of_ble_eq_true rfl⟩) (fun r hr => ?_)
  subst hr
  refine lv_aload_n hx hb dX5_beginsText_8 rfl (lv_at hl 0 rfl) ?_
  refine va_get (D := D) (ci := 3) (v := .ref (aM 0)) (C := RX5) (T := TX5) (N := 5) hx hb hts inX5_beginsText_X5 hown hK hP 0 rfl rfl 0 (by decide) (hts (.fieldLink RX5 9 "GrowingText$Words" "machine" "LGrowingText$Machine;") (List.mem_of_getElem? (i := 1) rfl)) (fun _ h9 => h9) rfl dX5_beginsText_9 ?_
  refine lv_iload_n hx hb dX5_beginsText_12 rfl (lv_at hl 1 rfl) ?_
  refine k_si (k_runV (As := [.int x1]) (rest := [.int (fX2_firstEndOf uM x1)]) ⟨hx, hb, hml, hown, hts⟩ (cF_X2_longestOf l D q aM uM x1) (cwV 1 hts gX5_beginsText_X2_longestOf rfl rfl rfl cdX2_longestOf ⟨Nat.le_of_ble_eq_true rfl, Nat.le_of_ble_eq_true rfl⟩) hK (kp_r hP) (kd_r hD) 0 rfl rfl rfl hl.1 rfl (Nat.le_of_ble_eq_true rfl) dX5_beginsText_13 ⟨Nat.le_of_ble_eq_true rfl, Nat.le_of_ble_eq_true rfl⟩) (fun r hr => ?_)
  subst hr
  refine lv_icmp_ne (tgt := 23) hx hb dX5_beginsText_16 (by decide) (fun c1 => ?_) (fun c1 => ?_)
  · have hf := hf.2 (c1)
    refine lv_iconst (v := 0) hx hb dX5_beginsText_23 (by decide) ?_
    exact k_zret_r (v := 0) hx hb hr rfl hlocks hf dX5_beginsText_24
  · have hf := hf.1 (c1)
    refine lv_iconst (v := 1) hx hb dX5_beginsText_19 (by decide) ?_
    refine lv_goto (tgt := 24) hx hb dX5_beginsText_20 (by decide) ?_
    exact k_zret_r (v := 1) hx hb hr rfl hlocks hf dX5_beginsText_24
def fX5_beginsText (uW : WSt) (uM : MSt) (x1 : Int32) : Int32 := (if (fX2_firstEndOf uM x1) = (fX2_longestOf uM x1) then 1 else 0)
theorem pF_X5_beginsText (uW : WSt) (uM : MSt) (x1 : Int32) (Q : Int32 → Prop) (hq : Q (fX5_beginsText uW uM x1)) : wpX5_beginsText uW uM x1 Q := by
  unfold fX5_beginsText at hq; unfold wpX5_beginsText; exact k_ite hq (fun hq => hq) (fun hq => hq)
theorem cF_X5_beginsText (l : Launch) (D : va_G) (q : Nat → ClassId) (aW : Nat → Nat) (aM : Nat → Nat) (uW : WSt) (uM : MSt) (x1 : Int32) : Met l yX5_beginsText wsX5_beginsText rmX5_beginsText (va_Pc [.ref (aW 0), .int x1] (kP D q (wW aW aM q uW ++ wM aM q uM))) (vp_Si (fun r => r = fX5_beginsText uW uM x1)) 0 0 (fun _ => False) := c_X5_beginsText l D q aW aM uW uM x1 _ (pF_X5_beginsText uW uM x1 _ rfl)
def wpX5_kthBorder (uW : WSt) (uM : MSt) (x1 : Int32) (Q : Int32 → Prop) : Prop :=
  ∀ (X20 : Int32 → Int32 → Int32 → Prop) (X56 : Int32 → Int32 → Int32 → Prop),
  (∀ (y2 : Int32) (y3 : Int32) (y4 : Int32),
    (((121 : Int32) ≤ y4 →
      Q (-4)) ∧
    (¬ ((121 : Int32) ≤ y4) →
      (y2 ≤ 0 →
        Q (-4)) ∧
      (¬ (y2 ≤ 0) →
        ((fX5_beginsText uW uM y2) = 0 →
          X56 y2 y3 y4) ∧
        (¬ ((fX5_beginsText uW uM y2) = 0) →
          (y3 = x1 →
            Q (fX2_longestOf uM y2)) ∧
          (¬ (y3 = x1) →
            X56 y2 (y3 + 1) y4))))) → X20 y2 y3 y4) →
  (∀ (y2 : Int32) (y3 : Int32) (y4 : Int32),
    X20 (fX2_linkOf uM y2) y3 (y4 + 1) → X56 y2 y3 y4) →
  X20 (fX2_linkOf uM (fX2_lastState uM)) 0 0
def rmX5_kthBorder : Room := { frames := 4, cells := 0, slots := 0, locals := 86 }
theorem inX5_kthBorder_X5 : ∀ w ∈ wsX50, w ∈ wsX5_kthBorder := fun w h => List.mem_cons_of_mem _ (List.mem_append_left _ (List.mem_append_right _ h))
set_option maxRecDepth 100000 in
set_option maxHeartbeats 4000000 in
theorem c_X5_kthBorder (l : Launch) (D : va_G) (q : Nat → ClassId) (aW : Nat → Nat) (aM : Nat → Nat) (uW : WSt) (uM : MSt) (x1 : Int32) (Q : Int32 → Prop) (hf : wpX5_kthBorder uW uM x1 Q) : Met l yX5_kthBorder wsX5_kthBorder rmX5_kthBorder (va_Pc [.ref (aW 0), .int x1] (kP D q (wW aW aM q uW ++ wM aM q uM))) (vp_Si Q) 0 0 (fun _ => False) := by
  refine Met.ofW (cc := cX5_kthBorder) (maxL := 5) (ret := (some .int)) (by decide) rfl ?_
  intro p e s m args below meth c s₁ B hml hv
  obtain ⟨hargs, hP, hK, hD⟩ := hv
  have hx := B.exec
  have hb := B.bytes
  have hr := B.returns
  have hts := atoms_spec (ws := wsX5_kthBorder) B.pre
  have hown : s.vm.findClass RX5 = some m.cls := findClass_of_methodNamed B.named
  have hlocks := B.notSynchronized
  refine k_entry hargs (Nat.le_of_ble_eq_true rfl) (fun ls hl => ?_)
  have hl : lv_has ls 5 [(0, .ref (aW 0)), (1, .int x1)] := hl
  change W p l e rmX5_kthBorder s m args below meth c s.heap [] 0 0 (MQ below (vp_Si Q) args s 0 0 (fun _ => False)) _
  unfold wpX5_kthBorder at hf
  have hf := hf
    (fun (y2 : Int32) (y3 : Int32) (y4 : Int32) => ∀ (ls : Array Slot), lv_has ls 5 [(0, .ref (aW 0)), (1, .int x1), (2, .int y2), (3, .int y3), (4, .int y4)] → W p l e rmX5_kthBorder s m args below meth c s.heap [] 0 0 (MQ below (vp_Si Q) args s 0 0 (fun _ => False)) (F0 m 20 ls []))
    (fun (y2 : Int32) (y3 : Int32) (y4 : Int32) => ∀ (ls : Array Slot), lv_has ls 5 [(0, .ref (aW 0)), (1, .int x1), (2, .int y2), (3, .int y3), (4, .int y4)] → W p l e rmX5_kthBorder s m args below meth c s.heap [] 0 0 (MQ below (vp_Si Q) args s 0 0 (fun _ => False)) (F0 m 56 ls []))
    (by
      intro y2 y3 y4 hf ls hl
      refine lv_iload hx hb dX5_kthBorder_20 (lv_at hl 4 rfl) ?_
      refine lv_bipush (v := 121) hx hb dX5_kthBorder_22 (by decide) ?_
      refine lv_icmp_ge (tgt := 71) hx hb dX5_kthBorder_24 (by decide) (fun c1 => ?_) (fun c1 => ?_)
      · have hf := hf.1 (c1)
        refine lv_bipush (v := (-4)) hx hb dX5_kthBorder_71 (by decide) ?_
        exact k_iret_r (v := (-4)) hx hb hr hlocks hf dX5_kthBorder_73
      · have hf := hf.2 (c1)
        refine lv_iload_n hx hb dX5_kthBorder_27 rfl (lv_at hl 2 rfl) ?_
        refine lv_if_le (tgt := 71) hx hb dX5_kthBorder_28 (by decide) (fun c2 => ?_) (fun c2 => ?_)
        · have hf := hf.1 (c2)
          refine lv_bipush (v := (-4)) hx hb dX5_kthBorder_71 (by decide) ?_
          exact k_iret_r (v := (-4)) hx hb hr hlocks hf dX5_kthBorder_73
        · have hf := hf.2 (c2)
          refine lv_aload_n hx hb dX5_kthBorder_31 rfl (lv_at hl 0 rfl) ?_
          refine lv_iload_n hx hb dX5_kthBorder_32 rfl (lv_at hl 2 rfl) ?_
          refine k_si (k_runV (As := [.int y2]) (rest := []) ⟨hx, hb, hml, hown, hts⟩ (cF_X5_beginsText l D q aW aM uW uM y2) (cwV 1 hts gX5_kthBorder_X5_beginsText rfl rfl rfl cdX5_beginsText ⟨Nat.le_of_ble_eq_true rfl, Nat.le_of_ble_eq_true rfl⟩) hK hP hD 0 rfl rfl rfl hl.1 rfl (Nat.le_of_ble_eq_true rfl) dX5_kthBorder_33 ⟨Nat.le_of_ble_eq_true rfl, Nat.le_of_ble_eq_true rfl⟩) (fun r hr => ?_)
          subst hr
          refine lv_if_eq (tgt := 56) hx hb dX5_kthBorder_36 (by decide) (fun c3 => ?_) (fun c3 => ?_)
          · have hf := hf.1 (c3)
            exact hf ls (lv_sub hl [0, 1, 2, 3, 4] rfl)
          · have hf := hf.2 (c3)
            refine lv_iload_n hx hb dX5_kthBorder_39 rfl (lv_at hl 3 rfl) ?_
            refine lv_iload_n hx hb dX5_kthBorder_40 rfl (lv_at hl 1 rfl) ?_
            refine lv_icmp_ne (tgt := 53) hx hb dX5_kthBorder_41 (by decide) (fun c4 => ?_) (fun c4 => ?_)
            · have hf := hf.2 (c4)
              refine lv_iinc (v := (y3 + 1)) (lv' := [(3, .int (y3 + 1)), (0, .ref (aW 0)), (1, .int x1), (2, .int y2), (4, .int y4)]) hx hb dX5_kthBorder_53 hl (k := 3) rfl rfl (by decide) rfl (fun ls hl => ?_)
              exact hf ls (lv_sub hl [1, 2, 3, 0, 4] rfl)
            · have hf := hf.1 (c4)
              refine lv_aload_n hx hb dX5_kthBorder_44 rfl (lv_at hl 0 rfl) ?_
              refine va_get (D := D) (ci := 3) (v := .ref (aM 0)) (C := RX5) (T := TX5) (N := 5) hx hb hts inX5_kthBorder_X5 hown hK hP 0 rfl rfl 0 (by decide) (hts (.fieldLink RX5 9 "GrowingText$Words" "machine" "LGrowingText$Machine;") (List.mem_of_getElem? (i := 1) rfl)) (fun _ h9 => h9) rfl dX5_kthBorder_45 ?_
              refine lv_iload_n hx hb dX5_kthBorder_48 rfl (lv_at hl 2 rfl) ?_
              refine k_si (k_runV (As := [.int y2]) (rest := []) ⟨hx, hb, hml, hown, hts⟩ (cF_X2_longestOf l D q aM uM y2) (cwV 1 hts gX5_kthBorder_X2_longestOf rfl rfl rfl cdX2_longestOf ⟨Nat.le_of_ble_eq_true rfl, Nat.le_of_ble_eq_true rfl⟩) hK (kp_r hP) (kd_r hD) 0 rfl rfl rfl hl.1 rfl (Nat.le_of_ble_eq_true rfl) dX5_kthBorder_49 ⟨Nat.le_of_ble_eq_true rfl, Nat.le_of_ble_eq_true rfl⟩) (fun r hr => ?_)
              subst hr
              exact k_iret_r (v := (fX2_longestOf uM y2)) hx hb hr hlocks hf dX5_kthBorder_52)
    (by
      intro y2 y3 y4 hf ls hl
      refine lv_aload_n hx hb dX5_kthBorder_56 rfl (lv_at hl 0 rfl) ?_
      refine va_get (D := D) (ci := 3) (v := .ref (aM 0)) (C := RX5) (T := TX5) (N := 5) hx hb hts inX5_kthBorder_X5 hown hK hP 0 rfl rfl 0 (by decide) (hts (.fieldLink RX5 9 "GrowingText$Words" "machine" "LGrowingText$Machine;") (List.mem_of_getElem? (i := 1) rfl)) (fun _ h9 => h9) rfl dX5_kthBorder_57 ?_
      refine lv_iload_n hx hb dX5_kthBorder_60 rfl (lv_at hl 2 rfl) ?_
      refine k_si (k_runV (As := [.int y2]) (rest := []) ⟨hx, hb, hml, hown, hts⟩ (cF_X2_linkOf l D q aM uM y2) (cwV 1 hts gX5_kthBorder_X2_linkOf rfl rfl rfl cdX2_linkOf ⟨Nat.le_of_ble_eq_true rfl, Nat.le_of_ble_eq_true rfl⟩) hK (kp_r hP) (kd_r hD) 0 rfl rfl rfl hl.1 rfl (Nat.le_of_ble_eq_true rfl) dX5_kthBorder_61 ⟨Nat.le_of_ble_eq_true rfl, Nat.le_of_ble_eq_true rfl⟩) (fun r hr => ?_)
      subst hr
      refine lv_istore_n (lv' := [(2, .int (fX2_linkOf uM y2)), (0, .ref (aW 0)), (1, .int x1), (3, .int y3), (4, .int y4)]) hx hb dX5_kthBorder_64 rfl hl (by decide) rfl (fun ls hl => ?_)
      refine lv_iinc (v := (y4 + 1)) (lv' := [(4, .int (y4 + 1)), (2, .int (fX2_linkOf uM y2)), (0, .ref (aW 0)), (1, .int x1), (3, .int y3)]) hx hb dX5_kthBorder_65 hl (k := 4) rfl rfl (by decide) rfl (fun ls hl => ?_)
      refine lv_goto (tgt := 20) hx hb dX5_kthBorder_68 (by decide) ?_
      exact hf ls (lv_sub hl [2, 3, 1, 4, 0] rfl))
  refine lv_aload_n hx hb dX5_kthBorder_0 rfl (lv_at hl 0 rfl) ?_
  refine va_get (D := D) (ci := 3) (v := .ref (aM 0)) (C := RX5) (T := TX5) (N := 5) hx hb hts inX5_kthBorder_X5 hown hK hP 0 rfl rfl 0 (by decide) (hts (.fieldLink RX5 9 "GrowingText$Words" "machine" "LGrowingText$Machine;") (List.mem_of_getElem? (i := 1) rfl)) (fun _ h9 => h9) rfl dX5_kthBorder_1 ?_
  refine lv_aload_n hx hb dX5_kthBorder_4 rfl (lv_at hl 0 rfl) ?_
  refine va_get (D := D) (ci := 3) (v := .ref (aM 0)) (C := RX5) (T := TX5) (N := 5) hx hb hts inX5_kthBorder_X5 hown hK hP 0 rfl rfl 0 (by decide) (hts (.fieldLink RX5 9 "GrowingText$Words" "machine" "LGrowingText$Machine;") (List.mem_of_getElem? (i := 1) rfl)) (fun _ h9 => h9) rfl dX5_kthBorder_5 ?_
  refine k_si (k_runV (As := []) (rest := [.ref (aM 0)]) ⟨hx, hb, hml, hown, hts⟩ (cF_X2_lastState l D q aM uM) (cwV 0 hts gX5_kthBorder_X2_lastState rfl rfl rfl cdX2_lastState ⟨Nat.le_of_ble_eq_true rfl, Nat.le_of_ble_eq_true rfl⟩) hK (kp_r hP) (kd_r hD) 0 rfl rfl rfl hl.1 rfl (Nat.le_of_ble_eq_true rfl) dX5_kthBorder_8 ⟨Nat.le_of_ble_eq_true rfl, Nat.le_of_ble_eq_true rfl⟩) (fun r hr => ?_)
  subst hr
  refine k_si (k_runV (As := [.int (fX2_lastState uM)]) (rest := []) ⟨hx, hb, hml, hown, hts⟩ (cF_X2_linkOf l D q aM uM (fX2_lastState uM)) (cwV 1 hts gX5_kthBorder_X2_linkOf rfl rfl rfl cdX2_linkOf ⟨Nat.le_of_ble_eq_true rfl, Nat.le_of_ble_eq_true rfl⟩) hK (kp_r hP) (kd_r hD) 0 rfl rfl rfl hl.1 rfl (Nat.le_of_ble_eq_true rfl) dX5_kthBorder_11 ⟨Nat.le_of_ble_eq_true rfl, Nat.le_of_ble_eq_true rfl⟩) (fun r hr => ?_)
  subst hr
  refine lv_istore_n (lv' := [(2, .int (fX2_linkOf uM (fX2_lastState uM))), (0, .ref (aW 0)), (1, .int x1)]) hx hb dX5_kthBorder_14 rfl hl (by decide) rfl (fun ls hl => ?_)
  refine lv_iconst (v := 0) hx hb dX5_kthBorder_15 (by decide) ?_
  refine lv_istore_n (lv' := [(3, .int 0), (2, .int (fX2_linkOf uM (fX2_lastState uM))), (0, .ref (aW 0)), (1, .int x1)]) hx hb dX5_kthBorder_16 rfl hl (by decide) rfl (fun ls hl => ?_)
  refine lv_iconst (v := 0) hx hb dX5_kthBorder_17 (by decide) ?_
  refine lv_istore (lv' := [(4, .int 0), (3, .int 0), (2, .int (fX2_linkOf uM (fX2_lastState uM))), (0, .ref (aW 0)), (1, .int x1)]) hx hb dX5_kthBorder_18 hl (by decide) rfl (fun ls hl => ?_)
  exact hf ls (lv_sub hl [3, 4, 2, 1, 0] rfl)
def wpX5_period (uW : WSt) (uM : MSt) (Q : Int32 → Prop) : Prop :=
  (((gM_length uM) = 0 →
    Q (-4)) ∧
  (¬ ((gM_length uM) = 0) →
    wpX5_kthBorder uW uM 0 (fun r2 =>
      Q ((gM_length uM) - (if (0 : Int32) < r2 then r2 else 0)))))
def rmX5_period : Room := { frames := 5, cells := 0, slots := 0, locals := 110 }
theorem inX5_period_X2 : ∀ w ∈ wsX20, w ∈ wsX5_period := fun w h => List.mem_cons_of_mem _ (List.mem_append_right _ h)
theorem inX5_period_X5 : ∀ w ∈ wsX50, w ∈ wsX5_period := fun w h => List.mem_cons_of_mem _ (List.mem_append_left _ (List.mem_append_right _ h))
set_option maxRecDepth 100000 in
set_option maxHeartbeats 4000000 in
theorem c_X5_period (l : Launch) (D : va_G) (q : Nat → ClassId) (aW : Nat → Nat) (aM : Nat → Nat) (uW : WSt) (uM : MSt) (Q : Int32 → Prop) (hf : wpX5_period uW uM Q) : Met l yX5_period wsX5_period rmX5_period (va_Pc [.ref (aW 0)] (kP D q (wW aW aM q uW ++ wM aM q uM))) (vp_Si Q) 0 0 (fun _ => False) := by
  refine Met.ofW (cc := cX5_period) (maxL := 1) (ret := (some .int)) (by decide) rfl ?_
  intro p e s m args below meth c s₁ B hml hv
  obtain ⟨hargs, hP, hK, hD⟩ := hv
  have hx := B.exec
  have hb := B.bytes
  have hr := B.returns
  have hts := atoms_spec (ws := wsX5_period) B.pre
  have hown : s.vm.findClass RX5 = some m.cls := findClass_of_methodNamed B.named
  have hlocks := B.notSynchronized
  refine k_entry hargs (Nat.le_of_ble_eq_true rfl) (fun ls hl => ?_)
  have hl : lv_has ls 1 [(0, .ref (aW 0))] := hl
  change W p l e rmX5_period s m args below meth c s.heap [] 0 0 (MQ below (vp_Si Q) args s 0 0 (fun _ => False)) _
  unfold wpX5_period at hf
  refine lv_aload_n hx hb dX5_period_0 rfl (lv_at hl 0 rfl) ?_
  refine va_get (D := D) (ci := 3) (v := .ref (aM 0)) (C := RX5) (T := TX5) (N := 5) hx hb hts inX5_period_X5 hown hK hP 0 rfl rfl 0 (by decide) (hts (.fieldLink RX5 9 "GrowingText$Words" "machine" "LGrowingText$Machine;") (List.mem_of_getElem? (i := 1) rfl)) (fun _ h9 => h9) rfl dX5_period_1 ?_
  refine va_get (D := D) (ci := 1) (v := .int (gM_length uM)) (C := RX2) (T := TX2) (N := 12) hx hb hts inX5_period_X2 hown hK hP 5 rfl rfl 1 (by decide) (hts (.fieldLink RX5 48 "GrowingText$Machine" "length" "I") (List.mem_of_getElem? (i := 2) rfl)) (fun _ h9 => h9) rfl dX5_period_4 ?_
  refine lv_if_ne (tgt := 13) hx hb dX5_period_7 (by decide) (fun c1 => ?_) (fun c1 => ?_)
  · have hf := hf.2 (c1)
    refine lv_aload_n hx hb dX5_period_13 rfl (lv_at hl 0 rfl) ?_
    refine va_get (D := D) (ci := 3) (v := .ref (aM 0)) (C := RX5) (T := TX5) (N := 5) hx hb hts inX5_period_X5 hown hK hP 0 rfl rfl 0 (by decide) (hts (.fieldLink RX5 9 "GrowingText$Words" "machine" "LGrowingText$Machine;") (List.mem_of_getElem? (i := 1) rfl)) (fun _ h9 => h9) rfl dX5_period_14 ?_
    refine va_get (D := D) (ci := 1) (v := .int (gM_length uM)) (C := RX2) (T := TX2) (N := 12) hx hb hts inX5_period_X2 hown hK hP 5 rfl rfl 1 (by decide) (hts (.fieldLink RX5 48 "GrowingText$Machine" "length" "I") (List.mem_of_getElem? (i := 2) rfl)) (fun _ h9 => h9) rfl dX5_period_17 ?_
    refine lv_iconst (v := 0) hx hb dX5_period_20 (by decide) ?_
    refine lv_aload_n hx hb dX5_period_21 rfl (lv_at hl 0 rfl) ?_
    refine lv_iconst (v := 0) hx hb dX5_period_22 (by decide) ?_
    refine k_si (k_runV (As := [.int 0]) (rest := [.int 0, .int (gM_length uM)]) ⟨hx, hb, hml, hown, hts⟩ (c_X5_kthBorder l D q aW aM uW uM 0 _ hf) (cwV 1 hts gX5_period_X5_kthBorder rfl rfl rfl cdX5_kthBorder ⟨Nat.le_of_ble_eq_true rfl, Nat.le_of_ble_eq_true rfl⟩) hK hP hD 0 rfl rfl rfl hl.1 rfl (Nat.le_of_ble_eq_true rfl) dX5_period_23 ⟨Nat.le_of_ble_eq_true rfl, Nat.le_of_ble_eq_true rfl⟩) (fun r2 hf => ?_)
    refine va_mmax hx hb (hml.trans hl.1.symm) hown (hts (.methodLink RX5 141 Lib.Math.max.name) (List.mem_of_getElem? (i := 3) rfl)) (hts (.static Lib.Math.max.name) (List.mem_of_getElem? (i := 4) rfl)) (hts (.initialized "java/lang/Math") (List.mem_of_getElem? (i := 5) rfl)) (hts (.code Lib.Math.max.name Lib.Math.max.code 2 (some .int)) (List.mem_of_getElem? (i := 6) rfl)) (Nat.le_of_ble_eq_true rfl) (Nat.le_of_ble_eq_true rfl) (Nat.le_of_ble_eq_true rfl) (Nat.le_of_ble_eq_true rfl) dX5_period_26 ?_
    refine lv_isub hx hb dX5_period_29 ?_
    exact k_iret_r (v := ((gM_length uM) - (if (0 : Int32) < r2 then r2 else 0))) hx hb hr hlocks hf dX5_period_30
  · have hf := hf.1 (c1)
    refine lv_bipush (v := (-4)) hx hb dX5_period_10 (by decide) ?_
    exact k_iret_r (v := (-4)) hx hb hr hlocks hf dX5_period_12
def wpX5_leastCover (uW : WSt) (uM : MSt) (Q : Int32 → Prop) : Prop :=
  ∀ (X13 : Int32 → Int32 → Int32 → Prop) (X60 : Int32 → Int32 → Int32 → Prop),
  (∀ (y1 : Int32) (y2 : Int32) (y3 : Int32),
    (((121 : Int32) ≤ y3 →
      Q y1) ∧
    (¬ ((121 : Int32) ≤ y3) →
      (y2 ≤ 0 →
        Q y1) ∧
      (¬ (y2 ≤ 0) →
        ((fX5_beginsText uW uM y2) = 0 →
          X60 y1 y2 y3) ∧
        (¬ ((fX5_beginsText uW uM y2) = 0) →
          wpX0_widestGap (fX2_endsOf uM y2) (fun r4 =>
            ((fX2_longestOf uM y2) < r4 →
              X60 y1 y2 y3) ∧
            (¬ ((fX2_longestOf uM y2) < r4) →
              X60 (fX2_longestOf uM y2) y2 y3)))))) → X13 y1 y2 y3) →
  (∀ (y1 : Int32) (y2 : Int32) (y3 : Int32),
    X13 y1 (fX2_linkOf uM y2) (y3 + 1) → X60 y1 y2 y3) →
  X13 (-4) (fX2_lastState uM) 0
def rmX5_leastCover : Room := { frames := 4, cells := 0, slots := 0, locals := 86 }
theorem inX5_leastCover_X5 : ∀ w ∈ wsX50, w ∈ wsX5_leastCover := fun w h => List.mem_cons_of_mem _ (List.mem_append_left _ (List.mem_append_right _ h))
set_option maxRecDepth 100000 in
set_option maxHeartbeats 4000000 in
theorem c_X5_leastCover (l : Launch) (D : va_G) (q : Nat → ClassId) (aW : Nat → Nat) (aM : Nat → Nat) (uW : WSt) (uM : MSt) (Q : Int32 → Prop) (hf : wpX5_leastCover uW uM Q) : Met l yX5_leastCover wsX5_leastCover rmX5_leastCover (va_Pc [.ref (aW 0)] (kP D q (wW aW aM q uW ++ wM aM q uM))) (vp_Si Q) 0 0 (fun _ => False) := by
  refine Met.ofW (cc := cX5_leastCover) (maxL := 5) (ret := (some .int)) (by decide) rfl ?_
  intro p e s m args below meth c s₁ B hml hv
  obtain ⟨hargs, hP, hK, hD⟩ := hv
  have hx := B.exec
  have hb := B.bytes
  have hr := B.returns
  have hts := atoms_spec (ws := wsX5_leastCover) B.pre
  have hown : s.vm.findClass RX5 = some m.cls := findClass_of_methodNamed B.named
  have hlocks := B.notSynchronized
  refine k_entry hargs (Nat.le_of_ble_eq_true rfl) (fun ls hl => ?_)
  have hl : lv_has ls 5 [(0, .ref (aW 0))] := hl
  change W p l e rmX5_leastCover s m args below meth c s.heap [] 0 0 (MQ below (vp_Si Q) args s 0 0 (fun _ => False)) _
  unfold wpX5_leastCover at hf
  have hf := hf
    (fun (y1 : Int32) (y2 : Int32) (y3 : Int32) => ∀ (ls : Array Slot), lv_has ls 5 [(0, .ref (aW 0)), (1, .int y1), (2, .int y2), (3, .int y3)] → W p l e rmX5_leastCover s m args below meth c s.heap [] 0 0 (MQ below (vp_Si Q) args s 0 0 (fun _ => False)) (F0 m 13 ls []))
    (fun (y1 : Int32) (y2 : Int32) (y3 : Int32) => ∀ (ls : Array Slot), lv_has ls 5 [(0, .ref (aW 0)), (1, .int y1), (2, .int y2), (3, .int y3)] → W p l e rmX5_leastCover s m args below meth c s.heap [] 0 0 (MQ below (vp_Si Q) args s 0 0 (fun _ => False)) (F0 m 60 ls []))
    (by
      intro y1 y2 y3 hf ls hl
      refine lv_iload_n hx hb dX5_leastCover_13 rfl (lv_at hl 3 rfl) ?_
      refine lv_bipush (v := 121) hx hb dX5_leastCover_14 (by decide) ?_
      refine lv_icmp_ge (tgt := 75) hx hb dX5_leastCover_16 (by decide) (fun c1 => ?_) (fun c1 => ?_)
      · have hf := hf.1 (c1)
        refine lv_iload_n hx hb dX5_leastCover_75 rfl (lv_at hl 1 rfl) ?_
        exact k_iret_r (v := y1) hx hb hr hlocks hf dX5_leastCover_76
      · have hf := hf.2 (c1)
        refine lv_iload_n hx hb dX5_leastCover_19 rfl (lv_at hl 2 rfl) ?_
        refine lv_if_le (tgt := 75) hx hb dX5_leastCover_20 (by decide) (fun c2 => ?_) (fun c2 => ?_)
        · have hf := hf.1 (c2)
          refine lv_iload_n hx hb dX5_leastCover_75 rfl (lv_at hl 1 rfl) ?_
          exact k_iret_r (v := y1) hx hb hr hlocks hf dX5_leastCover_76
        · have hf := hf.2 (c2)
          refine lv_aload_n hx hb dX5_leastCover_23 rfl (lv_at hl 0 rfl) ?_
          refine va_get (D := D) (ci := 3) (v := .ref (aM 0)) (C := RX5) (T := TX5) (N := 5) hx hb hts inX5_leastCover_X5 hown hK hP 0 rfl rfl 0 (by decide) (hts (.fieldLink RX5 9 "GrowingText$Words" "machine" "LGrowingText$Machine;") (List.mem_of_getElem? (i := 1) rfl)) (fun _ h9 => h9) rfl dX5_leastCover_24 ?_
          refine lv_iload_n hx hb dX5_leastCover_27 rfl (lv_at hl 2 rfl) ?_
          refine k_si (k_runV (As := [.int y2]) (rest := []) ⟨hx, hb, hml, hown, hts⟩ (cF_X2_longestOf l D q aM uM y2) (cwV 1 hts gX5_leastCover_X2_longestOf rfl rfl rfl cdX2_longestOf ⟨Nat.le_of_ble_eq_true rfl, Nat.le_of_ble_eq_true rfl⟩) hK (kp_r hP) (kd_r hD) 0 rfl rfl rfl hl.1 rfl (Nat.le_of_ble_eq_true rfl) dX5_leastCover_28 ⟨Nat.le_of_ble_eq_true rfl, Nat.le_of_ble_eq_true rfl⟩) (fun r hr => ?_)
          subst hr
          refine lv_istore (lv' := [(4, .int (fX2_longestOf uM y2)), (0, .ref (aW 0)), (1, .int y1), (2, .int y2), (3, .int y3)]) hx hb dX5_leastCover_31 hl (by decide) rfl (fun ls hl => ?_)
          refine lv_aload_n hx hb dX5_leastCover_33 rfl (lv_at hl 1 rfl) ?_
          refine lv_iload_n hx hb dX5_leastCover_34 rfl (lv_at hl 3 rfl) ?_
          refine k_si (k_runV (As := [.int y2]) (rest := []) ⟨hx, hb, hml, hown, hts⟩ (cF_X5_beginsText l D q aW aM uW uM y2) (cwV 1 hts gX5_leastCover_X5_beginsText rfl rfl rfl cdX5_beginsText ⟨Nat.le_of_ble_eq_true rfl, Nat.le_of_ble_eq_true rfl⟩) hK hP hD 0 rfl rfl rfl hl.1 rfl (Nat.le_of_ble_eq_true rfl) dX5_leastCover_35 ⟨Nat.le_of_ble_eq_true rfl, Nat.le_of_ble_eq_true rfl⟩) (fun r hr => ?_)
          subst hr
          refine lv_if_eq (tgt := 60) hx hb dX5_leastCover_38 (by decide) (fun c3 => ?_) (fun c3 => ?_)
          · have hf := hf.1 (c3)
            exact hf ls (lv_sub hl [1, 2, 3, 4] rfl)
          · have hf := hf.2 (c3)
            refine lv_aload_n hx hb dX5_leastCover_41 rfl (lv_at hl 1 rfl) ?_
            refine va_get (D := D) (ci := 3) (v := .ref (aM 0)) (C := RX5) (T := TX5) (N := 5) hx hb hts inX5_leastCover_X5 hown hK hP 0 rfl rfl 0 (by decide) (hts (.fieldLink RX5 9 "GrowingText$Words" "machine" "LGrowingText$Machine;") (List.mem_of_getElem? (i := 1) rfl)) (fun _ h9 => h9) rfl dX5_leastCover_42 ?_
            refine lv_iload_n hx hb dX5_leastCover_45 rfl (lv_at hl 3 rfl) ?_
            refine k_sl (k_runV (As := [.int y2]) (rest := []) ⟨hx, hb, hml, hown, hts⟩ (cF_X2_endsOf l D q aM uM y2) (cwV 1 hts gX5_leastCover_X2_endsOf rfl rfl rfl cdX2_endsOf ⟨Nat.le_of_ble_eq_true rfl, Nat.le_of_ble_eq_true rfl⟩) hK (kp_r hP) (kd_r hD) 0 rfl rfl rfl hl.1 rfl (Nat.le_of_ble_eq_true rfl) dX5_leastCover_46 ⟨Nat.le_of_ble_eq_true rfl, Nat.le_of_ble_eq_true rfl⟩) (fun r hr => ?_)
            subst hr
            refine k_si (k_runS (As := [.long (fX2_endsOf uM y2)]) (rest := []) ⟨hx, hb, hml, hown, hts⟩ (c_X0_widestGap l D q (fX2_endsOf uM y2) _ hf) (va_cwS 1 hts gX5_leastCover_X0_widestGap rfl rfl rfl cdX0_widestGap ⟨Nat.le_of_ble_eq_true rfl, Nat.le_of_ble_eq_true rfl⟩) hK k_nilP k_nilD rfl hl.1 rfl (Nat.le_of_ble_eq_true rfl) dX5_leastCover_49 ⟨Nat.le_of_ble_eq_true rfl, Nat.le_of_ble_eq_true rfl⟩) (fun r4 hf => ?_)
            refine lv_iload hx hb dX5_leastCover_52 (lv_at hl 0 rfl) ?_
            refine lv_icmp_gt (tgt := 60) hx hb dX5_leastCover_54 (by decide) (fun c5 => ?_) (fun c5 => ?_)
            · have hf := hf.1 (c5)
              exact hf ls (lv_sub hl [1, 2, 3, 4] rfl)
            · have hf := hf.2 (c5)
              refine lv_iload hx hb dX5_leastCover_57 (lv_at hl 0 rfl) ?_
              refine lv_istore_n (lv' := [(1, .int (fX2_longestOf uM y2)), (4, .int (fX2_longestOf uM y2)), (0, .ref (aW 0)), (2, .int y2), (3, .int y3)]) hx hb dX5_leastCover_59 rfl hl (by decide) rfl (fun ls hl => ?_)
              exact hf ls (lv_sub hl [2, 0, 3, 4] rfl))
    (by
      intro y1 y2 y3 hf ls hl
      refine lv_aload_n hx hb dX5_leastCover_60 rfl (lv_at hl 0 rfl) ?_
      refine va_get (D := D) (ci := 3) (v := .ref (aM 0)) (C := RX5) (T := TX5) (N := 5) hx hb hts inX5_leastCover_X5 hown hK hP 0 rfl rfl 0 (by decide) (hts (.fieldLink RX5 9 "GrowingText$Words" "machine" "LGrowingText$Machine;") (List.mem_of_getElem? (i := 1) rfl)) (fun _ h9 => h9) rfl dX5_leastCover_61 ?_
      refine lv_iload_n hx hb dX5_leastCover_64 rfl (lv_at hl 2 rfl) ?_
      refine k_si (k_runV (As := [.int y2]) (rest := []) ⟨hx, hb, hml, hown, hts⟩ (cF_X2_linkOf l D q aM uM y2) (cwV 1 hts gX5_leastCover_X2_linkOf rfl rfl rfl cdX2_linkOf ⟨Nat.le_of_ble_eq_true rfl, Nat.le_of_ble_eq_true rfl⟩) hK (kp_r hP) (kd_r hD) 0 rfl rfl rfl hl.1 rfl (Nat.le_of_ble_eq_true rfl) dX5_leastCover_65 ⟨Nat.le_of_ble_eq_true rfl, Nat.le_of_ble_eq_true rfl⟩) (fun r hr => ?_)
      subst hr
      refine lv_istore_n (lv' := [(2, .int (fX2_linkOf uM y2)), (0, .ref (aW 0)), (1, .int y1), (3, .int y3)]) hx hb dX5_leastCover_68 rfl hl (by decide) rfl (fun ls hl => ?_)
      refine lv_iinc (v := (y3 + 1)) (lv' := [(3, .int (y3 + 1)), (2, .int (fX2_linkOf uM y2)), (0, .ref (aW 0)), (1, .int y1)]) hx hb dX5_leastCover_69 hl (k := 3) rfl rfl (by decide) rfl (fun ls hl => ?_)
      refine lv_goto (tgt := 13) hx hb dX5_leastCover_72 (by decide) ?_
      exact hf ls (lv_sub hl [2, 3, 1, 0] rfl))
  refine lv_bipush (v := (-4)) hx hb dX5_leastCover_0 (by decide) ?_
  refine lv_istore_n (lv' := [(1, .int (-4)), (0, .ref (aW 0))]) hx hb dX5_leastCover_2 rfl hl (by decide) rfl (fun ls hl => ?_)
  refine lv_aload_n hx hb dX5_leastCover_3 rfl (lv_at hl 1 rfl) ?_
  refine va_get (D := D) (ci := 3) (v := .ref (aM 0)) (C := RX5) (T := TX5) (N := 5) hx hb hts inX5_leastCover_X5 hown hK hP 0 rfl rfl 0 (by decide) (hts (.fieldLink RX5 9 "GrowingText$Words" "machine" "LGrowingText$Machine;") (List.mem_of_getElem? (i := 1) rfl)) (fun _ h9 => h9) rfl dX5_leastCover_4 ?_
  refine k_si (k_runV (As := []) (rest := []) ⟨hx, hb, hml, hown, hts⟩ (cF_X2_lastState l D q aM uM) (cwV 0 hts gX5_leastCover_X2_lastState rfl rfl rfl cdX2_lastState ⟨Nat.le_of_ble_eq_true rfl, Nat.le_of_ble_eq_true rfl⟩) hK (kp_r hP) (kd_r hD) 0 rfl rfl rfl hl.1 rfl (Nat.le_of_ble_eq_true rfl) dX5_leastCover_7 ⟨Nat.le_of_ble_eq_true rfl, Nat.le_of_ble_eq_true rfl⟩) (fun r hr => ?_)
  subst hr
  refine lv_istore_n (lv' := [(2, .int (fX2_lastState uM)), (1, .int (-4)), (0, .ref (aW 0))]) hx hb dX5_leastCover_10 rfl hl (by decide) rfl (fun ls hl => ?_)
  refine lv_iconst (v := 0) hx hb dX5_leastCover_11 (by decide) ?_
  refine lv_istore_n (lv' := [(3, .int 0), (2, .int (fX2_lastState uM)), (1, .int (-4)), (0, .ref (aW 0))]) hx hb dX5_leastCover_12 rfl hl (by decide) rfl (fun ls hl => ?_)
  exact hf ls (lv_sub hl [3, 2, 1, 0] rfl)
def wpX5_lettersOfPart (uW : WSt) (uM : MSt) (x1 : Int32) (Q : Int32 → Prop) : Prop :=
  ∀ (X7 : Int32 → Int32 → Int32 → Prop) (X62 : Int32 → Prop),
  (∀ (y2 : Int32) (y3 : Int32) (y4 : Int32),
    (((gM_length uM) ≤ y4 →
      X62 y3) ∧
    (¬ ((gM_length uM) ≤ y4) →
      ((fX2_firstEndOf uM (fX2_moveOf uM y2 (fX2_letterAt uM y4))) ≤ y4 →
        X7 (fX2_moveOf uM y2 (fX2_letterAt uM y4)) (y3 + 1) (y4 + 1)) ∧
      (¬ ((fX2_firstEndOf uM (fX2_moveOf uM y2 (fX2_letterAt uM y4))) ≤ y4) →
        X62 y3))) → X7 y2 y3 y4) →
  (∀ (y3 : Int32),
    Q (if (1 : Int32) < y3 then y3 else 1) → X62 y3) →
  X7 0 0 x1
def rmX5_lettersOfPart : Room := { frames := 3, cells := 0, slots := 0, locals := 65 }
theorem inX5_lettersOfPart_X2 : ∀ w ∈ wsX20, w ∈ wsX5_lettersOfPart := fun w h => List.mem_cons_of_mem _ (List.mem_append_right _ h)
theorem inX5_lettersOfPart_X5 : ∀ w ∈ wsX50, w ∈ wsX5_lettersOfPart := fun w h => List.mem_cons_of_mem _ (List.mem_append_left _ (List.mem_append_right _ h))
set_option maxRecDepth 100000 in
set_option maxHeartbeats 4000000 in
theorem c_X5_lettersOfPart (l : Launch) (D : va_G) (q : Nat → ClassId) (aW : Nat → Nat) (aM : Nat → Nat) (uW : WSt) (uM : MSt) (x1 : Int32) (Q : Int32 → Prop) (hf : wpX5_lettersOfPart uW uM x1 Q) : Met l yX5_lettersOfPart wsX5_lettersOfPart rmX5_lettersOfPart (va_Pc [.ref (aW 0), .int x1] (kP D q (wW aW aM q uW ++ wM aM q uM))) (vp_Si Q) 0 0 (fun _ => False) := by
  refine Met.ofW (cc := cX5_lettersOfPart) (maxL := 5) (ret := (some .int)) (by decide) rfl ?_
  intro p e s m args below meth c s₁ B hml hv
  obtain ⟨hargs, hP, hK, hD⟩ := hv
  have hx := B.exec
  have hb := B.bytes
  have hr := B.returns
  have hts := atoms_spec (ws := wsX5_lettersOfPart) B.pre
  have hown : s.vm.findClass RX5 = some m.cls := findClass_of_methodNamed B.named
  have hlocks := B.notSynchronized
  refine k_entry hargs (Nat.le_of_ble_eq_true rfl) (fun ls hl => ?_)
  have hl : lv_has ls 5 [(0, .ref (aW 0)), (1, .int x1)] := hl
  change W p l e rmX5_lettersOfPart s m args below meth c s.heap [] 0 0 (MQ below (vp_Si Q) args s 0 0 (fun _ => False)) _
  unfold wpX5_lettersOfPart at hf
  have hf := hf
    (fun (y2 : Int32) (y3 : Int32) (y4 : Int32) => ∀ (ls : Array Slot), lv_has ls 5 [(0, .ref (aW 0)), (2, .int y2), (3, .int y3), (4, .int y4)] → W p l e rmX5_lettersOfPart s m args below meth c s.heap [] 0 0 (MQ below (vp_Si Q) args s 0 0 (fun _ => False)) (F0 m 7 ls []))
    (fun (y3 : Int32) => ∀ (ls : Array Slot), lv_has ls 5 [(3, .int y3)] → W p l e rmX5_lettersOfPart s m args below meth c s.heap [] 0 0 (MQ below (vp_Si Q) args s 0 0 (fun _ => False)) (F0 m 62 ls []))
    (by
      intro y2 y3 y4 hf ls hl
      refine lv_iload hx hb dX5_lettersOfPart_7 (lv_at hl 3 rfl) ?_
      refine lv_aload_n hx hb dX5_lettersOfPart_9 rfl (lv_at hl 0 rfl) ?_
      refine va_get (D := D) (ci := 3) (v := .ref (aM 0)) (C := RX5) (T := TX5) (N := 5) hx hb hts inX5_lettersOfPart_X5 hown hK hP 0 rfl rfl 0 (by decide) (hts (.fieldLink RX5 9 "GrowingText$Words" "machine" "LGrowingText$Machine;") (List.mem_of_getElem? (i := 1) rfl)) (fun _ h9 => h9) rfl dX5_lettersOfPart_10 ?_
      refine va_get (D := D) (ci := 1) (v := .int (gM_length uM)) (C := RX2) (T := TX2) (N := 12) hx hb hts inX5_lettersOfPart_X2 hown hK hP 5 rfl rfl 1 (by decide) (hts (.fieldLink RX5 48 "GrowingText$Machine" "length" "I") (List.mem_of_getElem? (i := 2) rfl)) (fun _ h9 => h9) rfl dX5_lettersOfPart_13 ?_
      refine lv_icmp_ge (tgt := 62) hx hb dX5_lettersOfPart_16 (by decide) (fun c1 => ?_) (fun c1 => ?_)
      · have hf := hf.1 (c1)
        exact hf ls (lv_sub hl [2] rfl)
      · have hf := hf.2 (c1)
        refine lv_aload_n hx hb dX5_lettersOfPart_19 rfl (lv_at hl 0 rfl) ?_
        refine va_get (D := D) (ci := 3) (v := .ref (aM 0)) (C := RX5) (T := TX5) (N := 5) hx hb hts inX5_lettersOfPart_X5 hown hK hP 0 rfl rfl 0 (by decide) (hts (.fieldLink RX5 9 "GrowingText$Words" "machine" "LGrowingText$Machine;") (List.mem_of_getElem? (i := 1) rfl)) (fun _ h9 => h9) rfl dX5_lettersOfPart_20 ?_
        refine lv_iload_n hx hb dX5_lettersOfPart_23 rfl (lv_at hl 1 rfl) ?_
        refine lv_aload_n hx hb dX5_lettersOfPart_24 rfl (lv_at hl 0 rfl) ?_
        refine va_get (D := D) (ci := 3) (v := .ref (aM 0)) (C := RX5) (T := TX5) (N := 5) hx hb hts inX5_lettersOfPart_X5 hown hK hP 0 rfl rfl 0 (by decide) (hts (.fieldLink RX5 9 "GrowingText$Words" "machine" "LGrowingText$Machine;") (List.mem_of_getElem? (i := 1) rfl)) (fun _ h9 => h9) rfl dX5_lettersOfPart_25 ?_
        refine lv_iload hx hb dX5_lettersOfPart_28 (lv_at hl 3 rfl) ?_
        refine k_si (k_runV (As := [.int y4]) (rest := [.int y2, .ref (aM 0)]) ⟨hx, hb, hml, hown, hts⟩ (cF_X2_letterAt l D q aM uM y4) (cwV 1 hts gX5_lettersOfPart_X2_letterAt rfl rfl rfl cdX2_letterAt ⟨Nat.le_of_ble_eq_true rfl, Nat.le_of_ble_eq_true rfl⟩) hK (kp_r hP) (kd_r hD) 0 rfl rfl rfl hl.1 rfl (Nat.le_of_ble_eq_true rfl) dX5_lettersOfPart_30 ⟨Nat.le_of_ble_eq_true rfl, Nat.le_of_ble_eq_true rfl⟩) (fun r hr => ?_)
        subst hr
        refine k_si (k_runV (As := [.int y2, .int (fX2_letterAt uM y4)]) (rest := []) ⟨hx, hb, hml, hown, hts⟩ (cF_X2_moveOf l D q aM uM y2 (fX2_letterAt uM y4)) (cwV 2 hts gX5_lettersOfPart_X2_moveOf rfl rfl rfl cdX2_moveOf ⟨Nat.le_of_ble_eq_true rfl, Nat.le_of_ble_eq_true rfl⟩) hK (kp_r hP) (kd_r hD) 0 rfl rfl rfl hl.1 rfl (Nat.le_of_ble_eq_true rfl) dX5_lettersOfPart_33 ⟨Nat.le_of_ble_eq_true rfl, Nat.le_of_ble_eq_true rfl⟩) (fun r hr => ?_)
        subst hr
        refine lv_istore_n (lv' := [(2, .int (fX2_moveOf uM y2 (fX2_letterAt uM y4))), (0, .ref (aW 0)), (3, .int y3), (4, .int y4)]) hx hb dX5_lettersOfPart_36 rfl hl (by decide) rfl (fun ls hl => ?_)
        refine lv_aload_n hx hb dX5_lettersOfPart_37 rfl (lv_at hl 1 rfl) ?_
        refine va_get (D := D) (ci := 3) (v := .ref (aM 0)) (C := RX5) (T := TX5) (N := 5) hx hb hts inX5_lettersOfPart_X5 hown hK hP 0 rfl rfl 0 (by decide) (hts (.fieldLink RX5 9 "GrowingText$Words" "machine" "LGrowingText$Machine;") (List.mem_of_getElem? (i := 1) rfl)) (fun _ h9 => h9) rfl dX5_lettersOfPart_38 ?_
        refine lv_iload_n hx hb dX5_lettersOfPart_41 rfl (lv_at hl 0 rfl) ?_
        refine k_si (k_runV (As := [.int (fX2_moveOf uM y2 (fX2_letterAt uM y4))]) (rest := []) ⟨hx, hb, hml, hown, hts⟩ (cF_X2_firstEndOf l D q aM uM (fX2_moveOf uM y2 (fX2_letterAt uM y4))) (cwV 1 hts gX5_lettersOfPart_X2_firstEndOf rfl rfl rfl cdX2_firstEndOf ⟨Nat.le_of_ble_eq_true rfl, Nat.le_of_ble_eq_true rfl⟩) hK (kp_r hP) (kd_r hD) 0 rfl rfl rfl hl.1 rfl (Nat.le_of_ble_eq_true rfl) dX5_lettersOfPart_42 ⟨Nat.le_of_ble_eq_true rfl, Nat.le_of_ble_eq_true rfl⟩) (fun r hr => ?_)
        subst hr
        refine lv_iload hx hb dX5_lettersOfPart_45 (lv_at hl 3 rfl) ?_
        refine lv_icmp_le (tgt := 53) hx hb dX5_lettersOfPart_47 (by decide) (fun c2 => ?_) (fun c2 => ?_)
        · have hf := hf.1 (c2)
          refine lv_iinc (v := (y3 + 1)) (lv' := [(3, .int (y3 + 1)), (2, .int (fX2_moveOf uM y2 (fX2_letterAt uM y4))), (0, .ref (aW 0)), (4, .int y4)]) hx hb dX5_lettersOfPart_53 hl (k := 2) rfl rfl (by decide) rfl (fun ls hl => ?_)
          refine lv_iinc (v := (y4 + 1)) (lv' := [(4, .int (y4 + 1)), (3, .int (y3 + 1)), (2, .int (fX2_moveOf uM y2 (fX2_letterAt uM y4))), (0, .ref (aW 0))]) hx hb dX5_lettersOfPart_56 hl (k := 3) rfl rfl (by decide) rfl (fun ls hl => ?_)
          refine lv_goto (tgt := 7) hx hb dX5_lettersOfPart_59 (by decide) ?_
          exact hf ls (lv_sub hl [3, 2, 1, 0] rfl)
        · have hf := hf.2 (c2)
          refine lv_goto (tgt := 62) hx hb dX5_lettersOfPart_50 (by decide) ?_
          exact hf ls (lv_sub hl [2] rfl))
    (by
      intro y3 hf ls hl
      refine lv_iconst (v := 1) hx hb dX5_lettersOfPart_62 (by decide) ?_
      refine lv_iload_n hx hb dX5_lettersOfPart_63 rfl (lv_at hl 0 rfl) ?_
      refine va_mmax hx hb (hml.trans hl.1.symm) hown (hts (.methodLink RX5 141 Lib.Math.max.name) (List.mem_of_getElem? (i := 3) rfl)) (hts (.static Lib.Math.max.name) (List.mem_of_getElem? (i := 4) rfl)) (hts (.initialized "java/lang/Math") (List.mem_of_getElem? (i := 5) rfl)) (hts (.code Lib.Math.max.name Lib.Math.max.code 2 (some .int)) (List.mem_of_getElem? (i := 6) rfl)) (Nat.le_of_ble_eq_true rfl) (Nat.le_of_ble_eq_true rfl) (Nat.le_of_ble_eq_true rfl) (Nat.le_of_ble_eq_true rfl) dX5_lettersOfPart_64 ?_
      exact k_iret_r (v := (if (1 : Int32) < y3 then y3 else 1)) hx hb hr hlocks hf dX5_lettersOfPart_67)
  refine lv_iconst (v := 0) hx hb dX5_lettersOfPart_0 (by decide) ?_
  refine lv_istore_n (lv' := [(2, .int 0), (0, .ref (aW 0)), (1, .int x1)]) hx hb dX5_lettersOfPart_1 rfl hl (by decide) rfl (fun ls hl => ?_)
  refine lv_iconst (v := 0) hx hb dX5_lettersOfPart_2 (by decide) ?_
  refine lv_istore_n (lv' := [(3, .int 0), (2, .int 0), (0, .ref (aW 0)), (1, .int x1)]) hx hb dX5_lettersOfPart_3 rfl hl (by decide) rfl (fun ls hl => ?_)
  refine lv_iload_n hx hb dX5_lettersOfPart_4 rfl (lv_at hl 3 rfl) ?_
  refine lv_istore (lv' := [(4, .int x1), (3, .int 0), (2, .int 0), (0, .ref (aW 0)), (1, .int x1)]) hx hb dX5_lettersOfPart_5 hl (by decide) rfl (fun ls hl => ?_)
  exact hf ls (lv_sub hl [3, 2, 1, 0] rfl)
def wpX5_parts (uW : WSt) (uM : MSt) (Q : Int32 → Prop) : Prop :=
  ∀ (X6 : Int32 → Int32 → Int32 → Prop),
  (∀ (y1 : Int32) (y2 : Int32) (y3 : Int32),
    (((60 : Int32) ≤ y3 →
      Q y2) ∧
    (¬ ((60 : Int32) ≤ y3) →
      ((gM_length uM) ≤ y1 →
        Q y2) ∧
      (¬ ((gM_length uM) ≤ y1) →
        wpX5_lettersOfPart uW uM y1 (fun r3 =>
          X6 (y1 + r3) (y2 + 1) (y3 + 1))))) → X6 y1 y2 y3) →
  X6 0 0 0
def rmX5_parts : Room := { frames := 4, cells := 0, slots := 0, locals := 89 }
theorem inX5_parts_X2 : ∀ w ∈ wsX20, w ∈ wsX5_parts := fun w h => List.mem_cons_of_mem _ (List.mem_append_right _ h)
theorem inX5_parts_X5 : ∀ w ∈ wsX50, w ∈ wsX5_parts := fun w h => List.mem_cons_of_mem _ (List.mem_append_left _ (List.mem_append_right _ h))
set_option maxRecDepth 100000 in
set_option maxHeartbeats 4000000 in
theorem c_X5_parts (l : Launch) (D : va_G) (q : Nat → ClassId) (aW : Nat → Nat) (aM : Nat → Nat) (uW : WSt) (uM : MSt) (Q : Int32 → Prop) (hf : wpX5_parts uW uM Q) : Met l yX5_parts wsX5_parts rmX5_parts (va_Pc [.ref (aW 0)] (kP D q (wW aW aM q uW ++ wM aM q uM))) (vp_Si Q) 0 0 (fun _ => False) := by
  refine Met.ofW (cc := cX5_parts) (maxL := 4) (ret := (some .int)) (by decide) rfl ?_
  intro p e s m args below meth c s₁ B hml hv
  obtain ⟨hargs, hP, hK, hD⟩ := hv
  have hx := B.exec
  have hb := B.bytes
  have hr := B.returns
  have hts := atoms_spec (ws := wsX5_parts) B.pre
  have hown : s.vm.findClass RX5 = some m.cls := findClass_of_methodNamed B.named
  have hlocks := B.notSynchronized
  refine k_entry hargs (Nat.le_of_ble_eq_true rfl) (fun ls hl => ?_)
  have hl : lv_has ls 4 [(0, .ref (aW 0))] := hl
  change W p l e rmX5_parts s m args below meth c s.heap [] 0 0 (MQ below (vp_Si Q) args s 0 0 (fun _ => False)) _
  unfold wpX5_parts at hf
  have hf := hf
    (fun (y1 : Int32) (y2 : Int32) (y3 : Int32) => ∀ (ls : Array Slot), lv_has ls 4 [(0, .ref (aW 0)), (1, .int y1), (2, .int y2), (3, .int y3)] → W p l e rmX5_parts s m args below meth c s.heap [] 0 0 (MQ below (vp_Si Q) args s 0 0 (fun _ => False)) (F0 m 6 ls []))
    (by
      intro y1 y2 y3 hf ls hl
      refine lv_iload_n hx hb dX5_parts_6 rfl (lv_at hl 3 rfl) ?_
      refine lv_bipush (v := 60) hx hb dX5_parts_7 (by decide) ?_
      refine lv_icmp_ge (tgt := 40) hx hb dX5_parts_9 (by decide) (fun c1 => ?_) (fun c1 => ?_)
      · have hf := hf.1 (c1)
        refine lv_iload_n hx hb dX5_parts_40 rfl (lv_at hl 2 rfl) ?_
        exact k_iret_r (v := y2) hx hb hr hlocks hf dX5_parts_41
      · have hf := hf.2 (c1)
        refine lv_iload_n hx hb dX5_parts_12 rfl (lv_at hl 1 rfl) ?_
        refine lv_aload_n hx hb dX5_parts_13 rfl (lv_at hl 0 rfl) ?_
        refine va_get (D := D) (ci := 3) (v := .ref (aM 0)) (C := RX5) (T := TX5) (N := 5) hx hb hts inX5_parts_X5 hown hK hP 0 rfl rfl 0 (by decide) (hts (.fieldLink RX5 9 "GrowingText$Words" "machine" "LGrowingText$Machine;") (List.mem_of_getElem? (i := 1) rfl)) (fun _ h9 => h9) rfl dX5_parts_14 ?_
        refine va_get (D := D) (ci := 1) (v := .int (gM_length uM)) (C := RX2) (T := TX2) (N := 12) hx hb hts inX5_parts_X2 hown hK hP 5 rfl rfl 1 (by decide) (hts (.fieldLink RX5 48 "GrowingText$Machine" "length" "I") (List.mem_of_getElem? (i := 2) rfl)) (fun _ h9 => h9) rfl dX5_parts_17 ?_
        refine lv_icmp_ge (tgt := 40) hx hb dX5_parts_20 (by decide) (fun c2 => ?_) (fun c2 => ?_)
        · have hf := hf.1 (c2)
          refine lv_iload_n hx hb dX5_parts_40 rfl (lv_at hl 2 rfl) ?_
          exact k_iret_r (v := y2) hx hb hr hlocks hf dX5_parts_41
        · have hf := hf.2 (c2)
          refine lv_iload_n hx hb dX5_parts_23 rfl (lv_at hl 1 rfl) ?_
          refine lv_aload_n hx hb dX5_parts_24 rfl (lv_at hl 0 rfl) ?_
          refine lv_iload_n hx hb dX5_parts_25 rfl (lv_at hl 1 rfl) ?_
          refine k_si (k_runV (As := [.int y1]) (rest := [.int y1]) ⟨hx, hb, hml, hown, hts⟩ (c_X5_lettersOfPart l D q aW aM uW uM y1 _ hf) (cwV 1 hts gX5_parts_X5_lettersOfPart rfl rfl rfl cdX5_lettersOfPart ⟨Nat.le_of_ble_eq_true rfl, Nat.le_of_ble_eq_true rfl⟩) hK hP hD 0 rfl rfl rfl hl.1 rfl (Nat.le_of_ble_eq_true rfl) dX5_parts_26 ⟨Nat.le_of_ble_eq_true rfl, Nat.le_of_ble_eq_true rfl⟩) (fun r3 hf => ?_)
          refine lv_iadd hx hb dX5_parts_29 ?_
          refine lv_istore_n (lv' := [(1, .int (y1 + r3)), (0, .ref (aW 0)), (2, .int y2), (3, .int y3)]) hx hb dX5_parts_30 rfl hl (by decide) rfl (fun ls hl => ?_)
          refine lv_iinc (v := (y2 + 1)) (lv' := [(2, .int (y2 + 1)), (1, .int (y1 + r3)), (0, .ref (aW 0)), (3, .int y3)]) hx hb dX5_parts_31 hl (k := 2) rfl rfl (by decide) rfl (fun ls hl => ?_)
          refine lv_iinc (v := (y3 + 1)) (lv' := [(3, .int (y3 + 1)), (2, .int (y2 + 1)), (1, .int (y1 + r3)), (0, .ref (aW 0))]) hx hb dX5_parts_34 hl (k := 3) rfl rfl (by decide) rfl (fun ls hl => ?_)
          refine lv_goto (tgt := 6) hx hb dX5_parts_37 (by decide) ?_
          exact hf ls (lv_sub hl [3, 2, 1, 0] rfl))
  refine lv_iconst (v := 0) hx hb dX5_parts_0 (by decide) ?_
  refine lv_istore_n (lv' := [(1, .int 0), (0, .ref (aW 0))]) hx hb dX5_parts_1 rfl hl (by decide) rfl (fun ls hl => ?_)
  refine lv_iconst (v := 0) hx hb dX5_parts_2 (by decide) ?_
  refine lv_istore_n (lv' := [(2, .int 0), (1, .int 0), (0, .ref (aW 0))]) hx hb dX5_parts_3 rfl hl (by decide) rfl (fun ls hl => ?_)
  refine lv_iconst (v := 0) hx hb dX5_parts_4 (by decide) ?_
  refine lv_istore_n (lv' := [(3, .int 0), (2, .int 0), (1, .int 0), (0, .ref (aW 0))]) hx hb dX5_parts_5 rfl hl (by decide) rfl (fun ls hl => ?_)
  exact hf ls (lv_sub hl [3, 2, 1, 0] rfl)
def wpX5_beginOfPart (uW : WSt) (uM : MSt) (x1 : Int32) (Q : Int32 → Prop) : Prop :=
  ∀ (X4 : Int32 → Int32 → Prop),
  (∀ (y2 : Int32) (y3 : Int32),
    (((60 : Int32) ≤ y3 →
      Q (-4)) ∧
    (¬ ((60 : Int32) ≤ y3) →
      ((gM_length uM) ≤ y2 →
        Q (-4)) ∧
      (¬ ((gM_length uM) ≤ y2) →
        (y3 = x1 →
          Q y2) ∧
        (¬ (y3 = x1) →
          wpX5_lettersOfPart uW uM y2 (fun r4 =>
            X4 (y2 + r4) (y3 + 1)))))) → X4 y2 y3) →
  X4 0 0
def rmX5_beginOfPart : Room := { frames := 4, cells := 0, slots := 0, locals := 89 }
theorem inX5_beginOfPart_X2 : ∀ w ∈ wsX20, w ∈ wsX5_beginOfPart := fun w h => List.mem_cons_of_mem _ (List.mem_append_right _ h)
theorem inX5_beginOfPart_X5 : ∀ w ∈ wsX50, w ∈ wsX5_beginOfPart := fun w h => List.mem_cons_of_mem _ (List.mem_append_left _ (List.mem_append_right _ h))
set_option maxRecDepth 100000 in
set_option maxHeartbeats 4000000 in
theorem c_X5_beginOfPart (l : Launch) (D : va_G) (q : Nat → ClassId) (aW : Nat → Nat) (aM : Nat → Nat) (uW : WSt) (uM : MSt) (x1 : Int32) (Q : Int32 → Prop) (hf : wpX5_beginOfPart uW uM x1 Q) : Met l yX5_beginOfPart wsX5_beginOfPart rmX5_beginOfPart (va_Pc [.ref (aW 0), .int x1] (kP D q (wW aW aM q uW ++ wM aM q uM))) (vp_Si Q) 0 0 (fun _ => False) := by
  refine Met.ofW (cc := cX5_beginOfPart) (maxL := 4) (ret := (some .int)) (by decide) rfl ?_
  intro p e s m args below meth c s₁ B hml hv
  obtain ⟨hargs, hP, hK, hD⟩ := hv
  have hx := B.exec
  have hb := B.bytes
  have hr := B.returns
  have hts := atoms_spec (ws := wsX5_beginOfPart) B.pre
  have hown : s.vm.findClass RX5 = some m.cls := findClass_of_methodNamed B.named
  have hlocks := B.notSynchronized
  refine k_entry hargs (Nat.le_of_ble_eq_true rfl) (fun ls hl => ?_)
  have hl : lv_has ls 4 [(0, .ref (aW 0)), (1, .int x1)] := hl
  change W p l e rmX5_beginOfPart s m args below meth c s.heap [] 0 0 (MQ below (vp_Si Q) args s 0 0 (fun _ => False)) _
  unfold wpX5_beginOfPart at hf
  have hf := hf
    (fun (y2 : Int32) (y3 : Int32) => ∀ (ls : Array Slot), lv_has ls 4 [(0, .ref (aW 0)), (1, .int x1), (2, .int y2), (3, .int y3)] → W p l e rmX5_beginOfPart s m args below meth c s.heap [] 0 0 (MQ below (vp_Si Q) args s 0 0 (fun _ => False)) (F0 m 4 ls []))
    (by
      intro y2 y3 hf ls hl
      refine lv_iload_n hx hb dX5_beginOfPart_4 rfl (lv_at hl 3 rfl) ?_
      refine lv_bipush (v := 60) hx hb dX5_beginOfPart_5 (by decide) ?_
      refine lv_icmp_ge (tgt := 42) hx hb dX5_beginOfPart_7 (by decide) (fun c1 => ?_) (fun c1 => ?_)
      · have hf := hf.1 (c1)
        refine lv_bipush (v := (-4)) hx hb dX5_beginOfPart_42 (by decide) ?_
        exact k_iret_r (v := (-4)) hx hb hr hlocks hf dX5_beginOfPart_44
      · have hf := hf.2 (c1)
        refine lv_iload_n hx hb dX5_beginOfPart_10 rfl (lv_at hl 2 rfl) ?_
        refine lv_aload_n hx hb dX5_beginOfPart_11 rfl (lv_at hl 0 rfl) ?_
        refine va_get (D := D) (ci := 3) (v := .ref (aM 0)) (C := RX5) (T := TX5) (N := 5) hx hb hts inX5_beginOfPart_X5 hown hK hP 0 rfl rfl 0 (by decide) (hts (.fieldLink RX5 9 "GrowingText$Words" "machine" "LGrowingText$Machine;") (List.mem_of_getElem? (i := 1) rfl)) (fun _ h9 => h9) rfl dX5_beginOfPart_12 ?_
        refine va_get (D := D) (ci := 1) (v := .int (gM_length uM)) (C := RX2) (T := TX2) (N := 12) hx hb hts inX5_beginOfPart_X2 hown hK hP 5 rfl rfl 1 (by decide) (hts (.fieldLink RX5 48 "GrowingText$Machine" "length" "I") (List.mem_of_getElem? (i := 2) rfl)) (fun _ h9 => h9) rfl dX5_beginOfPart_15 ?_
        refine lv_icmp_ge (tgt := 42) hx hb dX5_beginOfPart_18 (by decide) (fun c2 => ?_) (fun c2 => ?_)
        · have hf := hf.1 (c2)
          refine lv_bipush (v := (-4)) hx hb dX5_beginOfPart_42 (by decide) ?_
          exact k_iret_r (v := (-4)) hx hb hr hlocks hf dX5_beginOfPart_44
        · have hf := hf.2 (c2)
          refine lv_iload_n hx hb dX5_beginOfPart_21 rfl (lv_at hl 3 rfl) ?_
          refine lv_iload_n hx hb dX5_beginOfPart_22 rfl (lv_at hl 1 rfl) ?_
          refine lv_icmp_ne (tgt := 28) hx hb dX5_beginOfPart_23 (by decide) (fun c3 => ?_) (fun c3 => ?_)
          · have hf := hf.2 (c3)
            refine lv_iload_n hx hb dX5_beginOfPart_28 rfl (lv_at hl 2 rfl) ?_
            refine lv_aload_n hx hb dX5_beginOfPart_29 rfl (lv_at hl 0 rfl) ?_
            refine lv_iload_n hx hb dX5_beginOfPart_30 rfl (lv_at hl 2 rfl) ?_
            refine k_si (k_runV (As := [.int y2]) (rest := [.int y2]) ⟨hx, hb, hml, hown, hts⟩ (c_X5_lettersOfPart l D q aW aM uW uM y2 _ hf) (cwV 1 hts gX5_beginOfPart_X5_lettersOfPart rfl rfl rfl cdX5_lettersOfPart ⟨Nat.le_of_ble_eq_true rfl, Nat.le_of_ble_eq_true rfl⟩) hK hP hD 0 rfl rfl rfl hl.1 rfl (Nat.le_of_ble_eq_true rfl) dX5_beginOfPart_31 ⟨Nat.le_of_ble_eq_true rfl, Nat.le_of_ble_eq_true rfl⟩) (fun r4 hf => ?_)
            refine lv_iadd hx hb dX5_beginOfPart_34 ?_
            refine lv_istore_n (lv' := [(2, .int (y2 + r4)), (0, .ref (aW 0)), (1, .int x1), (3, .int y3)]) hx hb dX5_beginOfPart_35 rfl hl (by decide) rfl (fun ls hl => ?_)
            refine lv_iinc (v := (y3 + 1)) (lv' := [(3, .int (y3 + 1)), (2, .int (y2 + r4)), (0, .ref (aW 0)), (1, .int x1)]) hx hb dX5_beginOfPart_36 hl (k := 3) rfl rfl (by decide) rfl (fun ls hl => ?_)
            refine lv_goto (tgt := 4) hx hb dX5_beginOfPart_39 (by decide) ?_
            exact hf ls (lv_sub hl [2, 3, 1, 0] rfl)
          · have hf := hf.1 (c3)
            refine lv_iload_n hx hb dX5_beginOfPart_26 rfl (lv_at hl 2 rfl) ?_
            exact k_iret_r (v := y2) hx hb hr hlocks hf dX5_beginOfPart_27)
  refine lv_iconst (v := 0) hx hb dX5_beginOfPart_0 (by decide) ?_
  refine lv_istore_n (lv' := [(2, .int 0), (0, .ref (aW 0)), (1, .int x1)]) hx hb dX5_beginOfPart_1 rfl hl (by decide) rfl (fun ls hl => ?_)
  refine lv_iconst (v := 0) hx hb dX5_beginOfPart_2 (by decide) ?_
  refine lv_istore_n (lv' := [(3, .int 0), (2, .int 0), (0, .ref (aW 0)), (1, .int x1)]) hx hb dX5_beginOfPart_3 rfl hl (by decide) rfl (fun ls hl => ?_)
  exact hf ls (lv_sub hl [2, 3, 1, 0] rfl)
def wpX5_longestCommon (uW : WSt) (uM : MSt) (uS : SSt) (x2 : Int32) (Q : Int32 → Prop) : Prop :=
  ∀ (X14 : Int32 → Int32 → Int32 → Int32 → Int32 → Prop) (X34 : Int32 → Int32 → Int32 → Int32 → Int32 → Int32 → Int32 → Prop) (X85 : Int32 → Int32 → Int32 → Int32 → Int32 → Int32 → Prop) (X110 : Int32 → Int32 → Int32 → Int32 → Int32 → Prop),
  (∀ (y3 : Int32) (y4 : Int32) (y5 : Int32) (y6 : Int32) (y7 : Int32),
    (((gS_length uS) ≤ y7 →
      (x2 = 0 →
        Q y5) ∧
      (¬ (x2 = 0) →
        Q y6)) ∧
    (¬ ((gS_length uS) ≤ y7) →
      X34 y3 y4 y5 y6 y7 (fX4_letterAt uS y7) 0)) → X14 y3 y4 y5 y6 y7) →
  (∀ (y3 : Int32) (y4 : Int32) (y5 : Int32) (y6 : Int32) (y7 : Int32) (y8 : Int32) (y9 : Int32),
    (((121 : Int32) ≤ y9 →
      X85 y3 y4 y5 y6 y7 y8) ∧
    (¬ ((121 : Int32) ≤ y9) →
      (y3 ≤ 0 →
        X85 y3 y4 y5 y6 y7 y8) ∧
      (¬ (y3 ≤ 0) →
        ((fX2_moveOf uM y3 y8) = (-4) →
          X34 (fX2_linkOf uM y3) (fX2_longestOf uM (fX2_linkOf uM y3)) y5 y6 y7 y8 (y9 + 1)) ∧
        (¬ ((fX2_moveOf uM y3 y8) = (-4)) →
          X85 y3 y4 y5 y6 y7 y8)))) → X34 y3 y4 y5 y6 y7 y8 y9) →
  (∀ (y3 : Int32) (y4 : Int32) (y5 : Int32) (y6 : Int32) (y7 : Int32) (y8 : Int32),
    (((fX2_moveOf uM y3 y8) = (-4) →
      X110 y3 y4 y5 y6 y7) ∧
    (¬ ((fX2_moveOf uM y3 y8) = (-4)) →
      X110 (fX2_moveOf uM y3 y8) (y4 + 1) y5 y6 y7)) → X85 y3 y4 y5 y6 y7 y8) →
  (∀ (y3 : Int32) (y4 : Int32) (y5 : Int32) (y6 : Int32) (y7 : Int32),
    ((y4 ≤ y5 →
      X14 y3 y4 y5 y6 (y7 + 1)) ∧
    (¬ (y4 ≤ y5) →
      X14 y3 y4 y4 ((y7 + 1) - y4) (y7 + 1))) → X110 y3 y4 y5 y6 y7) →
  X14 0 0 0 0 0
def rmX5_longestCommon : Room := { frames := 3, cells := 0, slots := 0, locals := 63 }
theorem inX5_longestCommon_X4 : ∀ w ∈ wsX40, w ∈ wsX5_longestCommon := fun w h => List.mem_cons_of_mem _ (List.mem_append_left _ (List.mem_append_left _ (List.mem_append_right _ h)))
theorem inX5_longestCommon_X5 : ∀ w ∈ wsX50, w ∈ wsX5_longestCommon := fun w h => List.mem_cons_of_mem _ (List.mem_append_left _ (List.mem_append_right _ h))
set_option maxRecDepth 100000 in
set_option maxHeartbeats 4000000 in
theorem c_X5_longestCommon (l : Launch) (D : va_G) (q : Nat → ClassId) (aW : Nat → Nat) (aM : Nat → Nat) (aS : Nat → Nat) (uW : WSt) (uM : MSt) (uS : SSt) (x2 : Int32) (Q : Int32 → Prop) (hf : wpX5_longestCommon uW uM uS x2 Q) : Met l yX5_longestCommon wsX5_longestCommon rmX5_longestCommon (va_Pc [.ref (aW 0), .ref (aS 0), .int x2] (kP D q (wW aW aM q uW ++ (wM aM q uM ++ wS aS q uS)))) (vp_Si Q) 0 0 (fun _ => False) := by
  refine Met.ofW (cc := cX5_longestCommon) (maxL := 10) (ret := (some .int)) (by decide) rfl ?_
  intro p e s m args below meth c s₁ B hml hv
  obtain ⟨hargs, hP, hK, hD⟩ := hv
  have hx := B.exec
  have hb := B.bytes
  have hr := B.returns
  have hts := atoms_spec (ws := wsX5_longestCommon) B.pre
  have hown : s.vm.findClass RX5 = some m.cls := findClass_of_methodNamed B.named
  have hlocks := B.notSynchronized
  refine k_entry hargs (Nat.le_of_ble_eq_true rfl) (fun ls hl => ?_)
  have hl : lv_has ls 10 [(0, .ref (aW 0)), (1, .ref (aS 0)), (2, .int x2)] := hl
  change W p l e rmX5_longestCommon s m args below meth c s.heap [] 0 0 (MQ below (vp_Si Q) args s 0 0 (fun _ => False)) _
  unfold wpX5_longestCommon at hf
  have hf := hf
    (fun (y3 : Int32) (y4 : Int32) (y5 : Int32) (y6 : Int32) (y7 : Int32) => ∀ (ls : Array Slot), lv_has ls 10 [(0, .ref (aW 0)), (1, .ref (aS 0)), (2, .int x2), (3, .int y3), (4, .int y4), (5, .int y5), (6, .int y6), (7, .int y7)] → W p l e rmX5_longestCommon s m args below meth c s.heap [] 0 0 (MQ below (vp_Si Q) args s 0 0 (fun _ => False)) (F0 m 14 ls []))
    (fun (y3 : Int32) (y4 : Int32) (y5 : Int32) (y6 : Int32) (y7 : Int32) (y8 : Int32) (y9 : Int32) => ∀ (ls : Array Slot), lv_has ls 10 [(0, .ref (aW 0)), (1, .ref (aS 0)), (2, .int x2), (3, .int y3), (4, .int y4), (5, .int y5), (6, .int y6), (7, .int y7), (8, .int y8), (9, .int y9)] → W p l e rmX5_longestCommon s m args below meth c s.heap [] 0 0 (MQ below (vp_Si Q) args s 0 0 (fun _ => False)) (F0 m 34 ls []))
    (fun (y3 : Int32) (y4 : Int32) (y5 : Int32) (y6 : Int32) (y7 : Int32) (y8 : Int32) => ∀ (ls : Array Slot), lv_has ls 10 [(0, .ref (aW 0)), (1, .ref (aS 0)), (2, .int x2), (3, .int y3), (4, .int y4), (5, .int y5), (6, .int y6), (7, .int y7), (8, .int y8)] → W p l e rmX5_longestCommon s m args below meth c s.heap [] 0 0 (MQ below (vp_Si Q) args s 0 0 (fun _ => False)) (F0 m 85 ls []))
    (fun (y3 : Int32) (y4 : Int32) (y5 : Int32) (y6 : Int32) (y7 : Int32) => ∀ (ls : Array Slot), lv_has ls 10 [(0, .ref (aW 0)), (1, .ref (aS 0)), (2, .int x2), (3, .int y3), (4, .int y4), (5, .int y5), (6, .int y6), (7, .int y7)] → W p l e rmX5_longestCommon s m args below meth c s.heap [] 0 0 (MQ below (vp_Si Q) args s 0 0 (fun _ => False)) (F0 m 110 ls []))
    (by
      intro y3 y4 y5 y6 y7 hf ls hl
      refine lv_iload hx hb dX5_longestCommon_14 (lv_at hl 7 rfl) ?_
      refine lv_aload_n hx hb dX5_longestCommon_16 rfl (lv_at hl 1 rfl) ?_
      refine va_get (D := D) (ci := 2) (v := .int (gS_length uS)) (C := RX4) (T := TX4) (N := 3) hx hb hts inX5_longestCommon_X4 hown hK hP 14 rfl rfl 2 (by decide) (hts (.fieldLink RX5 29 "GrowingText$Sheet" "length" "I") (List.mem_of_getElem? (i := 1) rfl)) (fun _ h9 => h9) rfl dX5_longestCommon_17 ?_
      refine lv_icmp_ge (tgt := 136) hx hb dX5_longestCommon_20 (by decide) (fun c1 => ?_) (fun c1 => ?_)
      · have hf := hf.1 (c1)
        refine lv_iload_n hx hb dX5_longestCommon_136 rfl (lv_at hl 2 rfl) ?_
        refine lv_if_eq (tgt := 145) hx hb dX5_longestCommon_137 (by decide) (fun c2 => ?_) (fun c2 => ?_)
        · have hf := hf.1 (c2)
          refine lv_iload hx hb dX5_longestCommon_145 (lv_at hl 5 rfl) ?_
          exact k_iret_r (v := y5) hx hb hr hlocks hf dX5_longestCommon_147
        · have hf := hf.2 (c2)
          refine lv_iload hx hb dX5_longestCommon_140 (lv_at hl 6 rfl) ?_
          refine lv_goto (tgt := 147) hx hb dX5_longestCommon_142 (by decide) ?_
          exact k_iret_r (v := y6) hx hb hr hlocks hf dX5_longestCommon_147
      · have hf := hf.2 (c1)
        refine lv_aload_n hx hb dX5_longestCommon_23 rfl (lv_at hl 1 rfl) ?_
        refine lv_iload hx hb dX5_longestCommon_24 (lv_at hl 7 rfl) ?_
        refine k_si (k_runV (As := [.int y7]) (rest := []) ⟨hx, hb, hml, hown, hts⟩ (cF_X4_letterAt l D q aS uS y7) (cwV 1 hts gX5_longestCommon_X4_letterAt rfl rfl rfl cdX4_letterAt ⟨Nat.le_of_ble_eq_true rfl, Nat.le_of_ble_eq_true rfl⟩) hK (kp_r (kp_r hP)) (kd_r (kd_r hD)) 0 rfl rfl rfl hl.1 rfl (Nat.le_of_ble_eq_true rfl) dX5_longestCommon_26 ⟨Nat.le_of_ble_eq_true rfl, Nat.le_of_ble_eq_true rfl⟩) (fun r hr => ?_)
        subst hr
        refine lv_istore (lv' := [(8, .int (fX4_letterAt uS y7)), (0, .ref (aW 0)), (1, .ref (aS 0)), (2, .int x2), (3, .int y3), (4, .int y4), (5, .int y5), (6, .int y6), (7, .int y7)]) hx hb dX5_longestCommon_29 hl (by decide) rfl (fun ls hl => ?_)
        refine lv_iconst (v := 0) hx hb dX5_longestCommon_31 (by decide) ?_
        refine lv_istore (lv' := [(9, .int 0), (8, .int (fX4_letterAt uS y7)), (0, .ref (aW 0)), (1, .ref (aS 0)), (2, .int x2), (3, .int y3), (4, .int y4), (5, .int y5), (6, .int y6), (7, .int y7)]) hx hb dX5_longestCommon_32 hl (by decide) rfl (fun ls hl => ?_)
        exact hf ls (lv_sub hl [2, 3, 4, 5, 6, 7, 8, 9, 1, 0] rfl))
    (by
      intro y3 y4 y5 y6 y7 y8 y9 hf ls hl
      refine lv_iload hx hb dX5_longestCommon_34 (lv_at hl 9 rfl) ?_
      refine lv_bipush (v := 121) hx hb dX5_longestCommon_36 (by decide) ?_
      refine lv_icmp_ge (tgt := 85) hx hb dX5_longestCommon_38 (by decide) (fun c3 => ?_) (fun c3 => ?_)
      · have hf := hf.1 (c3)
        exact hf ls (lv_sub hl [0, 1, 2, 3, 4, 5, 6, 7, 8] rfl)
      · have hf := hf.2 (c3)
        refine lv_iload_n hx hb dX5_longestCommon_41 rfl (lv_at hl 3 rfl) ?_
        refine lv_if_le (tgt := 85) hx hb dX5_longestCommon_42 (by decide) (fun c4 => ?_) (fun c4 => ?_)
        · have hf := hf.1 (c4)
          exact hf ls (lv_sub hl [0, 1, 2, 3, 4, 5, 6, 7, 8] rfl)
        · have hf := hf.2 (c4)
          refine lv_aload_n hx hb dX5_longestCommon_45 rfl (lv_at hl 0 rfl) ?_
          refine va_get (D := D) (ci := 3) (v := .ref (aM 0)) (C := RX5) (T := TX5) (N := 5) hx hb hts inX5_longestCommon_X5 hown hK hP 0 rfl rfl 0 (by decide) (hts (.fieldLink RX5 9 "GrowingText$Words" "machine" "LGrowingText$Machine;") (List.mem_of_getElem? (i := 2) rfl)) (fun _ h9 => h9) rfl dX5_longestCommon_46 ?_
          refine lv_iload_n hx hb dX5_longestCommon_49 rfl (lv_at hl 3 rfl) ?_
          refine lv_iload hx hb dX5_longestCommon_50 (lv_at hl 8 rfl) ?_
          refine k_si (k_runV (As := [.int y3, .int y8]) (rest := []) ⟨hx, hb, hml, hown, hts⟩ (cF_X2_moveOf l D q aM uM y3 y8) (cwV 2 hts gX5_longestCommon_X2_moveOf rfl rfl rfl cdX2_moveOf ⟨Nat.le_of_ble_eq_true rfl, Nat.le_of_ble_eq_true rfl⟩) hK (kp_l (a := wM aM q uM) (b := wS aS q uS) (kp_r hP)) (kd_l (a := wM aM q uM) (b := wS aS q uS) (kd_r hD)) 0 rfl rfl rfl hl.1 rfl (Nat.le_of_ble_eq_true rfl) dX5_longestCommon_52 ⟨Nat.le_of_ble_eq_true rfl, Nat.le_of_ble_eq_true rfl⟩) (fun r hr => ?_)
          subst hr
          refine lv_bipush (v := (-4)) hx hb dX5_longestCommon_55 (by decide) ?_
          refine lv_icmp_ne (tgt := 85) hx hb dX5_longestCommon_57 (by decide) (fun c5 => ?_) (fun c5 => ?_)
          · have hf := hf.2 (c5)
            exact hf ls (lv_sub hl [0, 1, 2, 3, 4, 5, 6, 7, 8] rfl)
          · have hf := hf.1 (c5)
            refine lv_aload_n hx hb dX5_longestCommon_60 rfl (lv_at hl 0 rfl) ?_
            refine va_get (D := D) (ci := 3) (v := .ref (aM 0)) (C := RX5) (T := TX5) (N := 5) hx hb hts inX5_longestCommon_X5 hown hK hP 0 rfl rfl 0 (by decide) (hts (.fieldLink RX5 9 "GrowingText$Words" "machine" "LGrowingText$Machine;") (List.mem_of_getElem? (i := 2) rfl)) (fun _ h9 => h9) rfl dX5_longestCommon_61 ?_
            refine lv_iload_n hx hb dX5_longestCommon_64 rfl (lv_at hl 3 rfl) ?_
            refine k_si (k_runV (As := [.int y3]) (rest := []) ⟨hx, hb, hml, hown, hts⟩ (cF_X2_linkOf l D q aM uM y3) (cwV 1 hts gX5_longestCommon_X2_linkOf rfl rfl rfl cdX2_linkOf ⟨Nat.le_of_ble_eq_true rfl, Nat.le_of_ble_eq_true rfl⟩) hK (kp_l (a := wM aM q uM) (b := wS aS q uS) (kp_r hP)) (kd_l (a := wM aM q uM) (b := wS aS q uS) (kd_r hD)) 0 rfl rfl rfl hl.1 rfl (Nat.le_of_ble_eq_true rfl) dX5_longestCommon_65 ⟨Nat.le_of_ble_eq_true rfl, Nat.le_of_ble_eq_true rfl⟩) (fun r hr => ?_)
            subst hr
            refine lv_istore_n (lv' := [(3, .int (fX2_linkOf uM y3)), (0, .ref (aW 0)), (1, .ref (aS 0)), (2, .int x2), (4, .int y4), (5, .int y5), (6, .int y6), (7, .int y7), (8, .int y8), (9, .int y9)]) hx hb dX5_longestCommon_68 rfl hl (by decide) rfl (fun ls hl => ?_)
            refine lv_aload_n hx hb dX5_longestCommon_69 rfl (lv_at hl 1 rfl) ?_
            refine va_get (D := D) (ci := 3) (v := .ref (aM 0)) (C := RX5) (T := TX5) (N := 5) hx hb hts inX5_longestCommon_X5 hown hK hP 0 rfl rfl 0 (by decide) (hts (.fieldLink RX5 9 "GrowingText$Words" "machine" "LGrowingText$Machine;") (List.mem_of_getElem? (i := 2) rfl)) (fun _ h9 => h9) rfl dX5_longestCommon_70 ?_
            refine lv_iload_n hx hb dX5_longestCommon_73 rfl (lv_at hl 0 rfl) ?_
            refine k_si (k_runV (As := [.int (fX2_linkOf uM y3)]) (rest := []) ⟨hx, hb, hml, hown, hts⟩ (cF_X2_longestOf l D q aM uM (fX2_linkOf uM y3)) (cwV 1 hts gX5_longestCommon_X2_longestOf rfl rfl rfl cdX2_longestOf ⟨Nat.le_of_ble_eq_true rfl, Nat.le_of_ble_eq_true rfl⟩) hK (kp_l (a := wM aM q uM) (b := wS aS q uS) (kp_r hP)) (kd_l (a := wM aM q uM) (b := wS aS q uS) (kd_r hD)) 0 rfl rfl rfl hl.1 rfl (Nat.le_of_ble_eq_true rfl) dX5_longestCommon_74 ⟨Nat.le_of_ble_eq_true rfl, Nat.le_of_ble_eq_true rfl⟩) (fun r hr => ?_)
            subst hr
            refine lv_istore (lv' := [(4, .int (fX2_longestOf uM (fX2_linkOf uM y3))), (3, .int (fX2_linkOf uM y3)), (0, .ref (aW 0)), (1, .ref (aS 0)), (2, .int x2), (5, .int y5), (6, .int y6), (7, .int y7), (8, .int y8), (9, .int y9)]) hx hb dX5_longestCommon_77 hl (by decide) rfl (fun ls hl => ?_)
            refine lv_iinc (v := (y9 + 1)) (lv' := [(9, .int (y9 + 1)), (4, .int (fX2_longestOf uM (fX2_linkOf uM y3))), (3, .int (fX2_linkOf uM y3)), (0, .ref (aW 0)), (1, .ref (aS 0)), (2, .int x2), (5, .int y5), (6, .int y6), (7, .int y7), (8, .int y8)]) hx hb dX5_longestCommon_79 hl (k := 9) rfl rfl (by decide) rfl (fun ls hl => ?_)
            refine lv_goto (tgt := 34) hx hb dX5_longestCommon_82 (by decide) ?_
            exact hf ls (lv_sub hl [3, 4, 5, 2, 1, 6, 7, 8, 9, 0] rfl))
    (by
      intro y3 y4 y5 y6 y7 y8 hf ls hl
      refine lv_aload_n hx hb dX5_longestCommon_85 rfl (lv_at hl 0 rfl) ?_
      refine va_get (D := D) (ci := 3) (v := .ref (aM 0)) (C := RX5) (T := TX5) (N := 5) hx hb hts inX5_longestCommon_X5 hown hK hP 0 rfl rfl 0 (by decide) (hts (.fieldLink RX5 9 "GrowingText$Words" "machine" "LGrowingText$Machine;") (List.mem_of_getElem? (i := 2) rfl)) (fun _ h9 => h9) rfl dX5_longestCommon_86 ?_
      refine lv_iload_n hx hb dX5_longestCommon_89 rfl (lv_at hl 3 rfl) ?_
      refine lv_iload hx hb dX5_longestCommon_90 (lv_at hl 8 rfl) ?_
      refine k_si (k_runV (As := [.int y3, .int y8]) (rest := []) ⟨hx, hb, hml, hown, hts⟩ (cF_X2_moveOf l D q aM uM y3 y8) (cwV 2 hts gX5_longestCommon_X2_moveOf rfl rfl rfl cdX2_moveOf ⟨Nat.le_of_ble_eq_true rfl, Nat.le_of_ble_eq_true rfl⟩) hK (kp_l (a := wM aM q uM) (b := wS aS q uS) (kp_r hP)) (kd_l (a := wM aM q uM) (b := wS aS q uS) (kd_r hD)) 0 rfl rfl rfl hl.1 rfl (Nat.le_of_ble_eq_true rfl) dX5_longestCommon_92 ⟨Nat.le_of_ble_eq_true rfl, Nat.le_of_ble_eq_true rfl⟩) (fun r hr => ?_)
      subst hr
      refine lv_istore (lv' := [(9, .int (fX2_moveOf uM y3 y8)), (0, .ref (aW 0)), (1, .ref (aS 0)), (2, .int x2), (3, .int y3), (4, .int y4), (5, .int y5), (6, .int y6), (7, .int y7), (8, .int y8)]) hx hb dX5_longestCommon_95 hl (by decide) rfl (fun ls hl => ?_)
      refine lv_iload hx hb dX5_longestCommon_97 (lv_at hl 0 rfl) ?_
      refine lv_bipush (v := (-4)) hx hb dX5_longestCommon_99 (by decide) ?_
      refine lv_icmp_eq (tgt := 110) hx hb dX5_longestCommon_101 (by decide) (fun c6 => ?_) (fun c6 => ?_)
      · have hf := hf.1 (c6)
        exact hf ls (lv_sub hl [1, 2, 3, 4, 5, 6, 7, 8] rfl)
      · have hf := hf.2 (c6)
        refine lv_iload hx hb dX5_longestCommon_104 (lv_at hl 0 rfl) ?_
        refine lv_istore_n (lv' := [(3, .int (fX2_moveOf uM y3 y8)), (9, .int (fX2_moveOf uM y3 y8)), (0, .ref (aW 0)), (1, .ref (aS 0)), (2, .int x2), (4, .int y4), (5, .int y5), (6, .int y6), (7, .int y7), (8, .int y8)]) hx hb dX5_longestCommon_106 rfl hl (by decide) rfl (fun ls hl => ?_)
        refine lv_iinc (v := (y4 + 1)) (lv' := [(4, .int (y4 + 1)), (3, .int (fX2_moveOf uM y3 y8)), (9, .int (fX2_moveOf uM y3 y8)), (0, .ref (aW 0)), (1, .ref (aS 0)), (2, .int x2), (5, .int y5), (6, .int y6), (7, .int y7), (8, .int y8)]) hx hb dX5_longestCommon_107 hl (k := 5) rfl rfl (by decide) rfl (fun ls hl => ?_)
        exact hf ls (lv_sub hl [3, 4, 5, 1, 0, 6, 7, 8] rfl))
    (by
      intro y3 y4 y5 y6 y7 hf ls hl
      refine lv_iload hx hb dX5_longestCommon_110 (lv_at hl 4 rfl) ?_
      refine lv_iload hx hb dX5_longestCommon_112 (lv_at hl 5 rfl) ?_
      refine lv_icmp_le (tgt := 130) hx hb dX5_longestCommon_114 (by decide) (fun c7 => ?_) (fun c7 => ?_)
      · have hf := hf.1 (c7)
        refine lv_iinc (v := (y7 + 1)) (lv' := [(7, .int (y7 + 1)), (0, .ref (aW 0)), (1, .ref (aS 0)), (2, .int x2), (3, .int y3), (4, .int y4), (5, .int y5), (6, .int y6)]) hx hb dX5_longestCommon_130 hl (k := 7) rfl rfl (by decide) rfl (fun ls hl => ?_)
        refine lv_goto (tgt := 14) hx hb dX5_longestCommon_133 (by decide) ?_
        exact hf ls (lv_sub hl [1, 2, 3, 4, 5, 6, 7, 0] rfl)
      · have hf := hf.2 (c7)
        refine lv_iload hx hb dX5_longestCommon_117 (lv_at hl 4 rfl) ?_
        refine lv_istore (lv' := [(5, .int y4), (0, .ref (aW 0)), (1, .ref (aS 0)), (2, .int x2), (3, .int y3), (4, .int y4), (6, .int y6), (7, .int y7)]) hx hb dX5_longestCommon_119 hl (by decide) rfl (fun ls hl => ?_)
        refine lv_iload hx hb dX5_longestCommon_121 (lv_at hl 7 rfl) ?_
        refine lv_iconst (v := 1) hx hb dX5_longestCommon_123 (by decide) ?_
        refine lv_iadd hx hb dX5_longestCommon_124 ?_
        refine lv_iload hx hb dX5_longestCommon_125 (lv_at hl 5 rfl) ?_
        refine lv_isub hx hb dX5_longestCommon_127 ?_
        refine lv_istore (lv' := [(6, .int ((y7 + 1) - y4)), (5, .int y4), (0, .ref (aW 0)), (1, .ref (aS 0)), (2, .int x2), (3, .int y3), (4, .int y4), (7, .int y7)]) hx hb dX5_longestCommon_128 hl (by decide) rfl (fun ls hl => ?_)
        refine lv_iinc (v := (y7 + 1)) (lv' := [(7, .int (y7 + 1)), (6, .int ((y7 + 1) - y4)), (5, .int y4), (0, .ref (aW 0)), (1, .ref (aS 0)), (2, .int x2), (3, .int y3), (4, .int y4)]) hx hb dX5_longestCommon_130 hl (k := 7) rfl rfl (by decide) rfl (fun ls hl => ?_)
        refine lv_goto (tgt := 14) hx hb dX5_longestCommon_133 (by decide) ?_
        exact hf ls (lv_sub hl [3, 4, 5, 6, 7, 2, 1, 0] rfl))
  refine lv_iconst (v := 0) hx hb dX5_longestCommon_0 (by decide) ?_
  refine lv_istore_n (lv' := [(3, .int 0), (0, .ref (aW 0)), (1, .ref (aS 0)), (2, .int x2)]) hx hb dX5_longestCommon_1 rfl hl (by decide) rfl (fun ls hl => ?_)
  refine lv_iconst (v := 0) hx hb dX5_longestCommon_2 (by decide) ?_
  refine lv_istore (lv' := [(4, .int 0), (3, .int 0), (0, .ref (aW 0)), (1, .ref (aS 0)), (2, .int x2)]) hx hb dX5_longestCommon_3 hl (by decide) rfl (fun ls hl => ?_)
  refine lv_iconst (v := 0) hx hb dX5_longestCommon_5 (by decide) ?_
  refine lv_istore (lv' := [(5, .int 0), (4, .int 0), (3, .int 0), (0, .ref (aW 0)), (1, .ref (aS 0)), (2, .int x2)]) hx hb dX5_longestCommon_6 hl (by decide) rfl (fun ls hl => ?_)
  refine lv_iconst (v := 0) hx hb dX5_longestCommon_8 (by decide) ?_
  refine lv_istore (lv' := [(6, .int 0), (5, .int 0), (4, .int 0), (3, .int 0), (0, .ref (aW 0)), (1, .ref (aS 0)), (2, .int x2)]) hx hb dX5_longestCommon_9 hl (by decide) rfl (fun ls hl => ?_)
  refine lv_iconst (v := 0) hx hb dX5_longestCommon_11 (by decide) ?_
  refine lv_istore (lv' := [(7, .int 0), (6, .int 0), (5, .int 0), (4, .int 0), (3, .int 0), (0, .ref (aW 0)), (1, .ref (aS 0)), (2, .int x2)]) hx hb dX5_longestCommon_12 hl (by decide) rfl (fun ls hl => ?_)
  exact hf ls (lv_sub hl [5, 6, 7, 4, 3, 2, 1, 0] rfl)
def wpX5_stateOfLast (uW : WSt) (uM : MSt) (x1 : Int32) (Q : Int32 → Prop) : Prop :=
  ∀ (X10 : Int32 → Int32 → Prop),
  (∀ (y2 : Int32) (y3 : Int32),
    (((121 : Int32) ≤ y3 →
      Q y2) ∧
    (¬ ((121 : Int32) ≤ y3) →
      (y2 ≤ 0 →
        Q y2) ∧
      (¬ (y2 ≤ 0) →
        ((fX2_shortestOf uM y2) ≤ x1 →
          Q y2) ∧
        (¬ ((fX2_shortestOf uM y2) ≤ x1) →
          X10 (fX2_linkOf uM y2) (y3 + 1))))) → X10 y2 y3) →
  X10 (fX2_lastState uM) 0
def rmX5_stateOfLast : Room := { frames := 3, cells := 0, slots := 0, locals := 63 }
theorem inX5_stateOfLast_X5 : ∀ w ∈ wsX50, w ∈ wsX5_stateOfLast := fun w h => List.mem_cons_of_mem _ (List.mem_append_left _ (List.mem_append_right _ h))
set_option maxRecDepth 100000 in
set_option maxHeartbeats 4000000 in
theorem c_X5_stateOfLast (l : Launch) (D : va_G) (q : Nat → ClassId) (aW : Nat → Nat) (aM : Nat → Nat) (uW : WSt) (uM : MSt) (x1 : Int32) (Q : Int32 → Prop) (hf : wpX5_stateOfLast uW uM x1 Q) : Met l yX5_stateOfLast wsX5_stateOfLast rmX5_stateOfLast (va_Pc [.ref (aW 0), .int x1] (kP D q (wW aW aM q uW ++ wM aM q uM))) (vp_Si Q) 0 0 (fun _ => False) := by
  refine Met.ofW (cc := cX5_stateOfLast) (maxL := 4) (ret := (some .int)) (by decide) rfl ?_
  intro p e s m args below meth c s₁ B hml hv
  obtain ⟨hargs, hP, hK, hD⟩ := hv
  have hx := B.exec
  have hb := B.bytes
  have hr := B.returns
  have hts := atoms_spec (ws := wsX5_stateOfLast) B.pre
  have hown : s.vm.findClass RX5 = some m.cls := findClass_of_methodNamed B.named
  have hlocks := B.notSynchronized
  refine k_entry hargs (Nat.le_of_ble_eq_true rfl) (fun ls hl => ?_)
  have hl : lv_has ls 4 [(0, .ref (aW 0)), (1, .int x1)] := hl
  change W p l e rmX5_stateOfLast s m args below meth c s.heap [] 0 0 (MQ below (vp_Si Q) args s 0 0 (fun _ => False)) _
  unfold wpX5_stateOfLast at hf
  have hf := hf
    (fun (y2 : Int32) (y3 : Int32) => ∀ (ls : Array Slot), lv_has ls 4 [(0, .ref (aW 0)), (1, .int x1), (2, .int y2), (3, .int y3)] → W p l e rmX5_stateOfLast s m args below meth c s.heap [] 0 0 (MQ below (vp_Si Q) args s 0 0 (fun _ => False)) (F0 m 10 ls []))
    (by
      intro y2 y3 hf ls hl
      refine lv_iload_n hx hb dX5_stateOfLast_10 rfl (lv_at hl 3 rfl) ?_
      refine lv_bipush (v := 121) hx hb dX5_stateOfLast_11 (by decide) ?_
      refine lv_icmp_ge (tgt := 47) hx hb dX5_stateOfLast_13 (by decide) (fun c1 => ?_) (fun c1 => ?_)
      · have hf := hf.1 (c1)
        refine lv_iload_n hx hb dX5_stateOfLast_47 rfl (lv_at hl 2 rfl) ?_
        exact k_iret_r (v := y2) hx hb hr hlocks hf dX5_stateOfLast_48
      · have hf := hf.2 (c1)
        refine lv_iload_n hx hb dX5_stateOfLast_16 rfl (lv_at hl 2 rfl) ?_
        refine lv_if_le (tgt := 47) hx hb dX5_stateOfLast_17 (by decide) (fun c2 => ?_) (fun c2 => ?_)
        · have hf := hf.1 (c2)
          refine lv_iload_n hx hb dX5_stateOfLast_47 rfl (lv_at hl 2 rfl) ?_
          exact k_iret_r (v := y2) hx hb hr hlocks hf dX5_stateOfLast_48
        · have hf := hf.2 (c2)
          refine lv_aload_n hx hb dX5_stateOfLast_20 rfl (lv_at hl 0 rfl) ?_
          refine va_get (D := D) (ci := 3) (v := .ref (aM 0)) (C := RX5) (T := TX5) (N := 5) hx hb hts inX5_stateOfLast_X5 hown hK hP 0 rfl rfl 0 (by decide) (hts (.fieldLink RX5 9 "GrowingText$Words" "machine" "LGrowingText$Machine;") (List.mem_of_getElem? (i := 1) rfl)) (fun _ h9 => h9) rfl dX5_stateOfLast_21 ?_
          refine lv_iload_n hx hb dX5_stateOfLast_24 rfl (lv_at hl 2 rfl) ?_
          refine k_si (k_runV (As := [.int y2]) (rest := []) ⟨hx, hb, hml, hown, hts⟩ (cF_X2_shortestOf l D q aM uM y2) (cwV 1 hts gX5_stateOfLast_X2_shortestOf rfl rfl rfl cdX2_shortestOf ⟨Nat.le_of_ble_eq_true rfl, Nat.le_of_ble_eq_true rfl⟩) hK (kp_r hP) (kd_r hD) 0 rfl rfl rfl hl.1 rfl (Nat.le_of_ble_eq_true rfl) dX5_stateOfLast_25 ⟨Nat.le_of_ble_eq_true rfl, Nat.le_of_ble_eq_true rfl⟩) (fun r hr => ?_)
          subst hr
          refine lv_iload_n hx hb dX5_stateOfLast_28 rfl (lv_at hl 1 rfl) ?_
          refine lv_icmp_le (tgt := 47) hx hb dX5_stateOfLast_29 (by decide) (fun c3 => ?_) (fun c3 => ?_)
          · have hf := hf.1 (c3)
            refine lv_iload_n hx hb dX5_stateOfLast_47 rfl (lv_at hl 2 rfl) ?_
            exact k_iret_r (v := y2) hx hb hr hlocks hf dX5_stateOfLast_48
          · have hf := hf.2 (c3)
            refine lv_aload_n hx hb dX5_stateOfLast_32 rfl (lv_at hl 0 rfl) ?_
            refine va_get (D := D) (ci := 3) (v := .ref (aM 0)) (C := RX5) (T := TX5) (N := 5) hx hb hts inX5_stateOfLast_X5 hown hK hP 0 rfl rfl 0 (by decide) (hts (.fieldLink RX5 9 "GrowingText$Words" "machine" "LGrowingText$Machine;") (List.mem_of_getElem? (i := 1) rfl)) (fun _ h9 => h9) rfl dX5_stateOfLast_33 ?_
            refine lv_iload_n hx hb dX5_stateOfLast_36 rfl (lv_at hl 2 rfl) ?_
            refine k_si (k_runV (As := [.int y2]) (rest := []) ⟨hx, hb, hml, hown, hts⟩ (cF_X2_linkOf l D q aM uM y2) (cwV 1 hts gX5_stateOfLast_X2_linkOf rfl rfl rfl cdX2_linkOf ⟨Nat.le_of_ble_eq_true rfl, Nat.le_of_ble_eq_true rfl⟩) hK (kp_r hP) (kd_r hD) 0 rfl rfl rfl hl.1 rfl (Nat.le_of_ble_eq_true rfl) dX5_stateOfLast_37 ⟨Nat.le_of_ble_eq_true rfl, Nat.le_of_ble_eq_true rfl⟩) (fun r hr => ?_)
            subst hr
            refine lv_istore_n (lv' := [(2, .int (fX2_linkOf uM y2)), (0, .ref (aW 0)), (1, .int x1), (3, .int y3)]) hx hb dX5_stateOfLast_40 rfl hl (by decide) rfl (fun ls hl => ?_)
            refine lv_iinc (v := (y3 + 1)) (lv' := [(3, .int (y3 + 1)), (2, .int (fX2_linkOf uM y2)), (0, .ref (aW 0)), (1, .int x1)]) hx hb dX5_stateOfLast_41 hl (k := 3) rfl rfl (by decide) rfl (fun ls hl => ?_)
            refine lv_goto (tgt := 10) hx hb dX5_stateOfLast_44 (by decide) ?_
            exact hf ls (lv_sub hl [2, 3, 1, 0] rfl))
  refine lv_aload_n hx hb dX5_stateOfLast_0 rfl (lv_at hl 0 rfl) ?_
  refine va_get (D := D) (ci := 3) (v := .ref (aM 0)) (C := RX5) (T := TX5) (N := 5) hx hb hts inX5_stateOfLast_X5 hown hK hP 0 rfl rfl 0 (by decide) (hts (.fieldLink RX5 9 "GrowingText$Words" "machine" "LGrowingText$Machine;") (List.mem_of_getElem? (i := 1) rfl)) (fun _ h9 => h9) rfl dX5_stateOfLast_1 ?_
  refine k_si (k_runV (As := []) (rest := []) ⟨hx, hb, hml, hown, hts⟩ (cF_X2_lastState l D q aM uM) (cwV 0 hts gX5_stateOfLast_X2_lastState rfl rfl rfl cdX2_lastState ⟨Nat.le_of_ble_eq_true rfl, Nat.le_of_ble_eq_true rfl⟩) hK (kp_r hP) (kd_r hD) 0 rfl rfl rfl hl.1 rfl (Nat.le_of_ble_eq_true rfl) dX5_stateOfLast_4 ⟨Nat.le_of_ble_eq_true rfl, Nat.le_of_ble_eq_true rfl⟩) (fun r hr => ?_)
  subst hr
  refine lv_istore_n (lv' := [(2, .int (fX2_lastState uM)), (0, .ref (aW 0)), (1, .int x1)]) hx hb dX5_stateOfLast_7 rfl hl (by decide) rfl (fun ls hl => ?_)
  refine lv_iconst (v := 0) hx hb dX5_stateOfLast_8 (by decide) ?_
  refine lv_istore_n (lv' := [(3, .int 0), (2, .int (fX2_lastState uM)), (0, .ref (aW 0)), (1, .int x1)]) hx hb dX5_stateOfLast_9 rfl hl (by decide) rfl (fun ls hl => ?_)
  exact hf ls (lv_sub hl [2, 3, 1, 0] rfl)
def wpX5_likeliestBehind (uW : WSt) (uM : MSt) (x1 : Int32) (Q : Int32 → Prop) : Prop :=
  ∀ (X8 : Int32 → Int32 → Int32 → Prop),
  (∀ (y2 : Int32) (y3 : Int32) (y4 : Int32),
    (((gM_alphabet uM) ≤ y4 →
      Q y2) ∧
    (¬ ((gM_alphabet uM) ≤ y4) →
      ((fJ13_bitCount_95d88 (fX2_endsOf uM (fX2_moveOf uM x1 y4))) ≤ y3 →
        X8 y2 y3 (y4 + 1)) ∧
      (¬ ((fJ13_bitCount_95d88 (fX2_endsOf uM (fX2_moveOf uM x1 y4))) ≤ y3) →
        X8 y4 (fJ13_bitCount_95d88 (fX2_endsOf uM (fX2_moveOf uM x1 y4))) (y4 + 1)))) → X8 y2 y3 y4) →
  X8 (-4) 0 0
def rmX5_likeliestBehind : Room := { frames := 2, cells := 0, slots := 0, locals := 43 }
theorem inX5_likeliestBehind_X2 : ∀ w ∈ wsX20, w ∈ wsX5_likeliestBehind := fun w h => List.mem_cons_of_mem _ (List.mem_append_right _ h)
theorem inX5_likeliestBehind_X5 : ∀ w ∈ wsX50, w ∈ wsX5_likeliestBehind := fun w h => List.mem_cons_of_mem _ (List.mem_append_left _ (List.mem_append_right _ h))
set_option maxRecDepth 100000 in
set_option maxHeartbeats 4000000 in
theorem c_X5_likeliestBehind (l : Launch) (D : va_G) (q : Nat → ClassId) (aW : Nat → Nat) (aM : Nat → Nat) (uW : WSt) (uM : MSt) (x1 : Int32) (Q : Int32 → Prop) (hf : wpX5_likeliestBehind uW uM x1 Q) : Met l yX5_likeliestBehind wsX5_likeliestBehind rmX5_likeliestBehind (va_Pc [.ref (aW 0), .int x1] (kP D q (wW aW aM q uW ++ wM aM q uM))) (vp_Si Q) 0 0 (fun _ => False) := by
  refine Met.ofW (cc := cX5_likeliestBehind) (maxL := 6) (ret := (some .int)) (by decide) rfl ?_
  intro p e s m args below meth c s₁ B hml hv
  obtain ⟨hargs, hP, hK, hD⟩ := hv
  have hx := B.exec
  have hb := B.bytes
  have hr := B.returns
  have hts := atoms_spec (ws := wsX5_likeliestBehind) B.pre
  have hown : s.vm.findClass RX5 = some m.cls := findClass_of_methodNamed B.named
  have hlocks := B.notSynchronized
  refine k_entry hargs (Nat.le_of_ble_eq_true rfl) (fun ls hl => ?_)
  have hl : lv_has ls 6 [(0, .ref (aW 0)), (1, .int x1)] := hl
  change W p l e rmX5_likeliestBehind s m args below meth c s.heap [] 0 0 (MQ below (vp_Si Q) args s 0 0 (fun _ => False)) _
  unfold wpX5_likeliestBehind at hf
  have hf := hf
    (fun (y2 : Int32) (y3 : Int32) (y4 : Int32) => ∀ (ls : Array Slot), lv_has ls 6 [(0, .ref (aW 0)), (1, .int x1), (2, .int y2), (3, .int y3), (4, .int y4)] → W p l e rmX5_likeliestBehind s m args below meth c s.heap [] 0 0 (MQ below (vp_Si Q) args s 0 0 (fun _ => False)) (F0 m 8 ls []))
    (by
      intro y2 y3 y4 hf ls hl
      refine lv_iload hx hb dX5_likeliestBehind_8 (lv_at hl 4 rfl) ?_
      refine lv_aload_n hx hb dX5_likeliestBehind_10 rfl (lv_at hl 0 rfl) ?_
      refine va_get (D := D) (ci := 3) (v := .ref (aM 0)) (C := RX5) (T := TX5) (N := 5) hx hb hts inX5_likeliestBehind_X5 hown hK hP 0 rfl rfl 0 (by decide) (hts (.fieldLink RX5 9 "GrowingText$Words" "machine" "LGrowingText$Machine;") (List.mem_of_getElem? (i := 1) rfl)) (fun _ h9 => h9) rfl dX5_likeliestBehind_11 ?_
      refine va_get (D := D) (ci := 1) (v := .int (gM_alphabet uM)) (C := RX2) (T := TX2) (N := 12) hx hb hts inX5_likeliestBehind_X2 hown hK hP 5 rfl rfl 0 (by decide) (hts (.fieldLink RX5 79 "GrowingText$Machine" "alphabet" "I") (List.mem_of_getElem? (i := 2) rfl)) (fun _ h9 => h9) rfl dX5_likeliestBehind_14 ?_
      refine lv_icmp_ge (tgt := 60) hx hb dX5_likeliestBehind_17 (by decide) (fun c1 => ?_) (fun c1 => ?_)
      · have hf := hf.1 (c1)
        refine lv_iload_n hx hb dX5_likeliestBehind_60 rfl (lv_at hl 2 rfl) ?_
        exact k_iret_r (v := y2) hx hb hr hlocks hf dX5_likeliestBehind_61
      · have hf := hf.2 (c1)
        refine lv_aload_n hx hb dX5_likeliestBehind_20 rfl (lv_at hl 0 rfl) ?_
        refine va_get (D := D) (ci := 3) (v := .ref (aM 0)) (C := RX5) (T := TX5) (N := 5) hx hb hts inX5_likeliestBehind_X5 hown hK hP 0 rfl rfl 0 (by decide) (hts (.fieldLink RX5 9 "GrowingText$Words" "machine" "LGrowingText$Machine;") (List.mem_of_getElem? (i := 1) rfl)) (fun _ h9 => h9) rfl dX5_likeliestBehind_21 ?_
        refine lv_aload_n hx hb dX5_likeliestBehind_24 rfl (lv_at hl 0 rfl) ?_
        refine va_get (D := D) (ci := 3) (v := .ref (aM 0)) (C := RX5) (T := TX5) (N := 5) hx hb hts inX5_likeliestBehind_X5 hown hK hP 0 rfl rfl 0 (by decide) (hts (.fieldLink RX5 9 "GrowingText$Words" "machine" "LGrowingText$Machine;") (List.mem_of_getElem? (i := 1) rfl)) (fun _ h9 => h9) rfl dX5_likeliestBehind_25 ?_
        refine lv_iload_n hx hb dX5_likeliestBehind_28 rfl (lv_at hl 1 rfl) ?_
        refine lv_iload hx hb dX5_likeliestBehind_29 (lv_at hl 4 rfl) ?_
        refine k_si (k_runV (As := [.int x1, .int y4]) (rest := [.ref (aM 0)]) ⟨hx, hb, hml, hown, hts⟩ (cF_X2_moveOf l D q aM uM x1 y4) (cwV 2 hts gX5_likeliestBehind_X2_moveOf rfl rfl rfl cdX2_moveOf ⟨Nat.le_of_ble_eq_true rfl, Nat.le_of_ble_eq_true rfl⟩) hK (kp_r hP) (kd_r hD) 0 rfl rfl rfl hl.1 rfl (Nat.le_of_ble_eq_true rfl) dX5_likeliestBehind_31 ⟨Nat.le_of_ble_eq_true rfl, Nat.le_of_ble_eq_true rfl⟩) (fun r hr => ?_)
        subst hr
        refine k_sl (k_runV (As := [.int (fX2_moveOf uM x1 y4)]) (rest := []) ⟨hx, hb, hml, hown, hts⟩ (cF_X2_endsOf l D q aM uM (fX2_moveOf uM x1 y4)) (cwV 1 hts gX5_likeliestBehind_X2_endsOf rfl rfl rfl cdX2_endsOf ⟨Nat.le_of_ble_eq_true rfl, Nat.le_of_ble_eq_true rfl⟩) hK (kp_r hP) (kd_r hD) 0 rfl rfl rfl hl.1 rfl (Nat.le_of_ble_eq_true rfl) dX5_likeliestBehind_34 ⟨Nat.le_of_ble_eq_true rfl, Nat.le_of_ble_eq_true rfl⟩) (fun r hr => ?_)
        subst hr
        refine k_si (k_runS (As := [.long (fX2_endsOf uM (fX2_moveOf uM x1 y4))]) (rest := []) ⟨hx, hb, hml, hown, hts⟩ (cF_J13_bitCount_95d88 l D q (fX2_endsOf uM (fX2_moveOf uM x1 y4))) (va_cwS 1 hts gX5_likeliestBehind_J13_bitCount_95d88 rfl rfl rfl cdJ13_bitCount_95d88 ⟨Nat.le_of_ble_eq_true rfl, Nat.le_of_ble_eq_true rfl⟩) hK k_nilP k_nilD rfl hl.1 rfl (Nat.le_of_ble_eq_true rfl) dX5_likeliestBehind_37 ⟨Nat.le_of_ble_eq_true rfl, Nat.le_of_ble_eq_true rfl⟩) (fun r hr => ?_)
        subst hr
        refine lv_istore (lv' := [(5, .int (fJ13_bitCount_95d88 (fX2_endsOf uM (fX2_moveOf uM x1 y4)))), (0, .ref (aW 0)), (1, .int x1), (2, .int y2), (3, .int y3), (4, .int y4)]) hx hb dX5_likeliestBehind_40 hl (by decide) rfl (fun ls hl => ?_)
        refine lv_iload hx hb dX5_likeliestBehind_42 (lv_at hl 0 rfl) ?_
        refine lv_iload_n hx hb dX5_likeliestBehind_44 rfl (lv_at hl 4 rfl) ?_
        refine lv_icmp_le (tgt := 54) hx hb dX5_likeliestBehind_45 (by decide) (fun c2 => ?_) (fun c2 => ?_)
        · have hf := hf.1 (c2)
          refine lv_iinc (v := (y4 + 1)) (lv' := [(4, .int (y4 + 1)), (5, .int (fJ13_bitCount_95d88 (fX2_endsOf uM (fX2_moveOf uM x1 y4)))), (0, .ref (aW 0)), (1, .int x1), (2, .int y2), (3, .int y3)]) hx hb dX5_likeliestBehind_54 hl (k := 5) rfl rfl (by decide) rfl (fun ls hl => ?_)
          refine lv_goto (tgt := 8) hx hb dX5_likeliestBehind_57 (by decide) ?_
          exact hf ls (lv_sub hl [2, 3, 4, 5, 0] rfl)
        · have hf := hf.2 (c2)
          refine lv_iload hx hb dX5_likeliestBehind_48 (lv_at hl 0 rfl) ?_
          refine lv_istore_n (lv' := [(3, .int (fJ13_bitCount_95d88 (fX2_endsOf uM (fX2_moveOf uM x1 y4)))), (5, .int (fJ13_bitCount_95d88 (fX2_endsOf uM (fX2_moveOf uM x1 y4)))), (0, .ref (aW 0)), (1, .int x1), (2, .int y2), (4, .int y4)]) hx hb dX5_likeliestBehind_50 rfl hl (by decide) rfl (fun ls hl => ?_)
          refine lv_iload hx hb dX5_likeliestBehind_51 (lv_at hl 5 rfl) ?_
          refine lv_istore_n (lv' := [(2, .int y4), (3, .int (fJ13_bitCount_95d88 (fX2_endsOf uM (fX2_moveOf uM x1 y4)))), (5, .int (fJ13_bitCount_95d88 (fX2_endsOf uM (fX2_moveOf uM x1 y4)))), (0, .ref (aW 0)), (1, .int x1), (4, .int y4)]) hx hb dX5_likeliestBehind_53 rfl hl (by decide) rfl (fun ls hl => ?_)
          refine lv_iinc (v := (y4 + 1)) (lv' := [(4, .int (y4 + 1)), (2, .int y4), (3, .int (fJ13_bitCount_95d88 (fX2_endsOf uM (fX2_moveOf uM x1 y4)))), (5, .int (fJ13_bitCount_95d88 (fX2_endsOf uM (fX2_moveOf uM x1 y4)))), (0, .ref (aW 0)), (1, .int x1)]) hx hb dX5_likeliestBehind_54 hl (k := 5) rfl rfl (by decide) rfl (fun ls hl => ?_)
          refine lv_goto (tgt := 8) hx hb dX5_likeliestBehind_57 (by decide) ?_
          exact hf ls (lv_sub hl [4, 5, 1, 2, 0] rfl))
  refine lv_bipush (v := (-4)) hx hb dX5_likeliestBehind_0 (by decide) ?_
  refine lv_istore_n (lv' := [(2, .int (-4)), (0, .ref (aW 0)), (1, .int x1)]) hx hb dX5_likeliestBehind_2 rfl hl (by decide) rfl (fun ls hl => ?_)
  refine lv_iconst (v := 0) hx hb dX5_likeliestBehind_3 (by decide) ?_
  refine lv_istore_n (lv' := [(3, .int 0), (2, .int (-4)), (0, .ref (aW 0)), (1, .int x1)]) hx hb dX5_likeliestBehind_4 rfl hl (by decide) rfl (fun ls hl => ?_)
  refine lv_iconst (v := 0) hx hb dX5_likeliestBehind_5 (by decide) ?_
  refine lv_istore (lv' := [(4, .int 0), (3, .int 0), (2, .int (-4)), (0, .ref (aW 0)), (1, .int x1)]) hx hb dX5_likeliestBehind_6 hl (by decide) rfl (fun ls hl => ?_)
  exact hf ls (lv_sub hl [3, 4, 2, 1, 0] rfl)
