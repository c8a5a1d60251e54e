def wpJ13_bitCount_95d88 (x0 : Int64) (Q : Int32 → Prop) : Prop :=
  ∀ y1 : Int64, y1 = (x0 - ((((x0 : Int64).toUInt64 >>> ((1 : Int32).toInt64.toUInt64 &&& Int64.toUInt64 63)).toInt64) &&& 6148914691236517205)) →
  ∀ y2 : Int64, y2 = ((y1 &&& 3689348814741910323) + ((((y1 : Int64).toUInt64 >>> ((2 : Int32).toInt64.toUInt64 &&& Int64.toUInt64 63)).toInt64) &&& 3689348814741910323)) →
  ∀ y3 : Int64, y3 = ((y2 + (((y2 : Int64).toUInt64 >>> ((4 : Int32).toInt64.toUInt64 &&& Int64.toUInt64 63)).toInt64)) &&& 1085102592571150095) →
  ∀ y4 : Int64, y4 = (y3 + (((y3 : Int64).toUInt64 >>> ((8 : Int32).toInt64.toUInt64 &&& Int64.toUInt64 63)).toInt64)) →
  ∀ y5 : Int64, y5 = (y4 + (((y4 : Int64).toUInt64 >>> ((16 : Int32).toInt64.toUInt64 &&& Int64.toUInt64 63)).toInt64)) →
  ∀ y6 : Int64, y6 = (y5 + (((y5 : Int64).toUInt64 >>> ((32 : Int32).toInt64.toUInt64 &&& Int64.toUInt64 63)).toInt64)) →
  Q ((y6.toInt32) &&& 127)
def rmJ13_bitCount_95d88 : Room := { frames := 0, cells := 0, slots := 0, locals := 0 }
set_option maxRecDepth 100000 in
set_option maxHeartbeats 4000000 in
theorem c_J13_bitCount_95d88 (l : Launch) (D : va_G) (q : Nat → ClassId) (x0 : Int64) (Q : Int32 → Prop) (hf : wpJ13_bitCount_95d88 x0 Q) : Met l yJ13_bitCount_95d88 wsJ13_bitCount_95d88 rmJ13_bitCount_95d88 (va_Pc [.long x0] (kP D q ([]))) (vp_Si Q) 0 0 (fun _ => False) := by
  refine Met.ofW (cc := cJ13_bitCount_95d88) (maxL := 2) (ret := (some .int)) (by decide) rfl ?_
  intro p e s m args below meth c s₁ B hml hv
  obtain ⟨hargs, hP, hK, hD⟩ := hv
  have hx := B.exec
  have hb := B.bytes
  have hr := B.returns
  have hts := atoms_spec (ws := wsJ13_bitCount_95d88) B.pre
  have hown : s.vm.findClass RJ13 = some m.cls := findClass_of_methodNamed B.named
  have hlocks := B.notSynchronized
  refine k_entry hargs (Nat.le_of_ble_eq_true rfl) (fun ls hl => ?_)
  have hl : lv_has ls 2 [(0, .long x0)] := hl
  change W p l e rmJ13_bitCount_95d88 s m args below meth c s.heap [] 0 0 (MQ below (vp_Si Q) args s 0 0 (fun _ => False)) _
  unfold wpJ13_bitCount_95d88 at hf
  refine lv_lload_n hx hb dJ13_bitCount_95d88_0 rfl (lv_at hl 0 rfl) ?_
  refine lv_lload_n hx hb dJ13_bitCount_95d88_1 rfl (lv_at hl 0 rfl) ?_
  refine lv_iconst (v := 1) hx hb dJ13_bitCount_95d88_2 (by decide) ?_
  refine lv_lushr (v := ((x0 : Int64).toUInt64 >>> ((1 : Int32).toInt64.toUInt64 &&& Int64.toUInt64 63)).toInt64) hx hb dJ13_bitCount_95d88_3 rfl ?_
  refine lv_ldc2 (v := 6148914691236517205) hx hb hown (hts (.constantLong RJ13 314 (6148914691236517205)) (List.mem_of_getElem? (i := 1) rfl)) dJ13_bitCount_95d88_4 ?_
  refine lv_land hx hb dJ13_bitCount_95d88_7 ?_
  refine lv_lsub hx hb dJ13_bitCount_95d88_8 ?_
  refine lv_topl (fun y1 ey1 => ?_)
  have hf := hf y1 ey1
  refine lv_lstore_n (lv' := [(0, .long y1)]) hx hb dJ13_bitCount_95d88_9 rfl hl (by decide) rfl (fun ls hl => ?_)
  refine lv_lload_n hx hb dJ13_bitCount_95d88_10 rfl (lv_at hl 0 rfl) ?_
  refine lv_ldc2 (v := 3689348814741910323) hx hb hown (hts (.constantLong RJ13 316 (3689348814741910323)) (List.mem_of_getElem? (i := 2) rfl)) dJ13_bitCount_95d88_11 ?_
  refine lv_land hx hb dJ13_bitCount_95d88_14 ?_
  refine lv_lload_n hx hb dJ13_bitCount_95d88_15 rfl (lv_at hl 0 rfl) ?_
  refine lv_iconst (v := 2) hx hb dJ13_bitCount_95d88_16 (by decide) ?_
  refine lv_lushr (v := ((y1 : Int64).toUInt64 >>> ((2 : Int32).toInt64.toUInt64 &&& Int64.toUInt64 63)).toInt64) hx hb dJ13_bitCount_95d88_17 rfl ?_
  refine lv_ldc2 (v := 3689348814741910323) hx hb hown (hts (.constantLong RJ13 316 (3689348814741910323)) (List.mem_of_getElem? (i := 2) rfl)) dJ13_bitCount_95d88_18 ?_
  refine lv_land hx hb dJ13_bitCount_95d88_21 ?_
  refine lv_ladd hx hb dJ13_bitCount_95d88_22 ?_
  refine lv_topl (fun y2 ey2 => ?_)
  have hf := hf y2 ey2
  refine lv_lstore_n (lv' := [(0, .long y2)]) hx hb dJ13_bitCount_95d88_23 rfl hl (by decide) rfl (fun ls hl => ?_)
  refine lv_lload_n hx hb dJ13_bitCount_95d88_24 rfl (lv_at hl 0 rfl) ?_
  refine lv_lload_n hx hb dJ13_bitCount_95d88_25 rfl (lv_at hl 0 rfl) ?_
  refine lv_iconst (v := 4) hx hb dJ13_bitCount_95d88_26 (by decide) ?_
  refine lv_lushr (v := ((y2 : Int64).toUInt64 >>> ((4 : Int32).toInt64.toUInt64 &&& Int64.toUInt64 63)).toInt64) hx hb dJ13_bitCount_95d88_27 rfl ?_
  refine lv_ladd hx hb dJ13_bitCount_95d88_28 ?_
  refine lv_ldc2 (v := 1085102592571150095) hx hb hown (hts (.constantLong RJ13 318 (1085102592571150095)) (List.mem_of_getElem? (i := 3) rfl)) dJ13_bitCount_95d88_29 ?_
  refine lv_land hx hb dJ13_bitCount_95d88_32 ?_
  refine lv_topl (fun y3 ey3 => ?_)
  have hf := hf y3 ey3
  refine lv_lstore_n (lv' := [(0, .long y3)]) hx hb dJ13_bitCount_95d88_33 rfl hl (by decide) rfl (fun ls hl => ?_)
  refine lv_lload_n hx hb dJ13_bitCount_95d88_34 rfl (lv_at hl 0 rfl) ?_
  refine lv_lload_n hx hb dJ13_bitCount_95d88_35 rfl (lv_at hl 0 rfl) ?_
  refine lv_bipush (v := 8) hx hb dJ13_bitCount_95d88_36 (by decide) ?_
  refine lv_lushr (v := ((y3 : Int64).toUInt64 >>> ((8 : Int32).toInt64.toUInt64 &&& Int64.toUInt64 63)).toInt64) hx hb dJ13_bitCount_95d88_38 rfl ?_
  refine lv_ladd hx hb dJ13_bitCount_95d88_39 ?_
  refine lv_topl (fun y4 ey4 => ?_)
  have hf := hf y4 ey4
  refine lv_lstore_n (lv' := [(0, .long y4)]) hx hb dJ13_bitCount_95d88_40 rfl hl (by decide) rfl (fun ls hl => ?_)
  refine lv_lload_n hx hb dJ13_bitCount_95d88_41 rfl (lv_at hl 0 rfl) ?_
  refine lv_lload_n hx hb dJ13_bitCount_95d88_42 rfl (lv_at hl 0 rfl) ?_
  refine lv_bipush (v := 16) hx hb dJ13_bitCount_95d88_43 (by decide) ?_
  refine lv_lushr (v := ((y4 : Int64).toUInt64 >>> ((16 : Int32).toInt64.toUInt64 &&& Int64.toUInt64 63)).toInt64) hx hb dJ13_bitCount_95d88_45 rfl ?_
  refine lv_ladd hx hb dJ13_bitCount_95d88_46 ?_
  refine lv_topl (fun y5 ey5 => ?_)
  have hf := hf y5 ey5
  refine lv_lstore_n (lv' := [(0, .long y5)]) hx hb dJ13_bitCount_95d88_47 rfl hl (by decide) rfl (fun ls hl => ?_)
  refine lv_lload_n hx hb dJ13_bitCount_95d88_48 rfl (lv_at hl 0 rfl) ?_
  refine lv_lload_n hx hb dJ13_bitCount_95d88_49 rfl (lv_at hl 0 rfl) ?_
  refine lv_bipush (v := 32) hx hb dJ13_bitCount_95d88_50 (by decide) ?_
  refine lv_lushr (v := ((y5 : Int64).toUInt64 >>> ((32 : Int32).toInt64.toUInt64 &&& Int64.toUInt64 63)).toInt64) hx hb dJ13_bitCount_95d88_52 rfl ?_
  refine lv_ladd hx hb dJ13_bitCount_95d88_53 ?_
  refine lv_topl (fun y6 ey6 => ?_)
  have hf := hf y6 ey6
  refine lv_lstore_n (lv' := [(0, .long y6)]) hx hb dJ13_bitCount_95d88_54 rfl hl (by decide) rfl (fun ls hl => ?_)
  refine lv_lload_n hx hb dJ13_bitCount_95d88_55 rfl (lv_at hl 0 rfl) ?_
  refine lv_l2i (v := y6.toInt32) hx hb dJ13_bitCount_95d88_56 rfl ?_
  refine lv_bipush (v := 127) hx hb dJ13_bitCount_95d88_57 (by decide) ?_
  refine lv_iand hx hb dJ13_bitCount_95d88_59 ?_
  exact k_iret_r (v := ((y6.toInt32) &&& 127)) hx hb hr hlocks hf dJ13_bitCount_95d88_60
def fJ13_bitCount_95d88 (x0 : Int64) : Int32 := (let y1 : Int64 := (x0 - ((((x0 : Int64).toUInt64 >>> ((1 : Int32).toInt64.toUInt64 &&& Int64.toUInt64 63)).toInt64) &&& 6148914691236517205)); (let y2 : Int64 := ((y1 &&& 3689348814741910323) + ((((y1 : Int64).toUInt64 >>> ((2 : Int32).toInt64.toUInt64 &&& Int64.toUInt64 63)).toInt64) &&& 3689348814741910323)); (let y3 : Int64 := ((y2 + (((y2 : Int64).toUInt64 >>> ((4 : Int32).toInt64.toUInt64 &&& Int64.toUInt64 63)).toInt64)) &&& 1085102592571150095); (let y4 : Int64 := (y3 + (((y3 : Int64).toUInt64 >>> ((8 : Int32).toInt64.toUInt64 &&& Int64.toUInt64 63)).toInt64)); (let y5 : Int64 := (y4 + (((y4 : Int64).toUInt64 >>> ((16 : Int32).toInt64.toUInt64 &&& Int64.toUInt64 63)).toInt64)); (let y6 : Int64 := (y5 + (((y5 : Int64).toUInt64 >>> ((32 : Int32).toInt64.toUInt64 &&& Int64.toUInt64 63)).toInt64)); ((y6.toInt32) &&& 127)))))))
theorem pF_J13_bitCount_95d88 (x0 : Int64) (Q : Int32 → Prop) (hq : Q (fJ13_bitCount_95d88 x0)) : wpJ13_bitCount_95d88 x0 Q := by
  unfold fJ13_bitCount_95d88 at hq; unfold wpJ13_bitCount_95d88; exact (fun y1 ey1 => by subst ey1; exact (fun y2 ey2 => by subst ey2; exact (fun y3 ey3 => by subst ey3; exact (fun y4 ey4 => by subst ey4; exact (fun y5 ey5 => by subst ey5; exact (fun y6 ey6 => by subst ey6; exact hq))))))
theorem cF_J13_bitCount_95d88 (l : Launch) (D : va_G) (q : Nat → ClassId) (x0 : Int64) : Met l yJ13_bitCount_95d88 wsJ13_bitCount_95d88 rmJ13_bitCount_95d88 (va_Pc [.long x0] (kP D q ([]))) (vp_Si (fun r => r = fJ13_bitCount_95d88 x0)) 0 0 (fun _ => False) := c_J13_bitCount_95d88 l D q x0 _ (pF_J13_bitCount_95d88 x0 _ rfl)
def wpX0_firstOf (x0 : Int64) (Q : Int32 → Prop) : Prop :=
  Q (fJ13_bitCount_95d88 ((x0 &&& (-x0)) - 1))
def rmX0_firstOf : Room := { frames := 1, cells := 0, slots := 0, locals := 21 }
set_option maxRecDepth 100000 in
set_option maxHeartbeats 4000000 in
theorem c_X0_firstOf (l : Launch) (D : va_G) (q : Nat → ClassId) (x0 : Int64) (Q : Int32 → Prop) (hf : wpX0_firstOf x0 Q) : Met l yX0_firstOf wsX0_firstOf rmX0_firstOf (va_Pc [.long x0] (kP D q ([]))) (vp_Si Q) 0 0 (fun _ => False) := by
  refine Met.ofW (cc := cX0_firstOf) (maxL := 4) (ret := (some .int)) (by decide) rfl ?_
  intro p e s m args below meth c s₁ B hml hv
  obtain ⟨hargs, hP, hK, hD⟩ := hv
  have hx := B.exec
  have hb := B.bytes
  have hr := B.returns
  have hts := atoms_spec (ws := wsX0_firstOf) B.pre
  have hown : s.vm.findClass RX0 = some m.cls := findClass_of_methodNamed B.named
  have hlocks := B.notSynchronized
  refine k_entry hargs (Nat.le_of_ble_eq_true rfl) (fun ls hl => ?_)
  have hl : lv_has ls 4 [(0, .long x0)] := hl
  change W p l e rmX0_firstOf s m args below meth c s.heap [] 0 0 (MQ below (vp_Si Q) args s 0 0 (fun _ => False)) _
  unfold wpX0_firstOf at hf
  refine lv_lload_n hx hb dX0_firstOf_0 rfl (lv_at hl 0 rfl) ?_
  refine lv_lload_n hx hb dX0_firstOf_1 rfl (lv_at hl 0 rfl) ?_
  refine lv_lneg hx hb dX0_firstOf_2 ?_
  refine lv_land hx hb dX0_firstOf_3 ?_
  refine lv_lstore_n (lv' := [(2, .long (x0 &&& (-x0))), (0, .long x0)]) hx hb dX0_firstOf_4 rfl hl (by decide) rfl (fun ls hl => ?_)
  refine lv_lload_n hx hb dX0_firstOf_5 rfl (lv_at hl 0 rfl) ?_
  refine lv_lconst (v := 1) hx hb dX0_firstOf_6 (by decide) ?_
  refine lv_lsub hx hb dX0_firstOf_7 ?_
  refine k_si (k_runS (As := [.long ((x0 &&& (-x0)) - 1)]) (rest := []) ⟨hx, hb, hml, hown, hts⟩ (cF_J13_bitCount_95d88 l D q ((x0 &&& (-x0)) - 1)) (va_cwS 1 hts gX0_firstOf_J13_bitCount_95d88 rfl rfl rfl cdJ13_bitCount_95d88 ⟨Nat.le_of_ble_eq_true rfl, Nat.le_of_ble_eq_true rfl⟩) hK k_nilP k_nilD rfl hl.1 rfl (Nat.le_of_ble_eq_true rfl) dX0_firstOf_8 ⟨Nat.le_of_ble_eq_true rfl, Nat.le_of_ble_eq_true rfl⟩) (fun r hr => ?_)
  subst hr
  exact k_iret_r (v := (fJ13_bitCount_95d88 ((x0 &&& (-x0)) - 1))) hx hb hr hlocks hf dX0_firstOf_11
def fX0_firstOf (x0 : Int64) : Int32 := (fJ13_bitCount_95d88 ((x0 &&& (-x0)) - 1))
theorem pF_X0_firstOf (x0 : Int64) (Q : Int32 → Prop) (hq : Q (fX0_firstOf x0)) : wpX0_firstOf x0 Q := by
  unfold fX0_firstOf at hq; unfold wpX0_firstOf; exact hq
theorem cF_X0_firstOf (l : Launch) (D : va_G) (q : Nat → ClassId) (x0 : Int64) : Met l yX0_firstOf wsX0_firstOf rmX0_firstOf (va_Pc [.long x0] (kP D q ([]))) (vp_Si (fun r => r = fX0_firstOf x0)) 0 0 (fun _ => False) := c_X0_firstOf l D q x0 _ (pF_X0_firstOf x0 _ rfl)
def wpX0_withoutFirst (x0 : Int64) (Q : Int64 → Prop) : Prop :=
  Q (x0 &&& (x0 - 1))
def rmX0_withoutFirst : Room := { frames := 0, cells := 0, slots := 0, locals := 0 }
set_option maxRecDepth 100000 in
set_option maxHeartbeats 4000000 in
theorem c_X0_withoutFirst (l : Launch) (D : va_G) (q : Nat → ClassId) (x0 : Int64) (Q : Int64 → Prop) (hf : wpX0_withoutFirst x0 Q) : Met l yX0_withoutFirst wsX0_withoutFirst rmX0_withoutFirst (va_Pc [.long x0] (kP D q ([]))) (vp_Sl Q) 0 0 (fun _ => False) := by
  refine Met.ofW (cc := cX0_withoutFirst) (maxL := 2) (ret := (some .long)) (by decide) rfl ?_
  intro p e s m args below meth c s₁ B hml hv
  obtain ⟨hargs, hP, hK, hD⟩ := hv
  have hx := B.exec
  have hb := B.bytes
  have hr := B.returns
  have hts := atoms_spec (ws := wsX0_withoutFirst) B.pre
  have hown : s.vm.findClass RX0 = some m.cls := findClass_of_methodNamed B.named
  have hlocks := B.notSynchronized
  refine k_entry hargs (Nat.le_of_ble_eq_true rfl) (fun ls hl => ?_)
  have hl : lv_has ls 2 [(0, .long x0)] := hl
  change W p l e rmX0_withoutFirst s m args below meth c s.heap [] 0 0 (MQ below (vp_Sl Q) args s 0 0 (fun _ => False)) _
  unfold wpX0_withoutFirst at hf
  refine lv_lload_n hx hb dX0_withoutFirst_0 rfl (lv_at hl 0 rfl) ?_
  refine lv_lload_n hx hb dX0_withoutFirst_1 rfl (lv_at hl 0 rfl) ?_
  refine lv_lconst (v := 1) hx hb dX0_withoutFirst_2 (by decide) ?_
  refine lv_lsub hx hb dX0_withoutFirst_3 ?_
  refine lv_land hx hb dX0_withoutFirst_4 ?_
  exact k_lret_r (v := (x0 &&& (x0 - 1))) hx hb hr hlocks hf dX0_withoutFirst_5
def fX0_withoutFirst (x0 : Int64) : Int64 := (x0 &&& (x0 - 1))
theorem pF_X0_withoutFirst (x0 : Int64) (Q : Int64 → Prop) (hq : Q (fX0_withoutFirst x0)) : wpX0_withoutFirst x0 Q := by
  unfold fX0_withoutFirst at hq; unfold wpX0_withoutFirst; exact hq
theorem cF_X0_withoutFirst (l : Launch) (D : va_G) (q : Nat → ClassId) (x0 : Int64) : Met l yX0_withoutFirst wsX0_withoutFirst rmX0_withoutFirst (va_Pc [.long x0] (kP D q ([]))) (vp_Sl (fun r => r = fX0_withoutFirst x0)) 0 0 (fun _ => False) := c_X0_withoutFirst l D q x0 _ (pF_X0_withoutFirst x0 _ rfl)
def wpX0_kthOf (x0 : Int64) (x2 : Int32) (Q : Int32 → Prop) : Prop :=
  ∀ (X20 : Int64 → Int32 → Prop),
  (∀ (y3 : Int64) (y5 : Int32),
    ((x2 ≤ y5 →
      Q (fX0_firstOf y3)) ∧
    (¬ (x2 ≤ y5) →
      X20 (fX0_withoutFirst y3) (y5 + 1))) → X20 y3 y5) →
  ((x2 < 0 →
    Q (-4)) ∧
  (¬ (x2 < 0) →
    (x2 < (fJ13_bitCount_95d88 x0) →
      X20 x0 0) ∧
    (¬ (x2 < (fJ13_bitCount_95d88 x0)) →
      Q (-4))))
def rmX0_kthOf : Room := { frames := 2, cells := 0, slots := 0, locals := 44 }
set_option maxRecDepth 100000 in
set_option maxHeartbeats 4000000 in
theorem c_X0_kthOf (l : Launch) (D : va_G) (q : Nat → ClassId) (x0 : Int64) (x2 : Int32) (Q : Int32 → Prop) (hf : wpX0_kthOf x0 x2 Q) : Met l yX0_kthOf wsX0_kthOf rmX0_kthOf (va_Pc [.long x0, .int x2] (kP D q ([]))) (vp_Si Q) 0 0 (fun _ => False) := by
  refine Met.ofW (cc := cX0_kthOf) (maxL := 6) (ret := (some .int)) (by decide) rfl ?_
  intro p e s m args below meth c s₁ B hml hv
  obtain ⟨hargs, hP, hK, hD⟩ := hv
  have hx := B.exec
  have hb := B.bytes
  have hr := B.returns
  have hts := atoms_spec (ws := wsX0_kthOf) B.pre
  have hown : s.vm.findClass RX0 = some m.cls := findClass_of_methodNamed B.named
  have hlocks := B.notSynchronized
  refine k_entry hargs (Nat.le_of_ble_eq_true rfl) (fun ls hl => ?_)
  have hl : lv_has ls 6 [(0, .long x0), (2, .int x2)] := hl
  change W p l e rmX0_kthOf s m args below meth c s.heap [] 0 0 (MQ below (vp_Si Q) args s 0 0 (fun _ => False)) _
  unfold wpX0_kthOf at hf
  have hf := hf
    (fun (y3 : Int64) (y5 : Int32) => ∀ (ls : Array Slot), lv_has ls 6 [(2, .int x2), (3, .long y3), (5, .int y5)] → W p l e rmX0_kthOf s m args below meth c s.heap [] 0 0 (MQ below (vp_Si Q) args s 0 0 (fun _ => False)) (F0 m 20 ls []))
    (by
      intro y3 y5 hf ls hl
      refine lv_iload hx hb dX0_kthOf_20 (lv_at hl 2 rfl) ?_
      refine lv_iload_n hx hb dX0_kthOf_22 rfl (lv_at hl 0 rfl) ?_
      refine lv_icmp_ge (tgt := 37) hx hb dX0_kthOf_23 (by decide) (fun c3 => ?_) (fun c3 => ?_)
      · have hf := hf.1 (c3)
        refine lv_lload_n hx hb dX0_kthOf_37 rfl (lv_at hl 1 rfl) ?_
        refine k_si (k_runS (As := [.long y3]) (rest := []) ⟨hx, hb, hml, hown, hts⟩ (cF_X0_firstOf l D q y3) (va_cwS 1 hts gX0_kthOf_X0_firstOf rfl rfl rfl cdX0_firstOf ⟨Nat.le_of_ble_eq_true rfl, Nat.le_of_ble_eq_true rfl⟩) hK k_nilP k_nilD rfl hl.1 rfl (Nat.le_of_ble_eq_true rfl) dX0_kthOf_38 ⟨Nat.le_of_ble_eq_true rfl, Nat.le_of_ble_eq_true rfl⟩) (fun r hr => ?_)
        subst hr
        exact k_iret_r (v := (fX0_firstOf y3)) hx hb hr hlocks hf dX0_kthOf_41
      · have hf := hf.2 (c3)
        refine lv_lload_n hx hb dX0_kthOf_26 rfl (lv_at hl 1 rfl) ?_
        refine k_sl (k_runS (As := [.long y3]) (rest := []) ⟨hx, hb, hml, hown, hts⟩ (cF_X0_withoutFirst l D q y3) (va_cwS 1 hts gX0_kthOf_X0_withoutFirst rfl rfl rfl cdX0_withoutFirst ⟨Nat.le_of_ble_eq_true rfl, Nat.le_of_ble_eq_true rfl⟩) hK k_nilP k_nilD rfl hl.1 rfl (Nat.le_of_ble_eq_true rfl) dX0_kthOf_27 ⟨Nat.le_of_ble_eq_true rfl, Nat.le_of_ble_eq_true rfl⟩) (fun r hr => ?_)
        subst hr
        refine lv_lstore_n (lv' := [(3, .long (fX0_withoutFirst y3)), (2, .int x2), (5, .int y5)]) hx hb dX0_kthOf_30 rfl hl (by decide) rfl (fun ls hl => ?_)
        refine lv_iinc (v := (y5 + 1)) (lv' := [(5, .int (y5 + 1)), (3, .long (fX0_withoutFirst y3)), (2, .int x2)]) hx hb dX0_kthOf_31 hl (k := 2) rfl rfl (by decide) rfl (fun ls hl => ?_)
        refine lv_goto (tgt := 20) hx hb dX0_kthOf_34 (by decide) ?_
        exact hf ls (lv_sub hl [2, 1, 0] rfl))
  refine lv_iload_n hx hb dX0_kthOf_0 rfl (lv_at hl 1 rfl) ?_
  refine lv_if_lt (tgt := 12) hx hb dX0_kthOf_1 (by decide) (fun c1 => ?_) (fun c1 => ?_)
  · have hf := hf.1 (c1)
    refine lv_bipush (v := (-4)) hx hb dX0_kthOf_12 (by decide) ?_
    exact k_iret_r (v := (-4)) hx hb hr hlocks hf dX0_kthOf_14
  · have hf := hf.2 (c1)
    refine lv_iload_n hx hb dX0_kthOf_4 rfl (lv_at hl 1 rfl) ?_
    refine lv_lload_n hx hb dX0_kthOf_5 rfl (lv_at hl 0 rfl) ?_
    refine k_si (k_runS (As := [.long x0]) (rest := [.int x2]) ⟨hx, hb, hml, hown, hts⟩ (cF_J13_bitCount_95d88 l D q x0) (va_cwS 1 hts gX0_kthOf_J13_bitCount_95d88 rfl rfl rfl cdJ13_bitCount_95d88 ⟨Nat.le_of_ble_eq_true rfl, Nat.le_of_ble_eq_true rfl⟩) hK k_nilP k_nilD rfl hl.1 rfl (Nat.le_of_ble_eq_true rfl) dX0_kthOf_6 ⟨Nat.le_of_ble_eq_true rfl, Nat.le_of_ble_eq_true rfl⟩) (fun r hr => ?_)
    subst hr
    refine lv_icmp_lt (tgt := 15) hx hb dX0_kthOf_9 (by decide) (fun c2 => ?_) (fun c2 => ?_)
    · have hf := hf.1 (c2)
      refine lv_lload_n hx hb dX0_kthOf_15 rfl (lv_at hl 0 rfl) ?_
      refine lv_lstore_n (lv' := [(3, .long x0), (0, .long x0), (2, .int x2)]) hx hb dX0_kthOf_16 rfl hl (by decide) rfl (fun ls hl => ?_)
      refine lv_iconst (v := 0) hx hb dX0_kthOf_17 (by decide) ?_
      refine lv_istore (lv' := [(5, .int 0), (3, .long x0), (0, .long x0), (2, .int x2)]) hx hb dX0_kthOf_18 hl (by decide) rfl (fun ls hl => ?_)
      exact hf ls (lv_sub hl [3, 1, 0] rfl)
    · have hf := hf.2 (c2)
      refine lv_bipush (v := (-4)) hx hb dX0_kthOf_12 (by decide) ?_
      exact k_iret_r (v := (-4)) hx hb hr hlocks hf dX0_kthOf_14
def wpX0_widestGap (x0 : Int64) (Q : Int32 → Prop) : Prop :=
  ∀ (X13 : Int32 → Int64 → Int32 → Int32 → Prop),
  (∀ (y2 : Int32) (y3 : Int64) (y5 : Int32) (y6 : Int32),
    ((y2 ≤ y6 →
      Q y5) ∧
    (¬ (y2 ≤ y6) →
      X13 y2 (fX0_withoutFirst y3) (if (y5 : Int32) < ((fX0_firstOf (fX0_withoutFirst y3)) - (fX0_firstOf y3)) then ((fX0_firstOf (fX0_withoutFirst y3)) - (fX0_firstOf y3)) else y5) (y6 + 1))) → X13 y2 y3 y5 y6) →
  X13 (fJ13_bitCount_95d88 x0) x0 0 1
def rmX0_widestGap : Room := { frames := 2, cells := 0, slots := 0, locals := 44 }
set_option maxRecDepth 100000 in
set_option maxHeartbeats 4000000 in
theorem c_X0_widestGap (l : Launch) (D : va_G) (q : Nat → ClassId) (x0 : Int64) (Q : Int32 → Prop) (hf : wpX0_widestGap x0 Q) : Met l yX0_widestGap wsX0_widestGap rmX0_widestGap (va_Pc [.long x0] (kP D q ([]))) (vp_Si Q) 0 0 (fun _ => False) := by
  refine Met.ofW (cc := cX0_widestGap) (maxL := 8) (ret := (some .int)) (by decide) rfl ?_
  intro p e s m args below meth c s₁ B hml hv
  obtain ⟨hargs, hP, hK, hD⟩ := hv
  have hx := B.exec
  have hb := B.bytes
  have hr := B.returns
  have hts := atoms_spec (ws := wsX0_widestGap) B.pre
  have hown : s.vm.findClass RX0 = some m.cls := findClass_of_methodNamed B.named
  have hlocks := B.notSynchronized
  refine k_entry hargs (Nat.le_of_ble_eq_true rfl) (fun ls hl => ?_)
  have hl : lv_has ls 8 [(0, .long x0)] := hl
  change W p l e rmX0_widestGap s m args below meth c s.heap [] 0 0 (MQ below (vp_Si Q) args s 0 0 (fun _ => False)) _
  unfold wpX0_widestGap at hf
  have hf := hf
    (fun (y2 : Int32) (y3 : Int64) (y5 : Int32) (y6 : Int32) => ∀ (ls : Array Slot), lv_has ls 8 [(2, .int y2), (3, .long y3), (5, .int y5), (6, .int y6)] → W p l e rmX0_widestGap s m args below meth c s.heap [] 0 0 (MQ below (vp_Si Q) args s 0 0 (fun _ => False)) (F0 m 13 ls []))
    (by
      intro y2 y3 y5 y6 hf ls hl
      refine lv_iload hx hb dX0_widestGap_13 (lv_at hl 3 rfl) ?_
      refine lv_iload_n hx hb dX0_widestGap_15 rfl (lv_at hl 0 rfl) ?_
      refine lv_icmp_ge (tgt := 50) hx hb dX0_widestGap_16 (by decide) (fun c1 => ?_) (fun c1 => ?_)
      · have hf := hf.1 (c1)
        refine lv_iload hx hb dX0_widestGap_50 (lv_at hl 2 rfl) ?_
        exact k_iret_r (v := y5) hx hb hr hlocks hf dX0_widestGap_52
      · have hf := hf.2 (c1)
        refine lv_lload_n hx hb dX0_widestGap_19 rfl (lv_at hl 1 rfl) ?_
        refine k_si (k_runS (As := [.long y3]) (rest := []) ⟨hx, hb, hml, hown, hts⟩ (cF_X0_firstOf l D q y3) (va_cwS 1 hts gX0_widestGap_X0_firstOf rfl rfl rfl cdX0_firstOf ⟨Nat.le_of_ble_eq_true rfl, Nat.le_of_ble_eq_true rfl⟩) hK k_nilP k_nilD rfl hl.1 rfl (Nat.le_of_ble_eq_true rfl) dX0_widestGap_20 ⟨Nat.le_of_ble_eq_true rfl, Nat.le_of_ble_eq_true rfl⟩) (fun r hr => ?_)
        subst hr
        refine lv_istore (lv' := [(7, .int (fX0_firstOf y3)), (2, .int y2), (3, .long y3), (5, .int y5), (6, .int y6)]) hx hb dX0_widestGap_23 hl (by decide) rfl (fun ls hl => ?_)
        refine lv_lload_n hx hb dX0_widestGap_25 rfl (lv_at hl 2 rfl) ?_
        refine k_sl (k_runS (As := [.long y3]) (rest := []) ⟨hx, hb, hml, hown, hts⟩ (cF_X0_withoutFirst l D q y3) (va_cwS 1 hts gX0_widestGap_X0_withoutFirst rfl rfl rfl cdX0_withoutFirst ⟨Nat.le_of_ble_eq_true rfl, Nat.le_of_ble_eq_true rfl⟩) hK k_nilP k_nilD rfl hl.1 rfl (Nat.le_of_ble_eq_true rfl) dX0_widestGap_26 ⟨Nat.le_of_ble_eq_true rfl, Nat.le_of_ble_eq_true rfl⟩) (fun r hr => ?_)
        subst hr
        refine lv_lstore_n (lv' := [(3, .long (fX0_withoutFirst y3)), (7, .int (fX0_firstOf y3)), (2, .int y2), (5, .int y5), (6, .int y6)]) hx hb dX0_widestGap_29 rfl hl (by decide) rfl (fun ls hl => ?_)
        refine lv_iload hx hb dX0_widestGap_30 (lv_at hl 3 rfl) ?_
        refine lv_lload_n hx hb dX0_widestGap_32 rfl (lv_at hl 0 rfl) ?_
        refine k_si (k_runS (As := [.long (fX0_withoutFirst y3)]) (rest := [.int y5]) ⟨hx, hb, hml, hown, hts⟩ (cF_X0_firstOf l D q (fX0_withoutFirst y3)) (va_cwS 1 hts gX0_widestGap_X0_firstOf rfl rfl rfl cdX0_firstOf ⟨Nat.le_of_ble_eq_true rfl, Nat.le_of_ble_eq_true rfl⟩) hK k_nilP k_nilD rfl hl.1 rfl (Nat.le_of_ble_eq_true rfl) dX0_widestGap_33 ⟨Nat.le_of_ble_eq_true rfl, Nat.le_of_ble_eq_true rfl⟩) (fun r hr => ?_)
        subst hr
        refine lv_iload hx hb dX0_widestGap_36 (lv_at hl 1 rfl) ?_
        refine lv_isub hx hb dX0_widestGap_38 ?_
        refine va_mmax hx hb (hml.trans hl.1.symm) hown (hts (.methodLink RX0 24 Lib.Math.max.name) (List.mem_of_getElem? (i := 1) rfl)) (hts (.static Lib.Math.max.name) (List.mem_of_getElem? (i := 2) rfl)) (hts (.initialized "java/lang/Math") (List.mem_of_getElem? (i := 3) rfl)) (hts (.code Lib.Math.max.name Lib.Math.max.code 2 (some .int)) (List.mem_of_getElem? (i := 4) rfl)) (Nat.le_of_ble_eq_true rfl) (Nat.le_of_ble_eq_true rfl) (Nat.le_of_ble_eq_true rfl) (Nat.le_of_ble_eq_true rfl) dX0_widestGap_39 ?_
        refine lv_istore (lv' := [(5, .int (if (y5 : Int32) < ((fX0_firstOf (fX0_withoutFirst y3)) - (fX0_firstOf y3)) then ((fX0_firstOf (fX0_withoutFirst y3)) - (fX0_firstOf y3)) else y5)), (3, .long (fX0_withoutFirst y3)), (7, .int (fX0_firstOf y3)), (2, .int y2), (6, .int y6)]) hx hb dX0_widestGap_42 hl (by decide) rfl (fun ls hl => ?_)
        refine lv_iinc (v := (y6 + 1)) (lv' := [(6, .int (y6 + 1)), (5, .int (if (y5 : Int32) < ((fX0_firstOf (fX0_withoutFirst y3)) - (fX0_firstOf y3)) then ((fX0_firstOf (fX0_withoutFirst y3)) - (fX0_firstOf y3)) else y5)), (3, .long (fX0_withoutFirst y3)), (7, .int (fX0_firstOf y3)), (2, .int y2)]) hx hb dX0_widestGap_44 hl (k := 4) rfl rfl (by decide) rfl (fun ls hl => ?_)
        refine lv_goto (tgt := 13) hx hb dX0_widestGap_47 (by decide) ?_
        exact hf ls (lv_sub hl [4, 2, 1, 0] rfl))
  refine lv_lload_n hx hb dX0_widestGap_0 rfl (lv_at hl 0 rfl) ?_
  refine k_si (k_runS (As := [.long x0]) (rest := []) ⟨hx, hb, hml, hown, hts⟩ (cF_J13_bitCount_95d88 l D q x0) (va_cwS 1 hts gX0_widestGap_J13_bitCount_95d88 rfl rfl rfl cdJ13_bitCount_95d88 ⟨Nat.le_of_ble_eq_true rfl, Nat.le_of_ble_eq_true rfl⟩) hK k_nilP k_nilD rfl hl.1 rfl (Nat.le_of_ble_eq_true rfl) dX0_widestGap_1 ⟨Nat.le_of_ble_eq_true rfl, Nat.le_of_ble_eq_true rfl⟩) (fun r hr => ?_)
  subst hr
  refine lv_istore_n (lv' := [(2, .int (fJ13_bitCount_95d88 x0)), (0, .long x0)]) hx hb dX0_widestGap_4 rfl hl (by decide) rfl (fun ls hl => ?_)
  refine lv_lload_n hx hb dX0_widestGap_5 rfl (lv_at hl 1 rfl) ?_
  refine lv_lstore_n (lv' := [(3, .long x0), (2, .int (fJ13_bitCount_95d88 x0)), (0, .long x0)]) hx hb dX0_widestGap_6 rfl hl (by decide) rfl (fun ls hl => ?_)
  refine lv_iconst (v := 0) hx hb dX0_widestGap_7 (by decide) ?_
  refine lv_istore (lv' := [(5, .int 0), (3, .long x0), (2, .int (fJ13_bitCount_95d88 x0)), (0, .long x0)]) hx hb dX0_widestGap_8 hl (by decide) rfl (fun ls hl => ?_)
  refine lv_iconst (v := 1) hx hb dX0_widestGap_10 (by decide) ?_
  refine lv_istore (lv' := [(6, .int 1), (5, .int 0), (3, .long x0), (2, .int (fJ13_bitCount_95d88 x0)), (0, .long x0)]) hx hb dX0_widestGap_11 hl (by decide) rfl (fun ls hl => ?_)
  exact hf ls (lv_sub hl [3, 2, 1, 0] rfl)
