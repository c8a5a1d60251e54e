def wpX2_letterAt (uM : MSt) (x1 : Int32) (Q : Int32 → Prop) : Prop :=
  Q (kAt 60 (gM_letters uM) x1)
def rmX2_letterAt : Room := { frames := 1, cells := 0, slots := 0, locals := 21 }
theorem inX2_letterAt_X2 : ∀ w ∈ wsX20, w ∈ wsX2_letterAt := fun w h => List.mem_cons_of_mem _ (List.mem_append_right _ h)
set_option maxRecDepth 100000 in
set_option maxHeartbeats 4000000 in
theorem c_X2_letterAt (l : Launch) (D : va_G) (q : Nat → ClassId) (aM : Nat → Nat) (uM : MSt) (x1 : Int32) (Q : Int32 → Prop) (hf : wpX2_letterAt uM x1 Q) : Met l yX2_letterAt wsX2_letterAt rmX2_letterAt (va_Pc [.ref (aM 0), .int x1] (kP D q (wM aM q uM))) (vp_Si Q) 0 0 (fun _ => False) := by
  refine Met.ofW (cc := cX2_letterAt) (maxL := 2) (ret := (some .int)) (by decide) rfl ?_
  intro p e s m args below meth c s₁ B hml hv
  obtain ⟨hargs, hP, hK, hD⟩ := hv
  have hx := B.exec
  have hb := B.bytes
  have hr := B.returns
  have hts := atoms_spec (ws := wsX2_letterAt) B.pre
  have hown : s.vm.findClass RX2 = some m.cls := findClass_of_methodNamed B.named
  have hlocks := B.notSynchronized
  refine k_entry hargs (Nat.le_of_ble_eq_true rfl) (fun ls hl => ?_)
  have hl : lv_has ls 2 [(0, .ref (aM 0)), (1, .int x1)] := hl
  change W p l e rmX2_letterAt s m args below meth c s.heap [] 0 0 (MQ below (vp_Si Q) args s 0 0 (fun _ => False)) _
  unfold wpX2_letterAt at hf
  refine lv_aload_n hx hb dX2_letterAt_0 rfl (lv_at hl 0 rfl) ?_
  refine va_get (D := D) (ci := 1) (v := .ref (aM 1)) (C := RX2) (T := TX2) (N := 12) hx hb hts inX2_letterAt_X2 hown hK hP 0 rfl rfl 4 (by decide) (hts (.fieldLink RX2 9 "GrowingText$Machine" "letters" "[I") (List.mem_of_getElem? (i := 1) rfl)) (fun _ h9 => h9) rfl dX2_letterAt_1 ?_
  refine lv_iload_n hx hb dX2_letterAt_4 rfl (lv_at hl 1 rfl) ?_
  refine k_si (k_runS (As := [.ref (aM 1), .int x1]) (rest := []) ⟨hx, hb, hml, hown, hts⟩ (c_X3_at l D q (aM 1) 60 (gM_letters uM) x1 (Nat.le_of_ble_eq_true rfl)) (va_cwS 2 hts gX2_letterAt_X3_at rfl rfl rfl cdX3_at ⟨Nat.le_of_ble_eq_true rfl, Nat.le_of_ble_eq_true rfl⟩) hK (kp_1 hP 1 rfl) (kd_1 hD 1 rfl) rfl hl.1 rfl (Nat.le_of_ble_eq_true rfl) dX2_letterAt_5 ⟨Nat.le_of_ble_eq_true rfl, Nat.le_of_ble_eq_true rfl⟩) (fun r hr => ?_)
  subst hr
  exact k_iret_r (v := (kAt 60 (gM_letters uM) x1)) hx hb hr hlocks hf dX2_letterAt_8
def fX2_letterAt (uM : MSt) (x1 : Int32) : Int32 := (kAt 60 (gM_letters uM) x1)
theorem pF_X2_letterAt (uM : MSt) (x1 : Int32) (Q : Int32 → Prop) (hq : Q (fX2_letterAt uM x1)) : wpX2_letterAt uM x1 Q := by
  unfold fX2_letterAt at hq; unfold wpX2_letterAt; exact hq
theorem cF_X2_letterAt (l : Launch) (D : va_G) (q : Nat → ClassId) (aM : Nat → Nat) (uM : MSt) (x1 : Int32) : Met l yX2_letterAt wsX2_letterAt rmX2_letterAt (va_Pc [.ref (aM 0), .int x1] (kP D q (wM aM q uM))) (vp_Si (fun r => r = fX2_letterAt uM x1)) 0 0 (fun _ => False) := c_X2_letterAt l D q aM uM x1 _ (pF_X2_letterAt uM x1 _ rfl)
def wpX2_setMove (uM : MSt) (x1 : Int32) (x2 : Int32) (x3 : Int32) (Q : MSt → Prop) : Prop :=
  Q (gM_set_moves uM (kPut 605 (gM_moves uM) ((x1 * 5) + x2) x3))
def rmX2_setMove : Room := { frames := 1, cells := 0, slots := 0, locals := 22 }
theorem inX2_setMove_X2 : ∀ w ∈ wsX20, w ∈ wsX2_setMove := fun w h => List.mem_cons_of_mem _ (List.mem_append_right _ h)
set_option maxRecDepth 100000 in
set_option maxHeartbeats 4000000 in
theorem c_X2_setMove (l : Launch) (D : va_G) (q : Nat → ClassId) (aM : Nat → Nat) (uM : MSt) (x1 : Int32) (x2 : Int32) (x3 : Int32) (Q : MSt → Prop) (hf : wpX2_setMove uM x1 x2 x3 Q) : Met l yX2_setMove wsX2_setMove rmX2_setMove (va_Pc [.ref (aM 0), .int x1, .int x2, .int x3] (kP D q (wM aM q uM))) (va_Qv Q (fun u t => kP D q (wM aM q u) t) (kIn (wM aM q uM))) 0 0 (kIn (wM aM q uM)) := by
  refine Met.ofW (cc := cX2_setMove) (maxL := 4) (ret := none) (by decide) rfl ?_
  intro p e s m args below meth c s₁ B hml hv
  obtain ⟨hargs, hP, hK, hD⟩ := hv
  have hx := B.exec
  have hb := B.bytes
  have hr := B.returns
  have hts := atoms_spec (ws := wsX2_setMove) B.pre
  have hown : s.vm.findClass RX2 = some m.cls := findClass_of_methodNamed B.named
  have hlocks := B.notSynchronized
  have hD := kd_self hD
  generalize kIn (wM aM q uM) = A at hD ⊢
  have hS : va_S A s.heap s.heap [] := va_S.rf
  refine k_entry hargs (Nat.le_of_ble_eq_true rfl) (fun ls hl => ?_)
  have hl : lv_has ls 4 [(0, .ref (aM 0)), (1, .int x1), (2, .int x2), (3, .int x3)] := hl
  change W p l e rmX2_setMove s m args below meth c s.heap [] 0 0 (MQ below (va_Qv Q (fun u t => kP D q (wM aM q u) t) A) args s 0 0 A) _
  unfold wpX2_setMove at hf
  obtain ⟨H, hH⟩ : ∃ H, H = s.heap := ⟨_, rfl⟩
  obtain ⟨locs, hlocs⟩ : ∃ x : List Loc, x = [] := ⟨_, rfl⟩
  rw [← hH] at hP
  have hS : va_S A s.heap H locs := by rw [hH, hlocs]; exact hS
  rw [show W p l e rmX2_setMove s m args below meth c s.heap [] 0 0 (MQ below (va_Qv Q (fun u t => kP D q (wM aM q u) t) A) args s 0 0 A) (F0 m 0 ls []) = W p l e rmX2_setMove s m args below meth c H locs 0 0 (MQ below (va_Qv Q (fun u t => kP D q (wM aM q u) t) A) args s 0 0 A) (F0 m 0 ls []) by rw [hH, hlocs]]
  clear hH hlocs
  refine lv_aload_n hx hb dX2_setMove_0 rfl (lv_at hl 0 rfl) ?_
  refine va_get (D := D) (ci := 1) (v := .ref (aM 3)) (C := RX2) (T := TX2) (N := 12) hx hb hts inX2_setMove_X2 hown hK hP 0 rfl rfl 6 (by decide) (hts (.fieldLink RX2 18 "GrowingText$Machine" "moves" "[I") (List.mem_of_getElem? (i := 1) rfl)) (fun _ h9 => h9) rfl dX2_setMove_1 ?_
  refine lv_iload_n hx hb dX2_setMove_4 rfl (lv_at hl 1 rfl) ?_
  refine lv_iconst (v := 5) hx hb dX2_setMove_5 (by decide) ?_
  refine lv_imul hx hb dX2_setMove_6 ?_
  refine lv_iload_n hx hb dX2_setMove_7 rfl (lv_at hl 2 rfl) ?_
  refine lv_iadd hx hb dX2_setMove_8 ?_
  refine lv_iload_n hx hb dX2_setMove_9 rfl (lv_at hl 3 rfl) ?_
  refine k_wp (k := 3) (k_runS (As := [.ref (aM 3), .int ((x1 * 5) + x2), .int x3]) (rest := []) ⟨hx, hb, hml, hown, hts⟩ (c_X3_put l D q (aM 3) 605 (gM_moves uM) ((x1 * 5) + x2) x3 (Nat.le_of_ble_eq_true rfl)) (va_cwS 3 hts gX2_setMove_X3_put rfl rfl rfl cdX3_put ⟨Nat.le_of_ble_eq_true rfl, Nat.le_of_ble_eq_true rfl⟩) hK (kp_1 hP 3 rfl) (kd_1 hD 3 rfl) rfl hl.1 rfl (Nat.le_of_ble_eq_true rfl) dX2_setMove_10 ⟨Nat.le_of_ble_eq_true rfl, Nat.le_of_ble_eq_true rfl⟩) rfl rfl hP hD hS (fun H locs _ hP hD hS => ?_)
  have hP : va_P D vwCl (wM aM q (gM_set_moves uM (kPut 605 (gM_moves uM) ((x1 * 5) + x2) x3))) H := hP
  have hD : va_D A (wM aM q (gM_set_moves uM (kPut 605 (gM_moves uM) ((x1 * 5) + x2) x3))) := hD
  exact k_vret_w (wf := (fun u => wM aM q u)) (post := Q) (u := (gM_set_moves uM (kPut 605 (gM_moves uM) ((x1 * 5) + x2) x3))) hx hb hr hlocks hK hP hD hS hf dX2_setMove_13
def fX2_setMove (uM : MSt) (x1 : Int32) (x2 : Int32) (x3 : Int32) : MSt := (gM_set_moves uM (kPut 605 (gM_moves uM) ((x1 * 5) + x2) x3))
theorem pF_X2_setMove (uM : MSt) (x1 : Int32) (x2 : Int32) (x3 : Int32) (Q : MSt → Prop) (hq : Q (fX2_setMove uM x1 x2 x3)) : wpX2_setMove uM x1 x2 x3 Q := by
  unfold fX2_setMove at hq; unfold wpX2_setMove; exact hq
theorem cF_X2_setMove (l : Launch) (D : va_G) (q : Nat → ClassId) (aM : Nat → Nat) (uM : MSt) (x1 : Int32) (x2 : Int32) (x3 : Int32) : Met l yX2_setMove wsX2_setMove rmX2_setMove (va_Pc [.ref (aM 0), .int x1, .int x2, .int x3] (kP D q (wM aM q uM))) (va_Qv (fun u => u = fX2_setMove uM x1 x2 x3) (fun u t => kP D q (wM aM q u) t) (kIn (wM aM q uM))) 0 0 (kIn (wM aM q uM)) := c_X2_setMove l D q aM uM x1 x2 x3 _ (pF_X2_setMove uM x1 x2 x3 _ rfl)
def wpX2_addState (uM : MSt) (x1 : Int32) (Q : Int32 → MSt → Prop) : Prop :=
  ∀ (X67 : Int32 → Int32 → MSt → Prop),
  (∀ (y2 : Int32) (y3 : Int32) (tM : MSt),
    (((5 : Int32) ≤ y3 →
      Q y2 tM) ∧
    (¬ ((5 : Int32) ≤ y3) →
      X67 y2 (y3 + 1) (fX2_setMove tM y2 y3 (-4)))) → X67 y2 y3 tM) →
  X67 (gM_states uM) 0 (gM_set_ends (gM_set_original (gM_set_made (gM_set_link (gM_set_longest (gM_set_states uM ((gM_states uM) + 1)) (kPut 121 (gM_longest uM) (gM_states uM) x1)) (kPut 121 (gM_link uM) (gM_states uM) (-4))) (kPut 121 (gM_made uM) (gM_states uM) (gM_length uM))) (kPut 121 (gM_original uM) (gM_states uM) (-4))) (kPutL 121 (gM_ends uM) (gM_states uM) 0))
def rmX2_addState : Room := { frames := 2, cells := 0, slots := 0, locals := 45 }
theorem inX2_addState_X2 : ∀ w ∈ wsX20, w ∈ wsX2_addState := fun w h => List.mem_cons_of_mem _ (List.mem_append_right _ h)
set_option maxRecDepth 100000 in
set_option maxHeartbeats 4000000 in
theorem c_X2_addState (l : Launch) (D : va_G) (q : Nat → ClassId) (aM : Nat → Nat) (uM : MSt) (x1 : Int32) (Q : Int32 → MSt → Prop) (hf : wpX2_addState uM x1 Q) : Met l yX2_addState wsX2_addState rmX2_addState (va_Pc [.ref (aM 0), .int x1] (kP D q (wM aM q uM))) (va_Qi Q (fun u t => kP D q (wM aM q u) t) (kIn (wM aM q uM))) 0 0 (kIn (wM aM q uM)) := by
  refine Met.ofW (cc := cX2_addState) (maxL := 4) (ret := (some .int)) (by decide) rfl ?_
  intro p e s m args below meth c s₁ B hml hv
  obtain ⟨hargs, hP, hK, hD⟩ := hv
  have hx := B.exec
  have hb := B.bytes
  have hr := B.returns
  have hts := atoms_spec (ws := wsX2_addState) B.pre
  have hown : s.vm.findClass RX2 = some m.cls := findClass_of_methodNamed B.named
  have hlocks := B.notSynchronized
  have hD := kd_self hD
  generalize kIn (wM aM q uM) = A at hD ⊢
  have hS : va_S A s.heap s.heap [] := va_S.rf
  refine k_entry hargs (Nat.le_of_ble_eq_true rfl) (fun ls hl => ?_)
  have hl : lv_has ls 4 [(0, .ref (aM 0)), (1, .int x1)] := hl
  change W p l e rmX2_addState s m args below meth c s.heap [] 0 0 (MQ below (va_Qi Q (fun u t => kP D q (wM aM q u) t) A) args s 0 0 A) _
  unfold wpX2_addState at hf
  obtain ⟨H, hH⟩ : ∃ H, H = s.heap := ⟨_, rfl⟩
  obtain ⟨locs, hlocs⟩ : ∃ x : List Loc, x = [] := ⟨_, rfl⟩
  rw [← hH] at hP
  have hS : va_S A s.heap H locs := by rw [hH, hlocs]; exact hS
  rw [show W p l e rmX2_addState s m args below meth c s.heap [] 0 0 (MQ below (va_Qi Q (fun u t => kP D q (wM aM q u) t) A) args s 0 0 A) (F0 m 0 ls []) = W p l e rmX2_addState s m args below meth c H locs 0 0 (MQ below (va_Qi Q (fun u t => kP D q (wM aM q u) t) A) args s 0 0 A) (F0 m 0 ls []) by rw [hH, hlocs]]
  clear hH hlocs
  have hf := hf
    (fun (y2 : Int32) (y3 : Int32) (tM : MSt) => ∀ (H : Heap) (locs : List Loc) (ls : Array Slot), va_P D vwCl (wM aM q tM) H → va_D A (wM aM q tM) → va_S A s.heap H locs → lv_has ls 4 [(0, .ref (aM 0)), (2, .int y2), (3, .int y3)] → W p l e rmX2_addState s m args below meth c H locs 0 0 (MQ below (va_Qi Q (fun u t => kP D q (wM aM q u) t) A) args s 0 0 A) (F0 m 67 ls []))
    (by
      intro y2 y3 tM hf H locs ls hP hD hS hl
      refine lv_iload_n hx hb dX2_addState_67 rfl (lv_at hl 2 rfl) ?_
      refine lv_iconst (v := 5) hx hb dX2_addState_68 (by decide) ?_
      refine lv_icmp_ge (tgt := 86) hx hb dX2_addState_69 (by decide) (fun c1 => ?_) (fun c1 => ?_)
      · have hf := hf.1 (c1)
        refine lv_iload_n hx hb dX2_addState_86 rfl (lv_at hl 1 rfl) ?_
        exact k_iret_w (wf := (fun u => wM aM q u)) (post := Q) (u := tM) (v := y2) hx hb hr hlocks hK hP hD hS hf dX2_addState_87
      · have hf := hf.2 (c1)
        refine lv_aload_n hx hb dX2_addState_72 rfl (lv_at hl 0 rfl) ?_
        refine lv_iload_n hx hb dX2_addState_73 rfl (lv_at hl 1 rfl) ?_
        refine lv_iload_n hx hb dX2_addState_74 rfl (lv_at hl 2 rfl) ?_
        refine lv_bipush (v := (-4)) hx hb dX2_addState_75 (by decide) ?_
        refine k_wv (wf := fun u => wM aM q u) (u0 := tM) (k_runV (As := [.int y2, .int y3, .int (-4)]) (rest := []) ⟨hx, hb, hml, hown, hts⟩ (cF_X2_setMove l D q aM tM y2 y3 (-4)) (cwV 3 hts gX2_addState_X2_setMove rfl rfl rfl cdX2_setMove ⟨Nat.le_of_ble_eq_true rfl, Nat.le_of_ble_eq_true rfl⟩) hK hP hD 0 rfl rfl rfl hl.1 rfl (Nat.le_of_ble_eq_true rfl) dX2_addState_77 ⟨Nat.le_of_ble_eq_true rfl, Nat.le_of_ble_eq_true rfl⟩) ([]) ([]) (fun _ => rfl) hP hD hS (fun u H locs hu hP hD hS => ?_)
        subst hu
        have hP : va_P D vwCl (wM aM q (fX2_setMove tM y2 y3 (-4))) H := hP
        have hD : va_D A (wM aM q (fX2_setMove tM y2 y3 (-4))) := hD
        refine lv_iinc (v := (y3 + 1)) (lv' := [(3, .int (y3 + 1)), (0, .ref (aM 0)), (2, .int y2)]) hx hb dX2_addState_80 hl (k := 2) rfl rfl (by decide) rfl (fun ls hl => ?_)
        refine lv_goto (tgt := 67) hx hb dX2_addState_83 (by decide) ?_
        exact hf H locs ls hP hD hS (lv_sub hl [1, 2, 0] rfl))
  refine lv_aload_n hx hb dX2_addState_0 rfl (lv_at hl 0 rfl) ?_
  refine va_get (D := D) (ci := 1) (v := .int (gM_states uM)) (C := RX2) (T := TX2) (N := 12) hx hb hts inX2_addState_X2 hown hK hP 0 rfl rfl 2 (by decide) (hts (.fieldLink RX2 48 "GrowingText$Machine" "states" "I") (List.mem_of_getElem? (i := 1) rfl)) (fun _ h9 => h9) rfl dX2_addState_1 ?_
  refine lv_istore_n (lv' := [(2, .int (gM_states uM)), (0, .ref (aM 0)), (1, .int x1)]) hx hb dX2_addState_4 rfl hl (by decide) rfl (fun ls hl => ?_)
  refine lv_aload_n hx hb dX2_addState_5 rfl (lv_at hl 1 rfl) ?_
  refine lv_dup hx hb dX2_addState_6 rfl ?_
  refine va_get (D := D) (ci := 1) (v := .int (gM_states uM)) (C := RX2) (T := TX2) (N := 12) hx hb hts inX2_addState_X2 hown hK hP 0 rfl rfl 2 (by decide) (hts (.fieldLink RX2 48 "GrowingText$Machine" "states" "I") (List.mem_of_getElem? (i := 1) rfl)) (fun _ h9 => h9) rfl dX2_addState_7 ?_
  refine lv_iconst (v := 1) hx hb dX2_addState_10 (by decide) ?_
  refine lv_iadd hx hb dX2_addState_11 ?_
  refine va_put (D := D) (ci := 1) (v := .int ((gM_states uM) + 1)) (ty := .int) (C := RX2) (T := TX2) (N := 12) hx hb hts inX2_addState_X2 tyX2 tyX2_ok nmX2 hown hK hP hD hS 0 rfl rfl 2 (by decide) (hts (.fieldLink RX2 48 "GrowingText$Machine" "states" "I") (List.mem_of_getElem? (i := 1) rfl)) (fun _ h9 => h9) rfl (by decide +kernel) rfl rfl (Nat.le_of_ble_eq_true rfl) dX2_addState_12 (fun H locs hP hD hS => ?_)
  have hP : va_P D vwCl (wM aM q (gM_set_states uM ((gM_states uM) + 1))) H := hP
  have hD : va_D A (wM aM q (gM_set_states uM ((gM_states uM) + 1))) := hD
  refine lv_aload_n hx hb dX2_addState_15 rfl (lv_at hl 1 rfl) ?_
  refine va_get (D := D) (ci := 1) (v := .ref (aM 4)) (C := RX2) (T := TX2) (N := 12) hx hb hts inX2_addState_X2 hown hK hP 0 rfl rfl 7 (by decide) (hts (.fieldLink RX2 21 "GrowingText$Machine" "longest" "[I") (List.mem_of_getElem? (i := 2) rfl)) (fun _ h9 => h9) rfl dX2_addState_16 ?_
  refine lv_iload_n hx hb dX2_addState_19 rfl (lv_at hl 0 rfl) ?_
  refine lv_iload_n hx hb dX2_addState_20 rfl (lv_at hl 2 rfl) ?_
  refine k_wp (k := 4) (k_runS (As := [.ref (aM 4), .int (gM_states uM), .int x1]) (rest := []) ⟨hx, hb, hml, hown, hts⟩ (c_X3_put l D q (aM 4) 121 (gM_longest uM) (gM_states uM) x1 (Nat.le_of_ble_eq_true rfl)) (va_cwS 3 hts gX2_addState_X3_put rfl rfl rfl cdX3_put ⟨Nat.le_of_ble_eq_true rfl, Nat.le_of_ble_eq_true rfl⟩) hK (kp_1 hP 4 rfl) (kd_1 hD 4 rfl) rfl hl.1 rfl (Nat.le_of_ble_eq_true rfl) dX2_addState_21 ⟨Nat.le_of_ble_eq_true rfl, Nat.le_of_ble_eq_true rfl⟩) rfl rfl hP hD hS (fun H locs _ hP hD hS => ?_)
  have hP : va_P D vwCl (wM aM q (gM_set_longest (gM_set_states uM ((gM_states uM) + 1)) (kPut 121 (gM_longest uM) (gM_states uM) x1))) H := hP
  have hD : va_D A (wM aM q (gM_set_longest (gM_set_states uM ((gM_states uM) + 1)) (kPut 121 (gM_longest uM) (gM_states uM) x1))) := hD
  refine lv_aload_n hx hb dX2_addState_24 rfl (lv_at hl 1 rfl) ?_
  refine va_get (D := D) (ci := 1) (v := .ref (aM 5)) (C := RX2) (T := TX2) (N := 12) hx hb hts inX2_addState_X2 hown hK hP 0 rfl rfl 8 (by decide) (hts (.fieldLink RX2 24 "GrowingText$Machine" "link" "[I") (List.mem_of_getElem? (i := 3) rfl)) (fun _ h9 => h9) rfl dX2_addState_25 ?_
  refine lv_iload_n hx hb dX2_addState_28 rfl (lv_at hl 0 rfl) ?_
  refine lv_bipush (v := (-4)) hx hb dX2_addState_29 (by decide) ?_
  refine k_wp (k := 5) (k_runS (As := [.ref (aM 5), .int (gM_states uM), .int (-4)]) (rest := []) ⟨hx, hb, hml, hown, hts⟩ (c_X3_put l D q (aM 5) 121 (gM_link uM) (gM_states uM) (-4) (Nat.le_of_ble_eq_true rfl)) (va_cwS 3 hts gX2_addState_X3_put rfl rfl rfl cdX3_put ⟨Nat.le_of_ble_eq_true rfl, Nat.le_of_ble_eq_true rfl⟩) hK (kp_1 hP 5 rfl) (kd_1 hD 5 rfl) rfl hl.1 rfl (Nat.le_of_ble_eq_true rfl) dX2_addState_31 ⟨Nat.le_of_ble_eq_true rfl, Nat.le_of_ble_eq_true rfl⟩) rfl rfl hP hD hS (fun H locs _ hP hD hS => ?_)
  have hP : va_P D vwCl (wM aM q (gM_set_link (gM_set_longest (gM_set_states uM ((gM_states uM) + 1)) (kPut 121 (gM_longest uM) (gM_states uM) x1)) (kPut 121 (gM_link uM) (gM_states uM) (-4)))) H := hP
  have hD : va_D A (wM aM q (gM_set_link (gM_set_longest (gM_set_states uM ((gM_states uM) + 1)) (kPut 121 (gM_longest uM) (gM_states uM) x1)) (kPut 121 (gM_link uM) (gM_states uM) (-4)))) := hD
  refine lv_aload_n hx hb dX2_addState_34 rfl (lv_at hl 1 rfl) ?_
  refine va_get (D := D) (ci := 1) (v := .ref (aM 6)) (C := RX2) (T := TX2) (N := 12) hx hb hts inX2_addState_X2 hown hK hP 0 rfl rfl 9 (by decide) (hts (.fieldLink RX2 27 "GrowingText$Machine" "made" "[I") (List.mem_of_getElem? (i := 4) rfl)) (fun _ h9 => h9) rfl dX2_addState_35 ?_
  refine lv_iload_n hx hb dX2_addState_38 rfl (lv_at hl 0 rfl) ?_
  refine lv_aload_n hx hb dX2_addState_39 rfl (lv_at hl 1 rfl) ?_
  refine va_get (D := D) (ci := 1) (v := .int (gM_length uM)) (C := RX2) (T := TX2) (N := 12) hx hb hts inX2_addState_X2 hown hK hP 0 rfl rfl 1 (by decide) (hts (.fieldLink RX2 45 "GrowingText$Machine" "length" "I") (List.mem_of_getElem? (i := 5) rfl)) (fun _ h9 => h9) rfl dX2_addState_40 ?_
  refine k_wp (k := 6) (k_runS (As := [.ref (aM 6), .int (gM_states uM), .int (gM_length uM)]) (rest := []) ⟨hx, hb, hml, hown, hts⟩ (c_X3_put l D q (aM 6) 121 (gM_made uM) (gM_states uM) (gM_length uM) (Nat.le_of_ble_eq_true rfl)) (va_cwS 3 hts gX2_addState_X3_put rfl rfl rfl cdX3_put ⟨Nat.le_of_ble_eq_true rfl, Nat.le_of_ble_eq_true rfl⟩) hK (kp_1 hP 6 rfl) (kd_1 hD 6 rfl) rfl hl.1 rfl (Nat.le_of_ble_eq_true rfl) dX2_addState_43 ⟨Nat.le_of_ble_eq_true rfl, Nat.le_of_ble_eq_true rfl⟩) rfl rfl hP hD hS (fun H locs _ hP hD hS => ?_)
  have hP : va_P D vwCl (wM aM q (gM_set_made (gM_set_link (gM_set_longest (gM_set_states uM ((gM_states uM) + 1)) (kPut 121 (gM_longest uM) (gM_states uM) x1)) (kPut 121 (gM_link uM) (gM_states uM) (-4))) (kPut 121 (gM_made uM) (gM_states uM) (gM_length uM)))) H := hP
  have hD : va_D A (wM aM q (gM_set_made (gM_set_link (gM_set_longest (gM_set_states uM ((gM_states uM) + 1)) (kPut 121 (gM_longest uM) (gM_states uM) x1)) (kPut 121 (gM_link uM) (gM_states uM) (-4))) (kPut 121 (gM_made uM) (gM_states uM) (gM_length uM)))) := hD
  refine lv_aload_n hx hb dX2_addState_46 rfl (lv_at hl 1 rfl) ?_
  refine va_get (D := D) (ci := 1) (v := .ref (aM 7)) (C := RX2) (T := TX2) (N := 12) hx hb hts inX2_addState_X2 hown hK hP 0 rfl rfl 10 (by decide) (hts (.fieldLink RX2 30 "GrowingText$Machine" "original" "[I") (List.mem_of_getElem? (i := 6) rfl)) (fun _ h9 => h9) rfl dX2_addState_47 ?_
  refine lv_iload_n hx hb dX2_addState_50 rfl (lv_at hl 0 rfl) ?_
  refine lv_bipush (v := (-4)) hx hb dX2_addState_51 (by decide) ?_
  refine k_wp (k := 7) (k_runS (As := [.ref (aM 7), .int (gM_states uM), .int (-4)]) (rest := []) ⟨hx, hb, hml, hown, hts⟩ (c_X3_put l D q (aM 7) 121 (gM_original uM) (gM_states uM) (-4) (Nat.le_of_ble_eq_true rfl)) (va_cwS 3 hts gX2_addState_X3_put rfl rfl rfl cdX3_put ⟨Nat.le_of_ble_eq_true rfl, Nat.le_of_ble_eq_true rfl⟩) hK (kp_1 hP 7 rfl) (kd_1 hD 7 rfl) rfl hl.1 rfl (Nat.le_of_ble_eq_true rfl) dX2_addState_53 ⟨Nat.le_of_ble_eq_true rfl, Nat.le_of_ble_eq_true rfl⟩) rfl rfl hP hD hS (fun H locs _ hP hD hS => ?_)
  have hP : va_P D vwCl (wM aM q (gM_set_original (gM_set_made (gM_set_link (gM_set_longest (gM_set_states uM ((gM_states uM) + 1)) (kPut 121 (gM_longest uM) (gM_states uM) x1)) (kPut 121 (gM_link uM) (gM_states uM) (-4))) (kPut 121 (gM_made uM) (gM_states uM) (gM_length uM))) (kPut 121 (gM_original uM) (gM_states uM) (-4)))) H := hP
  have hD : va_D A (wM aM q (gM_set_original (gM_set_made (gM_set_link (gM_set_longest (gM_set_states uM ((gM_states uM) + 1)) (kPut 121 (gM_longest uM) (gM_states uM) x1)) (kPut 121 (gM_link uM) (gM_states uM) (-4))) (kPut 121 (gM_made uM) (gM_states uM) (gM_length uM))) (kPut 121 (gM_original uM) (gM_states uM) (-4)))) := hD
  refine lv_aload_n hx hb dX2_addState_56 rfl (lv_at hl 1 rfl) ?_
  refine va_get (D := D) (ci := 1) (v := .ref (aM 8)) (C := RX2) (T := TX2) (N := 12) hx hb hts inX2_addState_X2 hown hK hP 0 rfl rfl 11 (by decide) (hts (.fieldLink RX2 33 "GrowingText$Machine" "ends" "[J") (List.mem_of_getElem? (i := 7) rfl)) (fun _ h9 => h9) rfl dX2_addState_57 ?_
  refine lv_iload_n hx hb dX2_addState_60 rfl (lv_at hl 0 rfl) ?_
  refine lv_lconst (v := 0) hx hb dX2_addState_61 (by decide) ?_
  refine k_wp (k := 8) (k_runS (As := [.ref (aM 8), .int (gM_states uM), .long 0]) (rest := []) ⟨hx, hb, hml, hown, hts⟩ (c_X3_put_ l D q (aM 8) 121 (gM_ends uM) (gM_states uM) 0 (Nat.le_of_ble_eq_true rfl)) (va_cwS 3 hts gX2_addState_X3_put_ rfl rfl rfl cdX3_put_ ⟨Nat.le_of_ble_eq_true rfl, Nat.le_of_ble_eq_true rfl⟩) hK (kp_1 hP 8 rfl) (kd_1 hD 8 rfl) rfl hl.1 rfl (Nat.le_of_ble_eq_true rfl) dX2_addState_62 ⟨Nat.le_of_ble_eq_true rfl, Nat.le_of_ble_eq_true rfl⟩) rfl rfl hP hD hS (fun H locs _ hP hD hS => ?_)
  have hP : va_P D vwCl (wM aM q (gM_set_ends (gM_set_original (gM_set_made (gM_set_link (gM_set_longest (gM_set_states uM ((gM_states uM) + 1)) (kPut 121 (gM_longest uM) (gM_states uM) x1)) (kPut 121 (gM_link uM) (gM_states uM) (-4))) (kPut 121 (gM_made uM) (gM_states uM) (gM_length uM))) (kPut 121 (gM_original uM) (gM_states uM) (-4))) (kPutL 121 (gM_ends uM) (gM_states uM) 0))) H := hP
  have hD : va_D A (wM aM q (gM_set_ends (gM_set_original (gM_set_made (gM_set_link (gM_set_longest (gM_set_states uM ((gM_states uM) + 1)) (kPut 121 (gM_longest uM) (gM_states uM) x1)) (kPut 121 (gM_link uM) (gM_states uM) (-4))) (kPut 121 (gM_made uM) (gM_states uM) (gM_length uM))) (kPut 121 (gM_original uM) (gM_states uM) (-4))) (kPutL 121 (gM_ends uM) (gM_states uM) 0))) := hD
  refine lv_iconst (v := 0) hx hb dX2_addState_65 (by decide) ?_
  refine lv_istore_n (lv' := [(3, .int 0), (2, .int (gM_states uM)), (0, .ref (aM 0)), (1, .int x1)]) hx hb dX2_addState_66 rfl hl (by decide) rfl (fun ls hl => ?_)
  exact hf H locs ls hP hD hS (lv_sub hl [2, 1, 0] rfl)
def wpX2_startOver (uM : MSt) (x1 : Int32) (Q : MSt → Prop) : Prop :=
  wpX2_addState (gM_set_states (gM_set_length (gM_set_alphabet uM x1) 0) 0) 0 (fun r2 uM1 =>
    Q (gM_set_again (gM_set_ends (gM_set_last uM1 r2) (kPutL 121 (gM_ends uM1) r2 1)) (kPut 61 (gM_again uM1) 0 (-1))))
def rmX2_startOver : Room := { frames := 3, cells := 0, slots := 0, locals := 68 }
theorem inX2_startOver_X2 : ∀ w ∈ wsX20, w ∈ wsX2_startOver := fun w h => List.mem_cons_of_mem _ (List.mem_append_right _ h)
set_option maxRecDepth 100000 in
set_option maxHeartbeats 4000000 in
theorem c_X2_startOver (l : Launch) (D : va_G) (q : Nat → ClassId) (aM : Nat → Nat) (uM : MSt) (x1 : Int32) (Q : MSt → Prop) (hf : wpX2_startOver uM x1 Q) : Met l yX2_startOver wsX2_startOver rmX2_startOver (va_Pc [.ref (aM 0), .int x1] (kP D q (wM aM q uM))) (va_Qv Q (fun u t => kP D q (wM aM q u) t) (kIn (wM aM q uM))) 0 0 (kIn (wM aM q uM)) := by
  refine Met.ofW (cc := cX2_startOver) (maxL := 2) (ret := none) (by decide) rfl ?_
  intro p e s m args below meth c s₁ B hml hv
  obtain ⟨hargs, hP, hK, hD⟩ := hv
  have hx := B.exec
  have hb := B.bytes
  have hr := B.returns
  have hts := atoms_spec (ws := wsX2_startOver) B.pre
  have hown : s.vm.findClass RX2 = some m.cls := findClass_of_methodNamed B.named
  have hlocks := B.notSynchronized
  have hD := kd_self hD
  generalize kIn (wM aM q uM) = A at hD ⊢
  have hS : va_S A s.heap s.heap [] := va_S.rf
  refine k_entry hargs (Nat.le_of_ble_eq_true rfl) (fun ls hl => ?_)
  have hl : lv_has ls 2 [(0, .ref (aM 0)), (1, .int x1)] := hl
  change W p l e rmX2_startOver s m args below meth c s.heap [] 0 0 (MQ below (va_Qv Q (fun u t => kP D q (wM aM q u) t) A) args s 0 0 A) _
  unfold wpX2_startOver at hf
  obtain ⟨H, hH⟩ : ∃ H, H = s.heap := ⟨_, rfl⟩
  obtain ⟨locs, hlocs⟩ : ∃ x : List Loc, x = [] := ⟨_, rfl⟩
  rw [← hH] at hP
  have hS : va_S A s.heap H locs := by rw [hH, hlocs]; exact hS
  rw [show W p l e rmX2_startOver s m args below meth c s.heap [] 0 0 (MQ below (va_Qv Q (fun u t => kP D q (wM aM q u) t) A) args s 0 0 A) (F0 m 0 ls []) = W p l e rmX2_startOver s m args below meth c H locs 0 0 (MQ below (va_Qv Q (fun u t => kP D q (wM aM q u) t) A) args s 0 0 A) (F0 m 0 ls []) by rw [hH, hlocs]]
  clear hH hlocs
  refine lv_aload_n hx hb dX2_startOver_0 rfl (lv_at hl 0 rfl) ?_
  refine lv_iload_n hx hb dX2_startOver_1 rfl (lv_at hl 1 rfl) ?_
  refine va_put (D := D) (ci := 1) (v := .int x1) (ty := .int) (C := RX2) (T := TX2) (N := 12) hx hb hts inX2_startOver_X2 tyX2 tyX2_ok nmX2 hown hK hP hD hS 0 rfl rfl 0 (by decide) (hts (.fieldLink RX2 41 "GrowingText$Machine" "alphabet" "I") (List.mem_of_getElem? (i := 1) rfl)) (fun _ h9 => h9) rfl (by decide +kernel) rfl rfl (Nat.le_of_ble_eq_true rfl) dX2_startOver_2 (fun H locs hP hD hS => ?_)
  have hP : va_P D vwCl (wM aM q (gM_set_alphabet uM x1)) H := hP
  have hD : va_D A (wM aM q (gM_set_alphabet uM x1)) := hD
  refine lv_aload_n hx hb dX2_startOver_5 rfl (lv_at hl 0 rfl) ?_
  refine lv_iconst (v := 0) hx hb dX2_startOver_6 (by decide) ?_
  refine va_put (D := D) (ci := 1) (v := .int 0) (ty := .int) (C := RX2) (T := TX2) (N := 12) hx hb hts inX2_startOver_X2 tyX2 tyX2_ok nmX2 hown hK hP hD hS 0 rfl rfl 1 (by decide) (hts (.fieldLink RX2 45 "GrowingText$Machine" "length" "I") (List.mem_of_getElem? (i := 2) rfl)) (fun _ h9 => h9) rfl (by decide +kernel) rfl rfl (Nat.le_of_ble_eq_true rfl) dX2_startOver_7 (fun H locs hP hD hS => ?_)
  have hP : va_P D vwCl (wM aM q (gM_set_length (gM_set_alphabet uM x1) 0)) H := hP
  have hD : va_D A (wM aM q (gM_set_length (gM_set_alphabet uM x1) 0)) := hD
  refine lv_aload_n hx hb dX2_startOver_10 rfl (lv_at hl 0 rfl) ?_
  refine lv_iconst (v := 0) hx hb dX2_startOver_11 (by decide) ?_
  refine va_put (D := D) (ci := 1) (v := .int 0) (ty := .int) (C := RX2) (T := TX2) (N := 12) hx hb hts inX2_startOver_X2 tyX2 tyX2_ok nmX2 hown hK hP hD hS 0 rfl rfl 2 (by decide) (hts (.fieldLink RX2 48 "GrowingText$Machine" "states" "I") (List.mem_of_getElem? (i := 3) rfl)) (fun _ h9 => h9) rfl (by decide +kernel) rfl rfl (Nat.le_of_ble_eq_true rfl) dX2_startOver_12 (fun H locs hP hD hS => ?_)
  have hP : va_P D vwCl (wM aM q (gM_set_states (gM_set_length (gM_set_alphabet uM x1) 0) 0)) H := hP
  have hD : va_D A (wM aM q (gM_set_states (gM_set_length (gM_set_alphabet uM x1) 0) 0)) := hD
  refine lv_aload_n hx hb dX2_startOver_15 rfl (lv_at hl 0 rfl) ?_
  refine lv_aload_n hx hb dX2_startOver_16 rfl (lv_at hl 0 rfl) ?_
  refine lv_iconst (v := 0) hx hb dX2_startOver_17 (by decide) ?_
  refine k_wi (wf := fun u => wM aM q u) (u0 := (gM_set_states (gM_set_length (gM_set_alphabet uM x1) 0) 0)) (k_runV (As := [.int 0]) (rest := [.ref (aM 0)]) ⟨hx, hb, hml, hown, hts⟩ (c_X2_addState l D q aM (gM_set_states (gM_set_length (gM_set_alphabet uM x1) 0) 0) 0 _ hf) (cwV 1 hts gX2_startOver_X2_addState rfl rfl rfl cdX2_addState ⟨Nat.le_of_ble_eq_true rfl, Nat.le_of_ble_eq_true rfl⟩) hK hP hD 0 rfl rfl rfl hl.1 rfl (Nat.le_of_ble_eq_true rfl) dX2_startOver_18 ⟨Nat.le_of_ble_eq_true rfl, Nat.le_of_ble_eq_true rfl⟩) ([]) ([]) (fun _ => rfl) hP hD hS (fun r2 uM1 H locs hf hP hD hS => ?_)
  have hP : va_P D vwCl (wM aM q uM1) H := hP
  have hD : va_D A (wM aM q uM1) := hD
  refine va_put (D := D) (ci := 1) (v := .int r2) (ty := .int) (C := RX2) (T := TX2) (N := 12) hx hb hts inX2_startOver_X2 tyX2 tyX2_ok nmX2 hown hK hP hD hS 0 rfl rfl 3 (by decide) (hts (.fieldLink RX2 55 "GrowingText$Machine" "last" "I") (List.mem_of_getElem? (i := 4) rfl)) (fun _ h9 => h9) rfl (by decide +kernel) rfl rfl (Nat.le_of_ble_eq_true rfl) dX2_startOver_21 (fun H locs hP hD hS => ?_)
  have hP : va_P D vwCl (wM aM q (gM_set_last uM1 r2)) H := hP
  have hD : va_D A (wM aM q (gM_set_last uM1 r2)) := hD
  refine lv_aload_n hx hb dX2_startOver_24 rfl (lv_at hl 0 rfl) ?_
  refine va_get (D := D) (ci := 1) (v := .ref (aM 8)) (C := RX2) (T := TX2) (N := 12) hx hb hts inX2_startOver_X2 hown hK hP 0 rfl rfl 11 (by decide) (hts (.fieldLink RX2 33 "GrowingText$Machine" "ends" "[J") (List.mem_of_getElem? (i := 5) rfl)) (fun _ h9 => h9) rfl dX2_startOver_25 ?_
  refine lv_aload_n hx hb dX2_startOver_28 rfl (lv_at hl 0 rfl) ?_
  refine va_get (D := D) (ci := 1) (v := .int r2) (C := RX2) (T := TX2) (N := 12) hx hb hts inX2_startOver_X2 hown hK hP 0 rfl rfl 3 (by decide) (hts (.fieldLink RX2 55 "GrowingText$Machine" "last" "I") (List.mem_of_getElem? (i := 4) rfl)) (fun _ h9 => h9) rfl dX2_startOver_29 ?_
  refine lv_lconst (v := 1) hx hb dX2_startOver_32 (by decide) ?_
  refine k_wp (k := 8) (k_runS (As := [.ref (aM 8), .int r2, .long 1]) (rest := []) ⟨hx, hb, hml, hown, hts⟩ (c_X3_put_ l D q (aM 8) 121 (gM_ends uM1) r2 1 (Nat.le_of_ble_eq_true rfl)) (va_cwS 3 hts gX2_startOver_X3_put_ rfl rfl rfl cdX3_put_ ⟨Nat.le_of_ble_eq_true rfl, Nat.le_of_ble_eq_true rfl⟩) hK (kp_1 hP 8 rfl) (kd_1 hD 8 rfl) rfl hl.1 rfl (Nat.le_of_ble_eq_true rfl) dX2_startOver_33 ⟨Nat.le_of_ble_eq_true rfl, Nat.le_of_ble_eq_true rfl⟩) rfl rfl hP hD hS (fun H locs _ hP hD hS => ?_)
  have hP : va_P D vwCl (wM aM q (gM_set_ends (gM_set_last uM1 r2) (kPutL 121 (gM_ends uM1) r2 1))) H := hP
  have hD : va_D A (wM aM q (gM_set_ends (gM_set_last uM1 r2) (kPutL 121 (gM_ends uM1) r2 1))) := hD
  refine lv_aload_n hx hb dX2_startOver_36 rfl (lv_at hl 0 rfl) ?_
  refine va_get (D := D) (ci := 1) (v := .ref (aM 2)) (C := RX2) (T := TX2) (N := 12) hx hb hts inX2_startOver_X2 hown hK hP 0 rfl rfl 5 (by decide) (hts (.fieldLink RX2 15 "GrowingText$Machine" "again" "[I") (List.mem_of_getElem? (i := 6) rfl)) (fun _ h9 => h9) rfl dX2_startOver_37 ?_
  refine lv_iconst (v := 0) hx hb dX2_startOver_40 (by decide) ?_
  refine lv_iconst (v := (-1)) hx hb dX2_startOver_41 (by decide) ?_
  refine k_wp (k := 2) (k_runS (As := [.ref (aM 2), .int 0, .int (-1)]) (rest := []) ⟨hx, hb, hml, hown, hts⟩ (c_X3_put l D q (aM 2) 61 (gM_again uM1) 0 (-1) (Nat.le_of_ble_eq_true rfl)) (va_cwS 3 hts gX2_startOver_X3_put rfl rfl rfl cdX3_put ⟨Nat.le_of_ble_eq_true rfl, Nat.le_of_ble_eq_true rfl⟩) hK (kp_1 hP 2 rfl) (kd_1 hD 2 rfl) rfl hl.1 rfl (Nat.le_of_ble_eq_true rfl) dX2_startOver_42 ⟨Nat.le_of_ble_eq_true rfl, Nat.le_of_ble_eq_true rfl⟩) rfl rfl hP hD hS (fun H locs _ hP hD hS => ?_)
  have hP : va_P D vwCl (wM aM q (gM_set_again (gM_set_ends (gM_set_last uM1 r2) (kPutL 121 (gM_ends uM1) r2 1)) (kPut 61 (gM_again uM1) 0 (-1)))) H := hP
  have hD : va_D A (wM aM q (gM_set_again (gM_set_ends (gM_set_last uM1 r2) (kPutL 121 (gM_ends uM1) r2 1)) (kPut 61 (gM_again uM1) 0 (-1)))) := hD
  exact k_vret_w (wf := (fun u => wM aM q u)) (post := Q) (u := (gM_set_again (gM_set_ends (gM_set_last uM1 r2) (kPutL 121 (gM_ends uM1) r2 1)) (kPut 61 (gM_again uM1) 0 (-1)))) hx hb hr hlocks hK hP hD hS hf dX2_startOver_45
def wpX2_isLetter (uM : MSt) (x1 : Int32) (Q : Int32 → Prop) : Prop :=
  ((x1 < 0 →
    Q 0) ∧
  (¬ (x1 < 0) →
    ((gM_alphabet uM) ≤ x1 →
      Q 0) ∧
    (¬ ((gM_alphabet uM) ≤ x1) →
      Q 1)))
def rmX2_isLetter : Room := { frames := 0, cells := 0, slots := 0, locals := 0 }
theorem inX2_isLetter_X2 : ∀ w ∈ wsX20, w ∈ wsX2_isLetter := fun w h => List.mem_cons_of_mem _ (List.mem_append_right _ h)
set_option maxRecDepth 100000 in
set_option maxHeartbeats 4000000 in
theorem c_X2_isLetter (l : Launch) (D : va_G) (q : Nat → ClassId) (aM : Nat → Nat) (uM : MSt) (x1 : Int32) (Q : Int32 → Prop) (hf : wpX2_isLetter uM x1 Q) : Met l yX2_isLetter wsX2_isLetter rmX2_isLetter (va_Pc [.ref (aM 0), .int x1] (kP D q (wM aM q uM))) (vp_Si Q) 0 0 (fun _ => False) := by
  refine Met.ofW (cc := cX2_isLetter) (maxL := 2) (ret := (some .boolean)) (by decide) rfl ?_
  intro p e s m args below meth c s₁ B hml hv
  obtain ⟨hargs, hP, hK, hD⟩ := hv
  have hx := B.exec
  have hb := B.bytes
  have hr := B.returns
  have hts := atoms_spec (ws := wsX2_isLetter) B.pre
  have hown : s.vm.findClass RX2 = some m.cls := findClass_of_methodNamed B.named
  have hlocks := B.notSynchronized
  refine k_entry hargs (Nat.le_of_ble_eq_true rfl) (fun ls hl => ?_)
  have hl : lv_has ls 2 [(0, .ref (aM 0)), (1, .int x1)] := hl
  change W p l e rmX2_isLetter s m args below meth c s.heap [] 0 0 (MQ below (vp_Si Q) args s 0 0 (fun _ => False)) _
  unfold wpX2_isLetter at hf
  refine lv_iload_n hx hb dX2_isLetter_0 rfl (lv_at hl 1 rfl) ?_
  refine lv_if_lt (tgt := 16) hx hb dX2_isLetter_1 (by decide) (fun c1 => ?_) (fun c1 => ?_)
  · have hf := hf.1 (c1)
    refine lv_iconst (v := 0) hx hb dX2_isLetter_16 (by decide) ?_
    exact k_zret_r (v := 0) hx hb hr rfl hlocks hf dX2_isLetter_17
  · have hf := hf.2 (c1)
    refine lv_iload_n hx hb dX2_isLetter_4 rfl (lv_at hl 1 rfl) ?_
    refine lv_aload_n hx hb dX2_isLetter_5 rfl (lv_at hl 0 rfl) ?_
    refine va_get (D := D) (ci := 1) (v := .int (gM_alphabet uM)) (C := RX2) (T := TX2) (N := 12) hx hb hts inX2_isLetter_X2 hown hK hP 0 rfl rfl 0 (by decide) (hts (.fieldLink RX2 41 "GrowingText$Machine" "alphabet" "I") (List.mem_of_getElem? (i := 1) rfl)) (fun _ h9 => h9) rfl dX2_isLetter_6 ?_
    refine lv_icmp_ge (tgt := 16) hx hb dX2_isLetter_9 (by decide) (fun c2 => ?_) (fun c2 => ?_)
    · have hf := hf.1 (c2)
      refine lv_iconst (v := 0) hx hb dX2_isLetter_16 (by decide) ?_
      exact k_zret_r (v := 0) hx hb hr rfl hlocks hf dX2_isLetter_17
    · have hf := hf.2 (c2)
      refine lv_iconst (v := 1) hx hb dX2_isLetter_12 (by decide) ?_
      refine lv_goto (tgt := 17) hx hb dX2_isLetter_13 (by decide) ?_
      exact k_zret_r (v := 1) hx hb hr rfl hlocks hf dX2_isLetter_17
def fX2_isLetter (uM : MSt) (x1 : Int32) : Int32 := (if x1 < 0 then 0 else (if (gM_alphabet uM) ≤ x1 then 0 else 1))
theorem pF_X2_isLetter (uM : MSt) (x1 : Int32) (Q : Int32 → Prop) (hq : Q (fX2_isLetter uM x1)) : wpX2_isLetter uM x1 Q := by
  unfold fX2_isLetter at hq; unfold wpX2_isLetter; exact k_ite hq (fun hq => hq) (fun hq => k_ite hq (fun hq => hq) (fun hq => hq))
theorem cF_X2_isLetter (l : Launch) (D : va_G) (q : Nat → ClassId) (aM : Nat → Nat) (uM : MSt) (x1 : Int32) : Met l yX2_isLetter wsX2_isLetter rmX2_isLetter (va_Pc [.ref (aM 0), .int x1] (kP D q (wM aM q uM))) (vp_Si (fun r => r = fX2_isLetter uM x1)) 0 0 (fun _ => False) := c_X2_isLetter l D q aM uM x1 _ (pF_X2_isLetter uM x1 _ rfl)
def wpX2_hasRoomFor (uM : MSt) (x1 : Int32) (Q : Int32 → Prop) : Prop :=
  (((60 : Int32) < ((gM_length uM) + x1) →
    Q 0) ∧
  (¬ ((60 : Int32) < ((gM_length uM) + x1)) →
    Q 1))
def rmX2_hasRoomFor : Room := { frames := 0, cells := 0, slots := 0, locals := 0 }
theorem inX2_hasRoomFor_X2 : ∀ w ∈ wsX20, w ∈ wsX2_hasRoomFor := fun w h => List.mem_cons_of_mem _ (List.mem_append_right _ h)
set_option maxRecDepth 100000 in
set_option maxHeartbeats 4000000 in
theorem c_X2_hasRoomFor (l : Launch) (D : va_G) (q : Nat → ClassId) (aM : Nat → Nat) (uM : MSt) (x1 : Int32) (Q : Int32 → Prop) (hf : wpX2_hasRoomFor uM x1 Q) : Met l yX2_hasRoomFor wsX2_hasRoomFor rmX2_hasRoomFor (va_Pc [.ref (aM 0), .int x1] (kP D q (wM aM q uM))) (vp_Si Q) 0 0 (fun _ => False) := by
  refine Met.ofW (cc := cX2_hasRoomFor) (maxL := 2) (ret := (some .boolean)) (by decide) rfl ?_
  intro p e s m args below meth c s₁ B hml hv
  obtain ⟨hargs, hP, hK, hD⟩ := hv
  have hx := B.exec
  have hb := B.bytes
  have hr := B.returns
  have hts := atoms_spec (ws := wsX2_hasRoomFor) B.pre
  have hown : s.vm.findClass RX2 = some m.cls := findClass_of_methodNamed B.named
  have hlocks := B.notSynchronized
  refine k_entry hargs (Nat.le_of_ble_eq_true rfl) (fun ls hl => ?_)
  have hl : lv_has ls 2 [(0, .ref (aM 0)), (1, .int x1)] := hl
  change W p l e rmX2_hasRoomFor s m args below meth c s.heap [] 0 0 (MQ below (vp_Si Q) args s 0 0 (fun _ => False)) _
  unfold wpX2_hasRoomFor at hf
  refine lv_aload_n hx hb dX2_hasRoomFor_0 rfl (lv_at hl 0 rfl) ?_
  refine va_get (D := D) (ci := 1) (v := .int (gM_length uM)) (C := RX2) (T := TX2) (N := 12) hx hb hts inX2_hasRoomFor_X2 hown hK hP 0 rfl rfl 1 (by decide) (hts (.fieldLink RX2 45 "GrowingText$Machine" "length" "I") (List.mem_of_getElem? (i := 1) rfl)) (fun _ h9 => h9) rfl dX2_hasRoomFor_1 ?_
  refine lv_iload_n hx hb dX2_hasRoomFor_4 rfl (lv_at hl 1 rfl) ?_
  refine lv_iadd hx hb dX2_hasRoomFor_5 ?_
  refine lv_bipush (v := 60) hx hb dX2_hasRoomFor_6 (by decide) ?_
  refine lv_icmp_gt (tgt := 15) hx hb dX2_hasRoomFor_8 (by decide) (fun c1 => ?_) (fun c1 => ?_)
  · have hf := hf.1 (c1)
    refine lv_iconst (v := 0) hx hb dX2_hasRoomFor_15 (by decide) ?_
    exact k_zret_r (v := 0) hx hb hr rfl hlocks hf dX2_hasRoomFor_16
  · have hf := hf.2 (c1)
    refine lv_iconst (v := 1) hx hb dX2_hasRoomFor_11 (by decide) ?_
    refine lv_goto (tgt := 16) hx hb dX2_hasRoomFor_12 (by decide) ?_
    exact k_zret_r (v := 1) hx hb hr rfl hlocks hf dX2_hasRoomFor_16
def fX2_hasRoomFor (uM : MSt) (x1 : Int32) : Int32 := (if (60 : Int32) < ((gM_length uM) + x1) then 0 else 1)
theorem pF_X2_hasRoomFor (uM : MSt) (x1 : Int32) (Q : Int32 → Prop) (hq : Q (fX2_hasRoomFor uM x1)) : wpX2_hasRoomFor uM x1 Q := by
  unfold fX2_hasRoomFor at hq; unfold wpX2_hasRoomFor; exact k_ite hq (fun hq => hq) (fun hq => hq)
theorem cF_X2_hasRoomFor (l : Launch) (D : va_G) (q : Nat → ClassId) (aM : Nat → Nat) (uM : MSt) (x1 : Int32) : Met l yX2_hasRoomFor wsX2_hasRoomFor rmX2_hasRoomFor (va_Pc [.ref (aM 0), .int x1] (kP D q (wM aM q uM))) (vp_Si (fun r => r = fX2_hasRoomFor uM x1)) 0 0 (fun _ => False) := c_X2_hasRoomFor l D q aM uM x1 _ (pF_X2_hasRoomFor uM x1 _ rfl)
def wpX2_isState (uM : MSt) (x1 : Int32) (Q : Int32 → Prop) : Prop :=
  ((x1 < 0 →
    Q 0) ∧
  (¬ (x1 < 0) →
    ((gM_states uM) ≤ x1 →
      Q 0) ∧
    (¬ ((gM_states uM) ≤ x1) →
      Q 1)))
def rmX2_isState : Room := { frames := 0, cells := 0, slots := 0, locals := 0 }
theorem inX2_isState_X2 : ∀ w ∈ wsX20, w ∈ wsX2_isState := fun w h => List.mem_cons_of_mem _ (List.mem_append_right _ h)
set_option maxRecDepth 100000 in
set_option maxHeartbeats 4000000 in
theorem c_X2_isState (l : Launch) (D : va_G) (q : Nat → ClassId) (aM : Nat → Nat) (uM : MSt) (x1 : Int32) (Q : Int32 → Prop) (hf : wpX2_isState uM x1 Q) : Met l yX2_isState wsX2_isState rmX2_isState (va_Pc [.ref (aM 0), .int x1] (kP D q (wM aM q uM))) (vp_Si Q) 0 0 (fun _ => False) := by
  refine Met.ofW (cc := cX2_isState) (maxL := 2) (ret := (some .boolean)) (by decide) rfl ?_
  intro p e s m args below meth c s₁ B hml hv
  obtain ⟨hargs, hP, hK, hD⟩ := hv
  have hx := B.exec
  have hb := B.bytes
  have hr := B.returns
  have hts := atoms_spec (ws := wsX2_isState) B.pre
  have hown : s.vm.findClass RX2 = some m.cls := findClass_of_methodNamed B.named
  have hlocks := B.notSynchronized
  refine k_entry hargs (Nat.le_of_ble_eq_true rfl) (fun ls hl => ?_)
  have hl : lv_has ls 2 [(0, .ref (aM 0)), (1, .int x1)] := hl
  change W p l e rmX2_isState s m args below meth c s.heap [] 0 0 (MQ below (vp_Si Q) args s 0 0 (fun _ => False)) _
  unfold wpX2_isState at hf
  refine lv_iload_n hx hb dX2_isState_0 rfl (lv_at hl 1 rfl) ?_
  refine lv_if_lt (tgt := 16) hx hb dX2_isState_1 (by decide) (fun c1 => ?_) (fun c1 => ?_)
  · have hf := hf.1 (c1)
    refine lv_iconst (v := 0) hx hb dX2_isState_16 (by decide) ?_
    exact k_zret_r (v := 0) hx hb hr rfl hlocks hf dX2_isState_17
  · have hf := hf.2 (c1)
    refine lv_iload_n hx hb dX2_isState_4 rfl (lv_at hl 1 rfl) ?_
    refine lv_aload_n hx hb dX2_isState_5 rfl (lv_at hl 0 rfl) ?_
    refine va_get (D := D) (ci := 1) (v := .int (gM_states uM)) (C := RX2) (T := TX2) (N := 12) hx hb hts inX2_isState_X2 hown hK hP 0 rfl rfl 2 (by decide) (hts (.fieldLink RX2 48 "GrowingText$Machine" "states" "I") (List.mem_of_getElem? (i := 1) rfl)) (fun _ h9 => h9) rfl dX2_isState_6 ?_
    refine lv_icmp_ge (tgt := 16) hx hb dX2_isState_9 (by decide) (fun c2 => ?_) (fun c2 => ?_)
    · have hf := hf.1 (c2)
      refine lv_iconst (v := 0) hx hb dX2_isState_16 (by decide) ?_
      exact k_zret_r (v := 0) hx hb hr rfl hlocks hf dX2_isState_17
    · have hf := hf.2 (c2)
      refine lv_iconst (v := 1) hx hb dX2_isState_12 (by decide) ?_
      refine lv_goto (tgt := 17) hx hb dX2_isState_13 (by decide) ?_
      exact k_zret_r (v := 1) hx hb hr rfl hlocks hf dX2_isState_17
def fX2_isState (uM : MSt) (x1 : Int32) : Int32 := (if x1 < 0 then 0 else (if (gM_states uM) ≤ x1 then 0 else 1))
theorem pF_X2_isState (uM : MSt) (x1 : Int32) (Q : Int32 → Prop) (hq : Q (fX2_isState uM x1)) : wpX2_isState uM x1 Q := by
  unfold fX2_isState at hq; unfold wpX2_isState; exact k_ite hq (fun hq => hq) (fun hq => k_ite hq (fun hq => hq) (fun hq => hq))
theorem cF_X2_isState (l : Launch) (D : va_G) (q : Nat → ClassId) (aM : Nat → Nat) (uM : MSt) (x1 : Int32) : Met l yX2_isState wsX2_isState rmX2_isState (va_Pc [.ref (aM 0), .int x1] (kP D q (wM aM q uM))) (vp_Si (fun r => r = fX2_isState uM x1)) 0 0 (fun _ => False) := c_X2_isState l D q aM uM x1 _ (pF_X2_isState uM x1 _ rfl)
def wpX2_moveOf (uM : MSt) (x1 : Int32) (x2 : Int32) (Q : Int32 → Prop) : Prop :=
  (((fX2_isState uM x1) = 0 →
    Q (-4)) ∧
  (¬ ((fX2_isState uM x1) = 0) →
    ((fX2_isLetter uM x2) = 0 →
      Q (-4)) ∧
    (¬ ((fX2_isLetter uM x2) = 0) →
      Q (kAt 605 (gM_moves uM) ((x1 * 5) + x2)))))
def rmX2_moveOf : Room := { frames := 1, cells := 0, slots := 0, locals := 21 }
theorem inX2_moveOf_X2 : ∀ w ∈ wsX20, w ∈ wsX2_moveOf := fun w h => List.mem_cons_of_mem _ (List.mem_append_right _ h)
set_option maxRecDepth 100000 in
set_option maxHeartbeats 4000000 in
theorem c_X2_moveOf (l : Launch) (D : va_G) (q : Nat → ClassId) (aM : Nat → Nat) (uM : MSt) (x1 : Int32) (x2 : Int32) (Q : Int32 → Prop) (hf : wpX2_moveOf uM x1 x2 Q) : Met l yX2_moveOf wsX2_moveOf rmX2_moveOf (va_Pc [.ref (aM 0), .int x1, .int x2] (kP D q (wM aM q uM))) (vp_Si Q) 0 0 (fun _ => False) := by
  refine Met.ofW (cc := cX2_moveOf) (maxL := 3) (ret := (some .int)) (by decide) rfl ?_
  intro p e s m args below meth c s₁ B hml hv
  obtain ⟨hargs, hP, hK, hD⟩ := hv
  have hx := B.exec
  have hb := B.bytes
  have hr := B.returns
  have hts := atoms_spec (ws := wsX2_moveOf) B.pre
  have hown : s.vm.findClass RX2 = some m.cls := findClass_of_methodNamed B.named
  have hlocks := B.notSynchronized
  refine k_entry hargs (Nat.le_of_ble_eq_true rfl) (fun ls hl => ?_)
  have hl : lv_has ls 3 [(0, .ref (aM 0)), (1, .int x1), (2, .int x2)] := hl
  change W p l e rmX2_moveOf s m args below meth c s.heap [] 0 0 (MQ below (vp_Si Q) args s 0 0 (fun _ => False)) _
  unfold wpX2_moveOf at hf
  refine lv_aload_n hx hb dX2_moveOf_0 rfl (lv_at hl 0 rfl) ?_
  refine lv_iload_n hx hb dX2_moveOf_1 rfl (lv_at hl 1 rfl) ?_
  refine k_si (k_runV (As := [.int x1]) (rest := []) ⟨hx, hb, hml, hown, hts⟩ (cF_X2_isState l D q aM uM x1) (cwV 1 hts gX2_moveOf_X2_isState rfl rfl rfl cdX2_isState ⟨Nat.le_of_ble_eq_true rfl, Nat.le_of_ble_eq_true rfl⟩) hK hP hD 0 rfl rfl rfl hl.1 rfl (Nat.le_of_ble_eq_true rfl) dX2_moveOf_2 ⟨Nat.le_of_ble_eq_true rfl, Nat.le_of_ble_eq_true rfl⟩) (fun r hr => ?_)
  subst hr
  refine lv_if_eq (tgt := 31) hx hb dX2_moveOf_5 (by decide) (fun c1 => ?_) (fun c1 => ?_)
  · have hf := hf.1 (c1)
    refine lv_bipush (v := (-4)) hx hb dX2_moveOf_31 (by decide) ?_
    exact k_iret_r (v := (-4)) hx hb hr hlocks hf dX2_moveOf_33
  · have hf := hf.2 (c1)
    refine lv_aload_n hx hb dX2_moveOf_8 rfl (lv_at hl 0 rfl) ?_
    refine lv_iload_n hx hb dX2_moveOf_9 rfl (lv_at hl 2 rfl) ?_
    refine k_si (k_runV (As := [.int x2]) (rest := []) ⟨hx, hb, hml, hown, hts⟩ (cF_X2_isLetter l D q aM uM x2) (cwV 1 hts gX2_moveOf_X2_isLetter rfl rfl rfl cdX2_isLetter ⟨Nat.le_of_ble_eq_true rfl, Nat.le_of_ble_eq_true rfl⟩) hK hP hD 0 rfl rfl rfl hl.1 rfl (Nat.le_of_ble_eq_true rfl) dX2_moveOf_10 ⟨Nat.le_of_ble_eq_true rfl, Nat.le_of_ble_eq_true rfl⟩) (fun r hr => ?_)
    subst hr
    refine lv_if_eq (tgt := 31) hx hb dX2_moveOf_13 (by decide) (fun c2 => ?_) (fun c2 => ?_)
    · have hf := hf.1 (c2)
      refine lv_bipush (v := (-4)) hx hb dX2_moveOf_31 (by decide) ?_
      exact k_iret_r (v := (-4)) hx hb hr hlocks hf dX2_moveOf_33
    · have hf := hf.2 (c2)
      refine lv_aload_n hx hb dX2_moveOf_16 rfl (lv_at hl 0 rfl) ?_
      refine va_get (D := D) (ci := 1) (v := .ref (aM 3)) (C := RX2) (T := TX2) (N := 12) hx hb hts inX2_moveOf_X2 hown hK hP 0 rfl rfl 6 (by decide) (hts (.fieldLink RX2 18 "GrowingText$Machine" "moves" "[I") (List.mem_of_getElem? (i := 1) rfl)) (fun _ h9 => h9) rfl dX2_moveOf_17 ?_
      refine lv_iload_n hx hb dX2_moveOf_20 rfl (lv_at hl 1 rfl) ?_
      refine lv_iconst (v := 5) hx hb dX2_moveOf_21 (by decide) ?_
      refine lv_imul hx hb dX2_moveOf_22 ?_
      refine lv_iload_n hx hb dX2_moveOf_23 rfl (lv_at hl 2 rfl) ?_
      refine lv_iadd hx hb dX2_moveOf_24 ?_
      refine k_si (k_runS (As := [.ref (aM 3), .int ((x1 * 5) + x2)]) (rest := []) ⟨hx, hb, hml, hown, hts⟩ (c_X3_at l D q (aM 3) 605 (gM_moves uM) ((x1 * 5) + x2) (Nat.le_of_ble_eq_true rfl)) (va_cwS 2 hts gX2_moveOf_X3_at rfl rfl rfl cdX3_at ⟨Nat.le_of_ble_eq_true rfl, Nat.le_of_ble_eq_true rfl⟩) hK (kp_1 hP 3 rfl) (kd_1 hD 3 rfl) rfl hl.1 rfl (Nat.le_of_ble_eq_true rfl) dX2_moveOf_25 ⟨Nat.le_of_ble_eq_true rfl, Nat.le_of_ble_eq_true rfl⟩) (fun r hr => ?_)
      subst hr
      refine lv_goto (tgt := 33) hx hb dX2_moveOf_28 (by decide) ?_
      exact k_iret_r (v := (kAt 605 (gM_moves uM) ((x1 * 5) + x2))) hx hb hr hlocks hf dX2_moveOf_33
def fX2_moveOf (uM : MSt) (x1 : Int32) (x2 : Int32) : Int32 := (if (fX2_isState uM x1) = 0 then (-4) else (if (fX2_isLetter uM x2) = 0 then (-4) else (kAt 605 (gM_moves uM) ((x1 * 5) + x2))))
theorem pF_X2_moveOf (uM : MSt) (x1 : Int32) (x2 : Int32) (Q : Int32 → Prop) (hq : Q (fX2_moveOf uM x1 x2)) : wpX2_moveOf uM x1 x2 Q := by
  unfold fX2_moveOf at hq; unfold wpX2_moveOf; exact k_ite hq (fun hq => hq) (fun hq => k_ite hq (fun hq => hq) (fun hq => hq))
theorem cF_X2_moveOf (l : Launch) (D : va_G) (q : Nat → ClassId) (aM : Nat → Nat) (uM : MSt) (x1 : Int32) (x2 : Int32) : Met l yX2_moveOf wsX2_moveOf rmX2_moveOf (va_Pc [.ref (aM 0), .int x1, .int x2] (kP D q (wM aM q uM))) (vp_Si (fun r => r = fX2_moveOf uM x1 x2)) 0 0 (fun _ => False) := c_X2_moveOf l D q aM uM x1 x2 _ (pF_X2_moveOf uM x1 x2 _ rfl)
def wpX2_linkOf (uM : MSt) (x1 : Int32) (Q : Int32 → Prop) : Prop :=
  (((fX2_isState uM x1) = 0 →
    Q (-4)) ∧
  (¬ ((fX2_isState uM x1) = 0) →
    Q (kAt 121 (gM_link uM) x1)))
def rmX2_linkOf : Room := { frames := 1, cells := 0, slots := 0, locals := 21 }
theorem inX2_linkOf_X2 : ∀ w ∈ wsX20, w ∈ wsX2_linkOf := fun w h => List.mem_cons_of_mem _ (List.mem_append_right _ h)
set_option maxRecDepth 100000 in
set_option maxHeartbeats 4000000 in
theorem c_X2_linkOf (l : Launch) (D : va_G) (q : Nat → ClassId) (aM : Nat → Nat) (uM : MSt) (x1 : Int32) (Q : Int32 → Prop) (hf : wpX2_linkOf uM x1 Q) : Met l yX2_linkOf wsX2_linkOf rmX2_linkOf (va_Pc [.ref (aM 0), .int x1] (kP D q (wM aM q uM))) (vp_Si Q) 0 0 (fun _ => False) := by
  refine Met.ofW (cc := cX2_linkOf) (maxL := 2) (ret := (some .int)) (by decide) rfl ?_
  intro p e s m args below meth c s₁ B hml hv
  obtain ⟨hargs, hP, hK, hD⟩ := hv
  have hx := B.exec
  have hb := B.bytes
  have hr := B.returns
  have hts := atoms_spec (ws := wsX2_linkOf) B.pre
  have hown : s.vm.findClass RX2 = some m.cls := findClass_of_methodNamed B.named
  have hlocks := B.notSynchronized
  refine k_entry hargs (Nat.le_of_ble_eq_true rfl) (fun ls hl => ?_)
  have hl : lv_has ls 2 [(0, .ref (aM 0)), (1, .int x1)] := hl
  change W p l e rmX2_linkOf s m args below meth c s.heap [] 0 0 (MQ below (vp_Si Q) args s 0 0 (fun _ => False)) _
  unfold wpX2_linkOf at hf
  refine lv_aload_n hx hb dX2_linkOf_0 rfl (lv_at hl 0 rfl) ?_
  refine lv_iload_n hx hb dX2_linkOf_1 rfl (lv_at hl 1 rfl) ?_
  refine k_si (k_runV (As := [.int x1]) (rest := []) ⟨hx, hb, hml, hown, hts⟩ (cF_X2_isState l D q aM uM x1) (cwV 1 hts gX2_linkOf_X2_isState rfl rfl rfl cdX2_isState ⟨Nat.le_of_ble_eq_true rfl, Nat.le_of_ble_eq_true rfl⟩) hK hP hD 0 rfl rfl rfl hl.1 rfl (Nat.le_of_ble_eq_true rfl) dX2_linkOf_2 ⟨Nat.le_of_ble_eq_true rfl, Nat.le_of_ble_eq_true rfl⟩) (fun r hr => ?_)
  subst hr
  refine lv_if_eq (tgt := 19) hx hb dX2_linkOf_5 (by decide) (fun c1 => ?_) (fun c1 => ?_)
  · have hf := hf.1 (c1)
    refine lv_bipush (v := (-4)) hx hb dX2_linkOf_19 (by decide) ?_
    exact k_iret_r (v := (-4)) hx hb hr hlocks hf dX2_linkOf_21
  · have hf := hf.2 (c1)
    refine lv_aload_n hx hb dX2_linkOf_8 rfl (lv_at hl 0 rfl) ?_
    refine va_get (D := D) (ci := 1) (v := .ref (aM 5)) (C := RX2) (T := TX2) (N := 12) hx hb hts inX2_linkOf_X2 hown hK hP 0 rfl rfl 8 (by decide) (hts (.fieldLink RX2 24 "GrowingText$Machine" "link" "[I") (List.mem_of_getElem? (i := 1) rfl)) (fun _ h9 => h9) rfl dX2_linkOf_9 ?_
    refine lv_iload_n hx hb dX2_linkOf_12 rfl (lv_at hl 1 rfl) ?_
    refine k_si (k_runS (As := [.ref (aM 5), .int x1]) (rest := []) ⟨hx, hb, hml, hown, hts⟩ (c_X3_at l D q (aM 5) 121 (gM_link uM) x1 (Nat.le_of_ble_eq_true rfl)) (va_cwS 2 hts gX2_linkOf_X3_at rfl rfl rfl cdX3_at ⟨Nat.le_of_ble_eq_true rfl, Nat.le_of_ble_eq_true rfl⟩) hK (kp_1 hP 5 rfl) (kd_1 hD 5 rfl) rfl hl.1 rfl (Nat.le_of_ble_eq_true rfl) dX2_linkOf_13 ⟨Nat.le_of_ble_eq_true rfl, Nat.le_of_ble_eq_true rfl⟩) (fun r hr => ?_)
    subst hr
    refine lv_goto (tgt := 21) hx hb dX2_linkOf_16 (by decide) ?_
    exact k_iret_r (v := (kAt 121 (gM_link uM) x1)) hx hb hr hlocks hf dX2_linkOf_21
def fX2_linkOf (uM : MSt) (x1 : Int32) : Int32 := (if (fX2_isState uM x1) = 0 then (-4) else (kAt 121 (gM_link uM) x1))
theorem pF_X2_linkOf (uM : MSt) (x1 : Int32) (Q : Int32 → Prop) (hq : Q (fX2_linkOf uM x1)) : wpX2_linkOf uM x1 Q := by
  unfold fX2_linkOf at hq; unfold wpX2_linkOf; exact k_ite hq (fun hq => hq) (fun hq => hq)
theorem cF_X2_linkOf (l : Launch) (D : va_G) (q : Nat → ClassId) (aM : Nat → Nat) (uM : MSt) (x1 : Int32) : Met l yX2_linkOf wsX2_linkOf rmX2_linkOf (va_Pc [.ref (aM 0), .int x1] (kP D q (wM aM q uM))) (vp_Si (fun r => r = fX2_linkOf uM x1)) 0 0 (fun _ => False) := c_X2_linkOf l D q aM uM x1 _ (pF_X2_linkOf uM x1 _ rfl)
def wpX2_redirect (uM : MSt) (x1 : Int32) (x2 : Int32) (x3 : Int32) (x4 : Int32) (Q : Int32 → MSt → Prop) : Prop :=
  ∀ (X6 : Int32 → Int32 → MSt → Prop),
  (∀ (y5 : Int32) (y6 : Int32) (tM : MSt),
    (((121 : Int32) ≤ y6 →
      Q y5 tM) ∧
    (¬ ((121 : Int32) ≤ y6) →
      (y5 < 0 →
        Q y5 tM) ∧
      (¬ (y5 < 0) →
        ((fX2_moveOf tM y5 x2) = x3 →
          X6 (fX2_linkOf (fX2_setMove tM y5 x2 x4) y5) (y6 + 1) (fX2_setMove tM y5 x2 x4)) ∧
        (¬ ((fX2_moveOf tM y5 x2) = x3) →
          Q y5 tM)))) → X6 y5 y6 tM) →
  X6 x1 0 uM
def rmX2_redirect : Room := { frames := 2, cells := 0, slots := 0, locals := 45 }
set_option maxRecDepth 100000 in
set_option maxHeartbeats 4000000 in
theorem c_X2_redirect (l : Launch) (D : va_G) (q : Nat → ClassId) (aM : Nat → Nat) (uM : MSt) (x1 : Int32) (x2 : Int32) (x3 : Int32) (x4 : Int32) (Q : Int32 → MSt → Prop) (hf : wpX2_redirect uM x1 x2 x3 x4 Q) : Met l yX2_redirect wsX2_redirect rmX2_redirect (va_Pc [.ref (aM 0), .int x1, .int x2, .int x3, .int x4] (kP D q (wM aM q uM))) (va_Qi Q (fun u t => kP D q (wM aM q u) t) (kIn (wM aM q uM))) 0 0 (kIn (wM aM q uM)) := by
  refine Met.ofW (cc := cX2_redirect) (maxL := 7) (ret := (some .int)) (by decide) rfl ?_
  intro p e s m args below meth c s₁ B hml hv
  obtain ⟨hargs, hP, hK, hD⟩ := hv
  have hx := B.exec
  have hb := B.bytes
  have hr := B.returns
  have hts := atoms_spec (ws := wsX2_redirect) B.pre
  have hown : s.vm.findClass RX2 = some m.cls := findClass_of_methodNamed B.named
  have hlocks := B.notSynchronized
  have hD := kd_self hD
  generalize kIn (wM aM q uM) = A at hD ⊢
  have hS : va_S A s.heap s.heap [] := va_S.rf
  refine k_entry hargs (Nat.le_of_ble_eq_true rfl) (fun ls hl => ?_)
  have hl : lv_has ls 7 [(0, .ref (aM 0)), (1, .int x1), (2, .int x2), (3, .int x3), (4, .int x4)] := hl
  change W p l e rmX2_redirect s m args below meth c s.heap [] 0 0 (MQ below (va_Qi Q (fun u t => kP D q (wM aM q u) t) A) args s 0 0 A) _
  unfold wpX2_redirect at hf
  obtain ⟨H, hH⟩ : ∃ H, H = s.heap := ⟨_, rfl⟩
  obtain ⟨locs, hlocs⟩ : ∃ x : List Loc, x = [] := ⟨_, rfl⟩
  rw [← hH] at hP
  have hS : va_S A s.heap H locs := by rw [hH, hlocs]; exact hS
  rw [show W p l e rmX2_redirect s m args below meth c s.heap [] 0 0 (MQ below (va_Qi Q (fun u t => kP D q (wM aM q u) t) A) args s 0 0 A) (F0 m 0 ls []) = W p l e rmX2_redirect s m args below meth c H locs 0 0 (MQ below (va_Qi Q (fun u t => kP D q (wM aM q u) t) A) args s 0 0 A) (F0 m 0 ls []) by rw [hH, hlocs]]
  clear hH hlocs
  have hf := hf
    (fun (y5 : Int32) (y6 : Int32) (tM : MSt) => ∀ (H : Heap) (locs : List Loc) (ls : Array Slot), va_P D vwCl (wM aM q tM) H → va_D A (wM aM q tM) → va_S A s.heap H locs → lv_has ls 7 [(0, .ref (aM 0)), (2, .int x2), (3, .int x3), (4, .int x4), (5, .int y5), (6, .int y6)] → W p l e rmX2_redirect s m args below meth c H locs 0 0 (MQ below (va_Qi Q (fun u t => kP D q (wM aM q u) t) A) args s 0 0 A) (F0 m 6 ls []))
    (by
      intro y5 y6 tM hf H locs ls hP hD hS hl
      refine lv_iload hx hb dX2_redirect_6 (lv_at hl 5 rfl) ?_
      refine lv_bipush (v := 121) hx hb dX2_redirect_8 (by decide) ?_
      refine lv_icmp_ge (tgt := 52) hx hb dX2_redirect_10 (by decide) (fun c1 => ?_) (fun c1 => ?_)
      · have hf := hf.1 (c1)
        refine lv_iload hx hb dX2_redirect_52 (lv_at hl 4 rfl) ?_
        exact k_iret_w (wf := (fun u => wM aM q u)) (post := Q) (u := tM) (v := y5) hx hb hr hlocks hK hP hD hS hf dX2_redirect_54
      · have hf := hf.2 (c1)
        refine lv_iload hx hb dX2_redirect_13 (lv_at hl 4 rfl) ?_
        refine lv_if_lt (tgt := 52) hx hb dX2_redirect_15 (by decide) (fun c2 => ?_) (fun c2 => ?_)
        · have hf := hf.1 (c2)
          refine lv_iload hx hb dX2_redirect_52 (lv_at hl 4 rfl) ?_
          exact k_iret_w (wf := (fun u => wM aM q u)) (post := Q) (u := tM) (v := y5) hx hb hr hlocks hK hP hD hS hf dX2_redirect_54
        · have hf := hf.2 (c2)
          refine lv_aload_n hx hb dX2_redirect_18 rfl (lv_at hl 0 rfl) ?_
          refine lv_iload hx hb dX2_redirect_19 (lv_at hl 4 rfl) ?_
          refine lv_iload_n hx hb dX2_redirect_21 rfl (lv_at hl 1 rfl) ?_
          refine k_si (k_runV (As := [.int y5, .int x2]) (rest := []) ⟨hx, hb, hml, hown, hts⟩ (cF_X2_moveOf l D q aM tM y5 x2) (cwV 2 hts gX2_redirect_X2_moveOf rfl rfl rfl cdX2_moveOf ⟨Nat.le_of_ble_eq_true rfl, Nat.le_of_ble_eq_true rfl⟩) hK hP hD 0 rfl rfl rfl hl.1 rfl (Nat.le_of_ble_eq_true rfl) dX2_redirect_22 ⟨Nat.le_of_ble_eq_true rfl, Nat.le_of_ble_eq_true rfl⟩) (fun r hr => ?_)
          subst hr
          refine lv_iload_n hx hb dX2_redirect_25 rfl (lv_at hl 2 rfl) ?_
          refine lv_icmp_ne (tgt := 52) hx hb dX2_redirect_26 (by decide) (fun c3 => ?_) (fun c3 => ?_)
          · have hf := hf.2 (c3)
            refine lv_iload hx hb dX2_redirect_52 (lv_at hl 4 rfl) ?_
            exact k_iret_w (wf := (fun u => wM aM q u)) (post := Q) (u := tM) (v := y5) hx hb hr hlocks hK hP hD hS hf dX2_redirect_54
          · have hf := hf.1 (c3)
            refine lv_aload_n hx hb dX2_redirect_29 rfl (lv_at hl 0 rfl) ?_
            refine lv_iload hx hb dX2_redirect_30 (lv_at hl 4 rfl) ?_
            refine lv_iload_n hx hb dX2_redirect_32 rfl (lv_at hl 1 rfl) ?_
            refine lv_iload hx hb dX2_redirect_33 (lv_at hl 3 rfl) ?_
            refine k_wv (wf := fun u => wM aM q u) (u0 := tM) (k_runV (As := [.int y5, .int x2, .int x4]) (rest := []) ⟨hx, hb, hml, hown, hts⟩ (cF_X2_setMove l D q aM tM y5 x2 x4) (cwV 3 hts gX2_redirect_X2_setMove rfl rfl rfl cdX2_setMove ⟨Nat.le_of_ble_eq_true rfl, Nat.le_of_ble_eq_true rfl⟩) hK hP hD 0 rfl rfl rfl hl.1 rfl (Nat.le_of_ble_eq_true rfl) dX2_redirect_35 ⟨Nat.le_of_ble_eq_true rfl, Nat.le_of_ble_eq_true rfl⟩) ([]) ([]) (fun _ => rfl) hP hD hS (fun u H locs hu hP hD hS => ?_)
            subst hu
            have hP : va_P D vwCl (wM aM q (fX2_setMove tM y5 x2 x4)) H := hP
            have hD : va_D A (wM aM q (fX2_setMove tM y5 x2 x4)) := hD
            refine lv_aload_n hx hb dX2_redirect_38 rfl (lv_at hl 0 rfl) ?_
            refine lv_iload hx hb dX2_redirect_39 (lv_at hl 4 rfl) ?_
            refine k_si (k_runV (As := [.int y5]) (rest := []) ⟨hx, hb, hml, hown, hts⟩ (cF_X2_linkOf l D q aM (fX2_setMove tM y5 x2 x4) y5) (cwV 1 hts gX2_redirect_X2_linkOf rfl rfl rfl cdX2_linkOf ⟨Nat.le_of_ble_eq_true rfl, Nat.le_of_ble_eq_true rfl⟩) hK hP hD 0 rfl rfl rfl hl.1 rfl (Nat.le_of_ble_eq_true rfl) dX2_redirect_41 ⟨Nat.le_of_ble_eq_true rfl, Nat.le_of_ble_eq_true rfl⟩) (fun r hr => ?_)
            subst hr
            refine lv_istore (lv' := [(5, .int (fX2_linkOf (fX2_setMove tM y5 x2 x4) y5)), (0, .ref (aM 0)), (2, .int x2), (3, .int x3), (4, .int x4), (6, .int y6)]) hx hb dX2_redirect_44 hl (by decide) rfl (fun ls hl => ?_)
            refine lv_iinc (v := (y6 + 1)) (lv' := [(6, .int (y6 + 1)), (5, .int (fX2_linkOf (fX2_setMove tM y5 x2 x4) y5)), (0, .ref (aM 0)), (2, .int x2), (3, .int x3), (4, .int x4)]) hx hb dX2_redirect_46 hl (k := 5) rfl rfl (by decide) rfl (fun ls hl => ?_)
            refine lv_goto (tgt := 6) hx hb dX2_redirect_49 (by decide) ?_
            exact hf H locs ls hP hD hS (lv_sub hl [2, 3, 4, 5, 1, 0] rfl))
  refine lv_iload_n hx hb dX2_redirect_0 rfl (lv_at hl 1 rfl) ?_
  refine lv_istore (lv' := [(5, .int x1), (0, .ref (aM 0)), (1, .int x1), (2, .int x2), (3, .int x3), (4, .int x4)]) hx hb dX2_redirect_1 hl (by decide) rfl (fun ls hl => ?_)
  refine lv_iconst (v := 0) hx hb dX2_redirect_3 (by decide) ?_
  refine lv_istore (lv' := [(6, .int 0), (5, .int x1), (0, .ref (aM 0)), (1, .int x1), (2, .int x2), (3, .int x3), (4, .int x4)]) hx hb dX2_redirect_4 hl (by decide) rfl (fun ls hl => ?_)
  exact hf H locs ls hP hD hS (lv_sub hl [2, 4, 5, 6, 1, 0] rfl)
def wpX2_longestOf (uM : MSt) (x1 : Int32) (Q : Int32 → Prop) : Prop :=
  Q (kAt 121 (gM_longest uM) x1)
def rmX2_longestOf : Room := { frames := 1, cells := 0, slots := 0, locals := 21 }
theorem inX2_longestOf_X2 : ∀ w ∈ wsX20, w ∈ wsX2_longestOf := fun w h => List.mem_cons_of_mem _ (List.mem_append_right _ h)
set_option maxRecDepth 100000 in
set_option maxHeartbeats 4000000 in
theorem c_X2_longestOf (l : Launch) (D : va_G) (q : Nat → ClassId) (aM : Nat → Nat) (uM : MSt) (x1 : Int32) (Q : Int32 → Prop) (hf : wpX2_longestOf uM x1 Q) : Met l yX2_longestOf wsX2_longestOf rmX2_longestOf (va_Pc [.ref (aM 0), .int x1] (kP D q (wM aM q uM))) (vp_Si Q) 0 0 (fun _ => False) := by
  refine Met.ofW (cc := cX2_longestOf) (maxL := 2) (ret := (some .int)) (by decide) rfl ?_
  intro p e s m args below meth c s₁ B hml hv
  obtain ⟨hargs, hP, hK, hD⟩ := hv
  have hx := B.exec
  have hb := B.bytes
  have hr := B.returns
  have hts := atoms_spec (ws := wsX2_longestOf) B.pre
  have hown : s.vm.findClass RX2 = some m.cls := findClass_of_methodNamed B.named
  have hlocks := B.notSynchronized
  refine k_entry hargs (Nat.le_of_ble_eq_true rfl) (fun ls hl => ?_)
  have hl : lv_has ls 2 [(0, .ref (aM 0)), (1, .int x1)] := hl
  change W p l e rmX2_longestOf s m args below meth c s.heap [] 0 0 (MQ below (vp_Si Q) args s 0 0 (fun _ => False)) _
  unfold wpX2_longestOf at hf
  refine lv_aload_n hx hb dX2_longestOf_0 rfl (lv_at hl 0 rfl) ?_
  refine va_get (D := D) (ci := 1) (v := .ref (aM 4)) (C := RX2) (T := TX2) (N := 12) hx hb hts inX2_longestOf_X2 hown hK hP 0 rfl rfl 7 (by decide) (hts (.fieldLink RX2 21 "GrowingText$Machine" "longest" "[I") (List.mem_of_getElem? (i := 1) rfl)) (fun _ h9 => h9) rfl dX2_longestOf_1 ?_
  refine lv_iload_n hx hb dX2_longestOf_4 rfl (lv_at hl 1 rfl) ?_
  refine k_si (k_runS (As := [.ref (aM 4), .int x1]) (rest := []) ⟨hx, hb, hml, hown, hts⟩ (c_X3_at l D q (aM 4) 121 (gM_longest uM) x1 (Nat.le_of_ble_eq_true rfl)) (va_cwS 2 hts gX2_longestOf_X3_at rfl rfl rfl cdX3_at ⟨Nat.le_of_ble_eq_true rfl, Nat.le_of_ble_eq_true rfl⟩) hK (kp_1 hP 4 rfl) (kd_1 hD 4 rfl) rfl hl.1 rfl (Nat.le_of_ble_eq_true rfl) dX2_longestOf_5 ⟨Nat.le_of_ble_eq_true rfl, Nat.le_of_ble_eq_true rfl⟩) (fun r hr => ?_)
  subst hr
  exact k_iret_r (v := (kAt 121 (gM_longest uM) x1)) hx hb hr hlocks hf dX2_longestOf_8
def fX2_longestOf (uM : MSt) (x1 : Int32) : Int32 := (kAt 121 (gM_longest uM) x1)
theorem pF_X2_longestOf (uM : MSt) (x1 : Int32) (Q : Int32 → Prop) (hq : Q (fX2_longestOf uM x1)) : wpX2_longestOf uM x1 Q := by
  unfold fX2_longestOf at hq; unfold wpX2_longestOf; exact hq
theorem cF_X2_longestOf (l : Launch) (D : va_G) (q : Nat → ClassId) (aM : Nat → Nat) (uM : MSt) (x1 : Int32) : Met l yX2_longestOf wsX2_longestOf rmX2_longestOf (va_Pc [.ref (aM 0), .int x1] (kP D q (wM aM q uM))) (vp_Si (fun r => r = fX2_longestOf uM x1)) 0 0 (fun _ => False) := c_X2_longestOf l D q aM uM x1 _ (pF_X2_longestOf uM x1 _ rfl)
def wpX2_endsOf (uM : MSt) (x1 : Int32) (Q : Int64 → Prop) : Prop :=
  (((fX2_isState uM x1) = 0 →
    Q 0) ∧
  (¬ ((fX2_isState uM x1) = 0) →
    Q (kAtL 121 (gM_ends uM) x1)))
def rmX2_endsOf : Room := { frames := 1, cells := 0, slots := 0, locals := 21 }
theorem inX2_endsOf_X2 : ∀ w ∈ wsX20, w ∈ wsX2_endsOf := fun w h => List.mem_cons_of_mem _ (List.mem_append_right _ h)
set_option maxRecDepth 100000 in
set_option maxHeartbeats 4000000 in
theorem c_X2_endsOf (l : Launch) (D : va_G) (q : Nat → ClassId) (aM : Nat → Nat) (uM : MSt) (x1 : Int32) (Q : Int64 → Prop) (hf : wpX2_endsOf uM x1 Q) : Met l yX2_endsOf wsX2_endsOf rmX2_endsOf (va_Pc [.ref (aM 0), .int x1] (kP D q (wM aM q uM))) (vp_Sl Q) 0 0 (fun _ => False) := by
  refine Met.ofW (cc := cX2_endsOf) (maxL := 2) (ret := (some .long)) (by decide) rfl ?_
  intro p e s m args below meth c s₁ B hml hv
  obtain ⟨hargs, hP, hK, hD⟩ := hv
  have hx := B.exec
  have hb := B.bytes
  have hr := B.returns
  have hts := atoms_spec (ws := wsX2_endsOf) B.pre
  have hown : s.vm.findClass RX2 = some m.cls := findClass_of_methodNamed B.named
  have hlocks := B.notSynchronized
  refine k_entry hargs (Nat.le_of_ble_eq_true rfl) (fun ls hl => ?_)
  have hl : lv_has ls 2 [(0, .ref (aM 0)), (1, .int x1)] := hl
  change W p l e rmX2_endsOf s m args below meth c s.heap [] 0 0 (MQ below (vp_Sl Q) args s 0 0 (fun _ => False)) _
  unfold wpX2_endsOf at hf
  refine lv_aload_n hx hb dX2_endsOf_0 rfl (lv_at hl 0 rfl) ?_
  refine lv_iload_n hx hb dX2_endsOf_1 rfl (lv_at hl 1 rfl) ?_
  refine k_si (k_runV (As := [.int x1]) (rest := []) ⟨hx, hb, hml, hown, hts⟩ (cF_X2_isState l D q aM uM x1) (cwV 1 hts gX2_endsOf_X2_isState rfl rfl rfl cdX2_isState ⟨Nat.le_of_ble_eq_true rfl, Nat.le_of_ble_eq_true rfl⟩) hK hP hD 0 rfl rfl rfl hl.1 rfl (Nat.le_of_ble_eq_true rfl) dX2_endsOf_2 ⟨Nat.le_of_ble_eq_true rfl, Nat.le_of_ble_eq_true rfl⟩) (fun r hr => ?_)
  subst hr
  refine lv_if_eq (tgt := 19) hx hb dX2_endsOf_5 (by decide) (fun c1 => ?_) (fun c1 => ?_)
  · have hf := hf.1 (c1)
    refine lv_lconst (v := 0) hx hb dX2_endsOf_19 (by decide) ?_
    exact k_lret_r (v := 0) hx hb hr hlocks hf dX2_endsOf_20
  · have hf := hf.2 (c1)
    refine lv_aload_n hx hb dX2_endsOf_8 rfl (lv_at hl 0 rfl) ?_
    refine va_get (D := D) (ci := 1) (v := .ref (aM 8)) (C := RX2) (T := TX2) (N := 12) hx hb hts inX2_endsOf_X2 hown hK hP 0 rfl rfl 11 (by decide) (hts (.fieldLink RX2 33 "GrowingText$Machine" "ends" "[J") (List.mem_of_getElem? (i := 1) rfl)) (fun _ h9 => h9) rfl dX2_endsOf_9 ?_
    refine lv_iload_n hx hb dX2_endsOf_12 rfl (lv_at hl 1 rfl) ?_
    refine k_sl (k_runS (As := [.ref (aM 8), .int x1]) (rest := []) ⟨hx, hb, hml, hown, hts⟩ (c_X3_at_ l D q (aM 8) 121 (gM_ends uM) x1 (Nat.le_of_ble_eq_true rfl)) (va_cwS 2 hts gX2_endsOf_X3_at_ rfl rfl rfl cdX3_at_ ⟨Nat.le_of_ble_eq_true rfl, Nat.le_of_ble_eq_true rfl⟩) hK (kp_1 hP 8 rfl) (kd_1 hD 8 rfl) rfl hl.1 rfl (Nat.le_of_ble_eq_true rfl) dX2_endsOf_13 ⟨Nat.le_of_ble_eq_true rfl, Nat.le_of_ble_eq_true rfl⟩) (fun r hr => ?_)
    subst hr
    refine lv_goto (tgt := 20) hx hb dX2_endsOf_16 (by decide) ?_
    exact k_lret_r (v := (kAtL 121 (gM_ends uM) x1)) hx hb hr hlocks hf dX2_endsOf_20
def fX2_endsOf (uM : MSt) (x1 : Int32) : Int64 := (if (fX2_isState uM x1) = 0 then 0 else (kAtL 121 (gM_ends uM) x1))
theorem pF_X2_endsOf (uM : MSt) (x1 : Int32) (Q : Int64 → Prop) (hq : Q (fX2_endsOf uM x1)) : wpX2_endsOf uM x1 Q := by
  unfold fX2_endsOf at hq; unfold wpX2_endsOf; exact k_ite hq (fun hq => hq) (fun hq => hq)
theorem cF_X2_endsOf (l : Launch) (D : va_G) (q : Nat → ClassId) (aM : Nat → Nat) (uM : MSt) (x1 : Int32) : Met l yX2_endsOf wsX2_endsOf rmX2_endsOf (va_Pc [.ref (aM 0), .int x1] (kP D q (wM aM q uM))) (vp_Sl (fun r => r = fX2_endsOf uM x1)) 0 0 (fun _ => False) := c_X2_endsOf l D q aM uM x1 _ (pF_X2_endsOf uM x1 _ rfl)
def wpX2_stateJustBehind (uM : MSt) (x1 : Int32) (x2 : Int32) (Q : Int32 → MSt → Prop) : Prop :=
  ∀ (X77 : Int32 → Int32 → Int32 → MSt → Prop),
  (∀ (y3 : Int32) (y5 : Int32) (y6 : Int32) (tM : MSt),
    (((gM_alphabet tM) ≤ y6 →
      wpX2_redirect (gM_set_link tM (kPut 121 (gM_link tM) y3 y5)) x1 x2 y3 y5 (fun r6 uM5 =>
        Q y5 uM5)) ∧
    (¬ ((gM_alphabet tM) ≤ y6) →
      X77 y3 y5 (y6 + 1) (fX2_setMove tM y5 y6 (fX2_moveOf tM y3 y6)))) → X77 y3 y5 y6 tM) →
  (((fX2_longestOf uM (fX2_moveOf uM x1 x2)) = ((fX2_longestOf uM x1) + 1) →
    Q (fX2_moveOf uM x1 x2) uM) ∧
  (¬ ((fX2_longestOf uM (fX2_moveOf uM x1 x2)) = ((fX2_longestOf uM x1) + 1)) →
    wpX2_addState uM ((fX2_longestOf uM x1) + 1) (fun r3 uM2 =>
      X77 (fX2_moveOf uM x1 x2) r3 0 (gM_set_ends (gM_set_link (gM_set_original uM2 (kPut 121 (gM_original uM2) r3 (fX2_moveOf uM x1 x2))) (kPut 121 (gM_link uM2) r3 (fX2_linkOf (gM_set_original uM2 (kPut 121 (gM_original uM2) r3 (fX2_moveOf uM x1 x2))) (fX2_moveOf uM x1 x2)))) (kPutL 121 (gM_ends uM2) r3 (fX2_endsOf (gM_set_link (gM_set_original uM2 (kPut 121 (gM_original uM2) r3 (fX2_moveOf uM x1 x2))) (kPut 121 (gM_link uM2) r3 (fX2_linkOf (gM_set_original uM2 (kPut 121 (gM_original uM2) r3 (fX2_moveOf uM x1 x2))) (fX2_moveOf uM x1 x2)))) (fX2_moveOf uM x1 x2)))))))
def rmX2_stateJustBehind : Room := { frames := 3, cells := 0, slots := 0, locals := 71 }
theorem inX2_stateJustBehind_X2 : ∀ w ∈ wsX20, w ∈ wsX2_stateJustBehind := fun w h => List.mem_cons_of_mem _ (List.mem_append_right _ h)
set_option maxRecDepth 100000 in
set_option maxHeartbeats 4000000 in
theorem c_X2_stateJustBehind (l : Launch) (D : va_G) (q : Nat → ClassId) (aM : Nat → Nat) (uM : MSt) (x1 : Int32) (x2 : Int32) (Q : Int32 → MSt → Prop) (hf : wpX2_stateJustBehind uM x1 x2 Q) : Met l yX2_stateJustBehind wsX2_stateJustBehind rmX2_stateJustBehind (va_Pc [.ref (aM 0), .int x1, .int x2] (kP D q (wM aM q uM))) (va_Qi Q (fun u t => kP D q (wM aM q u) t) (kIn (wM aM q uM))) 0 0 (kIn (wM aM q uM)) := by
  refine Met.ofW (cc := cX2_stateJustBehind) (maxL := 7) (ret := (some .int)) (by decide) rfl ?_
  intro p e s m args below meth c s₁ B hml hv
  obtain ⟨hargs, hP, hK, hD⟩ := hv
  have hx := B.exec
  have hb := B.bytes
  have hr := B.returns
  have hts := atoms_spec (ws := wsX2_stateJustBehind) B.pre
  have hown : s.vm.findClass RX2 = some m.cls := findClass_of_methodNamed B.named
  have hlocks := B.notSynchronized
  have hD := kd_self hD
  generalize kIn (wM aM q uM) = A at hD ⊢
  have hS : va_S A s.heap s.heap [] := va_S.rf
  refine k_entry hargs (Nat.le_of_ble_eq_true rfl) (fun ls hl => ?_)
  have hl : lv_has ls 7 [(0, .ref (aM 0)), (1, .int x1), (2, .int x2)] := hl
  change W p l e rmX2_stateJustBehind s m args below meth c s.heap [] 0 0 (MQ below (va_Qi Q (fun u t => kP D q (wM aM q u) t) A) args s 0 0 A) _
  unfold wpX2_stateJustBehind at hf
  obtain ⟨H, hH⟩ : ∃ H, H = s.heap := ⟨_, rfl⟩
  obtain ⟨locs, hlocs⟩ : ∃ x : List Loc, x = [] := ⟨_, rfl⟩
  rw [← hH] at hP
  have hS : va_S A s.heap H locs := by rw [hH, hlocs]; exact hS
  rw [show W p l e rmX2_stateJustBehind s m args below meth c s.heap [] 0 0 (MQ below (va_Qi Q (fun u t => kP D q (wM aM q u) t) A) args s 0 0 A) (F0 m 0 ls []) = W p l e rmX2_stateJustBehind s m args below meth c H locs 0 0 (MQ below (va_Qi Q (fun u t => kP D q (wM aM q u) t) A) args s 0 0 A) (F0 m 0 ls []) by rw [hH, hlocs]]
  clear hH hlocs
  have hf := hf
    (fun (y3 : Int32) (y5 : Int32) (y6 : Int32) (tM : MSt) => ∀ (H : Heap) (locs : List Loc) (ls : Array Slot), va_P D vwCl (wM aM q tM) H → va_D A (wM aM q tM) → va_S A s.heap H locs → lv_has ls 7 [(0, .ref (aM 0)), (1, .int x1), (2, .int x2), (3, .int y3), (5, .int y5), (6, .int y6)] → W p l e rmX2_stateJustBehind s m args below meth c H locs 0 0 (MQ below (va_Qi Q (fun u t => kP D q (wM aM q u) t) A) args s 0 0 A) (F0 m 77 ls []))
    (by
      intro y3 y5 y6 tM hf H locs ls hP hD hS hl
      refine lv_iload hx hb dX2_stateJustBehind_77 (lv_at hl 5 rfl) ?_
      refine lv_aload_n hx hb dX2_stateJustBehind_79 rfl (lv_at hl 0 rfl) ?_
      refine va_get (D := D) (ci := 1) (v := .int (gM_alphabet tM)) (C := RX2) (T := TX2) (N := 12) hx hb hts inX2_stateJustBehind_X2 hown hK hP 0 rfl rfl 0 (by decide) (hts (.fieldLink RX2 41 "GrowingText$Machine" "alphabet" "I") (List.mem_of_getElem? (i := 4) rfl)) (fun _ h9 => h9) rfl dX2_stateJustBehind_80 ?_
      refine lv_icmp_ge (tgt := 107) hx hb dX2_stateJustBehind_83 (by decide) (fun c4 => ?_) (fun c4 => ?_)
      · have hf := hf.1 (c4)
        refine lv_aload_n hx hb dX2_stateJustBehind_107 rfl (lv_at hl 0 rfl) ?_
        refine va_get (D := D) (ci := 1) (v := .ref (aM 5)) (C := RX2) (T := TX2) (N := 12) hx hb hts inX2_stateJustBehind_X2 hown hK hP 0 rfl rfl 8 (by decide) (hts (.fieldLink RX2 24 "GrowingText$Machine" "link" "[I") (List.mem_of_getElem? (i := 2) rfl)) (fun _ h9 => h9) rfl dX2_stateJustBehind_108 ?_
        refine lv_iload_n hx hb dX2_stateJustBehind_111 rfl (lv_at hl 3 rfl) ?_
        refine lv_iload hx hb dX2_stateJustBehind_112 (lv_at hl 4 rfl) ?_
        refine k_wp (k := 5) (k_runS (As := [.ref (aM 5), .int y3, .int y5]) (rest := []) ⟨hx, hb, hml, hown, hts⟩ (c_X3_put l D q (aM 5) 121 (gM_link tM) y3 y5 (Nat.le_of_ble_eq_true rfl)) (va_cwS 3 hts gX2_stateJustBehind_X3_put rfl rfl rfl cdX3_put ⟨Nat.le_of_ble_eq_true rfl, Nat.le_of_ble_eq_true rfl⟩) hK (kp_1 hP 5 rfl) (kd_1 hD 5 rfl) rfl hl.1 rfl (Nat.le_of_ble_eq_true rfl) dX2_stateJustBehind_114 ⟨Nat.le_of_ble_eq_true rfl, Nat.le_of_ble_eq_true rfl⟩) rfl rfl hP hD hS (fun H locs _ hP hD hS => ?_)
        have hP : va_P D vwCl (wM aM q (gM_set_link tM (kPut 121 (gM_link tM) y3 y5))) H := hP
        have hD : va_D A (wM aM q (gM_set_link tM (kPut 121 (gM_link tM) y3 y5))) := hD
        refine lv_aload_n hx hb dX2_stateJustBehind_117 rfl (lv_at hl 0 rfl) ?_
        refine lv_iload_n hx hb dX2_stateJustBehind_118 rfl (lv_at hl 1 rfl) ?_
        refine lv_iload_n hx hb dX2_stateJustBehind_119 rfl (lv_at hl 2 rfl) ?_
        refine lv_iload_n hx hb dX2_stateJustBehind_120 rfl (lv_at hl 3 rfl) ?_
        refine lv_iload hx hb dX2_stateJustBehind_121 (lv_at hl 4 rfl) ?_
        refine k_wi (wf := fun u => wM aM q u) (u0 := (gM_set_link tM (kPut 121 (gM_link tM) y3 y5))) (k_runV (As := [.int x1, .int x2, .int y3, .int y5]) (rest := []) ⟨hx, hb, hml, hown, hts⟩ (c_X2_redirect l D q aM (gM_set_link tM (kPut 121 (gM_link tM) y3 y5)) x1 x2 y3 y5 _ hf) (cwV 4 hts gX2_stateJustBehind_X2_redirect rfl rfl rfl cdX2_redirect ⟨Nat.le_of_ble_eq_true rfl, Nat.le_of_ble_eq_true rfl⟩) hK hP hD 0 rfl rfl rfl hl.1 rfl (Nat.le_of_ble_eq_true rfl) dX2_stateJustBehind_123 ⟨Nat.le_of_ble_eq_true rfl, Nat.le_of_ble_eq_true rfl⟩) ([]) ([]) (fun _ => rfl) hP hD hS (fun r6 uM5 H locs hf hP hD hS => ?_)
        have hP : va_P D vwCl (wM aM q uM5) H := hP
        have hD : va_D A (wM aM q uM5) := hD
        refine lv_pop hx hb dX2_stateJustBehind_126 rfl ?_
        refine lv_iload hx hb dX2_stateJustBehind_127 (lv_at hl 4 rfl) ?_
        exact k_iret_w (wf := (fun u => wM aM q u)) (post := Q) (u := uM5) (v := y5) hx hb hr hlocks hK hP hD hS hf dX2_stateJustBehind_129
      · have hf := hf.2 (c4)
        refine lv_aload_n hx hb dX2_stateJustBehind_86 rfl (lv_at hl 0 rfl) ?_
        refine lv_iload hx hb dX2_stateJustBehind_87 (lv_at hl 4 rfl) ?_
        refine lv_iload hx hb dX2_stateJustBehind_89 (lv_at hl 5 rfl) ?_
        refine lv_aload_n hx hb dX2_stateJustBehind_91 rfl (lv_at hl 0 rfl) ?_
        refine lv_iload_n hx hb dX2_stateJustBehind_92 rfl (lv_at hl 3 rfl) ?_
        refine lv_iload hx hb dX2_stateJustBehind_93 (lv_at hl 5 rfl) ?_
        refine k_si (k_runV (As := [.int y3, .int y6]) (rest := [.int y6, .int y5, .ref (aM 0)]) ⟨hx, hb, hml, hown, hts⟩ (cF_X2_moveOf l D q aM tM y3 y6) (cwV 2 hts gX2_stateJustBehind_X2_moveOf rfl rfl rfl cdX2_moveOf ⟨Nat.le_of_ble_eq_true rfl, Nat.le_of_ble_eq_true rfl⟩) hK hP hD 0 rfl rfl rfl hl.1 rfl (Nat.le_of_ble_eq_true rfl) dX2_stateJustBehind_95 ⟨Nat.le_of_ble_eq_true rfl, Nat.le_of_ble_eq_true rfl⟩) (fun r hr => ?_)
        subst hr
        refine k_wv (wf := fun u => wM aM q u) (u0 := tM) (k_runV (As := [.int y5, .int y6, .int (fX2_moveOf tM y3 y6)]) (rest := []) ⟨hx, hb, hml, hown, hts⟩ (cF_X2_setMove l D q aM tM y5 y6 (fX2_moveOf tM y3 y6)) (cwV 3 hts gX2_stateJustBehind_X2_setMove rfl rfl rfl cdX2_setMove ⟨Nat.le_of_ble_eq_true rfl, Nat.le_of_ble_eq_true rfl⟩) hK hP hD 0 rfl rfl rfl hl.1 rfl (Nat.le_of_ble_eq_true rfl) dX2_stateJustBehind_98 ⟨Nat.le_of_ble_eq_true rfl, Nat.le_of_ble_eq_true rfl⟩) ([]) ([]) (fun _ => rfl) hP hD hS (fun u H locs hu hP hD hS => ?_)
        subst hu
        have hP : va_P D vwCl (wM aM q (fX2_setMove tM y5 y6 (fX2_moveOf tM y3 y6))) H := hP
        have hD : va_D A (wM aM q (fX2_setMove tM y5 y6 (fX2_moveOf tM y3 y6))) := hD
        refine lv_iinc (v := (y6 + 1)) (lv' := [(6, .int (y6 + 1)), (0, .ref (aM 0)), (1, .int x1), (2, .int x2), (3, .int y3), (5, .int y5)]) hx hb dX2_stateJustBehind_101 hl (k := 5) rfl rfl (by decide) rfl (fun ls hl => ?_)
        refine lv_goto (tgt := 77) hx hb dX2_stateJustBehind_104 (by decide) ?_
        exact hf H locs ls hP hD hS (lv_sub hl [1, 2, 3, 4, 5, 0] rfl))
  refine lv_aload_n hx hb dX2_stateJustBehind_0 rfl (lv_at hl 0 rfl) ?_
  refine lv_iload_n hx hb dX2_stateJustBehind_1 rfl (lv_at hl 1 rfl) ?_
  refine lv_iload_n hx hb dX2_stateJustBehind_2 rfl (lv_at hl 2 rfl) ?_
  refine k_si (k_runV (As := [.int x1, .int x2]) (rest := []) ⟨hx, hb, hml, hown, hts⟩ (cF_X2_moveOf l D q aM uM x1 x2) (cwV 2 hts gX2_stateJustBehind_X2_moveOf rfl rfl rfl cdX2_moveOf ⟨Nat.le_of_ble_eq_true rfl, Nat.le_of_ble_eq_true rfl⟩) hK hP hD 0 rfl rfl rfl hl.1 rfl (Nat.le_of_ble_eq_true rfl) dX2_stateJustBehind_3 ⟨Nat.le_of_ble_eq_true rfl, Nat.le_of_ble_eq_true rfl⟩) (fun r hr => ?_)
  subst hr
  refine lv_istore_n (lv' := [(3, .int (fX2_moveOf uM x1 x2)), (0, .ref (aM 0)), (1, .int x1), (2, .int x2)]) hx hb dX2_stateJustBehind_6 rfl hl (by decide) rfl (fun ls hl => ?_)
  refine lv_aload_n hx hb dX2_stateJustBehind_7 rfl (lv_at hl 1 rfl) ?_
  refine lv_iload_n hx hb dX2_stateJustBehind_8 rfl (lv_at hl 2 rfl) ?_
  refine k_si (k_runV (As := [.int x1]) (rest := []) ⟨hx, hb, hml, hown, hts⟩ (cF_X2_longestOf l D q aM uM x1) (cwV 1 hts gX2_stateJustBehind_X2_longestOf rfl rfl rfl cdX2_longestOf ⟨Nat.le_of_ble_eq_true rfl, Nat.le_of_ble_eq_true rfl⟩) hK hP hD 0 rfl rfl rfl hl.1 rfl (Nat.le_of_ble_eq_true rfl) dX2_stateJustBehind_9 ⟨Nat.le_of_ble_eq_true rfl, Nat.le_of_ble_eq_true rfl⟩) (fun r hr => ?_)
  subst hr
  refine lv_iconst (v := 1) hx hb dX2_stateJustBehind_12 (by decide) ?_
  refine lv_iadd hx hb dX2_stateJustBehind_13 ?_
  refine lv_istore (lv' := [(4, .int ((fX2_longestOf uM x1) + 1)), (3, .int (fX2_moveOf uM x1 x2)), (0, .ref (aM 0)), (1, .int x1), (2, .int x2)]) hx hb dX2_stateJustBehind_14 hl (by decide) rfl (fun ls hl => ?_)
  refine lv_aload_n hx hb dX2_stateJustBehind_16 rfl (lv_at hl 2 rfl) ?_
  refine lv_iload_n hx hb dX2_stateJustBehind_17 rfl (lv_at hl 1 rfl) ?_
  refine k_si (k_runV (As := [.int (fX2_moveOf uM x1 x2)]) (rest := []) ⟨hx, hb, hml, hown, hts⟩ (cF_X2_longestOf l D q aM uM (fX2_moveOf uM x1 x2)) (cwV 1 hts gX2_stateJustBehind_X2_longestOf rfl rfl rfl cdX2_longestOf ⟨Nat.le_of_ble_eq_true rfl, Nat.le_of_ble_eq_true rfl⟩) hK hP hD 0 rfl rfl rfl hl.1 rfl (Nat.le_of_ble_eq_true rfl) dX2_stateJustBehind_18 ⟨Nat.le_of_ble_eq_true rfl, Nat.le_of_ble_eq_true rfl⟩) (fun r hr => ?_)
  subst hr
  refine lv_iload hx hb dX2_stateJustBehind_21 (lv_at hl 0 rfl) ?_
  refine lv_icmp_ne (tgt := 28) hx hb dX2_stateJustBehind_23 (by decide) (fun c1 => ?_) (fun c1 => ?_)
  · have hf := hf.2 (c1)
    refine lv_aload_n hx hb dX2_stateJustBehind_28 rfl (lv_at hl 2 rfl) ?_
    refine lv_iload hx hb dX2_stateJustBehind_29 (lv_at hl 0 rfl) ?_
    refine k_wi (wf := fun u => wM aM q u) (u0 := uM) (k_runV (As := [.int ((fX2_longestOf uM x1) + 1)]) (rest := []) ⟨hx, hb, hml, hown, hts⟩ (c_X2_addState l D q aM uM ((fX2_longestOf uM x1) + 1) _ hf) (cwV 1 hts gX2_stateJustBehind_X2_addState rfl rfl rfl cdX2_addState ⟨Nat.le_of_ble_eq_true rfl, Nat.le_of_ble_eq_true rfl⟩) hK hP hD 0 rfl rfl rfl hl.1 rfl (Nat.le_of_ble_eq_true rfl) dX2_stateJustBehind_31 ⟨Nat.le_of_ble_eq_true rfl, Nat.le_of_ble_eq_true rfl⟩) ([]) ([]) (fun _ => rfl) hP hD hS (fun r3 uM2 H locs hf hP hD hS => ?_)
    have hP : va_P D vwCl (wM aM q uM2) H := hP
    have hD : va_D A (wM aM q uM2) := hD
    refine lv_istore (lv' := [(5, .int r3), (4, .int ((fX2_longestOf uM x1) + 1)), (3, .int (fX2_moveOf uM x1 x2)), (0, .ref (aM 0)), (1, .int x1), (2, .int x2)]) hx hb dX2_stateJustBehind_34 hl (by decide) rfl (fun ls hl => ?_)
    refine lv_aload_n hx hb dX2_stateJustBehind_36 rfl (lv_at hl 3 rfl) ?_
    refine va_get (D := D) (ci := 1) (v := .ref (aM 7)) (C := RX2) (T := TX2) (N := 12) hx hb hts inX2_stateJustBehind_X2 hown hK hP 0 rfl rfl 10 (by decide) (hts (.fieldLink RX2 30 "GrowingText$Machine" "original" "[I") (List.mem_of_getElem? (i := 1) rfl)) (fun _ h9 => h9) rfl dX2_stateJustBehind_37 ?_
    refine lv_iload hx hb dX2_stateJustBehind_40 (lv_at hl 0 rfl) ?_
    refine lv_iload_n hx hb dX2_stateJustBehind_42 rfl (lv_at hl 2 rfl) ?_
    refine k_wp (k := 7) (k_runS (As := [.ref (aM 7), .int r3, .int (fX2_moveOf uM x1 x2)]) (rest := []) ⟨hx, hb, hml, hown, hts⟩ (c_X3_put l D q (aM 7) 121 (gM_original uM2) r3 (fX2_moveOf uM x1 x2) (Nat.le_of_ble_eq_true rfl)) (va_cwS 3 hts gX2_stateJustBehind_X3_put rfl rfl rfl cdX3_put ⟨Nat.le_of_ble_eq_true rfl, Nat.le_of_ble_eq_true rfl⟩) hK (kp_1 hP 7 rfl) (kd_1 hD 7 rfl) rfl hl.1 rfl (Nat.le_of_ble_eq_true rfl) dX2_stateJustBehind_43 ⟨Nat.le_of_ble_eq_true rfl, Nat.le_of_ble_eq_true rfl⟩) rfl rfl hP hD hS (fun H locs _ hP hD hS => ?_)
    have hP : va_P D vwCl (wM aM q (gM_set_original uM2 (kPut 121 (gM_original uM2) r3 (fX2_moveOf uM x1 x2)))) H := hP
    have hD : va_D A (wM aM q (gM_set_original uM2 (kPut 121 (gM_original uM2) r3 (fX2_moveOf uM x1 x2)))) := hD
    refine lv_aload_n hx hb dX2_stateJustBehind_46 rfl (lv_at hl 3 rfl) ?_
    refine va_get (D := D) (ci := 1) (v := .ref (aM 5)) (C := RX2) (T := TX2) (N := 12) hx hb hts inX2_stateJustBehind_X2 hown hK hP 0 rfl rfl 8 (by decide) (hts (.fieldLink RX2 24 "GrowingText$Machine" "link" "[I") (List.mem_of_getElem? (i := 2) rfl)) (fun _ h9 => h9) rfl dX2_stateJustBehind_47 ?_
    refine lv_iload hx hb dX2_stateJustBehind_50 (lv_at hl 0 rfl) ?_
    refine lv_aload_n hx hb dX2_stateJustBehind_52 rfl (lv_at hl 3 rfl) ?_
    refine lv_iload_n hx hb dX2_stateJustBehind_53 rfl (lv_at hl 2 rfl) ?_
    refine k_si (k_runV (As := [.int (fX2_moveOf uM x1 x2)]) (rest := [.int r3, .ref (aM 5)]) ⟨hx, hb, hml, hown, hts⟩ (cF_X2_linkOf l D q aM (gM_set_original uM2 (kPut 121 (gM_original uM2) r3 (fX2_moveOf uM x1 x2))) (fX2_moveOf uM x1 x2)) (cwV 1 hts gX2_stateJustBehind_X2_linkOf rfl rfl rfl cdX2_linkOf ⟨Nat.le_of_ble_eq_true rfl, Nat.le_of_ble_eq_true rfl⟩) hK hP hD 0 rfl rfl rfl hl.1 rfl (Nat.le_of_ble_eq_true rfl) dX2_stateJustBehind_54 ⟨Nat.le_of_ble_eq_true rfl, Nat.le_of_ble_eq_true rfl⟩) (fun r hr => ?_)
    subst hr
    refine k_wp (k := 5) (k_runS (As := [.ref (aM 5), .int r3, .int (fX2_linkOf (gM_set_original uM2 (kPut 121 (gM_original uM2) r3 (fX2_moveOf uM x1 x2))) (fX2_moveOf uM x1 x2))]) (rest := []) ⟨hx, hb, hml, hown, hts⟩ (c_X3_put l D q (aM 5) 121 (gM_link uM2) r3 (fX2_linkOf (gM_set_original uM2 (kPut 121 (gM_original uM2) r3 (fX2_moveOf uM x1 x2))) (fX2_moveOf uM x1 x2)) (Nat.le_of_ble_eq_true rfl)) (va_cwS 3 hts gX2_stateJustBehind_X3_put rfl rfl rfl cdX3_put ⟨Nat.le_of_ble_eq_true rfl, Nat.le_of_ble_eq_true rfl⟩) hK (kp_1 hP 5 rfl) (kd_1 hD 5 rfl) rfl hl.1 rfl (Nat.le_of_ble_eq_true rfl) dX2_stateJustBehind_57 ⟨Nat.le_of_ble_eq_true rfl, Nat.le_of_ble_eq_true rfl⟩) rfl rfl hP hD hS (fun H locs _ hP hD hS => ?_)
    have hP : va_P D vwCl (wM aM q (gM_set_link (gM_set_original uM2 (kPut 121 (gM_original uM2) r3 (fX2_moveOf uM x1 x2))) (kPut 121 (gM_link uM2) r3 (fX2_linkOf (gM_set_original uM2 (kPut 121 (gM_original uM2) r3 (fX2_moveOf uM x1 x2))) (fX2_moveOf uM x1 x2))))) H := hP
    have hD : va_D A (wM aM q (gM_set_link (gM_set_original uM2 (kPut 121 (gM_original uM2) r3 (fX2_moveOf uM x1 x2))) (kPut 121 (gM_link uM2) r3 (fX2_linkOf (gM_set_original uM2 (kPut 121 (gM_original uM2) r3 (fX2_moveOf uM x1 x2))) (fX2_moveOf uM x1 x2))))) := hD
    refine lv_aload_n hx hb dX2_stateJustBehind_60 rfl (lv_at hl 3 rfl) ?_
    refine va_get (D := D) (ci := 1) (v := .ref (aM 8)) (C := RX2) (T := TX2) (N := 12) hx hb hts inX2_stateJustBehind_X2 hown hK hP 0 rfl rfl 11 (by decide) (hts (.fieldLink RX2 33 "GrowingText$Machine" "ends" "[J") (List.mem_of_getElem? (i := 3) rfl)) (fun _ h9 => h9) rfl dX2_stateJustBehind_61 ?_
    refine lv_iload hx hb dX2_stateJustBehind_64 (lv_at hl 0 rfl) ?_
    refine lv_aload_n hx hb dX2_stateJustBehind_66 rfl (lv_at hl 3 rfl) ?_
    refine lv_iload_n hx hb dX2_stateJustBehind_67 rfl (lv_at hl 2 rfl) ?_
    refine k_sl (k_runV (As := [.int (fX2_moveOf uM x1 x2)]) (rest := [.int r3, .ref (aM 8)]) ⟨hx, hb, hml, hown, hts⟩ (cF_X2_endsOf l D q aM (gM_set_link (gM_set_original uM2 (kPut 121 (gM_original uM2) r3 (fX2_moveOf uM x1 x2))) (kPut 121 (gM_link uM2) r3 (fX2_linkOf (gM_set_original uM2 (kPut 121 (gM_original uM2) r3 (fX2_moveOf uM x1 x2))) (fX2_moveOf uM x1 x2)))) (fX2_moveOf uM x1 x2)) (cwV 1 hts gX2_stateJustBehind_X2_endsOf rfl rfl rfl cdX2_endsOf ⟨Nat.le_of_ble_eq_true rfl, Nat.le_of_ble_eq_true rfl⟩) hK hP hD 0 rfl rfl rfl hl.1 rfl (Nat.le_of_ble_eq_true rfl) dX2_stateJustBehind_68 ⟨Nat.le_of_ble_eq_true rfl, Nat.le_of_ble_eq_true rfl⟩) (fun r hr => ?_)
    subst hr
    refine k_wp (k := 8) (k_runS (As := [.ref (aM 8), .int r3, .long (fX2_endsOf (gM_set_link (gM_set_original uM2 (kPut 121 (gM_original uM2) r3 (fX2_moveOf uM x1 x2))) (kPut 121 (gM_link uM2) r3 (fX2_linkOf (gM_set_original uM2 (kPut 121 (gM_original uM2) r3 (fX2_moveOf uM x1 x2))) (fX2_moveOf uM x1 x2)))) (fX2_moveOf uM x1 x2))]) (rest := []) ⟨hx, hb, hml, hown, hts⟩ (c_X3_put_ l D q (aM 8) 121 (gM_ends uM2) r3 (fX2_endsOf (gM_set_link (gM_set_original uM2 (kPut 121 (gM_original uM2) r3 (fX2_moveOf uM x1 x2))) (kPut 121 (gM_link uM2) r3 (fX2_linkOf (gM_set_original uM2 (kPut 121 (gM_original uM2) r3 (fX2_moveOf uM x1 x2))) (fX2_moveOf uM x1 x2)))) (fX2_moveOf uM x1 x2)) (Nat.le_of_ble_eq_true rfl)) (va_cwS 3 hts gX2_stateJustBehind_X3_put_ rfl rfl rfl cdX3_put_ ⟨Nat.le_of_ble_eq_true rfl, Nat.le_of_ble_eq_true rfl⟩) hK (kp_1 hP 8 rfl) (kd_1 hD 8 rfl) rfl hl.1 rfl (Nat.le_of_ble_eq_true rfl) dX2_stateJustBehind_71 ⟨Nat.le_of_ble_eq_true rfl, Nat.le_of_ble_eq_true rfl⟩) rfl rfl hP hD hS (fun H locs _ hP hD hS => ?_)
    have hP : va_P D vwCl (wM aM q (gM_set_ends (gM_set_link (gM_set_original uM2 (kPut 121 (gM_original uM2) r3 (fX2_moveOf uM x1 x2))) (kPut 121 (gM_link uM2) r3 (fX2_linkOf (gM_set_original uM2 (kPut 121 (gM_original uM2) r3 (fX2_moveOf uM x1 x2))) (fX2_moveOf uM x1 x2)))) (kPutL 121 (gM_ends uM2) r3 (fX2_endsOf (gM_set_link (gM_set_original uM2 (kPut 121 (gM_original uM2) r3 (fX2_moveOf uM x1 x2))) (kPut 121 (gM_link uM2) r3 (fX2_linkOf (gM_set_original uM2 (kPut 121 (gM_original uM2) r3 (fX2_moveOf uM x1 x2))) (fX2_moveOf uM x1 x2)))) (fX2_moveOf uM x1 x2))))) H := hP
    have hD : va_D A (wM aM q (gM_set_ends (gM_set_link (gM_set_original uM2 (kPut 121 (gM_original uM2) r3 (fX2_moveOf uM x1 x2))) (kPut 121 (gM_link uM2) r3 (fX2_linkOf (gM_set_original uM2 (kPut 121 (gM_original uM2) r3 (fX2_moveOf uM x1 x2))) (fX2_moveOf uM x1 x2)))) (kPutL 121 (gM_ends uM2) r3 (fX2_endsOf (gM_set_link (gM_set_original uM2 (kPut 121 (gM_original uM2) r3 (fX2_moveOf uM x1 x2))) (kPut 121 (gM_link uM2) r3 (fX2_linkOf (gM_set_original uM2 (kPut 121 (gM_original uM2) r3 (fX2_moveOf uM x1 x2))) (fX2_moveOf uM x1 x2)))) (fX2_moveOf uM x1 x2))))) := hD
    refine lv_iconst (v := 0) hx hb dX2_stateJustBehind_74 (by decide) ?_
    refine lv_istore (lv' := [(6, .int 0), (5, .int r3), (4, .int ((fX2_longestOf uM x1) + 1)), (3, .int (fX2_moveOf uM x1 x2)), (0, .ref (aM 0)), (1, .int x1), (2, .int x2)]) hx hb dX2_stateJustBehind_75 hl (by decide) rfl (fun ls hl => ?_)
    exact hf H locs ls hP hD hS (lv_sub hl [4, 5, 6, 3, 1, 0] rfl)
  · have hf := hf.1 (c1)
    refine lv_iload_n hx hb dX2_stateJustBehind_26 rfl (lv_at hl 1 rfl) ?_
    exact k_iret_w (wf := (fun u => wM aM q u)) (post := Q) (u := uM) (v := (fX2_moveOf uM x1 x2)) hx hb hr hlocks hK hP hD hS hf dX2_stateJustBehind_27
def wpX2_markEnd (uM : MSt) (Q : MSt → Prop) : Prop :=
  ∀ (X15 : Int64 → Int32 → Int32 → MSt → Prop),
  (∀ (y1 : Int64) (y3 : Int32) (y4 : Int32) (tM : MSt),
    (((121 : Int32) ≤ y4 →
      Q tM) ∧
    (¬ ((121 : Int32) ≤ y4) →
      (y3 < 0 →
        Q tM) ∧
      (¬ (y3 < 0) →
        X15 y1 (fX2_linkOf (gM_set_ends tM (kPutL 121 (gM_ends tM) y3 ((fX2_endsOf tM y3) ||| y1))) y3) (y4 + 1) (gM_set_ends tM (kPutL 121 (gM_ends tM) y3 ((fX2_endsOf tM y3) ||| y1)))))) → X15 y1 y3 y4 tM) →
  X15 ((1 : Int64) <<< (((gM_length uM) : Int32).toInt64 &&& 63)) (gM_last uM) 0 uM
def rmX2_markEnd : Room := { frames := 2, cells := 0, slots := 0, locals := 42 }
theorem inX2_markEnd_X2 : ∀ w ∈ wsX20, w ∈ wsX2_markEnd := fun w h => List.mem_cons_of_mem _ (List.mem_append_right _ h)
set_option maxRecDepth 100000 in
set_option maxHeartbeats 4000000 in
theorem c_X2_markEnd (l : Launch) (D : va_G) (q : Nat → ClassId) (aM : Nat → Nat) (uM : MSt) (Q : MSt → Prop) (hf : wpX2_markEnd uM Q) : Met l yX2_markEnd wsX2_markEnd rmX2_markEnd (va_Pc [.ref (aM 0)] (kP D q (wM aM q uM))) (va_Qv Q (fun u t => kP D q (wM aM q u) t) (kIn (wM aM q uM))) 0 0 (kIn (wM aM q uM)) := by
  refine Met.ofW (cc := cX2_markEnd) (maxL := 5) (ret := none) (by decide) rfl ?_
  intro p e s m args below meth c s₁ B hml hv
  obtain ⟨hargs, hP, hK, hD⟩ := hv
  have hx := B.exec
  have hb := B.bytes
  have hr := B.returns
  have hts := atoms_spec (ws := wsX2_markEnd) B.pre
  have hown : s.vm.findClass RX2 = some m.cls := findClass_of_methodNamed B.named
  have hlocks := B.notSynchronized
  have hD := kd_self hD
  generalize kIn (wM aM q uM) = A at hD ⊢
  have hS : va_S A s.heap s.heap [] := va_S.rf
  refine k_entry hargs (Nat.le_of_ble_eq_true rfl) (fun ls hl => ?_)
  have hl : lv_has ls 5 [(0, .ref (aM 0))] := hl
  change W p l e rmX2_markEnd s m args below meth c s.heap [] 0 0 (MQ below (va_Qv Q (fun u t => kP D q (wM aM q u) t) A) args s 0 0 A) _
  unfold wpX2_markEnd at hf
  obtain ⟨H, hH⟩ : ∃ H, H = s.heap := ⟨_, rfl⟩
  obtain ⟨locs, hlocs⟩ : ∃ x : List Loc, x = [] := ⟨_, rfl⟩
  rw [← hH] at hP
  have hS : va_S A s.heap H locs := by rw [hH, hlocs]; exact hS
  rw [show W p l e rmX2_markEnd s m args below meth c s.heap [] 0 0 (MQ below (va_Qv Q (fun u t => kP D q (wM aM q u) t) A) args s 0 0 A) (F0 m 0 ls []) = W p l e rmX2_markEnd s m args below meth c H locs 0 0 (MQ below (va_Qv Q (fun u t => kP D q (wM aM q u) t) A) args s 0 0 A) (F0 m 0 ls []) by rw [hH, hlocs]]
  clear hH hlocs
  have hf := hf
    (fun (y1 : Int64) (y3 : Int32) (y4 : Int32) (tM : MSt) => ∀ (H : Heap) (locs : List Loc) (ls : Array Slot), va_P D vwCl (wM aM q tM) H → va_D A (wM aM q tM) → va_S A s.heap H locs → lv_has ls 5 [(0, .ref (aM 0)), (1, .long y1), (3, .int y3), (4, .int y4)] → W p l e rmX2_markEnd s m args below meth c H locs 0 0 (MQ below (va_Qv Q (fun u t => kP D q (wM aM q u) t) A) args s 0 0 A) (F0 m 15 ls []))
    (by
      intro y1 y3 y4 tM hf H locs ls hP hD hS hl
      refine lv_iload hx hb dX2_markEnd_15 (lv_at hl 3 rfl) ?_
      refine lv_bipush (v := 121) hx hb dX2_markEnd_17 (by decide) ?_
      refine lv_icmp_ge (tgt := 53) hx hb dX2_markEnd_19 (by decide) (fun c1 => ?_) (fun c1 => ?_)
      · have hf := hf.1 (c1)
        exact k_vret_w (wf := (fun u => wM aM q u)) (post := Q) (u := tM) hx hb hr hlocks hK hP hD hS hf dX2_markEnd_53
      · have hf := hf.2 (c1)
        refine lv_iload_n hx hb dX2_markEnd_22 rfl (lv_at hl 2 rfl) ?_
        refine lv_if_lt (tgt := 53) hx hb dX2_markEnd_23 (by decide) (fun c2 => ?_) (fun c2 => ?_)
        · have hf := hf.1 (c2)
          exact k_vret_w (wf := (fun u => wM aM q u)) (post := Q) (u := tM) hx hb hr hlocks hK hP hD hS hf dX2_markEnd_53
        · have hf := hf.2 (c2)
          refine lv_aload_n hx hb dX2_markEnd_26 rfl (lv_at hl 0 rfl) ?_
          refine va_get (D := D) (ci := 1) (v := .ref (aM 8)) (C := RX2) (T := TX2) (N := 12) hx hb hts inX2_markEnd_X2 hown hK hP 0 rfl rfl 11 (by decide) (hts (.fieldLink RX2 33 "GrowingText$Machine" "ends" "[J") (List.mem_of_getElem? (i := 3) rfl)) (fun _ h9 => h9) rfl dX2_markEnd_27 ?_
          refine lv_iload_n hx hb dX2_markEnd_30 rfl (lv_at hl 2 rfl) ?_
          refine lv_aload_n hx hb dX2_markEnd_31 rfl (lv_at hl 0 rfl) ?_
          refine lv_iload_n hx hb dX2_markEnd_32 rfl (lv_at hl 2 rfl) ?_
          refine k_sl (k_runV (As := [.int y3]) (rest := [.int y3, .ref (aM 8)]) ⟨hx, hb, hml, hown, hts⟩ (cF_X2_endsOf l D q aM tM y3) (cwV 1 hts gX2_markEnd_X2_endsOf rfl rfl rfl cdX2_endsOf ⟨Nat.le_of_ble_eq_true rfl, Nat.le_of_ble_eq_true rfl⟩) hK hP hD 0 rfl rfl rfl hl.1 rfl (Nat.le_of_ble_eq_true rfl) dX2_markEnd_33 ⟨Nat.le_of_ble_eq_true rfl, Nat.le_of_ble_eq_true rfl⟩) (fun r hr => ?_)
          subst hr
          refine lv_lload_n hx hb dX2_markEnd_36 rfl (lv_at hl 1 rfl) ?_
          refine lv_lor hx hb dX2_markEnd_37 ?_
          refine k_wp (k := 8) (k_runS (As := [.ref (aM 8), .int y3, .long ((fX2_endsOf tM y3) ||| y1)]) (rest := []) ⟨hx, hb, hml, hown, hts⟩ (c_X3_put_ l D q (aM 8) 121 (gM_ends tM) y3 ((fX2_endsOf tM y3) ||| y1) (Nat.le_of_ble_eq_true rfl)) (va_cwS 3 hts gX2_markEnd_X3_put_ rfl rfl rfl cdX3_put_ ⟨Nat.le_of_ble_eq_true rfl, Nat.le_of_ble_eq_true rfl⟩) hK (kp_1 hP 8 rfl) (kd_1 hD 8 rfl) rfl hl.1 rfl (Nat.le_of_ble_eq_true rfl) dX2_markEnd_38 ⟨Nat.le_of_ble_eq_true rfl, Nat.le_of_ble_eq_true rfl⟩) rfl rfl hP hD hS (fun H locs _ hP hD hS => ?_)
          have hP : va_P D vwCl (wM aM q (gM_set_ends tM (kPutL 121 (gM_ends tM) y3 ((fX2_endsOf tM y3) ||| y1)))) H := hP
          have hD : va_D A (wM aM q (gM_set_ends tM (kPutL 121 (gM_ends tM) y3 ((fX2_endsOf tM y3) ||| y1)))) := hD
          refine lv_aload_n hx hb dX2_markEnd_41 rfl (lv_at hl 0 rfl) ?_
          refine lv_iload_n hx hb dX2_markEnd_42 rfl (lv_at hl 2 rfl) ?_
          refine k_si (k_runV (As := [.int y3]) (rest := []) ⟨hx, hb, hml, hown, hts⟩ (cF_X2_linkOf l D q aM (gM_set_ends tM (kPutL 121 (gM_ends tM) y3 ((fX2_endsOf tM y3) ||| y1))) y3) (cwV 1 hts gX2_markEnd_X2_linkOf rfl rfl rfl cdX2_linkOf ⟨Nat.le_of_ble_eq_true rfl, Nat.le_of_ble_eq_true rfl⟩) hK hP hD 0 rfl rfl rfl hl.1 rfl (Nat.le_of_ble_eq_true rfl) dX2_markEnd_43 ⟨Nat.le_of_ble_eq_true rfl, Nat.le_of_ble_eq_true rfl⟩) (fun r hr => ?_)
          subst hr
          refine lv_istore_n (lv' := [(3, .int (fX2_linkOf (gM_set_ends tM (kPutL 121 (gM_ends tM) y3 ((fX2_endsOf tM y3) ||| y1))) y3)), (0, .ref (aM 0)), (1, .long y1), (4, .int y4)]) hx hb dX2_markEnd_46 rfl hl (by decide) rfl (fun ls hl => ?_)
          refine lv_iinc (v := (y4 + 1)) (lv' := [(4, .int (y4 + 1)), (3, .int (fX2_linkOf (gM_set_ends tM (kPutL 121 (gM_ends tM) y3 ((fX2_endsOf tM y3) ||| y1))) y3)), (0, .ref (aM 0)), (1, .long y1)]) hx hb dX2_markEnd_47 hl (k := 3) rfl rfl (by decide) rfl (fun ls hl => ?_)
          refine lv_goto (tgt := 15) hx hb dX2_markEnd_50 (by decide) ?_
          exact hf H locs ls hP hD hS (lv_sub hl [2, 3, 1, 0] rfl))
  refine lv_lconst (v := 1) hx hb dX2_markEnd_0 (by decide) ?_
  refine lv_aload_n hx hb dX2_markEnd_1 rfl (lv_at hl 0 rfl) ?_
  refine va_get (D := D) (ci := 1) (v := .int (gM_length uM)) (C := RX2) (T := TX2) (N := 12) hx hb hts inX2_markEnd_X2 hown hK hP 0 rfl rfl 1 (by decide) (hts (.fieldLink RX2 45 "GrowingText$Machine" "length" "I") (List.mem_of_getElem? (i := 1) rfl)) (fun _ h9 => h9) rfl dX2_markEnd_2 ?_
  refine lv_lshl (v := ((1 : Int64) <<< (((gM_length uM) : Int32).toInt64 &&& 63))) hx hb dX2_markEnd_5 rfl ?_
  refine lv_lstore_n (lv' := [(1, .long ((1 : Int64) <<< (((gM_length uM) : Int32).toInt64 &&& 63))), (0, .ref (aM 0))]) hx hb dX2_markEnd_6 rfl hl (by decide) rfl (fun ls hl => ?_)
  refine lv_aload_n hx hb dX2_markEnd_7 rfl (lv_at hl 1 rfl) ?_
  refine va_get (D := D) (ci := 1) (v := .int (gM_last uM)) (C := RX2) (T := TX2) (N := 12) hx hb hts inX2_markEnd_X2 hown hK hP 0 rfl rfl 3 (by decide) (hts (.fieldLink RX2 55 "GrowingText$Machine" "last" "I") (List.mem_of_getElem? (i := 2) rfl)) (fun _ h9 => h9) rfl dX2_markEnd_8 ?_
  refine lv_istore_n (lv' := [(3, .int (gM_last uM)), (1, .long ((1 : Int64) <<< (((gM_length uM) : Int32).toInt64 &&& 63))), (0, .ref (aM 0))]) hx hb dX2_markEnd_11 rfl hl (by decide) rfl (fun ls hl => ?_)
  refine lv_iconst (v := 0) hx hb dX2_markEnd_12 (by decide) ?_
  refine lv_istore (lv' := [(4, .int 0), (3, .int (gM_last uM)), (1, .long ((1 : Int64) <<< (((gM_length uM) : Int32).toInt64 &&& 63))), (0, .ref (aM 0))]) hx hb dX2_markEnd_13 hl (by decide) rfl (fun ls hl => ?_)
  exact hf H locs ls hP hD hS (lv_sub hl [3, 2, 1, 0] rfl)
def wpX2_append (uM : MSt) (x1 : Int32) (Q : MSt → Prop) : Prop :=
  ∀ (X82 : Int32 → Int32 → Int32 → MSt → Prop),
  (∀ (y2 : Int32) (z0 : Int32) (z1 : Int32) (tM : MSt),
    wpX2_markEnd (gM_set_last (gM_set_link tM (kPut 121 (gM_link tM) z1 z0)) y2) (fun uM10 =>
      Q (gM_set_again uM10 (kPut 61 (gM_again uM10) (gM_length uM10) (fX2_longestOf uM10 (fX2_linkOf uM10 y2))))) → X82 y2 z0 z1 tM) →
  (((fX2_isLetter uM x1) = 0 →
    Q uM) ∧
  (¬ ((fX2_isLetter uM x1) = 0) →
    ((fX2_hasRoomFor uM 1) = 0 →
      Q uM) ∧
    (¬ ((fX2_hasRoomFor uM 1) = 0) →
      wpX2_addState (gM_set_length (gM_set_letters uM (kPut 60 (gM_letters uM) (gM_length uM) x1)) ((gM_length uM) + 1)) ((gM_length uM) + 1) (fun r4 uM3 =>
        wpX2_redirect uM3 (gM_last uM3) x1 (-4) r4 (fun r6 uM5 =>
          (r6 = (-4) →
            X82 r4 0 r4 uM5) ∧
          (¬ (r6 = (-4)) →
            wpX2_stateJustBehind uM5 r6 x1 (fun r9 uM8 =>
              X82 r4 r9 r4 uM8)))))))
def rmX2_append : Room := { frames := 4, cells := 0, slots := 0, locals := 97 }
theorem inX2_append_X2 : ∀ w ∈ wsX20, w ∈ wsX2_append := fun w h => List.mem_cons_of_mem _ (List.mem_append_right _ h)
set_option maxRecDepth 100000 in
set_option maxHeartbeats 4000000 in
theorem c_X2_append (l : Launch) (D : va_G) (q : Nat → ClassId) (aM : Nat → Nat) (uM : MSt) (x1 : Int32) (Q : MSt → Prop) (hf : wpX2_append uM x1 Q) : Met l yX2_append wsX2_append rmX2_append (va_Pc [.ref (aM 0), .int x1] (kP D q (wM aM q uM))) (va_Qv Q (fun u t => kP D q (wM aM q u) t) (kIn (wM aM q uM))) 0 0 (kIn (wM aM q uM)) := by
  refine Met.ofW (cc := cX2_append) (maxL := 4) (ret := none) (by decide) rfl ?_
  intro p e s m args below meth c s₁ B hml hv
  obtain ⟨hargs, hP, hK, hD⟩ := hv
  have hx := B.exec
  have hb := B.bytes
  have hr := B.returns
  have hts := atoms_spec (ws := wsX2_append) B.pre
  have hown : s.vm.findClass RX2 = some m.cls := findClass_of_methodNamed B.named
  have hlocks := B.notSynchronized
  have hD := kd_self hD
  generalize kIn (wM aM q uM) = A at hD ⊢
  have hS : va_S A s.heap s.heap [] := va_S.rf
  refine k_entry hargs (Nat.le_of_ble_eq_true rfl) (fun ls hl => ?_)
  have hl : lv_has ls 4 [(0, .ref (aM 0)), (1, .int x1)] := hl
  change W p l e rmX2_append s m args below meth c s.heap [] 0 0 (MQ below (va_Qv Q (fun u t => kP D q (wM aM q u) t) A) args s 0 0 A) _
  unfold wpX2_append at hf
  obtain ⟨H, hH⟩ : ∃ H, H = s.heap := ⟨_, rfl⟩
  obtain ⟨locs, hlocs⟩ : ∃ x : List Loc, x = [] := ⟨_, rfl⟩
  rw [← hH] at hP
  have hS : va_S A s.heap H locs := by rw [hH, hlocs]; exact hS
  rw [show W p l e rmX2_append s m args below meth c s.heap [] 0 0 (MQ below (va_Qv Q (fun u t => kP D q (wM aM q u) t) A) args s 0 0 A) (F0 m 0 ls []) = W p l e rmX2_append s m args below meth c H locs 0 0 (MQ below (va_Qv Q (fun u t => kP D q (wM aM q u) t) A) args s 0 0 A) (F0 m 0 ls []) by rw [hH, hlocs]]
  clear hH hlocs
  have hf := hf
    (fun (y2 : Int32) (z0 : Int32) (z1 : Int32) (tM : MSt) => ∀ (H : Heap) (locs : List Loc) (ls : Array Slot), va_P D vwCl (wM aM q tM) H → va_D A (wM aM q tM) → va_S A s.heap H locs → lv_has ls 4 [(0, .ref (aM 0)), (2, .int y2)] → W p l e rmX2_append s m args below meth c H locs 0 0 (MQ below (va_Qv Q (fun u t => kP D q (wM aM q u) t) A) args s 0 0 A) (F0 m 82 ls [.int z0, .int z1, .ref (aM 5)]))
    (by
      intro y2 z0 z1 tM hf H locs ls hP hD hS hl
      refine k_wp (k := 5) (k_runS (As := [.ref (aM 5), .int z1, .int z0]) (rest := []) ⟨hx, hb, hml, hown, hts⟩ (c_X3_put l D q (aM 5) 121 (gM_link tM) z1 z0 (Nat.le_of_ble_eq_true rfl)) (va_cwS 3 hts gX2_append_X3_put rfl rfl rfl cdX3_put ⟨Nat.le_of_ble_eq_true rfl, Nat.le_of_ble_eq_true rfl⟩) hK (kp_1 hP 5 rfl) (kd_1 hD 5 rfl) rfl hl.1 rfl (Nat.le_of_ble_eq_true rfl) dX2_append_82 ⟨Nat.le_of_ble_eq_true rfl, Nat.le_of_ble_eq_true rfl⟩) rfl rfl hP hD hS (fun H locs _ hP hD hS => ?_)
      have hP : va_P D vwCl (wM aM q (gM_set_link tM (kPut 121 (gM_link tM) z1 z0))) H := hP
      have hD : va_D A (wM aM q (gM_set_link tM (kPut 121 (gM_link tM) z1 z0))) := hD
      refine lv_aload_n hx hb dX2_append_85 rfl (lv_at hl 0 rfl) ?_
      refine lv_iload_n hx hb dX2_append_86 rfl (lv_at hl 1 rfl) ?_
      refine va_put (D := D) (ci := 1) (v := .int y2) (ty := .int) (C := RX2) (T := TX2) (N := 12) hx hb hts inX2_append_X2 tyX2 tyX2_ok nmX2 hown hK hP hD hS 0 rfl rfl 3 (by decide) (hts (.fieldLink RX2 55 "GrowingText$Machine" "last" "I") (List.mem_of_getElem? (i := 3) rfl)) (fun _ h9 => h9) rfl (by decide +kernel) rfl rfl (Nat.le_of_ble_eq_true rfl) dX2_append_87 (fun H locs hP hD hS => ?_)
      have hP : va_P D vwCl (wM aM q (gM_set_last (gM_set_link tM (kPut 121 (gM_link tM) z1 z0)) y2)) H := hP
      have hD : va_D A (wM aM q (gM_set_last (gM_set_link tM (kPut 121 (gM_link tM) z1 z0)) y2)) := hD
      refine lv_aload_n hx hb dX2_append_90 rfl (lv_at hl 0 rfl) ?_
      refine k_wv (wf := fun u => wM aM q u) (u0 := (gM_set_last (gM_set_link tM (kPut 121 (gM_link tM) z1 z0)) y2)) (k_runV (As := []) (rest := []) ⟨hx, hb, hml, hown, hts⟩ (c_X2_markEnd l D q aM (gM_set_last (gM_set_link tM (kPut 121 (gM_link tM) z1 z0)) y2) _ hf) (cwV 0 hts gX2_append_X2_markEnd rfl rfl rfl cdX2_markEnd ⟨Nat.le_of_ble_eq_true rfl, Nat.le_of_ble_eq_true rfl⟩) hK hP hD 0 rfl rfl rfl hl.1 rfl (Nat.le_of_ble_eq_true rfl) dX2_append_91 ⟨Nat.le_of_ble_eq_true rfl, Nat.le_of_ble_eq_true rfl⟩) ([]) ([]) (fun _ => rfl) hP hD hS (fun uM10 H locs hf hP hD hS => ?_)
      have hP : va_P D vwCl (wM aM q uM10) H := hP
      have hD : va_D A (wM aM q uM10) := hD
      refine lv_aload_n hx hb dX2_append_94 rfl (lv_at hl 0 rfl) ?_
      refine va_get (D := D) (ci := 1) (v := .ref (aM 2)) (C := RX2) (T := TX2) (N := 12) hx hb hts inX2_append_X2 hown hK hP 0 rfl rfl 5 (by decide) (hts (.fieldLink RX2 15 "GrowingText$Machine" "again" "[I") (List.mem_of_getElem? (i := 5) rfl)) (fun _ h9 => h9) rfl dX2_append_95 ?_
      refine lv_aload_n hx hb dX2_append_98 rfl (lv_at hl 0 rfl) ?_
      refine va_get (D := D) (ci := 1) (v := .int (gM_length uM10)) (C := RX2) (T := TX2) (N := 12) hx hb hts inX2_append_X2 hown hK hP 0 rfl rfl 1 (by decide) (hts (.fieldLink RX2 45 "GrowingText$Machine" "length" "I") (List.mem_of_getElem? (i := 2) rfl)) (fun _ h9 => h9) rfl dX2_append_99 ?_
      refine lv_aload_n hx hb dX2_append_102 rfl (lv_at hl 0 rfl) ?_
      refine lv_aload_n hx hb dX2_append_103 rfl (lv_at hl 0 rfl) ?_
      refine lv_iload_n hx hb dX2_append_104 rfl (lv_at hl 1 rfl) ?_
      refine k_si (k_runV (As := [.int y2]) (rest := [.ref (aM 0), .int (gM_length uM10), .ref (aM 2)]) ⟨hx, hb, hml, hown, hts⟩ (cF_X2_linkOf l D q aM uM10 y2) (cwV 1 hts gX2_append_X2_linkOf rfl rfl rfl cdX2_linkOf ⟨Nat.le_of_ble_eq_true rfl, Nat.le_of_ble_eq_true rfl⟩) hK hP hD 0 rfl rfl rfl hl.1 rfl (Nat.le_of_ble_eq_true rfl) dX2_append_105 ⟨Nat.le_of_ble_eq_true rfl, Nat.le_of_ble_eq_true rfl⟩) (fun r hr => ?_)
      subst hr
      refine k_si (k_runV (As := [.int (fX2_linkOf uM10 y2)]) (rest := [.int (gM_length uM10), .ref (aM 2)]) ⟨hx, hb, hml, hown, hts⟩ (cF_X2_longestOf l D q aM uM10 (fX2_linkOf uM10 y2)) (cwV 1 hts gX2_append_X2_longestOf rfl rfl rfl cdX2_longestOf ⟨Nat.le_of_ble_eq_true rfl, Nat.le_of_ble_eq_true rfl⟩) hK hP hD 0 rfl rfl rfl hl.1 rfl (Nat.le_of_ble_eq_true rfl) dX2_append_108 ⟨Nat.le_of_ble_eq_true rfl, Nat.le_of_ble_eq_true rfl⟩) (fun r hr => ?_)
      subst hr
      refine k_wp (k := 2) (k_runS (As := [.ref (aM 2), .int (gM_length uM10), .int (fX2_longestOf uM10 (fX2_linkOf uM10 y2))]) (rest := []) ⟨hx, hb, hml, hown, hts⟩ (c_X3_put l D q (aM 2) 61 (gM_again uM10) (gM_length uM10) (fX2_longestOf uM10 (fX2_linkOf uM10 y2)) (Nat.le_of_ble_eq_true rfl)) (va_cwS 3 hts gX2_append_X3_put rfl rfl rfl cdX3_put ⟨Nat.le_of_ble_eq_true rfl, Nat.le_of_ble_eq_true rfl⟩) hK (kp_1 hP 2 rfl) (kd_1 hD 2 rfl) rfl hl.1 rfl (Nat.le_of_ble_eq_true rfl) dX2_append_111 ⟨Nat.le_of_ble_eq_true rfl, Nat.le_of_ble_eq_true rfl⟩) rfl rfl hP hD hS (fun H locs _ hP hD hS => ?_)
      have hP : va_P D vwCl (wM aM q (gM_set_again uM10 (kPut 61 (gM_again uM10) (gM_length uM10) (fX2_longestOf uM10 (fX2_linkOf uM10 y2))))) H := hP
      have hD : va_D A (wM aM q (gM_set_again uM10 (kPut 61 (gM_again uM10) (gM_length uM10) (fX2_longestOf uM10 (fX2_linkOf uM10 y2))))) := hD
      exact k_vret_w (wf := (fun u => wM aM q u)) (post := Q) (u := (gM_set_again uM10 (kPut 61 (gM_again uM10) (gM_length uM10) (fX2_longestOf uM10 (fX2_linkOf uM10 y2))))) hx hb hr hlocks hK hP hD hS hf dX2_append_114)
  refine lv_aload_n hx hb dX2_append_0 rfl (lv_at hl 0 rfl) ?_
  refine lv_iload_n hx hb dX2_append_1 rfl (lv_at hl 1 rfl) ?_
  refine k_si (k_runV (As := [.int x1]) (rest := []) ⟨hx, hb, hml, hown, hts⟩ (cF_X2_isLetter l D q aM uM x1) (cwV 1 hts gX2_append_X2_isLetter rfl rfl rfl cdX2_isLetter ⟨Nat.le_of_ble_eq_true rfl, Nat.le_of_ble_eq_true rfl⟩) hK hP hD 0 rfl rfl rfl hl.1 rfl (Nat.le_of_ble_eq_true rfl) dX2_append_2 ⟨Nat.le_of_ble_eq_true rfl, Nat.le_of_ble_eq_true rfl⟩) (fun r hr => ?_)
  subst hr
  refine lv_if_eq (tgt := 16) hx hb dX2_append_5 (by decide) (fun c1 => ?_) (fun c1 => ?_)
  · have hf := hf.1 (c1)
    exact k_vret_w (wf := (fun u => wM aM q u)) (post := Q) (u := uM) hx hb hr hlocks hK hP hD hS hf dX2_append_16
  · have hf := hf.2 (c1)
    refine lv_aload_n hx hb dX2_append_8 rfl (lv_at hl 0 rfl) ?_
    refine lv_iconst (v := 1) hx hb dX2_append_9 (by decide) ?_
    refine k_si (k_runV (As := [.int 1]) (rest := []) ⟨hx, hb, hml, hown, hts⟩ (cF_X2_hasRoomFor l D q aM uM 1) (cwV 1 hts gX2_append_X2_hasRoomFor rfl rfl rfl cdX2_hasRoomFor ⟨Nat.le_of_ble_eq_true rfl, Nat.le_of_ble_eq_true rfl⟩) hK hP hD 0 rfl rfl rfl hl.1 rfl (Nat.le_of_ble_eq_true rfl) dX2_append_10 ⟨Nat.le_of_ble_eq_true rfl, Nat.le_of_ble_eq_true rfl⟩) (fun r hr => ?_)
    subst hr
    refine lv_if_ne (tgt := 17) hx hb dX2_append_13 (by decide) (fun c2 => ?_) (fun c2 => ?_)
    · have hf := hf.2 (c2)
      refine lv_aload_n hx hb dX2_append_17 rfl (lv_at hl 0 rfl) ?_
      refine va_get (D := D) (ci := 1) (v := .ref (aM 1)) (C := RX2) (T := TX2) (N := 12) hx hb hts inX2_append_X2 hown hK hP 0 rfl rfl 4 (by decide) (hts (.fieldLink RX2 9 "GrowingText$Machine" "letters" "[I") (List.mem_of_getElem? (i := 1) rfl)) (fun _ h9 => h9) rfl dX2_append_18 ?_
      refine lv_aload_n hx hb dX2_append_21 rfl (lv_at hl 0 rfl) ?_
      refine va_get (D := D) (ci := 1) (v := .int (gM_length uM)) (C := RX2) (T := TX2) (N := 12) hx hb hts inX2_append_X2 hown hK hP 0 rfl rfl 1 (by decide) (hts (.fieldLink RX2 45 "GrowingText$Machine" "length" "I") (List.mem_of_getElem? (i := 2) rfl)) (fun _ h9 => h9) rfl dX2_append_22 ?_
      refine lv_iload_n hx hb dX2_append_25 rfl (lv_at hl 1 rfl) ?_
      refine k_wp (k := 1) (k_runS (As := [.ref (aM 1), .int (gM_length uM), .int x1]) (rest := []) ⟨hx, hb, hml, hown, hts⟩ (c_X3_put l D q (aM 1) 60 (gM_letters uM) (gM_length uM) x1 (Nat.le_of_ble_eq_true rfl)) (va_cwS 3 hts gX2_append_X3_put rfl rfl rfl cdX3_put ⟨Nat.le_of_ble_eq_true rfl, Nat.le_of_ble_eq_true rfl⟩) hK (kp_1 hP 1 rfl) (kd_1 hD 1 rfl) rfl hl.1 rfl (Nat.le_of_ble_eq_true rfl) dX2_append_26 ⟨Nat.le_of_ble_eq_true rfl, Nat.le_of_ble_eq_true rfl⟩) rfl rfl hP hD hS (fun H locs _ hP hD hS => ?_)
      have hP : va_P D vwCl (wM aM q (gM_set_letters uM (kPut 60 (gM_letters uM) (gM_length uM) x1))) H := hP
      have hD : va_D A (wM aM q (gM_set_letters uM (kPut 60 (gM_letters uM) (gM_length uM) x1))) := hD
      refine lv_aload_n hx hb dX2_append_29 rfl (lv_at hl 0 rfl) ?_
      refine lv_dup hx hb dX2_append_30 rfl ?_
      refine va_get (D := D) (ci := 1) (v := .int (gM_length uM)) (C := RX2) (T := TX2) (N := 12) hx hb hts inX2_append_X2 hown hK hP 0 rfl rfl 1 (by decide) (hts (.fieldLink RX2 45 "GrowingText$Machine" "length" "I") (List.mem_of_getElem? (i := 2) rfl)) (fun _ h9 => h9) rfl dX2_append_31 ?_
      refine lv_iconst (v := 1) hx hb dX2_append_34 (by decide) ?_
      refine lv_iadd hx hb dX2_append_35 ?_
      refine va_put (D := D) (ci := 1) (v := .int ((gM_length uM) + 1)) (ty := .int) (C := RX2) (T := TX2) (N := 12) hx hb hts inX2_append_X2 tyX2 tyX2_ok nmX2 hown hK hP hD hS 0 rfl rfl 1 (by decide) (hts (.fieldLink RX2 45 "GrowingText$Machine" "length" "I") (List.mem_of_getElem? (i := 2) rfl)) (fun _ h9 => h9) rfl (by decide +kernel) rfl rfl (Nat.le_of_ble_eq_true rfl) dX2_append_36 (fun H locs hP hD hS => ?_)
      have hP : va_P D vwCl (wM aM q (gM_set_length (gM_set_letters uM (kPut 60 (gM_letters uM) (gM_length uM) x1)) ((gM_length uM) + 1))) H := hP
      have hD : va_D A (wM aM q (gM_set_length (gM_set_letters uM (kPut 60 (gM_letters uM) (gM_length uM) x1)) ((gM_length uM) + 1))) := hD
      refine lv_aload_n hx hb dX2_append_39 rfl (lv_at hl 0 rfl) ?_
      refine lv_aload_n hx hb dX2_append_40 rfl (lv_at hl 0 rfl) ?_
      refine va_get (D := D) (ci := 1) (v := .int ((gM_length uM) + 1)) (C := RX2) (T := TX2) (N := 12) hx hb hts inX2_append_X2 hown hK hP 0 rfl rfl 1 (by decide) (hts (.fieldLink RX2 45 "GrowingText$Machine" "length" "I") (List.mem_of_getElem? (i := 2) rfl)) (fun _ h9 => h9) rfl dX2_append_41 ?_
      refine k_wi (wf := fun u => wM aM q u) (u0 := (gM_set_length (gM_set_letters uM (kPut 60 (gM_letters uM) (gM_length uM) x1)) ((gM_length uM) + 1))) (k_runV (As := [.int ((gM_length uM) + 1)]) (rest := []) ⟨hx, hb, hml, hown, hts⟩ (c_X2_addState l D q aM (gM_set_length (gM_set_letters uM (kPut 60 (gM_letters uM) (gM_length uM) x1)) ((gM_length uM) + 1)) ((gM_length uM) + 1) _ hf) (cwV 1 hts gX2_append_X2_addState rfl rfl rfl cdX2_addState ⟨Nat.le_of_ble_eq_true rfl, Nat.le_of_ble_eq_true rfl⟩) hK hP hD 0 rfl rfl rfl hl.1 rfl (Nat.le_of_ble_eq_true rfl) dX2_append_44 ⟨Nat.le_of_ble_eq_true rfl, Nat.le_of_ble_eq_true rfl⟩) ([]) ([]) (fun _ => rfl) hP hD hS (fun r4 uM3 H locs hf hP hD hS => ?_)
      have hP : va_P D vwCl (wM aM q uM3) H := hP
      have hD : va_D A (wM aM q uM3) := hD
      refine lv_istore_n (lv' := [(2, .int r4), (0, .ref (aM 0)), (1, .int x1)]) hx hb dX2_append_47 rfl hl (by decide) rfl (fun ls hl => ?_)
      refine lv_aload_n hx hb dX2_append_48 rfl (lv_at hl 1 rfl) ?_
      refine lv_aload_n hx hb dX2_append_49 rfl (lv_at hl 1 rfl) ?_
      refine va_get (D := D) (ci := 1) (v := .int (gM_last uM3)) (C := RX2) (T := TX2) (N := 12) hx hb hts inX2_append_X2 hown hK hP 0 rfl rfl 3 (by decide) (hts (.fieldLink RX2 55 "GrowingText$Machine" "last" "I") (List.mem_of_getElem? (i := 3) rfl)) (fun _ h9 => h9) rfl dX2_append_50 ?_
      refine lv_iload_n hx hb dX2_append_53 rfl (lv_at hl 2 rfl) ?_
      refine lv_bipush (v := (-4)) hx hb dX2_append_54 (by decide) ?_
      refine lv_iload_n hx hb dX2_append_56 rfl (lv_at hl 0 rfl) ?_
      refine k_wi (wf := fun u => wM aM q u) (u0 := uM3) (k_runV (As := [.int (gM_last uM3), .int x1, .int (-4), .int r4]) (rest := []) ⟨hx, hb, hml, hown, hts⟩ (c_X2_redirect l D q aM uM3 (gM_last uM3) x1 (-4) r4 _ hf) (cwV 4 hts gX2_append_X2_redirect rfl rfl rfl cdX2_redirect ⟨Nat.le_of_ble_eq_true rfl, Nat.le_of_ble_eq_true rfl⟩) hK hP hD 0 rfl rfl rfl hl.1 rfl (Nat.le_of_ble_eq_true rfl) dX2_append_57 ⟨Nat.le_of_ble_eq_true rfl, Nat.le_of_ble_eq_true rfl⟩) ([]) ([]) (fun _ => rfl) hP hD hS (fun r6 uM5 H locs hf hP hD hS => ?_)
      have hP : va_P D vwCl (wM aM q uM5) H := hP
      have hD : va_D A (wM aM q uM5) := hD
      refine lv_istore_n (lv' := [(3, .int r6), (2, .int r4), (0, .ref (aM 0)), (1, .int x1)]) hx hb dX2_append_60 rfl hl (by decide) rfl (fun ls hl => ?_)
      refine lv_aload_n hx hb dX2_append_61 rfl (lv_at hl 2 rfl) ?_
      refine va_get (D := D) (ci := 1) (v := .ref (aM 5)) (C := RX2) (T := TX2) (N := 12) hx hb hts inX2_append_X2 hown hK hP 0 rfl rfl 8 (by decide) (hts (.fieldLink RX2 24 "GrowingText$Machine" "link" "[I") (List.mem_of_getElem? (i := 4) rfl)) (fun _ h9 => h9) rfl dX2_append_62 ?_
      refine lv_iload_n hx hb dX2_append_65 rfl (lv_at hl 1 rfl) ?_
      refine lv_iload_n hx hb dX2_append_66 rfl (lv_at hl 0 rfl) ?_
      refine lv_bipush (v := (-4)) hx hb dX2_append_67 (by decide) ?_
      refine lv_icmp_ne (tgt := 76) hx hb dX2_append_69 (by decide) (fun c7 => ?_) (fun c7 => ?_)
      · have hf := hf.2 (c7)
        refine lv_aload_n hx hb dX2_append_76 rfl (lv_at hl 2 rfl) ?_
        refine lv_iload_n hx hb dX2_append_77 rfl (lv_at hl 0 rfl) ?_
        refine lv_iload_n hx hb dX2_append_78 rfl (lv_at hl 3 rfl) ?_
        refine k_wi (wf := fun u => wM aM q u) (u0 := uM5) (k_runV (As := [.int r6, .int x1]) (rest := [.int r4, .ref (aM 5)]) ⟨hx, hb, hml, hown, hts⟩ (c_X2_stateJustBehind l D q aM uM5 r6 x1 _ hf) (cwV 2 hts gX2_append_X2_stateJustBehind rfl rfl rfl cdX2_stateJustBehind ⟨Nat.le_of_ble_eq_true rfl, Nat.le_of_ble_eq_true rfl⟩) hK hP hD 0 rfl rfl rfl hl.1 rfl (Nat.le_of_ble_eq_true rfl) dX2_append_79 ⟨Nat.le_of_ble_eq_true rfl, Nat.le_of_ble_eq_true rfl⟩) ([]) ([]) (fun _ => rfl) hP hD hS (fun r9 uM8 H locs hf hP hD hS => ?_)
        have hP : va_P D vwCl (wM aM q uM8) H := hP
        have hD : va_D A (wM aM q uM8) := hD
        exact hf H locs ls hP hD hS (lv_sub hl [2, 1] rfl)
      · have hf := hf.1 (c7)
        refine lv_iconst (v := 0) hx hb dX2_append_72 (by decide) ?_
        refine lv_goto (tgt := 82) hx hb dX2_append_73 (by decide) ?_
        exact hf H locs ls hP hD hS (lv_sub hl [2, 1] rfl)
    · have hf := hf.1 (c2)
      exact k_vret_w (wf := (fun u => wM aM q u)) (post := Q) (u := uM) hx hb hr hlocks hK hP hD hS hf dX2_append_16
def wpX2_shortenTo (uM : MSt) (x1 : Int32) (Q : MSt → Prop) : Prop :=
  ∀ (X10 : Int32 → MSt → Prop),
  (∀ (y2 : Int32) (tM : MSt),
    ((x1 ≤ y2 →
      Q tM) ∧
    (¬ (x1 ≤ y2) →
      wpX2_append tM (fX2_letterAt tM y2) (fun uM3 =>
        X10 (y2 + 1) uM3))) → X10 y2 tM) →
  wpX2_startOver uM (gM_alphabet uM) (fun uM1 =>
    X10 0 uM1)
def rmX2_shortenTo : Room := { frames := 5, cells := 0, slots := 0, locals := 120 }
theorem inX2_shortenTo_X2 : ∀ w ∈ wsX20, w ∈ wsX2_shortenTo := fun w h => List.mem_cons_of_mem _ (List.mem_append_right _ h)
set_option maxRecDepth 100000 in
set_option maxHeartbeats 4000000 in
theorem c_X2_shortenTo (l : Launch) (D : va_G) (q : Nat → ClassId) (aM : Nat → Nat) (uM : MSt) (x1 : Int32) (Q : MSt → Prop) (hf : wpX2_shortenTo uM x1 Q) : Met l yX2_shortenTo wsX2_shortenTo rmX2_shortenTo (va_Pc [.ref (aM 0), .int x1] (kP D q (wM aM q uM))) (va_Qv Q (fun u t => kP D q (wM aM q u) t) (kIn (wM aM q uM))) 0 0 (kIn (wM aM q uM)) := by
  refine Met.ofW (cc := cX2_shortenTo) (maxL := 3) (ret := none) (by decide) rfl ?_
  intro p e s m args below meth c s₁ B hml hv
  obtain ⟨hargs, hP, hK, hD⟩ := hv
  have hx := B.exec
  have hb := B.bytes
  have hr := B.returns
  have hts := atoms_spec (ws := wsX2_shortenTo) B.pre
  have hown : s.vm.findClass RX2 = some m.cls := findClass_of_methodNamed B.named
  have hlocks := B.notSynchronized
  have hD := kd_self hD
  generalize kIn (wM aM q uM) = A at hD ⊢
  have hS : va_S A s.heap s.heap [] := va_S.rf
  refine k_entry hargs (Nat.le_of_ble_eq_true rfl) (fun ls hl => ?_)
  have hl : lv_has ls 3 [(0, .ref (aM 0)), (1, .int x1)] := hl
  change W p l e rmX2_shortenTo s m args below meth c s.heap [] 0 0 (MQ below (va_Qv Q (fun u t => kP D q (wM aM q u) t) A) args s 0 0 A) _
  unfold wpX2_shortenTo at hf
  obtain ⟨H, hH⟩ : ∃ H, H = s.heap := ⟨_, rfl⟩
  obtain ⟨locs, hlocs⟩ : ∃ x : List Loc, x = [] := ⟨_, rfl⟩
  rw [← hH] at hP
  have hS : va_S A s.heap H locs := by rw [hH, hlocs]; exact hS
  rw [show W p l e rmX2_shortenTo s m args below meth c s.heap [] 0 0 (MQ below (va_Qv Q (fun u t => kP D q (wM aM q u) t) A) args s 0 0 A) (F0 m 0 ls []) = W p l e rmX2_shortenTo s m args below meth c H locs 0 0 (MQ below (va_Qv Q (fun u t => kP D q (wM aM q u) t) A) args s 0 0 A) (F0 m 0 ls []) by rw [hH, hlocs]]
  clear hH hlocs
  have hf := hf
    (fun (y2 : Int32) (tM : MSt) => ∀ (H : Heap) (locs : List Loc) (ls : Array Slot), va_P D vwCl (wM aM q tM) H → va_D A (wM aM q tM) → va_S A s.heap H locs → lv_has ls 3 [(0, .ref (aM 0)), (1, .int x1), (2, .int y2)] → W p l e rmX2_shortenTo s m args below meth c H locs 0 0 (MQ below (va_Qv Q (fun u t => kP D q (wM aM q u) t) A) args s 0 0 A) (F0 m 10 ls []))
    (by
      intro y2 tM hf H locs ls hP hD hS hl
      refine lv_iload_n hx hb dX2_shortenTo_10 rfl (lv_at hl 2 rfl) ?_
      refine lv_iload_n hx hb dX2_shortenTo_11 rfl (lv_at hl 1 rfl) ?_
      refine lv_icmp_ge (tgt := 30) hx hb dX2_shortenTo_12 (by decide) (fun c2 => ?_) (fun c2 => ?_)
      · have hf := hf.1 (c2)
        exact k_vret_w (wf := (fun u => wM aM q u)) (post := Q) (u := tM) hx hb hr hlocks hK hP hD hS hf dX2_shortenTo_30
      · have hf := hf.2 (c2)
        refine lv_aload_n hx hb dX2_shortenTo_15 rfl (lv_at hl 0 rfl) ?_
        refine lv_aload_n hx hb dX2_shortenTo_16 rfl (lv_at hl 0 rfl) ?_
        refine lv_iload_n hx hb dX2_shortenTo_17 rfl (lv_at hl 2 rfl) ?_
        refine k_si (k_runV (As := [.int y2]) (rest := [.ref (aM 0)]) ⟨hx, hb, hml, hown, hts⟩ (cF_X2_letterAt l D q aM tM y2) (cwV 1 hts gX2_shortenTo_X2_letterAt rfl rfl rfl cdX2_letterAt ⟨Nat.le_of_ble_eq_true rfl, Nat.le_of_ble_eq_true rfl⟩) hK hP hD 0 rfl rfl rfl hl.1 rfl (Nat.le_of_ble_eq_true rfl) dX2_shortenTo_18 ⟨Nat.le_of_ble_eq_true rfl, Nat.le_of_ble_eq_true rfl⟩) (fun r hr => ?_)
        subst hr
        refine k_wv (wf := fun u => wM aM q u) (u0 := tM) (k_runV (As := [.int (fX2_letterAt tM y2)]) (rest := []) ⟨hx, hb, hml, hown, hts⟩ (c_X2_append l D q aM tM (fX2_letterAt tM y2) _ hf) (cwV 1 hts gX2_shortenTo_X2_append rfl rfl rfl cdX2_append ⟨Nat.le_of_ble_eq_true rfl, Nat.le_of_ble_eq_true rfl⟩) hK hP hD 0 rfl rfl rfl hl.1 rfl (Nat.le_of_ble_eq_true rfl) dX2_shortenTo_21 ⟨Nat.le_of_ble_eq_true rfl, Nat.le_of_ble_eq_true rfl⟩) ([]) ([]) (fun _ => rfl) hP hD hS (fun uM3 H locs hf hP hD hS => ?_)
        have hP : va_P D vwCl (wM aM q uM3) H := hP
        have hD : va_D A (wM aM q uM3) := hD
        refine lv_iinc (v := (y2 + 1)) (lv' := [(2, .int (y2 + 1)), (0, .ref (aM 0)), (1, .int x1)]) hx hb dX2_shortenTo_24 hl (k := 2) rfl rfl (by decide) rfl (fun ls hl => ?_)
        refine lv_goto (tgt := 10) hx hb dX2_shortenTo_27 (by decide) ?_
        exact hf H locs ls hP hD hS (lv_sub hl [1, 2, 0] rfl))
  refine lv_aload_n hx hb dX2_shortenTo_0 rfl (lv_at hl 0 rfl) ?_
  refine lv_aload_n hx hb dX2_shortenTo_1 rfl (lv_at hl 0 rfl) ?_
  refine va_get (D := D) (ci := 1) (v := .int (gM_alphabet uM)) (C := RX2) (T := TX2) (N := 12) hx hb hts inX2_shortenTo_X2 hown hK hP 0 rfl rfl 0 (by decide) (hts (.fieldLink RX2 41 "GrowingText$Machine" "alphabet" "I") (List.mem_of_getElem? (i := 1) rfl)) (fun _ h9 => h9) rfl dX2_shortenTo_2 ?_
  refine k_wv (wf := fun u => wM aM q u) (u0 := uM) (k_runV (As := [.int (gM_alphabet uM)]) (rest := []) ⟨hx, hb, hml, hown, hts⟩ (c_X2_startOver l D q aM uM (gM_alphabet uM) _ hf) (cwV 1 hts gX2_shortenTo_X2_startOver rfl rfl rfl cdX2_startOver ⟨Nat.le_of_ble_eq_true rfl, Nat.le_of_ble_eq_true rfl⟩) hK hP hD 0 rfl rfl rfl hl.1 rfl (Nat.le_of_ble_eq_true rfl) dX2_shortenTo_5 ⟨Nat.le_of_ble_eq_true rfl, Nat.le_of_ble_eq_true rfl⟩) ([]) ([]) (fun _ => rfl) hP hD hS (fun uM1 H locs hf hP hD hS => ?_)
  have hP : va_P D vwCl (wM aM q uM1) H := hP
  have hD : va_D A (wM aM q uM1) := hD
  refine lv_iconst (v := 0) hx hb dX2_shortenTo_8 (by decide) ?_
  refine lv_istore_n (lv' := [(2, .int 0), (0, .ref (aM 0)), (1, .int x1)]) hx hb dX2_shortenTo_9 rfl hl (by decide) rfl (fun ls hl => ?_)
  exact hf H locs ls hP hD hS (lv_sub hl [1, 2, 0] rfl)
def wpX2_takesAllOf (uM : MSt) (uS : SSt) (Q : Int32 → Prop) : Prop :=
  ∀ (X2 : Int32 → Prop),
  (∀ (y2 : Int32),
    (((gS_length uS) ≤ y2 →
      Q 1) ∧
    (¬ ((gS_length uS) ≤ y2) →
      ((fX2_isLetter uM (fX4_letterAt uS y2)) = 0 →
        Q 0) ∧
      (¬ ((fX2_isLetter uM (fX4_letterAt uS y2)) = 0) →
        X2 (y2 + 1)))) → X2 y2) →
  X2 0
def rmX2_takesAllOf : Room := { frames := 3, cells := 0, slots := 0, locals := 63 }
theorem inX2_takesAllOf_X4 : ∀ w ∈ wsX40, w ∈ wsX2_takesAllOf := fun w h => List.mem_cons_of_mem _ (List.mem_append_left _ (List.mem_append_right _ h))
set_option maxRecDepth 100000 in
set_option maxHeartbeats 4000000 in
theorem c_X2_takesAllOf (l : Launch) (D : va_G) (q : Nat → ClassId) (aM : Nat → Nat) (aS : Nat → Nat) (uM : MSt) (uS : SSt) (Q : Int32 → Prop) (hf : wpX2_takesAllOf uM uS Q) : Met l yX2_takesAllOf wsX2_takesAllOf rmX2_takesAllOf (va_Pc [.ref (aM 0), .ref (aS 0)] (kP D q (wM aM q uM ++ wS aS q uS))) (vp_Si Q) 0 0 (fun _ => False) := by
  refine Met.ofW (cc := cX2_takesAllOf) (maxL := 3) (ret := (some .boolean)) (by decide) rfl ?_
  intro p e s m args below meth c s₁ B hml hv
  obtain ⟨hargs, hP, hK, hD⟩ := hv
  have hx := B.exec
  have hb := B.bytes
  have hr := B.returns
  have hts := atoms_spec (ws := wsX2_takesAllOf) B.pre
  have hown : s.vm.findClass RX2 = some m.cls := findClass_of_methodNamed B.named
  have hlocks := B.notSynchronized
  refine k_entry hargs (Nat.le_of_ble_eq_true rfl) (fun ls hl => ?_)
  have hl : lv_has ls 3 [(0, .ref (aM 0)), (1, .ref (aS 0))] := hl
  change W p l e rmX2_takesAllOf s m args below meth c s.heap [] 0 0 (MQ below (vp_Si Q) args s 0 0 (fun _ => False)) _
  unfold wpX2_takesAllOf at hf
  have hf := hf
    (fun (y2 : Int32) => ∀ (ls : Array Slot), lv_has ls 3 [(0, .ref (aM 0)), (1, .ref (aS 0)), (2, .int y2)] → W p l e rmX2_takesAllOf s m args below meth c s.heap [] 0 0 (MQ below (vp_Si Q) args s 0 0 (fun _ => False)) (F0 m 2 ls []))
    (by
      intro y2 hf ls hl
      refine lv_iload_n hx hb dX2_takesAllOf_2 rfl (lv_at hl 2 rfl) ?_
      refine lv_aload_n hx hb dX2_takesAllOf_3 rfl (lv_at hl 1 rfl) ?_
      refine va_get (D := D) (ci := 2) (v := .int (gS_length uS)) (C := RX4) (T := TX4) (N := 3) hx hb hts inX2_takesAllOf_X4 hown hK hP 9 rfl rfl 2 (by decide) (hts (.fieldLink RX2 108 "GrowingText$Sheet" "length" "I") (List.mem_of_getElem? (i := 1) rfl)) (fun _ h9 => h9) rfl dX2_takesAllOf_4 ?_
      refine lv_icmp_ge (tgt := 30) hx hb dX2_takesAllOf_7 (by decide) (fun c1 => ?_) (fun c1 => ?_)
      · have hf := hf.1 (c1)
        refine lv_iconst (v := 1) hx hb dX2_takesAllOf_30 (by decide) ?_
        exact k_zret_r (v := 1) hx hb hr rfl hlocks hf dX2_takesAllOf_31
      · have hf := hf.2 (c1)
        refine lv_aload_n hx hb dX2_takesAllOf_10 rfl (lv_at hl 0 rfl) ?_
        refine lv_aload_n hx hb dX2_takesAllOf_11 rfl (lv_at hl 1 rfl) ?_
        refine lv_iload_n hx hb dX2_takesAllOf_12 rfl (lv_at hl 2 rfl) ?_
        refine k_si (k_runV (As := [.int y2]) (rest := [.ref (aM 0)]) ⟨hx, hb, hml, hown, hts⟩ (cF_X4_letterAt l D q aS uS y2) (cwV 1 hts gX2_takesAllOf_X4_letterAt rfl rfl rfl cdX4_letterAt ⟨Nat.le_of_ble_eq_true rfl, Nat.le_of_ble_eq_true rfl⟩) hK (kp_r hP) (kd_r hD) 0 rfl rfl rfl hl.1 rfl (Nat.le_of_ble_eq_true rfl) dX2_takesAllOf_13 ⟨Nat.le_of_ble_eq_true rfl, Nat.le_of_ble_eq_true rfl⟩) (fun r hr => ?_)
        subst hr
        refine k_si (k_runV (As := [.int (fX4_letterAt uS y2)]) (rest := []) ⟨hx, hb, hml, hown, hts⟩ (cF_X2_isLetter l D q aM uM (fX4_letterAt uS y2)) (cwV 1 hts gX2_takesAllOf_X2_isLetter rfl rfl rfl cdX2_isLetter ⟨Nat.le_of_ble_eq_true rfl, Nat.le_of_ble_eq_true rfl⟩) hK (kp_l (a := wM aM q uM) (b := wS aS q uS) hP) (kd_l (a := wM aM q uM) (b := wS aS q uS) hD) 0 rfl rfl rfl hl.1 rfl (Nat.le_of_ble_eq_true rfl) dX2_takesAllOf_16 ⟨Nat.le_of_ble_eq_true rfl, Nat.le_of_ble_eq_true rfl⟩) (fun r hr => ?_)
        subst hr
        refine lv_if_ne (tgt := 24) hx hb dX2_takesAllOf_19 (by decide) (fun c2 => ?_) (fun c2 => ?_)
        · have hf := hf.2 (c2)
          refine lv_iinc (v := (y2 + 1)) (lv' := [(2, .int (y2 + 1)), (0, .ref (aM 0)), (1, .ref (aS 0))]) hx hb dX2_takesAllOf_24 hl (k := 2) rfl rfl (by decide) rfl (fun ls hl => ?_)
          refine lv_goto (tgt := 2) hx hb dX2_takesAllOf_27 (by decide) ?_
          exact hf ls (lv_sub hl [1, 2, 0] rfl)
        · have hf := hf.1 (c2)
          refine lv_iconst (v := 0) hx hb dX2_takesAllOf_22 (by decide) ?_
          exact k_zret_r (v := 0) hx hb hr rfl hlocks hf dX2_takesAllOf_23)
  refine lv_iconst (v := 0) hx hb dX2_takesAllOf_0 (by decide) ?_
  refine lv_istore_n (lv' := [(2, .int 0), (0, .ref (aM 0)), (1, .ref (aS 0))]) hx hb dX2_takesAllOf_1 rfl hl (by decide) rfl (fun ls hl => ?_)
  exact hf ls (lv_sub hl [1, 2, 0] rfl)
def wpX2_letterLeftOver (uM : MSt) (x1 : Int64) (Q : Int32 → Prop) : Prop :=
  (((gM_alphabet uM) ≤ 0 →
    Q 0) ∧
  (¬ ((gM_alphabet uM) ≤ 0) →
    ¬ ((gM_alphabet uM).toInt64) = 0 ∧
    Q ((x1 - x1 / ((gM_alphabet uM).toInt64) * ((gM_alphabet uM).toInt64)).toInt32)))
def rmX2_letterLeftOver : Room := { frames := 0, cells := 0, slots := 0, locals := 0 }
theorem inX2_letterLeftOver_X2 : ∀ w ∈ wsX20, w ∈ wsX2_letterLeftOver := fun w h => List.mem_cons_of_mem _ (List.mem_append_right _ h)
set_option maxRecDepth 100000 in
set_option maxHeartbeats 4000000 in
theorem c_X2_letterLeftOver (l : Launch) (D : va_G) (q : Nat → ClassId) (aM : Nat → Nat) (uM : MSt) (x1 : Int64) (Q : Int32 → Prop) (hf : wpX2_letterLeftOver uM x1 Q) : Met l yX2_letterLeftOver wsX2_letterLeftOver rmX2_letterLeftOver (va_Pc [.ref (aM 0), .long x1] (kP D q (wM aM q uM))) (vp_Si Q) 0 0 (fun _ => False) := by
  refine Met.ofW (cc := cX2_letterLeftOver) (maxL := 3) (ret := (some .int)) (by decide) rfl ?_
  intro p e s m args below meth c s₁ B hml hv
  obtain ⟨hargs, hP, hK, hD⟩ := hv
  have hx := B.exec
  have hb := B.bytes
  have hr := B.returns
  have hts := atoms_spec (ws := wsX2_letterLeftOver) B.pre
  have hown : s.vm.findClass RX2 = some m.cls := findClass_of_methodNamed B.named
  have hlocks := B.notSynchronized
  refine k_entry hargs (Nat.le_of_ble_eq_true rfl) (fun ls hl => ?_)
  have hl : lv_has ls 3 [(0, .ref (aM 0)), (1, .long x1)] := hl
  change W p l e rmX2_letterLeftOver s m args below meth c s.heap [] 0 0 (MQ below (vp_Si Q) args s 0 0 (fun _ => False)) _
  unfold wpX2_letterLeftOver at hf
  refine lv_aload_n hx hb dX2_letterLeftOver_0 rfl (lv_at hl 0 rfl) ?_
  refine va_get (D := D) (ci := 1) (v := .int (gM_alphabet uM)) (C := RX2) (T := TX2) (N := 12) hx hb hts inX2_letterLeftOver_X2 hown hK hP 0 rfl rfl 0 (by decide) (hts (.fieldLink RX2 41 "GrowingText$Machine" "alphabet" "I") (List.mem_of_getElem? (i := 1) rfl)) (fun _ h9 => h9) rfl dX2_letterLeftOver_1 ?_
  refine lv_if_le (tgt := 18) hx hb dX2_letterLeftOver_4 (by decide) (fun c1 => ?_) (fun c1 => ?_)
  · have hf := hf.1 (c1)
    refine lv_iconst (v := 0) hx hb dX2_letterLeftOver_18 (by decide) ?_
    exact k_iret_r (v := 0) hx hb hr hlocks hf dX2_letterLeftOver_19
  · have hf := hf.2 (c1)
    refine lv_lload_n hx hb dX2_letterLeftOver_7 rfl (lv_at hl 1 rfl) ?_
    refine lv_aload_n hx hb dX2_letterLeftOver_8 rfl (lv_at hl 0 rfl) ?_
    refine va_get (D := D) (ci := 1) (v := .int (gM_alphabet uM)) (C := RX2) (T := TX2) (N := 12) hx hb hts inX2_letterLeftOver_X2 hown hK hP 0 rfl rfl 0 (by decide) (hts (.fieldLink RX2 41 "GrowingText$Machine" "alphabet" "I") (List.mem_of_getElem? (i := 1) rfl)) (fun _ h9 => h9) rfl dX2_letterLeftOver_9 ?_
    refine lv_i2l (v := (gM_alphabet uM).toInt64) hx hb dX2_letterLeftOver_12 rfl ?_
    refine lv_lrem hx hb dX2_letterLeftOver_13 hf.1 ?_
    have hf := hf.2
    refine lv_l2i (v := (x1 - x1 / ((gM_alphabet uM).toInt64) * ((gM_alphabet uM).toInt64)).toInt32) hx hb dX2_letterLeftOver_14 rfl ?_
    refine lv_goto (tgt := 19) hx hb dX2_letterLeftOver_15 (by decide) ?_
    exact k_iret_r (v := ((x1 - x1 / ((gM_alphabet uM).toInt64) * ((gM_alphabet uM).toInt64)).toInt32)) hx hb hr hlocks hf dX2_letterLeftOver_19
def wpX2_againAt (uM : MSt) (x1 : Int32) (Q : Int32 → Prop) : Prop :=
  Q (kAt 61 (gM_again uM) x1)
def rmX2_againAt : Room := { frames := 1, cells := 0, slots := 0, locals := 21 }
theorem inX2_againAt_X2 : ∀ w ∈ wsX20, w ∈ wsX2_againAt := fun w h => List.mem_cons_of_mem _ (List.mem_append_right _ h)
set_option maxRecDepth 100000 in
set_option maxHeartbeats 4000000 in
theorem c_X2_againAt (l : Launch) (D : va_G) (q : Nat → ClassId) (aM : Nat → Nat) (uM : MSt) (x1 : Int32) (Q : Int32 → Prop) (hf : wpX2_againAt uM x1 Q) : Met l yX2_againAt wsX2_againAt rmX2_againAt (va_Pc [.ref (aM 0), .int x1] (kP D q (wM aM q uM))) (vp_Si Q) 0 0 (fun _ => False) := by
  refine Met.ofW (cc := cX2_againAt) (maxL := 2) (ret := (some .int)) (by decide) rfl ?_
  intro p e s m args below meth c s₁ B hml hv
  obtain ⟨hargs, hP, hK, hD⟩ := hv
  have hx := B.exec
  have hb := B.bytes
  have hr := B.returns
  have hts := atoms_spec (ws := wsX2_againAt) B.pre
  have hown : s.vm.findClass RX2 = some m.cls := findClass_of_methodNamed B.named
  have hlocks := B.notSynchronized
  refine k_entry hargs (Nat.le_of_ble_eq_true rfl) (fun ls hl => ?_)
  have hl : lv_has ls 2 [(0, .ref (aM 0)), (1, .int x1)] := hl
  change W p l e rmX2_againAt s m args below meth c s.heap [] 0 0 (MQ below (vp_Si Q) args s 0 0 (fun _ => False)) _
  unfold wpX2_againAt at hf
  refine lv_aload_n hx hb dX2_againAt_0 rfl (lv_at hl 0 rfl) ?_
  refine va_get (D := D) (ci := 1) (v := .ref (aM 2)) (C := RX2) (T := TX2) (N := 12) hx hb hts inX2_againAt_X2 hown hK hP 0 rfl rfl 5 (by decide) (hts (.fieldLink RX2 15 "GrowingText$Machine" "again" "[I") (List.mem_of_getElem? (i := 1) rfl)) (fun _ h9 => h9) rfl dX2_againAt_1 ?_
  refine lv_iload_n hx hb dX2_againAt_4 rfl (lv_at hl 1 rfl) ?_
  refine k_si (k_runS (As := [.ref (aM 2), .int x1]) (rest := []) ⟨hx, hb, hml, hown, hts⟩ (c_X3_at l D q (aM 2) 61 (gM_again uM) x1 (Nat.le_of_ble_eq_true rfl)) (va_cwS 2 hts gX2_againAt_X3_at rfl rfl rfl cdX3_at ⟨Nat.le_of_ble_eq_true rfl, Nat.le_of_ble_eq_true rfl⟩) hK (kp_1 hP 2 rfl) (kd_1 hD 2 rfl) rfl hl.1 rfl (Nat.le_of_ble_eq_true rfl) dX2_againAt_5 ⟨Nat.le_of_ble_eq_true rfl, Nat.le_of_ble_eq_true rfl⟩) (fun r hr => ?_)
  subst hr
  exact k_iret_r (v := (kAt 61 (gM_again uM) x1)) hx hb hr hlocks hf dX2_againAt_8
def fX2_againAt (uM : MSt) (x1 : Int32) : Int32 := (kAt 61 (gM_again uM) x1)
theorem pF_X2_againAt (uM : MSt) (x1 : Int32) (Q : Int32 → Prop) (hq : Q (fX2_againAt uM x1)) : wpX2_againAt uM x1 Q := by
  unfold fX2_againAt at hq; unfold wpX2_againAt; exact hq
theorem cF_X2_againAt (l : Launch) (D : va_G) (q : Nat → ClassId) (aM : Nat → Nat) (uM : MSt) (x1 : Int32) : Met l yX2_againAt wsX2_againAt rmX2_againAt (va_Pc [.ref (aM 0), .int x1] (kP D q (wM aM q uM))) (vp_Si (fun r => r = fX2_againAt uM x1)) 0 0 (fun _ => False) := c_X2_againAt l D q aM uM x1 _ (pF_X2_againAt uM x1 _ rfl)
def wpX2_lastState (uM : MSt) (Q : Int32 → Prop) : Prop :=
  Q (gM_last uM)
def rmX2_lastState : Room := { frames := 0, cells := 0, slots := 0, locals := 0 }
theorem inX2_lastState_X2 : ∀ w ∈ wsX20, w ∈ wsX2_lastState := fun w h => List.mem_cons_of_mem _ (List.mem_append_right _ h)
set_option maxRecDepth 100000 in
set_option maxHeartbeats 4000000 in
theorem c_X2_lastState (l : Launch) (D : va_G) (q : Nat → ClassId) (aM : Nat → Nat) (uM : MSt) (Q : Int32 → Prop) (hf : wpX2_lastState uM Q) : Met l yX2_lastState wsX2_lastState rmX2_lastState (va_Pc [.ref (aM 0)] (kP D q (wM aM q uM))) (vp_Si Q) 0 0 (fun _ => False) := by
  refine Met.ofW (cc := cX2_lastState) (maxL := 1) (ret := (some .int)) (by decide) rfl ?_
  intro p e s m args below meth c s₁ B hml hv
  obtain ⟨hargs, hP, hK, hD⟩ := hv
  have hx := B.exec
  have hb := B.bytes
  have hr := B.returns
  have hts := atoms_spec (ws := wsX2_lastState) B.pre
  have hown : s.vm.findClass RX2 = some m.cls := findClass_of_methodNamed B.named
  have hlocks := B.notSynchronized
  refine k_entry hargs (Nat.le_of_ble_eq_true rfl) (fun ls hl => ?_)
  have hl : lv_has ls 1 [(0, .ref (aM 0))] := hl
  change W p l e rmX2_lastState s m args below meth c s.heap [] 0 0 (MQ below (vp_Si Q) args s 0 0 (fun _ => False)) _
  unfold wpX2_lastState at hf
  refine lv_aload_n hx hb dX2_lastState_0 rfl (lv_at hl 0 rfl) ?_
  refine va_get (D := D) (ci := 1) (v := .int (gM_last uM)) (C := RX2) (T := TX2) (N := 12) hx hb hts inX2_lastState_X2 hown hK hP 0 rfl rfl 3 (by decide) (hts (.fieldLink RX2 55 "GrowingText$Machine" "last" "I") (List.mem_of_getElem? (i := 1) rfl)) (fun _ h9 => h9) rfl dX2_lastState_1 ?_
  exact k_iret_r (v := (gM_last uM)) hx hb hr hlocks hf dX2_lastState_4
def fX2_lastState (uM : MSt) : Int32 := (gM_last uM)
theorem pF_X2_lastState (uM : MSt) (Q : Int32 → Prop) (hq : Q (fX2_lastState uM )) : wpX2_lastState uM Q := by
  unfold fX2_lastState at hq; unfold wpX2_lastState; exact hq
theorem cF_X2_lastState (l : Launch) (D : va_G) (q : Nat → ClassId) (aM : Nat → Nat) (uM : MSt) : Met l yX2_lastState wsX2_lastState rmX2_lastState (va_Pc [.ref (aM 0)] (kP D q (wM aM q uM))) (vp_Si (fun r => r = fX2_lastState uM )) 0 0 (fun _ => False) := c_X2_lastState l D q aM uM _ (pF_X2_lastState uM _ rfl)
def wpX2_shortestOf (uM : MSt) (x1 : Int32) (Q : Int32 → Prop) : Prop :=
  ((x1 ≤ 0 →
    Q 0) ∧
  (¬ (x1 ≤ 0) →
    Q ((fX2_longestOf uM (fX2_linkOf uM x1)) + 1)))
def rmX2_shortestOf : Room := { frames := 2, cells := 0, slots := 0, locals := 42 }
set_option maxRecDepth 100000 in
set_option maxHeartbeats 4000000 in
theorem c_X2_shortestOf (l : Launch) (D : va_G) (q : Nat → ClassId) (aM : Nat → Nat) (uM : MSt) (x1 : Int32) (Q : Int32 → Prop) (hf : wpX2_shortestOf uM x1 Q) : Met l yX2_shortestOf wsX2_shortestOf rmX2_shortestOf (va_Pc [.ref (aM 0), .int x1] (kP D q (wM aM q uM))) (vp_Si Q) 0 0 (fun _ => False) := by
  refine Met.ofW (cc := cX2_shortestOf) (maxL := 2) (ret := (some .int)) (by decide) rfl ?_
  intro p e s m args below meth c s₁ B hml hv
  obtain ⟨hargs, hP, hK, hD⟩ := hv
  have hx := B.exec
  have hb := B.bytes
  have hr := B.returns
  have hts := atoms_spec (ws := wsX2_shortestOf) B.pre
  have hown : s.vm.findClass RX2 = some m.cls := findClass_of_methodNamed B.named
  have hlocks := B.notSynchronized
  refine k_entry hargs (Nat.le_of_ble_eq_true rfl) (fun ls hl => ?_)
  have hl : lv_has ls 2 [(0, .ref (aM 0)), (1, .int x1)] := hl
  change W p l e rmX2_shortestOf s m args below meth c s.heap [] 0 0 (MQ below (vp_Si Q) args s 0 0 (fun _ => False)) _
  unfold wpX2_shortestOf at hf
  refine lv_iload_n hx hb dX2_shortestOf_0 rfl (lv_at hl 1 rfl) ?_
  refine lv_if_le (tgt := 18) hx hb dX2_shortestOf_1 (by decide) (fun c1 => ?_) (fun c1 => ?_)
  · have hf := hf.1 (c1)
    refine lv_iconst (v := 0) hx hb dX2_shortestOf_18 (by decide) ?_
    exact k_iret_r (v := 0) hx hb hr hlocks hf dX2_shortestOf_19
  · have hf := hf.2 (c1)
    refine lv_aload_n hx hb dX2_shortestOf_4 rfl (lv_at hl 0 rfl) ?_
    refine lv_aload_n hx hb dX2_shortestOf_5 rfl (lv_at hl 0 rfl) ?_
    refine lv_iload_n hx hb dX2_shortestOf_6 rfl (lv_at hl 1 rfl) ?_
    refine k_si (k_runV (As := [.int x1]) (rest := [.ref (aM 0)]) ⟨hx, hb, hml, hown, hts⟩ (cF_X2_linkOf l D q aM uM x1) (cwV 1 hts gX2_shortestOf_X2_linkOf rfl rfl rfl cdX2_linkOf ⟨Nat.le_of_ble_eq_true rfl, Nat.le_of_ble_eq_true rfl⟩) hK hP hD 0 rfl rfl rfl hl.1 rfl (Nat.le_of_ble_eq_true rfl) dX2_shortestOf_7 ⟨Nat.le_of_ble_eq_true rfl, Nat.le_of_ble_eq_true rfl⟩) (fun r hr => ?_)
    subst hr
    refine k_si (k_runV (As := [.int (fX2_linkOf uM x1)]) (rest := []) ⟨hx, hb, hml, hown, hts⟩ (cF_X2_longestOf l D q aM uM (fX2_linkOf uM x1)) (cwV 1 hts gX2_shortestOf_X2_longestOf rfl rfl rfl cdX2_longestOf ⟨Nat.le_of_ble_eq_true rfl, Nat.le_of_ble_eq_true rfl⟩) hK hP hD 0 rfl rfl rfl hl.1 rfl (Nat.le_of_ble_eq_true rfl) dX2_shortestOf_10 ⟨Nat.le_of_ble_eq_true rfl, Nat.le_of_ble_eq_true rfl⟩) (fun r hr => ?_)
    subst hr
    refine lv_iconst (v := 1) hx hb dX2_shortestOf_13 (by decide) ?_
    refine lv_iadd hx hb dX2_shortestOf_14 ?_
    refine lv_goto (tgt := 19) hx hb dX2_shortestOf_15 (by decide) ?_
    exact k_iret_r (v := ((fX2_longestOf uM (fX2_linkOf uM x1)) + 1)) hx hb hr hlocks hf dX2_shortestOf_19
def fX2_shortestOf (uM : MSt) (x1 : Int32) : Int32 := (if x1 ≤ 0 then 0 else ((fX2_longestOf uM (fX2_linkOf uM x1)) + 1))
theorem pF_X2_shortestOf (uM : MSt) (x1 : Int32) (Q : Int32 → Prop) (hq : Q (fX2_shortestOf uM x1)) : wpX2_shortestOf uM x1 Q := by
  unfold fX2_shortestOf at hq; unfold wpX2_shortestOf; exact k_ite hq (fun hq => hq) (fun hq => hq)
theorem cF_X2_shortestOf (l : Launch) (D : va_G) (q : Nat → ClassId) (aM : Nat → Nat) (uM : MSt) (x1 : Int32) : Met l yX2_shortestOf wsX2_shortestOf rmX2_shortestOf (va_Pc [.ref (aM 0), .int x1] (kP D q (wM aM q uM))) (vp_Si (fun r => r = fX2_shortestOf uM x1)) 0 0 (fun _ => False) := c_X2_shortestOf l D q aM uM x1 _ (pF_X2_shortestOf uM x1 _ rfl)
def wpX2_madeBehind (uM : MSt) (x1 : Int32) (Q : Int32 → Prop) : Prop :=
  Q (kAt 121 (gM_made uM) x1)
def rmX2_madeBehind : Room := { frames := 1, cells := 0, slots := 0, locals := 21 }
theorem inX2_madeBehind_X2 : ∀ w ∈ wsX20, w ∈ wsX2_madeBehind := fun w h => List.mem_cons_of_mem _ (List.mem_append_right _ h)
set_option maxRecDepth 100000 in
set_option maxHeartbeats 4000000 in
theorem c_X2_madeBehind (l : Launch) (D : va_G) (q : Nat → ClassId) (aM : Nat → Nat) (uM : MSt) (x1 : Int32) (Q : Int32 → Prop) (hf : wpX2_madeBehind uM x1 Q) : Met l yX2_madeBehind wsX2_madeBehind rmX2_madeBehind (va_Pc [.ref (aM 0), .int x1] (kP D q (wM aM q uM))) (vp_Si Q) 0 0 (fun _ => False) := by
  refine Met.ofW (cc := cX2_madeBehind) (maxL := 2) (ret := (some .int)) (by decide) rfl ?_
  intro p e s m args below meth c s₁ B hml hv
  obtain ⟨hargs, hP, hK, hD⟩ := hv
  have hx := B.exec
  have hb := B.bytes
  have hr := B.returns
  have hts := atoms_spec (ws := wsX2_madeBehind) B.pre
  have hown : s.vm.findClass RX2 = some m.cls := findClass_of_methodNamed B.named
  have hlocks := B.notSynchronized
  refine k_entry hargs (Nat.le_of_ble_eq_true rfl) (fun ls hl => ?_)
  have hl : lv_has ls 2 [(0, .ref (aM 0)), (1, .int x1)] := hl
  change W p l e rmX2_madeBehind s m args below meth c s.heap [] 0 0 (MQ below (vp_Si Q) args s 0 0 (fun _ => False)) _
  unfold wpX2_madeBehind at hf
  refine lv_aload_n hx hb dX2_madeBehind_0 rfl (lv_at hl 0 rfl) ?_
  refine va_get (D := D) (ci := 1) (v := .ref (aM 6)) (C := RX2) (T := TX2) (N := 12) hx hb hts inX2_madeBehind_X2 hown hK hP 0 rfl rfl 9 (by decide) (hts (.fieldLink RX2 27 "GrowingText$Machine" "made" "[I") (List.mem_of_getElem? (i := 1) rfl)) (fun _ h9 => h9) rfl dX2_madeBehind_1 ?_
  refine lv_iload_n hx hb dX2_madeBehind_4 rfl (lv_at hl 1 rfl) ?_
  refine k_si (k_runS (As := [.ref (aM 6), .int x1]) (rest := []) ⟨hx, hb, hml, hown, hts⟩ (c_X3_at l D q (aM 6) 121 (gM_made uM) x1 (Nat.le_of_ble_eq_true rfl)) (va_cwS 2 hts gX2_madeBehind_X3_at rfl rfl rfl cdX3_at ⟨Nat.le_of_ble_eq_true rfl, Nat.le_of_ble_eq_true rfl⟩) hK (kp_1 hP 6 rfl) (kd_1 hD 6 rfl) rfl hl.1 rfl (Nat.le_of_ble_eq_true rfl) dX2_madeBehind_5 ⟨Nat.le_of_ble_eq_true rfl, Nat.le_of_ble_eq_true rfl⟩) (fun r hr => ?_)
  subst hr
  exact k_iret_r (v := (kAt 121 (gM_made uM) x1)) hx hb hr hlocks hf dX2_madeBehind_8
def fX2_madeBehind (uM : MSt) (x1 : Int32) : Int32 := (kAt 121 (gM_made uM) x1)
theorem pF_X2_madeBehind (uM : MSt) (x1 : Int32) (Q : Int32 → Prop) (hq : Q (fX2_madeBehind uM x1)) : wpX2_madeBehind uM x1 Q := by
  unfold fX2_madeBehind at hq; unfold wpX2_madeBehind; exact hq
theorem cF_X2_madeBehind (l : Launch) (D : va_G) (q : Nat → ClassId) (aM : Nat → Nat) (uM : MSt) (x1 : Int32) : Met l yX2_madeBehind wsX2_madeBehind rmX2_madeBehind (va_Pc [.ref (aM 0), .int x1] (kP D q (wM aM q uM))) (vp_Si (fun r => r = fX2_madeBehind uM x1)) 0 0 (fun _ => False) := c_X2_madeBehind l D q aM uM x1 _ (pF_X2_madeBehind uM x1 _ rfl)
def wpX2_originalOf (uM : MSt) (x1 : Int32) (Q : Int32 → Prop) : Prop :=
  (((fX2_isState uM x1) = 0 →
    Q (-4)) ∧
  (¬ ((fX2_isState uM x1) = 0) →
    Q (kAt 121 (gM_original uM) x1)))
def rmX2_originalOf : Room := { frames := 1, cells := 0, slots := 0, locals := 21 }
theorem inX2_originalOf_X2 : ∀ w ∈ wsX20, w ∈ wsX2_originalOf := fun w h => List.mem_cons_of_mem _ (List.mem_append_right _ h)
set_option maxRecDepth 100000 in
set_option maxHeartbeats 4000000 in
theorem c_X2_originalOf (l : Launch) (D : va_G) (q : Nat → ClassId) (aM : Nat → Nat) (uM : MSt) (x1 : Int32) (Q : Int32 → Prop) (hf : wpX2_originalOf uM x1 Q) : Met l yX2_originalOf wsX2_originalOf rmX2_originalOf (va_Pc [.ref (aM 0), .int x1] (kP D q (wM aM q uM))) (vp_Si Q) 0 0 (fun _ => False) := by
  refine Met.ofW (cc := cX2_originalOf) (maxL := 2) (ret := (some .int)) (by decide) rfl ?_
  intro p e s m args below meth c s₁ B hml hv
  obtain ⟨hargs, hP, hK, hD⟩ := hv
  have hx := B.exec
  have hb := B.bytes
  have hr := B.returns
  have hts := atoms_spec (ws := wsX2_originalOf) B.pre
  have hown : s.vm.findClass RX2 = some m.cls := findClass_of_methodNamed B.named
  have hlocks := B.notSynchronized
  refine k_entry hargs (Nat.le_of_ble_eq_true rfl) (fun ls hl => ?_)
  have hl : lv_has ls 2 [(0, .ref (aM 0)), (1, .int x1)] := hl
  change W p l e rmX2_originalOf s m args below meth c s.heap [] 0 0 (MQ below (vp_Si Q) args s 0 0 (fun _ => False)) _
  unfold wpX2_originalOf at hf
  refine lv_aload_n hx hb dX2_originalOf_0 rfl (lv_at hl 0 rfl) ?_
  refine lv_iload_n hx hb dX2_originalOf_1 rfl (lv_at hl 1 rfl) ?_
  refine k_si (k_runV (As := [.int x1]) (rest := []) ⟨hx, hb, hml, hown, hts⟩ (cF_X2_isState l D q aM uM x1) (cwV 1 hts gX2_originalOf_X2_isState rfl rfl rfl cdX2_isState ⟨Nat.le_of_ble_eq_true rfl, Nat.le_of_ble_eq_true rfl⟩) hK hP hD 0 rfl rfl rfl hl.1 rfl (Nat.le_of_ble_eq_true rfl) dX2_originalOf_2 ⟨Nat.le_of_ble_eq_true rfl, Nat.le_of_ble_eq_true rfl⟩) (fun r hr => ?_)
  subst hr
  refine lv_if_eq (tgt := 19) hx hb dX2_originalOf_5 (by decide) (fun c1 => ?_) (fun c1 => ?_)
  · have hf := hf.1 (c1)
    refine lv_bipush (v := (-4)) hx hb dX2_originalOf_19 (by decide) ?_
    exact k_iret_r (v := (-4)) hx hb hr hlocks hf dX2_originalOf_21
  · have hf := hf.2 (c1)
    refine lv_aload_n hx hb dX2_originalOf_8 rfl (lv_at hl 0 rfl) ?_
    refine va_get (D := D) (ci := 1) (v := .ref (aM 7)) (C := RX2) (T := TX2) (N := 12) hx hb hts inX2_originalOf_X2 hown hK hP 0 rfl rfl 10 (by decide) (hts (.fieldLink RX2 30 "GrowingText$Machine" "original" "[I") (List.mem_of_getElem? (i := 1) rfl)) (fun _ h9 => h9) rfl dX2_originalOf_9 ?_
    refine lv_iload_n hx hb dX2_originalOf_12 rfl (lv_at hl 1 rfl) ?_
    refine k_si (k_runS (As := [.ref (aM 7), .int x1]) (rest := []) ⟨hx, hb, hml, hown, hts⟩ (c_X3_at l D q (aM 7) 121 (gM_original uM) x1 (Nat.le_of_ble_eq_true rfl)) (va_cwS 2 hts gX2_originalOf_X3_at rfl rfl rfl cdX3_at ⟨Nat.le_of_ble_eq_true rfl, Nat.le_of_ble_eq_true rfl⟩) hK (kp_1 hP 7 rfl) (kd_1 hD 7 rfl) rfl hl.1 rfl (Nat.le_of_ble_eq_true rfl) dX2_originalOf_13 ⟨Nat.le_of_ble_eq_true rfl, Nat.le_of_ble_eq_true rfl⟩) (fun r hr => ?_)
    subst hr
    refine lv_goto (tgt := 21) hx hb dX2_originalOf_16 (by decide) ?_
    exact k_iret_r (v := (kAt 121 (gM_original uM) x1)) hx hb hr hlocks hf dX2_originalOf_21
def fX2_originalOf (uM : MSt) (x1 : Int32) : Int32 := (if (fX2_isState uM x1) = 0 then (-4) else (kAt 121 (gM_original uM) x1))
theorem pF_X2_originalOf (uM : MSt) (x1 : Int32) (Q : Int32 → Prop) (hq : Q (fX2_originalOf uM x1)) : wpX2_originalOf uM x1 Q := by
  unfold fX2_originalOf at hq; unfold wpX2_originalOf; exact k_ite hq (fun hq => hq) (fun hq => hq)
theorem cF_X2_originalOf (l : Launch) (D : va_G) (q : Nat → ClassId) (aM : Nat → Nat) (uM : MSt) (x1 : Int32) : Met l yX2_originalOf wsX2_originalOf rmX2_originalOf (va_Pc [.ref (aM 0), .int x1] (kP D q (wM aM q uM))) (vp_Si (fun r => r = fX2_originalOf uM x1)) 0 0 (fun _ => False) := c_X2_originalOf l D q aM uM x1 _ (pF_X2_originalOf uM x1 _ rfl)
def wpX2_firstEndOf (uM : MSt) (x1 : Int32) (Q : Int32 → Prop) : Prop :=
  Q (fX0_firstOf (fX2_endsOf uM x1))
def rmX2_firstEndOf : Room := { frames := 2, cells := 0, slots := 0, locals := 44 }
set_option maxRecDepth 100000 in
set_option maxHeartbeats 4000000 in
theorem c_X2_firstEndOf (l : Launch) (D : va_G) (q : Nat → ClassId) (aM : Nat → Nat) (uM : MSt) (x1 : Int32) (Q : Int32 → Prop) (hf : wpX2_firstEndOf uM x1 Q) : Met l yX2_firstEndOf wsX2_firstEndOf rmX2_firstEndOf (va_Pc [.ref (aM 0), .int x1] (kP D q (wM aM q uM))) (vp_Si Q) 0 0 (fun _ => False) := by
  refine Met.ofW (cc := cX2_firstEndOf) (maxL := 2) (ret := (some .int)) (by decide) rfl ?_
  intro p e s m args below meth c s₁ B hml hv
  obtain ⟨hargs, hP, hK, hD⟩ := hv
  have hx := B.exec
  have hb := B.bytes
  have hr := B.returns
  have hts := atoms_spec (ws := wsX2_firstEndOf) B.pre
  have hown : s.vm.findClass RX2 = some m.cls := findClass_of_methodNamed B.named
  have hlocks := B.notSynchronized
  refine k_entry hargs (Nat.le_of_ble_eq_true rfl) (fun ls hl => ?_)
  have hl : lv_has ls 2 [(0, .ref (aM 0)), (1, .int x1)] := hl
  change W p l e rmX2_firstEndOf s m args below meth c s.heap [] 0 0 (MQ below (vp_Si Q) args s 0 0 (fun _ => False)) _
  unfold wpX2_firstEndOf at hf
  refine lv_aload_n hx hb dX2_firstEndOf_0 rfl (lv_at hl 0 rfl) ?_
  refine lv_iload_n hx hb dX2_firstEndOf_1 rfl (lv_at hl 1 rfl) ?_
  refine k_sl (k_runV (As := [.int x1]) (rest := []) ⟨hx, hb, hml, hown, hts⟩ (cF_X2_endsOf l D q aM uM x1) (cwV 1 hts gX2_firstEndOf_X2_endsOf rfl rfl rfl cdX2_endsOf ⟨Nat.le_of_ble_eq_true rfl, Nat.le_of_ble_eq_true rfl⟩) hK hP hD 0 rfl rfl rfl hl.1 rfl (Nat.le_of_ble_eq_true rfl) dX2_firstEndOf_2 ⟨Nat.le_of_ble_eq_true rfl, Nat.le_of_ble_eq_true rfl⟩) (fun r hr => ?_)
  subst hr
  refine k_si (k_runS (As := [.long (fX2_endsOf uM x1)]) (rest := []) ⟨hx, hb, hml, hown, hts⟩ (cF_X0_firstOf l D q (fX2_endsOf uM x1)) (va_cwS 1 hts gX2_firstEndOf_X0_firstOf rfl rfl rfl cdX0_firstOf ⟨Nat.le_of_ble_eq_true rfl, Nat.le_of_ble_eq_true rfl⟩) hK k_nilP k_nilD rfl hl.1 rfl (Nat.le_of_ble_eq_true rfl) dX2_firstEndOf_5 ⟨Nat.le_of_ble_eq_true rfl, Nat.le_of_ble_eq_true rfl⟩) (fun r hr => ?_)
  subst hr
  exact k_iret_r (v := (fX0_firstOf (fX2_endsOf uM x1))) hx hb hr hlocks hf dX2_firstEndOf_8
def fX2_firstEndOf (uM : MSt) (x1 : Int32) : Int32 := (fX0_firstOf (fX2_endsOf uM x1))
theorem pF_X2_firstEndOf (uM : MSt) (x1 : Int32) (Q : Int32 → Prop) (hq : Q (fX2_firstEndOf uM x1)) : wpX2_firstEndOf uM x1 Q := by
  unfold fX2_firstEndOf at hq; unfold wpX2_firstEndOf; exact hq
theorem cF_X2_firstEndOf (l : Launch) (D : va_G) (q : Nat → ClassId) (aM : Nat → Nat) (uM : MSt) (x1 : Int32) : Met l yX2_firstEndOf wsX2_firstEndOf rmX2_firstEndOf (va_Pc [.ref (aM 0), .int x1] (kP D q (wM aM q uM))) (vp_Si (fun r => r = fX2_firstEndOf uM x1)) 0 0 (fun _ => False) := c_X2_firstEndOf l D q aM uM x1 _ (pF_X2_firstEndOf uM x1 _ rfl)
def wpX2_clones (uM : MSt) (Q : Int32 → Prop) : Prop :=
  ∀ (X4 : Int32 → Int32 → Prop),
  (∀ (y1 : Int32) (y2 : Int32),
    (((gM_states uM) ≤ y2 →
      Q y1) ∧
    (¬ ((gM_states uM) ≤ y2) →
      ((fX2_originalOf uM y2) = (-4) →
        X4 y1 (y2 + 1)) ∧
      (¬ ((fX2_originalOf uM y2) = (-4)) →
        X4 (y1 + 1) (y2 + 1)))) → X4 y1 y2) →
  X4 0 0
def rmX2_clones : Room := { frames := 2, cells := 0, slots := 0, locals := 42 }
theorem inX2_clones_X2 : ∀ w ∈ wsX20, w ∈ wsX2_clones := fun w h => List.mem_cons_of_mem _ (List.mem_append_right _ h)
set_option maxRecDepth 100000 in
set_option maxHeartbeats 4000000 in
theorem c_X2_clones (l : Launch) (D : va_G) (q : Nat → ClassId) (aM : Nat → Nat) (uM : MSt) (Q : Int32 → Prop) (hf : wpX2_clones uM Q) : Met l yX2_clones wsX2_clones rmX2_clones (va_Pc [.ref (aM 0)] (kP D q (wM aM q uM))) (vp_Si Q) 0 0 (fun _ => False) := by
  refine Met.ofW (cc := cX2_clones) (maxL := 3) (ret := (some .int)) (by decide) rfl ?_
  intro p e s m args below meth c s₁ B hml hv
  obtain ⟨hargs, hP, hK, hD⟩ := hv
  have hx := B.exec
  have hb := B.bytes
  have hr := B.returns
  have hts := atoms_spec (ws := wsX2_clones) B.pre
  have hown : s.vm.findClass RX2 = some m.cls := findClass_of_methodNamed B.named
  have hlocks := B.notSynchronized
  refine k_entry hargs (Nat.le_of_ble_eq_true rfl) (fun ls hl => ?_)
  have hl : lv_has ls 3 [(0, .ref (aM 0))] := hl
  change W p l e rmX2_clones s m args below meth c s.heap [] 0 0 (MQ below (vp_Si Q) args s 0 0 (fun _ => False)) _
  unfold wpX2_clones at hf
  have hf := hf
    (fun (y1 : Int32) (y2 : Int32) => ∀ (ls : Array Slot), lv_has ls 3 [(0, .ref (aM 0)), (1, .int y1), (2, .int y2)] → W p l e rmX2_clones s m args below meth c s.heap [] 0 0 (MQ below (vp_Si Q) args s 0 0 (fun _ => False)) (F0 m 4 ls []))
    (by
      intro y1 y2 hf ls hl
      refine lv_iload_n hx hb dX2_clones_4 rfl (lv_at hl 2 rfl) ?_
      refine lv_aload_n hx hb dX2_clones_5 rfl (lv_at hl 0 rfl) ?_
      refine va_get (D := D) (ci := 1) (v := .int (gM_states uM)) (C := RX2) (T := TX2) (N := 12) hx hb hts inX2_clones_X2 hown hK hP 0 rfl rfl 2 (by decide) (hts (.fieldLink RX2 48 "GrowingText$Machine" "states" "I") (List.mem_of_getElem? (i := 1) rfl)) (fun _ h9 => h9) rfl dX2_clones_6 ?_
      refine lv_icmp_ge (tgt := 31) hx hb dX2_clones_9 (by decide) (fun c1 => ?_) (fun c1 => ?_)
      · have hf := hf.1 (c1)
        refine lv_iload_n hx hb dX2_clones_31 rfl (lv_at hl 1 rfl) ?_
        exact k_iret_r (v := y1) hx hb hr hlocks hf dX2_clones_32
      · have hf := hf.2 (c1)
        refine lv_aload_n hx hb dX2_clones_12 rfl (lv_at hl 0 rfl) ?_
        refine lv_iload_n hx hb dX2_clones_13 rfl (lv_at hl 2 rfl) ?_
        refine k_si (k_runV (As := [.int y2]) (rest := []) ⟨hx, hb, hml, hown, hts⟩ (cF_X2_originalOf l D q aM uM y2) (cwV 1 hts gX2_clones_X2_originalOf rfl rfl rfl cdX2_originalOf ⟨Nat.le_of_ble_eq_true rfl, Nat.le_of_ble_eq_true rfl⟩) hK hP hD 0 rfl rfl rfl hl.1 rfl (Nat.le_of_ble_eq_true rfl) dX2_clones_14 ⟨Nat.le_of_ble_eq_true rfl, Nat.le_of_ble_eq_true rfl⟩) (fun r hr => ?_)
        subst hr
        refine lv_bipush (v := (-4)) hx hb dX2_clones_17 (by decide) ?_
        refine lv_icmp_eq (tgt := 25) hx hb dX2_clones_19 (by decide) (fun c2 => ?_) (fun c2 => ?_)
        · have hf := hf.1 (c2)
          refine lv_iinc (v := (y2 + 1)) (lv' := [(2, .int (y2 + 1)), (0, .ref (aM 0)), (1, .int y1)]) hx hb dX2_clones_25 hl (k := 2) rfl rfl (by decide) rfl (fun ls hl => ?_)
          refine lv_goto (tgt := 4) hx hb dX2_clones_28 (by decide) ?_
          exact hf ls (lv_sub hl [1, 2, 0] rfl)
        · have hf := hf.2 (c2)
          refine lv_iinc (v := (y1 + 1)) (lv' := [(1, .int (y1 + 1)), (0, .ref (aM 0)), (2, .int y2)]) hx hb dX2_clones_22 hl (k := 1) rfl rfl (by decide) rfl (fun ls hl => ?_)
          refine lv_iinc (v := (y2 + 1)) (lv' := [(2, .int (y2 + 1)), (1, .int (y1 + 1)), (0, .ref (aM 0))]) hx hb dX2_clones_25 hl (k := 2) rfl rfl (by decide) rfl (fun ls hl => ?_)
          refine lv_goto (tgt := 4) hx hb dX2_clones_28 (by decide) ?_
          exact hf ls (lv_sub hl [2, 1, 0] rfl))
  refine lv_iconst (v := 0) hx hb dX2_clones_0 (by decide) ?_
  refine lv_istore_n (lv' := [(1, .int 0), (0, .ref (aM 0))]) hx hb dX2_clones_1 rfl hl (by decide) rfl (fun ls hl => ?_)
  refine lv_iconst (v := 0) hx hb dX2_clones_2 (by decide) ?_
  refine lv_istore_n (lv' := [(2, .int 0), (1, .int 0), (0, .ref (aM 0))]) hx hb dX2_clones_3 rfl hl (by decide) rfl (fun ls hl => ?_)
  exact hf ls (lv_sub hl [2, 1, 0] rfl)
def wpX2_movesInAll (uM : MSt) (Q : Int32 → Prop) : Prop :=
  ∀ (X4 : Int32 → Int32 → Prop) (X14 : Int32 → Int32 → Int32 → Prop),
  (∀ (y1 : Int32) (y2 : Int32),
    (((gM_states uM) ≤ y2 →
      Q y1) ∧
    (¬ ((gM_states uM) ≤ y2) →
      X14 y1 y2 0)) → X4 y1 y2) →
  (∀ (y1 : Int32) (y2 : Int32) (y3 : Int32),
    (((gM_alphabet uM) ≤ y3 →
      X4 y1 (y2 + 1)) ∧
    (¬ ((gM_alphabet uM) ≤ y3) →
      ((fX2_moveOf uM y2 y3) = (-4) →
        X14 y1 y2 (y3 + 1)) ∧
      (¬ ((fX2_moveOf uM y2 y3) = (-4)) →
        X14 (y1 + 1) y2 (y3 + 1)))) → X14 y1 y2 y3) →
  X4 0 0
def rmX2_movesInAll : Room := { frames := 2, cells := 0, slots := 0, locals := 43 }
theorem inX2_movesInAll_X2 : ∀ w ∈ wsX20, w ∈ wsX2_movesInAll := fun w h => List.mem_cons_of_mem _ (List.mem_append_right _ h)
set_option maxRecDepth 100000 in
set_option maxHeartbeats 4000000 in
theorem c_X2_movesInAll (l : Launch) (D : va_G) (q : Nat → ClassId) (aM : Nat → Nat) (uM : MSt) (Q : Int32 → Prop) (hf : wpX2_movesInAll uM Q) : Met l yX2_movesInAll wsX2_movesInAll rmX2_movesInAll (va_Pc [.ref (aM 0)] (kP D q (wM aM q uM))) (vp_Si Q) 0 0 (fun _ => False) := by
  refine Met.ofW (cc := cX2_movesInAll) (maxL := 4) (ret := (some .int)) (by decide) rfl ?_
  intro p e s m args below meth c s₁ B hml hv
  obtain ⟨hargs, hP, hK, hD⟩ := hv
  have hx := B.exec
  have hb := B.bytes
  have hr := B.returns
  have hts := atoms_spec (ws := wsX2_movesInAll) B.pre
  have hown : s.vm.findClass RX2 = some m.cls := findClass_of_methodNamed B.named
  have hlocks := B.notSynchronized
  refine k_entry hargs (Nat.le_of_ble_eq_true rfl) (fun ls hl => ?_)
  have hl : lv_has ls 4 [(0, .ref (aM 0))] := hl
  change W p l e rmX2_movesInAll s m args below meth c s.heap [] 0 0 (MQ below (vp_Si Q) args s 0 0 (fun _ => False)) _
  unfold wpX2_movesInAll at hf
  have hf := hf
    (fun (y1 : Int32) (y2 : Int32) => ∀ (ls : Array Slot), lv_has ls 4 [(0, .ref (aM 0)), (1, .int y1), (2, .int y2)] → W p l e rmX2_movesInAll s m args below meth c s.heap [] 0 0 (MQ below (vp_Si Q) args s 0 0 (fun _ => False)) (F0 m 4 ls []))
    (fun (y1 : Int32) (y2 : Int32) (y3 : Int32) => ∀ (ls : Array Slot), lv_has ls 4 [(0, .ref (aM 0)), (1, .int y1), (2, .int y2), (3, .int y3)] → W p l e rmX2_movesInAll s m args below meth c s.heap [] 0 0 (MQ below (vp_Si Q) args s 0 0 (fun _ => False)) (F0 m 14 ls []))
    (by
      intro y1 y2 hf ls hl
      refine lv_iload_n hx hb dX2_movesInAll_4 rfl (lv_at hl 2 rfl) ?_
      refine lv_aload_n hx hb dX2_movesInAll_5 rfl (lv_at hl 0 rfl) ?_
      refine va_get (D := D) (ci := 1) (v := .int (gM_states uM)) (C := RX2) (T := TX2) (N := 12) hx hb hts inX2_movesInAll_X2 hown hK hP 0 rfl rfl 2 (by decide) (hts (.fieldLink RX2 48 "GrowingText$Machine" "states" "I") (List.mem_of_getElem? (i := 1) rfl)) (fun _ h9 => h9) rfl dX2_movesInAll_6 ?_
      refine lv_icmp_ge (tgt := 48) hx hb dX2_movesInAll_9 (by decide) (fun c1 => ?_) (fun c1 => ?_)
      · have hf := hf.1 (c1)
        refine lv_iload_n hx hb dX2_movesInAll_48 rfl (lv_at hl 1 rfl) ?_
        exact k_iret_r (v := y1) hx hb hr hlocks hf dX2_movesInAll_49
      · have hf := hf.2 (c1)
        refine lv_iconst (v := 0) hx hb dX2_movesInAll_12 (by decide) ?_
        refine lv_istore_n (lv' := [(3, .int 0), (0, .ref (aM 0)), (1, .int y1), (2, .int y2)]) hx hb dX2_movesInAll_13 rfl hl (by decide) rfl (fun ls hl => ?_)
        exact hf ls (lv_sub hl [1, 2, 3, 0] rfl))
    (by
      intro y1 y2 y3 hf ls hl
      refine lv_iload_n hx hb dX2_movesInAll_14 rfl (lv_at hl 3 rfl) ?_
      refine lv_aload_n hx hb dX2_movesInAll_15 rfl (lv_at hl 0 rfl) ?_
      refine va_get (D := D) (ci := 1) (v := .int (gM_alphabet uM)) (C := RX2) (T := TX2) (N := 12) hx hb hts inX2_movesInAll_X2 hown hK hP 0 rfl rfl 0 (by decide) (hts (.fieldLink RX2 41 "GrowingText$Machine" "alphabet" "I") (List.mem_of_getElem? (i := 2) rfl)) (fun _ h9 => h9) rfl dX2_movesInAll_16 ?_
      refine lv_icmp_ge (tgt := 42) hx hb dX2_movesInAll_19 (by decide) (fun c2 => ?_) (fun c2 => ?_)
      · have hf := hf.1 (c2)
        refine lv_iinc (v := (y2 + 1)) (lv' := [(2, .int (y2 + 1)), (0, .ref (aM 0)), (1, .int y1), (3, .int y3)]) hx hb dX2_movesInAll_42 hl (k := 2) rfl rfl (by decide) rfl (fun ls hl => ?_)
        refine lv_goto (tgt := 4) hx hb dX2_movesInAll_45 (by decide) ?_
        exact hf ls (lv_sub hl [1, 2, 0] rfl)
      · have hf := hf.2 (c2)
        refine lv_aload_n hx hb dX2_movesInAll_22 rfl (lv_at hl 0 rfl) ?_
        refine lv_iload_n hx hb dX2_movesInAll_23 rfl (lv_at hl 2 rfl) ?_
        refine lv_iload_n hx hb dX2_movesInAll_24 rfl (lv_at hl 3 rfl) ?_
        refine k_si (k_runV (As := [.int y2, .int y3]) (rest := []) ⟨hx, hb, hml, hown, hts⟩ (cF_X2_moveOf l D q aM uM y2 y3) (cwV 2 hts gX2_movesInAll_X2_moveOf rfl rfl rfl cdX2_moveOf ⟨Nat.le_of_ble_eq_true rfl, Nat.le_of_ble_eq_true rfl⟩) hK hP hD 0 rfl rfl rfl hl.1 rfl (Nat.le_of_ble_eq_true rfl) dX2_movesInAll_25 ⟨Nat.le_of_ble_eq_true rfl, Nat.le_of_ble_eq_true rfl⟩) (fun r hr => ?_)
        subst hr
        refine lv_bipush (v := (-4)) hx hb dX2_movesInAll_28 (by decide) ?_
        refine lv_icmp_eq (tgt := 36) hx hb dX2_movesInAll_30 (by decide) (fun c3 => ?_) (fun c3 => ?_)
        · have hf := hf.1 (c3)
          refine lv_iinc (v := (y3 + 1)) (lv' := [(3, .int (y3 + 1)), (0, .ref (aM 0)), (1, .int y1), (2, .int y2)]) hx hb dX2_movesInAll_36 hl (k := 3) rfl rfl (by decide) rfl (fun ls hl => ?_)
          refine lv_goto (tgt := 14) hx hb dX2_movesInAll_39 (by decide) ?_
          exact hf ls (lv_sub hl [1, 2, 3, 0] rfl)
        · have hf := hf.2 (c3)
          refine lv_iinc (v := (y1 + 1)) (lv' := [(1, .int (y1 + 1)), (0, .ref (aM 0)), (2, .int y2), (3, .int y3)]) hx hb dX2_movesInAll_33 hl (k := 1) rfl rfl (by decide) rfl (fun ls hl => ?_)
          refine lv_iinc (v := (y3 + 1)) (lv' := [(3, .int (y3 + 1)), (1, .int (y1 + 1)), (0, .ref (aM 0)), (2, .int y2)]) hx hb dX2_movesInAll_36 hl (k := 3) rfl rfl (by decide) rfl (fun ls hl => ?_)
          refine lv_goto (tgt := 14) hx hb dX2_movesInAll_39 (by decide) ?_
          exact hf ls (lv_sub hl [2, 1, 3, 0] rfl))
  refine lv_iconst (v := 0) hx hb dX2_movesInAll_0 (by decide) ?_
  refine lv_istore_n (lv' := [(1, .int 0), (0, .ref (aM 0))]) hx hb dX2_movesInAll_1 rfl hl (by decide) rfl (fun ls hl => ?_)
  refine lv_iconst (v := 0) hx hb dX2_movesInAll_2 (by decide) ?_
  refine lv_istore_n (lv' := [(2, .int 0), (1, .int 0), (0, .ref (aM 0))]) hx hb dX2_movesInAll_3 rfl hl (by decide) rfl (fun ls hl => ?_)
  exact hf ls (lv_sub hl [2, 1, 0] rfl)
