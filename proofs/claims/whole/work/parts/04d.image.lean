def wpX1_take (uM : MSt) (uI : ISt) (Q : ISt → Prop) : Prop :=
  ∀ (X23 : Int32 → ISt → Prop),
  (∀ (y2 : Int32) (tI : ISt),
    (((gI_length tI) ≤ y2 →
      Q tI) ∧
    (¬ ((gI_length tI) ≤ y2) →
      X23 (y2 + 1) (gI_set_letters tI (kPut 60 (gI_letters tI) y2 (fX2_letterAt uM y2))))) → X23 y2 tI) →
  X23 0 (gI_set_length (gI_set_alphabet (gI_set_kept uI 1) (gM_alphabet uM)) (gM_length uM))
def rmX1_take : Room := { frames := 2, cells := 0, slots := 0, locals := 42 }
theorem inX1_take_X1 : ∀ w ∈ wsX10, w ∈ wsX1_take := fun w h => List.mem_cons_of_mem _ (List.mem_append_left _ (List.mem_append_right _ h))
theorem inX1_take_X2 : ∀ w ∈ wsX20, w ∈ wsX1_take := fun w h => List.mem_cons_of_mem _ (List.mem_append_right _ h)
set_option maxRecDepth 100000 in
set_option maxHeartbeats 4000000 in
theorem c_X1_take (l : Launch) (D : va_G) (q : Nat → ClassId) (aM : Nat → Nat) (aI : Nat → Nat) (uM : MSt) (uI : ISt) (Q : ISt → Prop) (hf : wpX1_take uM uI Q) : Met l yX1_take wsX1_take rmX1_take (va_Pc [.ref (aI 0), .ref (aM 0)] (kP D q (wM aM q uM ++ wI aI q uI))) (va_Qv Q (fun u t => kP D q (wM aM q uM ++ wI aI q u) t) (kIn (wM aM q uM ++ wI aI q uI))) 0 0 (kIn (wM aM q uM ++ wI aI q uI)) := by
  refine Met.ofW (cc := cX1_take) (maxL := 3) (ret := none) (by decide) rfl ?_
  intro p e s m args below meth c s₁ B hml hv
  obtain ⟨hargs, hP, hK, hD⟩ := hv
  have hx := B.exec
  have hb := B.bytes
  have hr := B.returns
  have hts := atoms_spec (ws := wsX1_take) B.pre
  have hown : s.vm.findClass RX1 = some m.cls := findClass_of_methodNamed B.named
  have hlocks := B.notSynchronized
  have hD := kd_self hD
  generalize kIn (wM aM q uM ++ wI aI q uI) = A at hD ⊢
  have hS : va_S A s.heap s.heap [] := va_S.rf
  refine k_entry hargs (Nat.le_of_ble_eq_true rfl) (fun ls hl => ?_)
  have hl : lv_has ls 3 [(0, .ref (aI 0)), (1, .ref (aM 0))] := hl
  change W p l e rmX1_take s m args below meth c s.heap [] 0 0 (MQ below (va_Qv Q (fun u t => kP D q (wM aM q uM ++ wI aI q u) t) A) args s 0 0 A) _
  unfold wpX1_take at hf
  obtain ⟨H, hH⟩ : ∃ H, H = s.heap := ⟨_, rfl⟩
  obtain ⟨locs, hlocs⟩ : ∃ x : List Loc, x = [] := ⟨_, rfl⟩
  rw [← hH] at hP
  have hS : va_S A s.heap H locs := by rw [hH, hlocs]; exact hS
  rw [show W p l e rmX1_take s m args below meth c s.heap [] 0 0 (MQ below (va_Qv Q (fun u t => kP D q (wM aM q uM ++ wI aI q u) t) A) args s 0 0 A) (F0 m 0 ls []) = W p l e rmX1_take s m args below meth c H locs 0 0 (MQ below (va_Qv Q (fun u t => kP D q (wM aM q uM ++ wI aI q u) t) A) args s 0 0 A) (F0 m 0 ls []) by rw [hH, hlocs]]
  clear hH hlocs
  have hf := hf
    (fun (y2 : Int32) (tI : ISt) => ∀ (H : Heap) (locs : List Loc) (ls : Array Slot), va_P D vwCl (wM aM q uM ++ wI aI q tI) H → va_D A (wM aM q uM ++ wI aI q tI) → va_S A s.heap H locs → lv_has ls 3 [(0, .ref (aI 0)), (1, .ref (aM 0)), (2, .int y2)] → W p l e rmX1_take s m args below meth c H locs 0 0 (MQ below (va_Qv Q (fun u t => kP D q (wM aM q uM ++ wI aI q u) t) A) args s 0 0 A) (F0 m 23 ls []))
    (by
      intro y2 tI hf H locs ls hP hD hS hl
      refine lv_iload_n hx hb dX1_take_23 rfl (lv_at hl 2 rfl) ?_
      refine lv_aload_n hx hb dX1_take_24 rfl (lv_at hl 0 rfl) ?_
      refine va_get (D := D) (ci := 0) (v := .int (gI_length tI)) (C := RX1) (T := TX1) (N := 4) hx hb hts inX1_take_X1 hown hK hP 9 rfl rfl 2 (by decide) (hts (.fieldLink RX1 19 "GrowingText$Image" "length" "I") (List.mem_of_getElem? (i := 5) rfl)) (fun _ h9 => h9) rfl dX1_take_25 ?_
      refine lv_icmp_ge (tgt := 50) hx hb dX1_take_28 (by decide) (fun c1 => ?_) (fun c1 => ?_)
      · have hf := hf.1 (c1)
        exact k_vret_w (wf := (fun u => wM aM q uM ++ wI aI q u)) (post := Q) (u := tI) hx hb hr hlocks hK hP hD hS hf dX1_take_50
      · have hf := hf.2 (c1)
        refine lv_aload_n hx hb dX1_take_31 rfl (lv_at hl 0 rfl) ?_
        refine va_get (D := D) (ci := 0) (v := .ref (aI 1)) (C := RX1) (T := TX1) (N := 4) hx hb hts inX1_take_X1 hown hK hP 9 rfl rfl 0 (by decide) (hts (.fieldLink RX1 9 "GrowingText$Image" "letters" "[I") (List.mem_of_getElem? (i := 6) rfl)) (fun _ h9 => h9) rfl dX1_take_32 ?_
        refine lv_iload_n hx hb dX1_take_35 rfl (lv_at hl 2 rfl) ?_
        refine lv_aload_n hx hb dX1_take_36 rfl (lv_at hl 1 rfl) ?_
        refine lv_iload_n hx hb dX1_take_37 rfl (lv_at hl 2 rfl) ?_
        refine k_si (k_runV (As := [.int y2]) (rest := [.int y2, .ref (aI 1)]) ⟨hx, hb, hml, hown, hts⟩ (cF_X2_letterAt l D q aM uM y2) (cwV 1 hts gX1_take_X2_letterAt rfl rfl rfl cdX2_letterAt ⟨Nat.le_of_ble_eq_true rfl, Nat.le_of_ble_eq_true rfl⟩) hK (kp_l (a := wM aM q uM) (b := wI aI q tI) hP) (kd_l (a := wM aM q uM) (b := wI aI q tI) hD) 0 rfl rfl rfl hl.1 rfl (Nat.le_of_ble_eq_true rfl) dX1_take_38 ⟨Nat.le_of_ble_eq_true rfl, Nat.le_of_ble_eq_true rfl⟩) (fun r hr => ?_)
        subst hr
        refine k_wp (k := 10) (k_runS (As := [.ref (aI 1), .int y2, .int (fX2_letterAt uM y2)]) (rest := []) ⟨hx, hb, hml, hown, hts⟩ (c_X3_put l D q (aI 1) 60 (gI_letters tI) y2 (fX2_letterAt uM y2) (Nat.le_of_ble_eq_true rfl)) (va_cwS 3 hts gX1_take_X3_put rfl rfl rfl cdX3_put ⟨Nat.le_of_ble_eq_true rfl, Nat.le_of_ble_eq_true rfl⟩) hK (kp_1 hP 10 rfl) (kd_1 hD 10 rfl) rfl hl.1 rfl (Nat.le_of_ble_eq_true rfl) dX1_take_41 ⟨Nat.le_of_ble_eq_true rfl, Nat.le_of_ble_eq_true rfl⟩) rfl rfl hP hD hS (fun H locs _ hP hD hS => ?_)
        have hP : va_P D vwCl (wM aM q uM ++ wI aI q (gI_set_letters tI (kPut 60 (gI_letters tI) y2 (fX2_letterAt uM y2)))) H := hP
        have hD : va_D A (wM aM q uM ++ wI aI q (gI_set_letters tI (kPut 60 (gI_letters tI) y2 (fX2_letterAt uM y2)))) := hD
        refine lv_iinc (v := (y2 + 1)) (lv' := [(2, .int (y2 + 1)), (0, .ref (aI 0)), (1, .ref (aM 0))]) hx hb dX1_take_44 hl (k := 2) rfl rfl (by decide) rfl (fun ls hl => ?_)
        refine lv_goto (tgt := 23) hx hb dX1_take_47 (by decide) ?_
        exact hf H locs ls hP hD hS (lv_sub hl [1, 2, 0] rfl))
  refine lv_aload_n hx hb dX1_take_0 rfl (lv_at hl 0 rfl) ?_
  refine lv_iconst (v := 1) hx hb dX1_take_1 (by decide) ?_
  refine va_put (D := D) (ci := 0) (v := .int 1) (ty := .boolean) (C := RX1) (T := TX1) (N := 4) hx hb hts inX1_take_X1 tyX1 tyX1_ok nmX1 hown hK hP hD hS 9 rfl rfl 3 (by decide) (hts (.fieldLink RX1 22 "GrowingText$Image" "kept" "Z") (List.mem_of_getElem? (i := 1) rfl)) (fun _ h9 => h9) rfl (by decide +kernel) rfl rfl (Nat.le_of_ble_eq_true rfl) dX1_take_2 (fun H locs hP hD hS => ?_)
  have hP : va_P D vwCl (wM aM q uM ++ wI aI q (gI_set_kept uI 1)) H := hP
  have hD : va_D A (wM aM q uM ++ wI aI q (gI_set_kept uI 1)) := hD
  refine lv_aload_n hx hb dX1_take_5 rfl (lv_at hl 0 rfl) ?_
  refine lv_aload_n hx hb dX1_take_6 rfl (lv_at hl 1 rfl) ?_
  refine va_get (D := D) (ci := 1) (v := .int (gM_alphabet uM)) (C := RX2) (T := TX2) (N := 12) hx hb hts inX1_take_X2 hown hK hP 0 rfl rfl 0 (by decide) (hts (.fieldLink RX1 26 "GrowingText$Machine" "alphabet" "I") (List.mem_of_getElem? (i := 2) rfl)) (fun _ h9 => h9) rfl dX1_take_7 ?_
  refine va_put (D := D) (ci := 0) (v := .int (gM_alphabet uM)) (ty := .int) (C := RX1) (T := TX1) (N := 4) hx hb hts inX1_take_X1 tyX1 tyX1_ok nmX1 hown hK hP hD hS 9 rfl rfl 1 (by decide) (hts (.fieldLink RX1 15 "GrowingText$Image" "alphabet" "I") (List.mem_of_getElem? (i := 3) rfl)) (fun _ h9 => h9) rfl (by decide +kernel) rfl rfl (Nat.le_of_ble_eq_true rfl) dX1_take_10 (fun H locs hP hD hS => ?_)
  have hP : va_P D vwCl (wM aM q uM ++ wI aI q (gI_set_alphabet (gI_set_kept uI 1) (gM_alphabet uM))) H := hP
  have hD : va_D A (wM aM q uM ++ wI aI q (gI_set_alphabet (gI_set_kept uI 1) (gM_alphabet uM))) := hD
  refine lv_aload_n hx hb dX1_take_13 rfl (lv_at hl 0 rfl) ?_
  refine lv_aload_n hx hb dX1_take_14 rfl (lv_at hl 1 rfl) ?_
  refine va_get (D := D) (ci := 1) (v := .int (gM_length uM)) (C := RX2) (T := TX2) (N := 12) hx hb hts inX1_take_X2 hown hK hP 0 rfl rfl 1 (by decide) (hts (.fieldLink RX1 29 "GrowingText$Machine" "length" "I") (List.mem_of_getElem? (i := 4) rfl)) (fun _ h9 => h9) rfl dX1_take_15 ?_
  refine va_put (D := D) (ci := 0) (v := .int (gM_length uM)) (ty := .int) (C := RX1) (T := TX1) (N := 4) hx hb hts inX1_take_X1 tyX1 tyX1_ok nmX1 hown hK hP hD hS 9 rfl rfl 2 (by decide) (hts (.fieldLink RX1 19 "GrowingText$Image" "length" "I") (List.mem_of_getElem? (i := 5) rfl)) (fun _ h9 => h9) rfl (by decide +kernel) rfl rfl (Nat.le_of_ble_eq_true rfl) dX1_take_18 (fun H locs hP hD hS => ?_)
  have hP : va_P D vwCl (wM aM q uM ++ wI aI q (gI_set_length (gI_set_alphabet (gI_set_kept uI 1) (gM_alphabet uM)) (gM_length uM))) H := hP
  have hD : va_D A (wM aM q uM ++ wI aI q (gI_set_length (gI_set_alphabet (gI_set_kept uI 1) (gM_alphabet uM)) (gM_length uM))) := hD
  refine lv_iconst (v := 0) hx hb dX1_take_21 (by decide) ?_
  refine lv_istore_n (lv' := [(2, .int 0), (0, .ref (aI 0)), (1, .ref (aM 0))]) hx hb dX1_take_22 rfl hl (by decide) rfl (fun ls hl => ?_)
  exact hf H locs ls hP hD hS (lv_sub hl [1, 2, 0] rfl)
def wpX1_giveBack (uM : MSt) (uI : ISt) (Q : MSt → Prop) : Prop :=
  ∀ (X10 : Int32 → MSt → Prop),
  (∀ (y2 : Int32) (tM : MSt),
    (((gI_length uI) ≤ y2 →
      Q tM) ∧
    (¬ ((gI_length uI) ≤ y2) →
      wpX2_append tM (kAt 60 (gI_letters uI) y2) (fun uM3 =>
        X10 (y2 + 1) uM3))) → X10 y2 tM) →
  wpX2_startOver uM (gI_alphabet uI) (fun uM1 =>
    X10 0 uM1)
def rmX1_giveBack : Room := { frames := 5, cells := 0, slots := 0, locals := 120 }
theorem inX1_giveBack_X1 : ∀ w ∈ wsX10, w ∈ wsX1_giveBack := fun w h => List.mem_cons_of_mem _ (List.mem_append_left _ (List.mem_append_right _ h))
set_option maxRecDepth 100000 in
set_option maxHeartbeats 4000000 in
theorem c_X1_giveBack (l : Launch) (D : va_G) (q : Nat → ClassId) (aM : Nat → Nat) (aI : Nat → Nat) (uM : MSt) (uI : ISt) (Q : MSt → Prop) (hf : wpX1_giveBack uM uI Q) : Met l yX1_giveBack wsX1_giveBack rmX1_giveBack (va_Pc [.ref (aI 0), .ref (aM 0)] (kP D q (wM aM q uM ++ wI aI q uI))) (va_Qv Q (fun u t => kP D q (wM aM q u ++ wI aI q uI) t) (kIn (wM aM q uM ++ wI aI q uI))) 0 0 (kIn (wM aM q uM ++ wI aI q uI)) := by
  refine Met.ofW (cc := cX1_giveBack) (maxL := 3) (ret := none) (by decide) rfl ?_
  intro p e s m args below meth c s₁ B hml hv
  obtain ⟨hargs, hP, hK, hD⟩ := hv
  have hx := B.exec
  have hb := B.bytes
  have hr := B.returns
  have hts := atoms_spec (ws := wsX1_giveBack) B.pre
  have hown : s.vm.findClass RX1 = some m.cls := findClass_of_methodNamed B.named
  have hlocks := B.notSynchronized
  have hD := kd_self hD
  generalize kIn (wM aM q uM ++ wI aI q uI) = A at hD ⊢
  have hS : va_S A s.heap s.heap [] := va_S.rf
  refine k_entry hargs (Nat.le_of_ble_eq_true rfl) (fun ls hl => ?_)
  have hl : lv_has ls 3 [(0, .ref (aI 0)), (1, .ref (aM 0))] := hl
  change W p l e rmX1_giveBack s m args below meth c s.heap [] 0 0 (MQ below (va_Qv Q (fun u t => kP D q (wM aM q u ++ wI aI q uI) t) A) args s 0 0 A) _
  unfold wpX1_giveBack at hf
  obtain ⟨H, hH⟩ : ∃ H, H = s.heap := ⟨_, rfl⟩
  obtain ⟨locs, hlocs⟩ : ∃ x : List Loc, x = [] := ⟨_, rfl⟩
  rw [← hH] at hP
  have hS : va_S A s.heap H locs := by rw [hH, hlocs]; exact hS
  rw [show W p l e rmX1_giveBack s m args below meth c s.heap [] 0 0 (MQ below (va_Qv Q (fun u t => kP D q (wM aM q u ++ wI aI q uI) t) A) args s 0 0 A) (F0 m 0 ls []) = W p l e rmX1_giveBack s m args below meth c H locs 0 0 (MQ below (va_Qv Q (fun u t => kP D q (wM aM q u ++ wI aI q uI) t) A) args s 0 0 A) (F0 m 0 ls []) by rw [hH, hlocs]]
  clear hH hlocs
  have hf := hf
    (fun (y2 : Int32) (tM : MSt) => ∀ (H : Heap) (locs : List Loc) (ls : Array Slot), va_P D vwCl (wM aM q tM ++ wI aI q uI) H → va_D A (wM aM q tM ++ wI aI q uI) → va_S A s.heap H locs → lv_has ls 3 [(0, .ref (aI 0)), (1, .ref (aM 0)), (2, .int y2)] → W p l e rmX1_giveBack s m args below meth c H locs 0 0 (MQ below (va_Qv Q (fun u t => kP D q (wM aM q u ++ wI aI q uI) t) A) args s 0 0 A) (F0 m 10 ls []))
    (by
      intro y2 tM hf H locs ls hP hD hS hl
      refine lv_iload_n hx hb dX1_giveBack_10 rfl (lv_at hl 2 rfl) ?_
      refine lv_aload_n hx hb dX1_giveBack_11 rfl (lv_at hl 0 rfl) ?_
      refine va_get (D := D) (ci := 0) (v := .int (gI_length uI)) (C := RX1) (T := TX1) (N := 4) hx hb hts inX1_giveBack_X1 hown hK hP 9 rfl rfl 2 (by decide) (hts (.fieldLink RX1 19 "GrowingText$Image" "length" "I") (List.mem_of_getElem? (i := 2) rfl)) (fun _ h9 => h9) rfl dX1_giveBack_12 ?_
      refine lv_icmp_ge (tgt := 36) hx hb dX1_giveBack_15 (by decide) (fun c2 => ?_) (fun c2 => ?_)
      · have hf := hf.1 (c2)
        exact k_vret_w (wf := (fun u => wM aM q u ++ wI aI q uI)) (post := Q) (u := tM) hx hb hr hlocks hK hP hD hS hf dX1_giveBack_36
      · have hf := hf.2 (c2)
        refine lv_aload_n hx hb dX1_giveBack_18 rfl (lv_at hl 1 rfl) ?_
        refine lv_aload_n hx hb dX1_giveBack_19 rfl (lv_at hl 0 rfl) ?_
        refine va_get (D := D) (ci := 0) (v := .ref (aI 1)) (C := RX1) (T := TX1) (N := 4) hx hb hts inX1_giveBack_X1 hown hK hP 9 rfl rfl 0 (by decide) (hts (.fieldLink RX1 9 "GrowingText$Image" "letters" "[I") (List.mem_of_getElem? (i := 3) rfl)) (fun _ h9 => h9) rfl dX1_giveBack_20 ?_
        refine lv_iload_n hx hb dX1_giveBack_23 rfl (lv_at hl 2 rfl) ?_
        refine k_si (k_runS (As := [.ref (aI 1), .int y2]) (rest := [.ref (aM 0)]) ⟨hx, hb, hml, hown, hts⟩ (c_X3_at l D q (aI 1) 60 (gI_letters uI) y2 (Nat.le_of_ble_eq_true rfl)) (va_cwS 2 hts gX1_giveBack_X3_at rfl rfl rfl cdX3_at ⟨Nat.le_of_ble_eq_true rfl, Nat.le_of_ble_eq_true rfl⟩) hK (kp_1 hP 10 rfl) (kd_1 hD 10 rfl) rfl hl.1 rfl (Nat.le_of_ble_eq_true rfl) dX1_giveBack_24 ⟨Nat.le_of_ble_eq_true rfl, Nat.le_of_ble_eq_true rfl⟩) (fun r hr => ?_)
        subst hr
        refine k_wv (wf := fun u => wM aM q u) (u0 := tM) (k_runV (As := [.int (kAt 60 (gI_letters uI) y2)]) (rest := []) ⟨hx, hb, hml, hown, hts⟩ (c_X2_append l D q aM tM (kAt 60 (gI_letters uI) y2) _ hf) (cwV 1 hts gX1_giveBack_X2_append rfl rfl rfl cdX2_append ⟨Nat.le_of_ble_eq_true rfl, Nat.le_of_ble_eq_true rfl⟩) hK (kp_l (a := wM aM q tM) (b := wI aI q uI) hP) (kd_l (a := wM aM q tM) (b := wI aI q uI) hD) 0 rfl rfl rfl hl.1 rfl (Nat.le_of_ble_eq_true rfl) dX1_giveBack_27 ⟨Nat.le_of_ble_eq_true rfl, Nat.le_of_ble_eq_true rfl⟩) ([]) (wI aI q uI) (fun _ => rfl) hP hD hS (fun uM3 H locs hf hP hD hS => ?_)
        have hP : va_P D vwCl (wM aM q uM3 ++ wI aI q uI) H := hP
        have hD : va_D A (wM aM q uM3 ++ wI aI q uI) := hD
        refine lv_iinc (v := (y2 + 1)) (lv' := [(2, .int (y2 + 1)), (0, .ref (aI 0)), (1, .ref (aM 0))]) hx hb dX1_giveBack_30 hl (k := 2) rfl rfl (by decide) rfl (fun ls hl => ?_)
        refine lv_goto (tgt := 10) hx hb dX1_giveBack_33 (by decide) ?_
        exact hf H locs ls hP hD hS (lv_sub hl [1, 2, 0] rfl))
  refine lv_aload_n hx hb dX1_giveBack_0 rfl (lv_at hl 1 rfl) ?_
  refine lv_aload_n hx hb dX1_giveBack_1 rfl (lv_at hl 0 rfl) ?_
  refine va_get (D := D) (ci := 0) (v := .int (gI_alphabet uI)) (C := RX1) (T := TX1) (N := 4) hx hb hts inX1_giveBack_X1 hown hK hP 9 rfl rfl 1 (by decide) (hts (.fieldLink RX1 15 "GrowingText$Image" "alphabet" "I") (List.mem_of_getElem? (i := 1) rfl)) (fun _ h9 => h9) rfl dX1_giveBack_2 ?_
  refine k_wv (wf := fun u => wM aM q u) (u0 := uM) (k_runV (As := [.int (gI_alphabet uI)]) (rest := []) ⟨hx, hb, hml, hown, hts⟩ (c_X2_startOver l D q aM uM (gI_alphabet uI) _ hf) (cwV 1 hts gX1_giveBack_X2_startOver rfl rfl rfl cdX2_startOver ⟨Nat.le_of_ble_eq_true rfl, Nat.le_of_ble_eq_true rfl⟩) hK (kp_l (a := wM aM q uM) (b := wI aI q uI) hP) (kd_l (a := wM aM q uM) (b := wI aI q uI) hD) 0 rfl rfl rfl hl.1 rfl (Nat.le_of_ble_eq_true rfl) dX1_giveBack_5 ⟨Nat.le_of_ble_eq_true rfl, Nat.le_of_ble_eq_true rfl⟩) ([]) (wI aI q uI) (fun _ => rfl) hP hD hS (fun uM1 H locs hf hP hD hS => ?_)
  have hP : va_P D vwCl (wM aM q uM1 ++ wI aI q uI) H := hP
  have hD : va_D A (wM aM q uM1 ++ wI aI q uI) := hD
  refine lv_iconst (v := 0) hx hb dX1_giveBack_8 (by decide) ?_
  refine lv_istore_n (lv' := [(2, .int 0), (0, .ref (aI 0)), (1, .ref (aM 0))]) hx hb dX1_giveBack_9 rfl hl (by decide) rfl (fun ls hl => ?_)
  exact hf H locs ls hP hD hS (lv_sub hl [1, 2, 0] rfl)
def wpX4_copyWord (uM : MSt) (uS : SSt) (x2 : Int32) (x3 : Int32) (Q : SSt → Prop) : Prop :=
  ∀ (X10 : Int32 → SSt → Prop),
  (∀ (y4 : Int32) (tS : SSt),
    ((x2 ≤ y4 →
      Q tS) ∧
    (¬ (x2 ≤ y4) →
      X10 (y4 + 1) (fX4_addLetter tS (fX2_letterAt uM y4)))) → X10 y4 tS) →
  wpX4_layOut uS 0 (fun uS1 =>
    X10 (x2 - x3) uS1)
def rmX4_copyWord : Room := { frames := 3, cells := 0, slots := 0, locals := 66 }
set_option maxRecDepth 100000 in
set_option maxHeartbeats 4000000 in
theorem c_X4_copyWord (l : Launch) (D : va_G) (q : Nat → ClassId) (aM : Nat → Nat) (aS : Nat → Nat) (uM : MSt) (uS : SSt) (x2 : Int32) (x3 : Int32) (Q : SSt → Prop) (hf : wpX4_copyWord uM uS x2 x3 Q) : Met l yX4_copyWord wsX4_copyWord rmX4_copyWord (va_Pc [.ref (aS 0), .ref (aM 0), .int x2, .int x3] (kP D q (wM aM q uM ++ wS aS q uS))) (va_Qv Q (fun u t => kP D q (wM aM q uM ++ wS aS q u) t) (kIn (wM aM q uM ++ wS aS q uS))) 0 0 (kIn (wM aM q uM ++ wS aS q uS)) := by
  refine Met.ofW (cc := cX4_copyWord) (maxL := 5) (ret := none) (by decide) rfl ?_
  intro p e s m args below meth c s₁ B hml hv
  obtain ⟨hargs, hP, hK, hD⟩ := hv
  have hx := B.exec
  have hb := B.bytes
  have hr := B.returns
  have hts := atoms_spec (ws := wsX4_copyWord) B.pre
  have hown : s.vm.findClass RX4 = some m.cls := findClass_of_methodNamed B.named
  have hlocks := B.notSynchronized
  have hD := kd_self hD
  generalize kIn (wM aM q uM ++ wS aS q uS) = A at hD ⊢
  have hS : va_S A s.heap s.heap [] := va_S.rf
  refine k_entry hargs (Nat.le_of_ble_eq_true rfl) (fun ls hl => ?_)
  have hl : lv_has ls 5 [(0, .ref (aS 0)), (1, .ref (aM 0)), (2, .int x2), (3, .int x3)] := hl
  change W p l e rmX4_copyWord s m args below meth c s.heap [] 0 0 (MQ below (va_Qv Q (fun u t => kP D q (wM aM q uM ++ wS aS q u) t) A) args s 0 0 A) _
  unfold wpX4_copyWord at hf
  obtain ⟨H, hH⟩ : ∃ H, H = s.heap := ⟨_, rfl⟩
  obtain ⟨locs, hlocs⟩ : ∃ x : List Loc, x = [] := ⟨_, rfl⟩
  rw [← hH] at hP
  have hS : va_S A s.heap H locs := by rw [hH, hlocs]; exact hS
  rw [show W p l e rmX4_copyWord s m args below meth c s.heap [] 0 0 (MQ below (va_Qv Q (fun u t => kP D q (wM aM q uM ++ wS aS q u) t) A) args s 0 0 A) (F0 m 0 ls []) = W p l e rmX4_copyWord s m args below meth c H locs 0 0 (MQ below (va_Qv Q (fun u t => kP D q (wM aM q uM ++ wS aS q u) t) A) args s 0 0 A) (F0 m 0 ls []) by rw [hH, hlocs]]
  clear hH hlocs
  have hf := hf
    (fun (y4 : Int32) (tS : SSt) => ∀ (H : Heap) (locs : List Loc) (ls : Array Slot), va_P D vwCl (wM aM q uM ++ wS aS q tS) H → va_D A (wM aM q uM ++ wS aS q tS) → va_S A s.heap H locs → lv_has ls 5 [(0, .ref (aS 0)), (1, .ref (aM 0)), (2, .int x2), (4, .int y4)] → W p l e rmX4_copyWord s m args below meth c H locs 0 0 (MQ below (va_Qv Q (fun u t => kP D q (wM aM q uM ++ wS aS q u) t) A) args s 0 0 A) (F0 m 10 ls []))
    (by
      intro y4 tS hf H locs ls hP hD hS hl
      refine lv_iload hx hb dX4_copyWord_10 (lv_at hl 3 rfl) ?_
      refine lv_iload_n hx hb dX4_copyWord_12 rfl (lv_at hl 2 rfl) ?_
      refine lv_icmp_ge (tgt := 32) hx hb dX4_copyWord_13 (by decide) (fun c2 => ?_) (fun c2 => ?_)
      · have hf := hf.1 (c2)
        exact k_vret_w (wf := (fun u => wM aM q uM ++ wS aS q u)) (post := Q) (u := tS) hx hb hr hlocks hK hP hD hS hf dX4_copyWord_32
      · have hf := hf.2 (c2)
        refine lv_aload_n hx hb dX4_copyWord_16 rfl (lv_at hl 0 rfl) ?_
        refine lv_aload_n hx hb dX4_copyWord_17 rfl (lv_at hl 1 rfl) ?_
        refine lv_iload hx hb dX4_copyWord_18 (lv_at hl 3 rfl) ?_
        refine k_si (k_runV (As := [.int y4]) (rest := [.ref (aS 0)]) ⟨hx, hb, hml, hown, hts⟩ (cF_X2_letterAt l D q aM uM y4) (cwV 1 hts gX4_copyWord_X2_letterAt rfl rfl rfl cdX2_letterAt ⟨Nat.le_of_ble_eq_true rfl, Nat.le_of_ble_eq_true rfl⟩) hK (kp_l (a := wM aM q uM) (b := wS aS q tS) hP) (kd_l (a := wM aM q uM) (b := wS aS q tS) hD) 0 rfl rfl rfl hl.1 rfl (Nat.le_of_ble_eq_true rfl) dX4_copyWord_20 ⟨Nat.le_of_ble_eq_true rfl, Nat.le_of_ble_eq_true rfl⟩) (fun r hr => ?_)
        subst hr
        refine k_wv (wf := fun u => wS aS q u) (u0 := tS) (k_runV (As := [.int (fX2_letterAt uM y4)]) (rest := []) ⟨hx, hb, hml, hown, hts⟩ (cF_X4_addLetter l D q aS tS (fX2_letterAt uM y4)) (cwV 1 hts gX4_copyWord_X4_addLetter rfl rfl rfl cdX4_addLetter ⟨Nat.le_of_ble_eq_true rfl, Nat.le_of_ble_eq_true rfl⟩) hK (kp_r hP) (kd_r hD) 0 rfl rfl rfl hl.1 rfl (Nat.le_of_ble_eq_true rfl) dX4_copyWord_23 ⟨Nat.le_of_ble_eq_true rfl, Nat.le_of_ble_eq_true rfl⟩) (wM aM q uM) ([]) (fun _ => rfl) hP hD hS (fun u H locs hu hP hD hS => ?_)
        subst hu
        have hP : va_P D vwCl (wM aM q uM ++ wS aS q (fX4_addLetter tS (fX2_letterAt uM y4))) H := hP
        have hD : va_D A (wM aM q uM ++ wS aS q (fX4_addLetter tS (fX2_letterAt uM y4))) := hD
        refine lv_iinc (v := (y4 + 1)) (lv' := [(4, .int (y4 + 1)), (0, .ref (aS 0)), (1, .ref (aM 0)), (2, .int x2)]) hx hb dX4_copyWord_26 hl (k := 3) rfl rfl (by decide) rfl (fun ls hl => ?_)
        refine lv_goto (tgt := 10) hx hb dX4_copyWord_29 (by decide) ?_
        exact hf H locs ls hP hD hS (lv_sub hl [1, 2, 3, 0] rfl))
  refine lv_aload_n hx hb dX4_copyWord_0 rfl (lv_at hl 0 rfl) ?_
  refine lv_iconst (v := 0) hx hb dX4_copyWord_1 (by decide) ?_
  refine k_wv (wf := fun u => wS aS q u) (u0 := uS) (k_runV (As := [.int 0]) (rest := []) ⟨hx, hb, hml, hown, hts⟩ (c_X4_layOut l D q aS uS 0 _ hf) (cwV 1 hts gX4_copyWord_X4_layOut rfl rfl rfl cdX4_layOut ⟨Nat.le_of_ble_eq_true rfl, Nat.le_of_ble_eq_true rfl⟩) hK (kp_r hP) (kd_r hD) 0 rfl rfl rfl hl.1 rfl (Nat.le_of_ble_eq_true rfl) dX4_copyWord_2 ⟨Nat.le_of_ble_eq_true rfl, Nat.le_of_ble_eq_true rfl⟩) (wM aM q uM) ([]) (fun _ => rfl) hP hD hS (fun uS1 H locs hf hP hD hS => ?_)
  have hP : va_P D vwCl (wM aM q uM ++ wS aS q uS1) H := hP
  have hD : va_D A (wM aM q uM ++ wS aS q uS1) := hD
  refine lv_iload_n hx hb dX4_copyWord_5 rfl (lv_at hl 2 rfl) ?_
  refine lv_iload_n hx hb dX4_copyWord_6 rfl (lv_at hl 3 rfl) ?_
  refine lv_isub hx hb dX4_copyWord_7 ?_
  refine lv_istore (lv' := [(4, .int (x2 - x3)), (0, .ref (aS 0)), (1, .ref (aM 0)), (2, .int x2), (3, .int x3)]) hx hb dX4_copyWord_8 hl (by decide) rfl (fun ls hl => ?_)
  exact hf H locs ls hP hD hS (lv_sub hl [1, 2, 3, 0] rfl)
