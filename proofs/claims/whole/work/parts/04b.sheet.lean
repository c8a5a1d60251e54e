def wpX4_signAt (uS : SSt) (x1 : Int32) (Q : Int32 → Prop) : Prop :=
  Q (kAt 64 (gS_signs uS) x1)
def rmX4_signAt : Room := { frames := 1, cells := 0, slots := 0, locals := 21 }
theorem inX4_signAt_X4 : ∀ w ∈ wsX40, w ∈ wsX4_signAt := fun w h => List.mem_cons_of_mem _ (List.mem_append_right _ h)
set_option maxRecDepth 100000 in
set_option maxHeartbeats 4000000 in
theorem c_X4_signAt (l : Launch) (D : va_G) (q : Nat → ClassId) (aS : Nat → Nat) (uS : SSt) (x1 : Int32) (Q : Int32 → Prop) (hf : wpX4_signAt uS x1 Q) : Met l yX4_signAt wsX4_signAt rmX4_signAt (va_Pc [.ref (aS 0), .int x1] (kP D q (wS aS q uS))) (vp_Si Q) 0 0 (fun _ => False) := by
  refine Met.ofW (cc := cX4_signAt) (maxL := 2) (ret := (some .int)) (by decide) rfl ?_
  intro p e s m args below meth c s₁ B hml hv
  obtain ⟨hargs, hP, hK, hD⟩ := hv
  have hx := B.exec
  have hb := B.bytes
  have hr := B.returns
  have hts := atoms_spec (ws := wsX4_signAt) B.pre
  have hown : s.vm.findClass RX4 = some m.cls := findClass_of_methodNamed B.named
  have hlocks := B.notSynchronized
  refine k_entry hargs (Nat.le_of_ble_eq_true rfl) (fun ls hl => ?_)
  have hl : lv_has ls 2 [(0, .ref (aS 0)), (1, .int x1)] := hl
  change W p l e rmX4_signAt s m args below meth c s.heap [] 0 0 (MQ below (vp_Si Q) args s 0 0 (fun _ => False)) _
  unfold wpX4_signAt at hf
  refine lv_aload_n hx hb dX4_signAt_0 rfl (lv_at hl 0 rfl) ?_
  refine va_get (D := D) (ci := 2) (v := .ref (aS 1)) (C := RX4) (T := TX4) (N := 3) hx hb hts inX4_signAt_X4 hown hK hP 0 rfl rfl 0 (by decide) (hts (.fieldLink RX4 9 "GrowingText$Sheet" "signs" "[I") (List.mem_of_getElem? (i := 1) rfl)) (fun _ h9 => h9) rfl dX4_signAt_1 ?_
  refine lv_iload_n hx hb dX4_signAt_4 rfl (lv_at hl 1 rfl) ?_
  refine k_si (k_runS (As := [.ref (aS 1), .int x1]) (rest := []) ⟨hx, hb, hml, hown, hts⟩ (c_X3_at l D q (aS 1) 64 (gS_signs uS) x1 (Nat.le_of_ble_eq_true rfl)) (va_cwS 2 hts gX4_signAt_X3_at rfl rfl rfl cdX3_at ⟨Nat.le_of_ble_eq_true rfl, Nat.le_of_ble_eq_true rfl⟩) hK (kp_1 hP 1 rfl) (kd_1 hD 1 rfl) rfl hl.1 rfl (Nat.le_of_ble_eq_true rfl) dX4_signAt_5 ⟨Nat.le_of_ble_eq_true rfl, Nat.le_of_ble_eq_true rfl⟩) (fun r hr => ?_)
  subst hr
  exact k_iret_r (v := (kAt 64 (gS_signs uS) x1)) hx hb hr hlocks hf dX4_signAt_8
def fX4_signAt (uS : SSt) (x1 : Int32) : Int32 := (kAt 64 (gS_signs uS) x1)
theorem pF_X4_signAt (uS : SSt) (x1 : Int32) (Q : Int32 → Prop) (hq : Q (fX4_signAt uS x1)) : wpX4_signAt uS x1 Q := by
  unfold fX4_signAt at hq; unfold wpX4_signAt; exact hq
theorem cF_X4_signAt (l : Launch) (D : va_G) (q : Nat → ClassId) (aS : Nat → Nat) (uS : SSt) (x1 : Int32) : Met l yX4_signAt wsX4_signAt rmX4_signAt (va_Pc [.ref (aS 0), .int x1] (kP D q (wS aS q uS))) (vp_Si (fun r => r = fX4_signAt uS x1)) 0 0 (fun _ => False) := c_X4_signAt l D q aS uS x1 _ (pF_X4_signAt uS x1 _ rfl)
def wpX4_letterAt (uS : SSt) (x1 : Int32) (Q : Int32 → Prop) : Prop :=
  Q ((fX4_signAt uS x1) - 97)
def rmX4_letterAt : Room := { frames := 2, cells := 0, slots := 0, locals := 42 }
set_option maxRecDepth 100000 in
set_option maxHeartbeats 4000000 in
theorem c_X4_letterAt (l : Launch) (D : va_G) (q : Nat → ClassId) (aS : Nat → Nat) (uS : SSt) (x1 : Int32) (Q : Int32 → Prop) (hf : wpX4_letterAt uS x1 Q) : Met l yX4_letterAt wsX4_letterAt rmX4_letterAt (va_Pc [.ref (aS 0), .int x1] (kP D q (wS aS q uS))) (vp_Si Q) 0 0 (fun _ => False) := by
  refine Met.ofW (cc := cX4_letterAt) (maxL := 2) (ret := (some .int)) (by decide) rfl ?_
  intro p e s m args below meth c s₁ B hml hv
  obtain ⟨hargs, hP, hK, hD⟩ := hv
  have hx := B.exec
  have hb := B.bytes
  have hr := B.returns
  have hts := atoms_spec (ws := wsX4_letterAt) B.pre
  have hown : s.vm.findClass RX4 = some m.cls := findClass_of_methodNamed B.named
  have hlocks := B.notSynchronized
  refine k_entry hargs (Nat.le_of_ble_eq_true rfl) (fun ls hl => ?_)
  have hl : lv_has ls 2 [(0, .ref (aS 0)), (1, .int x1)] := hl
  change W p l e rmX4_letterAt s m args below meth c s.heap [] 0 0 (MQ below (vp_Si Q) args s 0 0 (fun _ => False)) _
  unfold wpX4_letterAt at hf
  refine lv_aload_n hx hb dX4_letterAt_0 rfl (lv_at hl 0 rfl) ?_
  refine lv_iload_n hx hb dX4_letterAt_1 rfl (lv_at hl 1 rfl) ?_
  refine k_si (k_runV (As := [.int x1]) (rest := []) ⟨hx, hb, hml, hown, hts⟩ (cF_X4_signAt l D q aS uS x1) (cwV 1 hts gX4_letterAt_X4_signAt rfl rfl rfl cdX4_signAt ⟨Nat.le_of_ble_eq_true rfl, Nat.le_of_ble_eq_true rfl⟩) hK hP hD 0 rfl rfl rfl hl.1 rfl (Nat.le_of_ble_eq_true rfl) dX4_letterAt_2 ⟨Nat.le_of_ble_eq_true rfl, Nat.le_of_ble_eq_true rfl⟩) (fun r hr => ?_)
  subst hr
  refine lv_bipush (v := 97) hx hb dX4_letterAt_5 (by decide) ?_
  refine lv_isub hx hb dX4_letterAt_7 ?_
  exact k_iret_r (v := ((fX4_signAt uS x1) - 97)) hx hb hr hlocks hf dX4_letterAt_8
def fX4_letterAt (uS : SSt) (x1 : Int32) : Int32 := ((fX4_signAt uS x1) - 97)
theorem pF_X4_letterAt (uS : SSt) (x1 : Int32) (Q : Int32 → Prop) (hq : Q (fX4_letterAt uS x1)) : wpX4_letterAt uS x1 Q := by
  unfold fX4_letterAt at hq; unfold wpX4_letterAt; exact hq
theorem cF_X4_letterAt (l : Launch) (D : va_G) (q : Nat → ClassId) (aS : Nat → Nat) (uS : SSt) (x1 : Int32) : Met l yX4_letterAt wsX4_letterAt rmX4_letterAt (va_Pc [.ref (aS 0), .int x1] (kP D q (wS aS q uS))) (vp_Si (fun r => r = fX4_letterAt uS x1)) 0 0 (fun _ => False) := c_X4_letterAt l D q aS uS x1 _ (pF_X4_letterAt uS x1 _ rfl)
def wpX4_write (uS : SSt) (x1 : Int32) (x2 : Int32) (Q : SSt → Prop) : Prop :=
  Q (gS_set_signs uS (kPut 64 (gS_signs uS) x1 x2))
def rmX4_write : Room := { frames := 1, cells := 0, slots := 0, locals := 22 }
theorem inX4_write_X4 : ∀ w ∈ wsX40, w ∈ wsX4_write := fun w h => List.mem_cons_of_mem _ (List.mem_append_right _ h)
set_option maxRecDepth 100000 in
set_option maxHeartbeats 4000000 in
theorem c_X4_write (l : Launch) (D : va_G) (q : Nat → ClassId) (aS : Nat → Nat) (uS : SSt) (x1 : Int32) (x2 : Int32) (Q : SSt → Prop) (hf : wpX4_write uS x1 x2 Q) : Met l yX4_write wsX4_write rmX4_write (va_Pc [.ref (aS 0), .int x1, .int x2] (kP D q (wS aS q uS))) (va_Qv Q (fun u t => kP D q (wS aS q u) t) (kIn (wS aS q uS))) 0 0 (kIn (wS aS q uS)) := by
  refine Met.ofW (cc := cX4_write) (maxL := 3) (ret := none) (by decide) rfl ?_
  intro p e s m args below meth c s₁ B hml hv
  obtain ⟨hargs, hP, hK, hD⟩ := hv
  have hx := B.exec
  have hb := B.bytes
  have hr := B.returns
  have hts := atoms_spec (ws := wsX4_write) B.pre
  have hown : s.vm.findClass RX4 = some m.cls := findClass_of_methodNamed B.named
  have hlocks := B.notSynchronized
  have hD := kd_self hD
  generalize kIn (wS aS q uS) = A at hD ⊢
  have hS : va_S A s.heap s.heap [] := va_S.rf
  refine k_entry hargs (Nat.le_of_ble_eq_true rfl) (fun ls hl => ?_)
  have hl : lv_has ls 3 [(0, .ref (aS 0)), (1, .int x1), (2, .int x2)] := hl
  change W p l e rmX4_write s m args below meth c s.heap [] 0 0 (MQ below (va_Qv Q (fun u t => kP D q (wS aS q u) t) A) args s 0 0 A) _
  unfold wpX4_write at hf
  obtain ⟨H, hH⟩ : ∃ H, H = s.heap := ⟨_, rfl⟩
  obtain ⟨locs, hlocs⟩ : ∃ x : List Loc, x = [] := ⟨_, rfl⟩
  rw [← hH] at hP
  have hS : va_S A s.heap H locs := by rw [hH, hlocs]; exact hS
  rw [show W p l e rmX4_write s m args below meth c s.heap [] 0 0 (MQ below (va_Qv Q (fun u t => kP D q (wS aS q u) t) A) args s 0 0 A) (F0 m 0 ls []) = W p l e rmX4_write s m args below meth c H locs 0 0 (MQ below (va_Qv Q (fun u t => kP D q (wS aS q u) t) A) args s 0 0 A) (F0 m 0 ls []) by rw [hH, hlocs]]
  clear hH hlocs
  refine lv_aload_n hx hb dX4_write_0 rfl (lv_at hl 0 rfl) ?_
  refine va_get (D := D) (ci := 2) (v := .ref (aS 1)) (C := RX4) (T := TX4) (N := 3) hx hb hts inX4_write_X4 hown hK hP 0 rfl rfl 0 (by decide) (hts (.fieldLink RX4 9 "GrowingText$Sheet" "signs" "[I") (List.mem_of_getElem? (i := 1) rfl)) (fun _ h9 => h9) rfl dX4_write_1 ?_
  refine lv_iload_n hx hb dX4_write_4 rfl (lv_at hl 1 rfl) ?_
  refine lv_iload_n hx hb dX4_write_5 rfl (lv_at hl 2 rfl) ?_
  refine k_wp (k := 1) (k_runS (As := [.ref (aS 1), .int x1, .int x2]) (rest := []) ⟨hx, hb, hml, hown, hts⟩ (c_X3_put l D q (aS 1) 64 (gS_signs uS) x1 x2 (Nat.le_of_ble_eq_true rfl)) (va_cwS 3 hts gX4_write_X3_put rfl rfl rfl cdX3_put ⟨Nat.le_of_ble_eq_true rfl, Nat.le_of_ble_eq_true rfl⟩) hK (kp_1 hP 1 rfl) (kd_1 hD 1 rfl) rfl hl.1 rfl (Nat.le_of_ble_eq_true rfl) dX4_write_6 ⟨Nat.le_of_ble_eq_true rfl, Nat.le_of_ble_eq_true rfl⟩) rfl rfl hP hD hS (fun H locs _ hP hD hS => ?_)
  have hP : va_P D vwCl (wS aS q (gS_set_signs uS (kPut 64 (gS_signs uS) x1 x2))) H := hP
  have hD : va_D A (wS aS q (gS_set_signs uS (kPut 64 (gS_signs uS) x1 x2))) := hD
  exact k_vret_w (wf := (fun u => wS aS q u)) (post := Q) (u := (gS_set_signs uS (kPut 64 (gS_signs uS) x1 x2))) hx hb hr hlocks hK hP hD hS hf dX4_write_9
def fX4_write (uS : SSt) (x1 : Int32) (x2 : Int32) : SSt := (gS_set_signs uS (kPut 64 (gS_signs uS) x1 x2))
theorem pF_X4_write (uS : SSt) (x1 : Int32) (x2 : Int32) (Q : SSt → Prop) (hq : Q (fX4_write uS x1 x2)) : wpX4_write uS x1 x2 Q := by
  unfold fX4_write at hq; unfold wpX4_write; exact hq
theorem cF_X4_write (l : Launch) (D : va_G) (q : Nat → ClassId) (aS : Nat → Nat) (uS : SSt) (x1 : Int32) (x2 : Int32) : Met l yX4_write wsX4_write rmX4_write (va_Pc [.ref (aS 0), .int x1, .int x2] (kP D q (wS aS q uS))) (va_Qv (fun u => u = fX4_write uS x1 x2) (fun u t => kP D q (wS aS q u) t) (kIn (wS aS q uS))) 0 0 (kIn (wS aS q uS)) := c_X4_write l D q aS uS x1 x2 _ (pF_X4_write uS x1 x2 _ rfl)
def wpX4_layOut (uS : SSt) (x1 : Int32) (Q : SSt → Prop) : Prop :=
  ∀ (X12 : Int32 → SSt → Prop),
  (∀ (y2 : Int32) (tS : SSt),
    ((x1 ≤ y2 →
      Q tS) ∧
    (¬ (x1 ≤ y2) →
      X12 (y2 + 1) (fX4_write tS y2 97))) → X12 y2 tS) →
  X12 0 (gS_set_length (gS_set_there uS 1) x1)
def rmX4_layOut : Room := { frames := 2, cells := 0, slots := 0, locals := 44 }
theorem inX4_layOut_X4 : ∀ w ∈ wsX40, w ∈ wsX4_layOut := fun w h => List.mem_cons_of_mem _ (List.mem_append_right _ h)
set_option maxRecDepth 100000 in
set_option maxHeartbeats 4000000 in
theorem c_X4_layOut (l : Launch) (D : va_G) (q : Nat → ClassId) (aS : Nat → Nat) (uS : SSt) (x1 : Int32) (Q : SSt → Prop) (hf : wpX4_layOut uS x1 Q) : Met l yX4_layOut wsX4_layOut rmX4_layOut (va_Pc [.ref (aS 0), .int x1] (kP D q (wS aS q uS))) (va_Qv Q (fun u t => kP D q (wS aS q u) t) (kIn (wS aS q uS))) 0 0 (kIn (wS aS q uS)) := by
  refine Met.ofW (cc := cX4_layOut) (maxL := 3) (ret := none) (by decide) rfl ?_
  intro p e s m args below meth c s₁ B hml hv
  obtain ⟨hargs, hP, hK, hD⟩ := hv
  have hx := B.exec
  have hb := B.bytes
  have hr := B.returns
  have hts := atoms_spec (ws := wsX4_layOut) B.pre
  have hown : s.vm.findClass RX4 = some m.cls := findClass_of_methodNamed B.named
  have hlocks := B.notSynchronized
  have hD := kd_self hD
  generalize kIn (wS aS q uS) = A at hD ⊢
  have hS : va_S A s.heap s.heap [] := va_S.rf
  refine k_entry hargs (Nat.le_of_ble_eq_true rfl) (fun ls hl => ?_)
  have hl : lv_has ls 3 [(0, .ref (aS 0)), (1, .int x1)] := hl
  change W p l e rmX4_layOut s m args below meth c s.heap [] 0 0 (MQ below (va_Qv Q (fun u t => kP D q (wS aS q u) t) A) args s 0 0 A) _
  unfold wpX4_layOut at hf
  obtain ⟨H, hH⟩ : ∃ H, H = s.heap := ⟨_, rfl⟩
  obtain ⟨locs, hlocs⟩ : ∃ x : List Loc, x = [] := ⟨_, rfl⟩
  rw [← hH] at hP
  have hS : va_S A s.heap H locs := by rw [hH, hlocs]; exact hS
  rw [show W p l e rmX4_layOut s m args below meth c s.heap [] 0 0 (MQ below (va_Qv Q (fun u t => kP D q (wS aS q u) t) A) args s 0 0 A) (F0 m 0 ls []) = W p l e rmX4_layOut s m args below meth c H locs 0 0 (MQ below (va_Qv Q (fun u t => kP D q (wS aS q u) t) A) args s 0 0 A) (F0 m 0 ls []) by rw [hH, hlocs]]
  clear hH hlocs
  have hf := hf
    (fun (y2 : Int32) (tS : SSt) => ∀ (H : Heap) (locs : List Loc) (ls : Array Slot), va_P D vwCl (wS aS q tS) H → va_D A (wS aS q tS) → va_S A s.heap H locs → lv_has ls 3 [(0, .ref (aS 0)), (1, .int x1), (2, .int y2)] → W p l e rmX4_layOut s m args below meth c H locs 0 0 (MQ below (va_Qv Q (fun u t => kP D q (wS aS q u) t) A) args s 0 0 A) (F0 m 12 ls []))
    (by
      intro y2 tS hf H locs ls hP hD hS hl
      refine lv_iload_n hx hb dX4_layOut_12 rfl (lv_at hl 2 rfl) ?_
      refine lv_iload_n hx hb dX4_layOut_13 rfl (lv_at hl 1 rfl) ?_
      refine lv_icmp_ge (tgt := 30) hx hb dX4_layOut_14 (by decide) (fun c1 => ?_) (fun c1 => ?_)
      · have hf := hf.1 (c1)
        exact k_vret_w (wf := (fun u => wS aS q u)) (post := Q) (u := tS) hx hb hr hlocks hK hP hD hS hf dX4_layOut_30
      · have hf := hf.2 (c1)
        refine lv_aload_n hx hb dX4_layOut_17 rfl (lv_at hl 0 rfl) ?_
        refine lv_iload_n hx hb dX4_layOut_18 rfl (lv_at hl 2 rfl) ?_
        refine lv_bipush (v := 97) hx hb dX4_layOut_19 (by decide) ?_
        refine k_wv (wf := fun u => wS aS q u) (u0 := tS) (k_runV (As := [.int y2, .int 97]) (rest := []) ⟨hx, hb, hml, hown, hts⟩ (cF_X4_write l D q aS tS y2 97) (cwV 2 hts gX4_layOut_X4_write rfl rfl rfl cdX4_write ⟨Nat.le_of_ble_eq_true rfl, Nat.le_of_ble_eq_true rfl⟩) hK hP hD 0 rfl rfl rfl hl.1 rfl (Nat.le_of_ble_eq_true rfl) dX4_layOut_21 ⟨Nat.le_of_ble_eq_true rfl, Nat.le_of_ble_eq_true rfl⟩) ([]) ([]) (fun _ => rfl) hP hD hS (fun u H locs hu hP hD hS => ?_)
        subst hu
        have hP : va_P D vwCl (wS aS q (fX4_write tS y2 97)) H := hP
        have hD : va_D A (wS aS q (fX4_write tS y2 97)) := hD
        refine lv_iinc (v := (y2 + 1)) (lv' := [(2, .int (y2 + 1)), (0, .ref (aS 0)), (1, .int x1)]) hx hb dX4_layOut_24 hl (k := 2) rfl rfl (by decide) rfl (fun ls hl => ?_)
        refine lv_goto (tgt := 12) hx hb dX4_layOut_27 (by decide) ?_
        exact hf H locs ls hP hD hS (lv_sub hl [1, 2, 0] rfl))
  refine lv_aload_n hx hb dX4_layOut_0 rfl (lv_at hl 0 rfl) ?_
  refine lv_iconst (v := 1) hx hb dX4_layOut_1 (by decide) ?_
  refine va_put (D := D) (ci := 2) (v := .int 1) (ty := .boolean) (C := RX4) (T := TX4) (N := 3) hx hb hts inX4_layOut_X4 tyX4 tyX4_ok nmX4 hown hK hP hD hS 0 rfl rfl 1 (by decide) (hts (.fieldLink RX4 15 "GrowingText$Sheet" "there" "Z") (List.mem_of_getElem? (i := 1) rfl)) (fun _ h9 => h9) rfl (by decide +kernel) rfl rfl (Nat.le_of_ble_eq_true rfl) dX4_layOut_2 (fun H locs hP hD hS => ?_)
  have hP : va_P D vwCl (wS aS q (gS_set_there uS 1)) H := hP
  have hD : va_D A (wS aS q (gS_set_there uS 1)) := hD
  refine lv_aload_n hx hb dX4_layOut_5 rfl (lv_at hl 0 rfl) ?_
  refine lv_iload_n hx hb dX4_layOut_6 rfl (lv_at hl 1 rfl) ?_
  refine va_put (D := D) (ci := 2) (v := .int x1) (ty := .int) (C := RX4) (T := TX4) (N := 3) hx hb hts inX4_layOut_X4 tyX4 tyX4_ok nmX4 hown hK hP hD hS 0 rfl rfl 2 (by decide) (hts (.fieldLink RX4 19 "GrowingText$Sheet" "length" "I") (List.mem_of_getElem? (i := 2) rfl)) (fun _ h9 => h9) rfl (by decide +kernel) rfl rfl (Nat.le_of_ble_eq_true rfl) dX4_layOut_7 (fun H locs hP hD hS => ?_)
  have hP : va_P D vwCl (wS aS q (gS_set_length (gS_set_there uS 1) x1)) H := hP
  have hD : va_D A (wS aS q (gS_set_length (gS_set_there uS 1) x1)) := hD
  refine lv_iconst (v := 0) hx hb dX4_layOut_10 (by decide) ?_
  refine lv_istore_n (lv' := [(2, .int 0), (0, .ref (aS 0)), (1, .int x1)]) hx hb dX4_layOut_11 rfl hl (by decide) rfl (fun ls hl => ?_)
  exact hf H locs ls hP hD hS (lv_sub hl [1, 2, 0] rfl)
def wpX4_takeAway (uS : SSt) (Q : SSt → Prop) : Prop :=
  Q (gS_set_length (gS_set_there uS 0) 0)
def rmX4_takeAway : Room := { frames := 0, cells := 0, slots := 0, locals := 0 }
theorem inX4_takeAway_X4 : ∀ w ∈ wsX40, w ∈ wsX4_takeAway := fun w h => List.mem_cons_of_mem _ (List.mem_append_right _ h)
set_option maxRecDepth 100000 in
set_option maxHeartbeats 4000000 in
theorem c_X4_takeAway (l : Launch) (D : va_G) (q : Nat → ClassId) (aS : Nat → Nat) (uS : SSt) (Q : SSt → Prop) (hf : wpX4_takeAway uS Q) : Met l yX4_takeAway wsX4_takeAway rmX4_takeAway (va_Pc [.ref (aS 0)] (kP D q (wS aS q uS))) (va_Qv Q (fun u t => kP D q (wS aS q u) t) (kIn (wS aS q uS))) 0 0 (kIn (wS aS q uS)) := by
  refine Met.ofW (cc := cX4_takeAway) (maxL := 1) (ret := none) (by decide) rfl ?_
  intro p e s m args below meth c s₁ B hml hv
  obtain ⟨hargs, hP, hK, hD⟩ := hv
  have hx := B.exec
  have hb := B.bytes
  have hr := B.returns
  have hts := atoms_spec (ws := wsX4_takeAway) B.pre
  have hown : s.vm.findClass RX4 = some m.cls := findClass_of_methodNamed B.named
  have hlocks := B.notSynchronized
  have hD := kd_self hD
  generalize kIn (wS aS q uS) = A at hD ⊢
  have hS : va_S A s.heap s.heap [] := va_S.rf
  refine k_entry hargs (Nat.le_of_ble_eq_true rfl) (fun ls hl => ?_)
  have hl : lv_has ls 1 [(0, .ref (aS 0))] := hl
  change W p l e rmX4_takeAway s m args below meth c s.heap [] 0 0 (MQ below (va_Qv Q (fun u t => kP D q (wS aS q u) t) A) args s 0 0 A) _
  unfold wpX4_takeAway at hf
  obtain ⟨H, hH⟩ : ∃ H, H = s.heap := ⟨_, rfl⟩
  obtain ⟨locs, hlocs⟩ : ∃ x : List Loc, x = [] := ⟨_, rfl⟩
  rw [← hH] at hP
  have hS : va_S A s.heap H locs := by rw [hH, hlocs]; exact hS
  rw [show W p l e rmX4_takeAway s m args below meth c s.heap [] 0 0 (MQ below (va_Qv Q (fun u t => kP D q (wS aS q u) t) A) args s 0 0 A) (F0 m 0 ls []) = W p l e rmX4_takeAway s m args below meth c H locs 0 0 (MQ below (va_Qv Q (fun u t => kP D q (wS aS q u) t) A) args s 0 0 A) (F0 m 0 ls []) by rw [hH, hlocs]]
  clear hH hlocs
  refine lv_aload_n hx hb dX4_takeAway_0 rfl (lv_at hl 0 rfl) ?_
  refine lv_iconst (v := 0) hx hb dX4_takeAway_1 (by decide) ?_
  refine va_put (D := D) (ci := 2) (v := .int 0) (ty := .boolean) (C := RX4) (T := TX4) (N := 3) hx hb hts inX4_takeAway_X4 tyX4 tyX4_ok nmX4 hown hK hP hD hS 0 rfl rfl 1 (by decide) (hts (.fieldLink RX4 15 "GrowingText$Sheet" "there" "Z") (List.mem_of_getElem? (i := 1) rfl)) (fun _ h9 => h9) rfl (by decide +kernel) rfl rfl (Nat.le_of_ble_eq_true rfl) dX4_takeAway_2 (fun H locs hP hD hS => ?_)
  have hP : va_P D vwCl (wS aS q (gS_set_there uS 0)) H := hP
  have hD : va_D A (wS aS q (gS_set_there uS 0)) := hD
  refine lv_aload_n hx hb dX4_takeAway_5 rfl (lv_at hl 0 rfl) ?_
  refine lv_iconst (v := 0) hx hb dX4_takeAway_6 (by decide) ?_
  refine va_put (D := D) (ci := 2) (v := .int 0) (ty := .int) (C := RX4) (T := TX4) (N := 3) hx hb hts inX4_takeAway_X4 tyX4 tyX4_ok nmX4 hown hK hP hD hS 0 rfl rfl 2 (by decide) (hts (.fieldLink RX4 19 "GrowingText$Sheet" "length" "I") (List.mem_of_getElem? (i := 2) rfl)) (fun _ h9 => h9) rfl (by decide +kernel) rfl rfl (Nat.le_of_ble_eq_true rfl) dX4_takeAway_7 (fun H locs hP hD hS => ?_)
  have hP : va_P D vwCl (wS aS q (gS_set_length (gS_set_there uS 0) 0)) H := hP
  have hD : va_D A (wS aS q (gS_set_length (gS_set_there uS 0) 0)) := hD
  exact k_vret_w (wf := (fun u => wS aS q u)) (post := Q) (u := (gS_set_length (gS_set_there uS 0) 0)) hx hb hr hlocks hK hP hD hS hf dX4_takeAway_10
def fX4_takeAway (uS : SSt) : SSt := (gS_set_length (gS_set_there uS 0) 0)
theorem pF_X4_takeAway (uS : SSt) (Q : SSt → Prop) (hq : Q (fX4_takeAway uS )) : wpX4_takeAway uS Q := by
  unfold fX4_takeAway at hq; unfold wpX4_takeAway; exact hq
theorem cF_X4_takeAway (l : Launch) (D : va_G) (q : Nat → ClassId) (aS : Nat → Nat) (uS : SSt) : Met l yX4_takeAway wsX4_takeAway rmX4_takeAway (va_Pc [.ref (aS 0)] (kP D q (wS aS q uS))) (va_Qv (fun u => u = fX4_takeAway uS ) (fun u t => kP D q (wS aS q u) t) (kIn (wS aS q uS))) 0 0 (kIn (wS aS q uS)) := c_X4_takeAway l D q aS uS _ (pF_X4_takeAway uS _ rfl)
def wpX4_hasPlace (uS : SSt) (x1 : Int32) (Q : Int32 → Prop) : Prop :=
  ((x1 < 0 →
    Q 0) ∧
  (¬ (x1 < 0) →
    ((gS_length uS) ≤ x1 →
      Q 0) ∧
    (¬ ((gS_length uS) ≤ x1) →
      Q 1)))
def rmX4_hasPlace : Room := { frames := 0, cells := 0, slots := 0, locals := 0 }
theorem inX4_hasPlace_X4 : ∀ w ∈ wsX40, w ∈ wsX4_hasPlace := fun w h => List.mem_cons_of_mem _ (List.mem_append_right _ h)
set_option maxRecDepth 100000 in
set_option maxHeartbeats 4000000 in
theorem c_X4_hasPlace (l : Launch) (D : va_G) (q : Nat → ClassId) (aS : Nat → Nat) (uS : SSt) (x1 : Int32) (Q : Int32 → Prop) (hf : wpX4_hasPlace uS x1 Q) : Met l yX4_hasPlace wsX4_hasPlace rmX4_hasPlace (va_Pc [.ref (aS 0), .int x1] (kP D q (wS aS q uS))) (vp_Si Q) 0 0 (fun _ => False) := by
  refine Met.ofW (cc := cX4_hasPlace) (maxL := 2) (ret := (some .boolean)) (by decide) rfl ?_
  intro p e s m args below meth c s₁ B hml hv
  obtain ⟨hargs, hP, hK, hD⟩ := hv
  have hx := B.exec
  have hb := B.bytes
  have hr := B.returns
  have hts := atoms_spec (ws := wsX4_hasPlace) B.pre
  have hown : s.vm.findClass RX4 = some m.cls := findClass_of_methodNamed B.named
  have hlocks := B.notSynchronized
  refine k_entry hargs (Nat.le_of_ble_eq_true rfl) (fun ls hl => ?_)
  have hl : lv_has ls 2 [(0, .ref (aS 0)), (1, .int x1)] := hl
  change W p l e rmX4_hasPlace s m args below meth c s.heap [] 0 0 (MQ below (vp_Si Q) args s 0 0 (fun _ => False)) _
  unfold wpX4_hasPlace at hf
  refine lv_iload_n hx hb dX4_hasPlace_0 rfl (lv_at hl 1 rfl) ?_
  refine lv_if_lt (tgt := 16) hx hb dX4_hasPlace_1 (by decide) (fun c1 => ?_) (fun c1 => ?_)
  · have hf := hf.1 (c1)
    refine lv_iconst (v := 0) hx hb dX4_hasPlace_16 (by decide) ?_
    exact k_zret_r (v := 0) hx hb hr rfl hlocks hf dX4_hasPlace_17
  · have hf := hf.2 (c1)
    refine lv_iload_n hx hb dX4_hasPlace_4 rfl (lv_at hl 1 rfl) ?_
    refine lv_aload_n hx hb dX4_hasPlace_5 rfl (lv_at hl 0 rfl) ?_
    refine va_get (D := D) (ci := 2) (v := .int (gS_length uS)) (C := RX4) (T := TX4) (N := 3) hx hb hts inX4_hasPlace_X4 hown hK hP 0 rfl rfl 2 (by decide) (hts (.fieldLink RX4 19 "GrowingText$Sheet" "length" "I") (List.mem_of_getElem? (i := 1) rfl)) (fun _ h9 => h9) rfl dX4_hasPlace_6 ?_
    refine lv_icmp_ge (tgt := 16) hx hb dX4_hasPlace_9 (by decide) (fun c2 => ?_) (fun c2 => ?_)
    · have hf := hf.1 (c2)
      refine lv_iconst (v := 0) hx hb dX4_hasPlace_16 (by decide) ?_
      exact k_zret_r (v := 0) hx hb hr rfl hlocks hf dX4_hasPlace_17
    · have hf := hf.2 (c2)
      refine lv_iconst (v := 1) hx hb dX4_hasPlace_12 (by decide) ?_
      refine lv_goto (tgt := 17) hx hb dX4_hasPlace_13 (by decide) ?_
      exact k_zret_r (v := 1) hx hb hr rfl hlocks hf dX4_hasPlace_17
def fX4_hasPlace (uS : SSt) (x1 : Int32) : Int32 := (if x1 < 0 then 0 else (if (gS_length uS) ≤ x1 then 0 else 1))
theorem pF_X4_hasPlace (uS : SSt) (x1 : Int32) (Q : Int32 → Prop) (hq : Q (fX4_hasPlace uS x1)) : wpX4_hasPlace uS x1 Q := by
  unfold fX4_hasPlace at hq; unfold wpX4_hasPlace; exact k_ite hq (fun hq => hq) (fun hq => k_ite hq (fun hq => hq) (fun hq => hq))
theorem cF_X4_hasPlace (l : Launch) (D : va_G) (q : Nat → ClassId) (aS : Nat → Nat) (uS : SSt) (x1 : Int32) : Met l yX4_hasPlace wsX4_hasPlace rmX4_hasPlace (va_Pc [.ref (aS 0), .int x1] (kP D q (wS aS q uS))) (vp_Si (fun r => r = fX4_hasPlace uS x1)) 0 0 (fun _ => False) := c_X4_hasPlace l D q aS uS x1 _ (pF_X4_hasPlace uS x1 _ rfl)
def wpX4_addLetter (uS : SSt) (x1 : Int32) (Q : SSt → Prop) : Prop :=
  (((64 : Int32) ≤ (gS_length uS) →
    Q uS) ∧
  (¬ ((64 : Int32) ≤ (gS_length uS)) →
    Q (gS_set_length (fX4_write uS (gS_length uS) (97 + x1)) ((gS_length (fX4_write uS (gS_length uS) (97 + x1))) + 1))))
def rmX4_addLetter : Room := { frames := 2, cells := 0, slots := 0, locals := 44 }
theorem inX4_addLetter_X4 : ∀ w ∈ wsX40, w ∈ wsX4_addLetter := fun w h => List.mem_cons_of_mem _ (List.mem_append_right _ h)
set_option maxRecDepth 100000 in
set_option maxHeartbeats 4000000 in
theorem c_X4_addLetter (l : Launch) (D : va_G) (q : Nat → ClassId) (aS : Nat → Nat) (uS : SSt) (x1 : Int32) (Q : SSt → Prop) (hf : wpX4_addLetter uS x1 Q) : Met l yX4_addLetter wsX4_addLetter rmX4_addLetter (va_Pc [.ref (aS 0), .int x1] (kP D q (wS aS q uS))) (va_Qv Q (fun u t => kP D q (wS aS q u) t) (kIn (wS aS q uS))) 0 0 (kIn (wS aS q uS)) := by
  refine Met.ofW (cc := cX4_addLetter) (maxL := 2) (ret := none) (by decide) rfl ?_
  intro p e s m args below meth c s₁ B hml hv
  obtain ⟨hargs, hP, hK, hD⟩ := hv
  have hx := B.exec
  have hb := B.bytes
  have hr := B.returns
  have hts := atoms_spec (ws := wsX4_addLetter) B.pre
  have hown : s.vm.findClass RX4 = some m.cls := findClass_of_methodNamed B.named
  have hlocks := B.notSynchronized
  have hD := kd_self hD
  generalize kIn (wS aS q uS) = A at hD ⊢
  have hS : va_S A s.heap s.heap [] := va_S.rf
  refine k_entry hargs (Nat.le_of_ble_eq_true rfl) (fun ls hl => ?_)
  have hl : lv_has ls 2 [(0, .ref (aS 0)), (1, .int x1)] := hl
  change W p l e rmX4_addLetter s m args below meth c s.heap [] 0 0 (MQ below (va_Qv Q (fun u t => kP D q (wS aS q u) t) A) args s 0 0 A) _
  unfold wpX4_addLetter at hf
  obtain ⟨H, hH⟩ : ∃ H, H = s.heap := ⟨_, rfl⟩
  obtain ⟨locs, hlocs⟩ : ∃ x : List Loc, x = [] := ⟨_, rfl⟩
  rw [← hH] at hP
  have hS : va_S A s.heap H locs := by rw [hH, hlocs]; exact hS
  rw [show W p l e rmX4_addLetter s m args below meth c s.heap [] 0 0 (MQ below (va_Qv Q (fun u t => kP D q (wS aS q u) t) A) args s 0 0 A) (F0 m 0 ls []) = W p l e rmX4_addLetter s m args below meth c H locs 0 0 (MQ below (va_Qv Q (fun u t => kP D q (wS aS q u) t) A) args s 0 0 A) (F0 m 0 ls []) by rw [hH, hlocs]]
  clear hH hlocs
  refine lv_aload_n hx hb dX4_addLetter_0 rfl (lv_at hl 0 rfl) ?_
  refine va_get (D := D) (ci := 2) (v := .int (gS_length uS)) (C := RX4) (T := TX4) (N := 3) hx hb hts inX4_addLetter_X4 hown hK hP 0 rfl rfl 2 (by decide) (hts (.fieldLink RX4 19 "GrowingText$Sheet" "length" "I") (List.mem_of_getElem? (i := 1) rfl)) (fun _ h9 => h9) rfl dX4_addLetter_1 ?_
  refine lv_bipush (v := 64) hx hb dX4_addLetter_4 (by decide) ?_
  refine lv_icmp_ge (tgt := 31) hx hb dX4_addLetter_6 (by decide) (fun c1 => ?_) (fun c1 => ?_)
  · have hf := hf.1 (c1)
    exact k_vret_w (wf := (fun u => wS aS q u)) (post := Q) (u := uS) hx hb hr hlocks hK hP hD hS hf dX4_addLetter_31
  · have hf := hf.2 (c1)
    refine lv_aload_n hx hb dX4_addLetter_9 rfl (lv_at hl 0 rfl) ?_
    refine lv_aload_n hx hb dX4_addLetter_10 rfl (lv_at hl 0 rfl) ?_
    refine va_get (D := D) (ci := 2) (v := .int (gS_length uS)) (C := RX4) (T := TX4) (N := 3) hx hb hts inX4_addLetter_X4 hown hK hP 0 rfl rfl 2 (by decide) (hts (.fieldLink RX4 19 "GrowingText$Sheet" "length" "I") (List.mem_of_getElem? (i := 1) rfl)) (fun _ h9 => h9) rfl dX4_addLetter_11 ?_
    refine lv_bipush (v := 97) hx hb dX4_addLetter_14 (by decide) ?_
    refine lv_iload_n hx hb dX4_addLetter_16 rfl (lv_at hl 1 rfl) ?_
    refine lv_iadd hx hb dX4_addLetter_17 ?_
    refine k_wv (wf := fun u => wS aS q u) (u0 := uS) (k_runV (As := [.int (gS_length uS), .int (97 + x1)]) (rest := []) ⟨hx, hb, hml, hown, hts⟩ (cF_X4_write l D q aS uS (gS_length uS) (97 + x1)) (cwV 2 hts gX4_addLetter_X4_write rfl rfl rfl cdX4_write ⟨Nat.le_of_ble_eq_true rfl, Nat.le_of_ble_eq_true rfl⟩) hK hP hD 0 rfl rfl rfl hl.1 rfl (Nat.le_of_ble_eq_true rfl) dX4_addLetter_18 ⟨Nat.le_of_ble_eq_true rfl, Nat.le_of_ble_eq_true rfl⟩) ([]) ([]) (fun _ => rfl) hP hD hS (fun u H locs hu hP hD hS => ?_)
    subst hu
    have hP : va_P D vwCl (wS aS q (fX4_write uS (gS_length uS) (97 + x1))) H := hP
    have hD : va_D A (wS aS q (fX4_write uS (gS_length uS) (97 + x1))) := hD
    refine lv_aload_n hx hb dX4_addLetter_21 rfl (lv_at hl 0 rfl) ?_
    refine lv_dup hx hb dX4_addLetter_22 rfl ?_
    refine va_get (D := D) (ci := 2) (v := .int (gS_length (fX4_write uS (gS_length uS) (97 + x1)))) (C := RX4) (T := TX4) (N := 3) hx hb hts inX4_addLetter_X4 hown hK hP 0 rfl rfl 2 (by decide) (hts (.fieldLink RX4 19 "GrowingText$Sheet" "length" "I") (List.mem_of_getElem? (i := 1) rfl)) (fun _ h9 => h9) rfl dX4_addLetter_23 ?_
    refine lv_iconst (v := 1) hx hb dX4_addLetter_26 (by decide) ?_
    refine lv_iadd hx hb dX4_addLetter_27 ?_
    refine va_put (D := D) (ci := 2) (v := .int ((gS_length (fX4_write uS (gS_length uS) (97 + x1))) + 1)) (ty := .int) (C := RX4) (T := TX4) (N := 3) hx hb hts inX4_addLetter_X4 tyX4 tyX4_ok nmX4 hown hK hP hD hS 0 rfl rfl 2 (by decide) (hts (.fieldLink RX4 19 "GrowingText$Sheet" "length" "I") (List.mem_of_getElem? (i := 1) rfl)) (fun _ h9 => h9) rfl (by decide +kernel) rfl rfl (Nat.le_of_ble_eq_true rfl) dX4_addLetter_28 (fun H locs hP hD hS => ?_)
    have hP : va_P D vwCl (wS aS q (gS_set_length (fX4_write uS (gS_length uS) (97 + x1)) ((gS_length (fX4_write uS (gS_length uS) (97 + x1))) + 1))) H := hP
    have hD : va_D A (wS aS q (gS_set_length (fX4_write uS (gS_length uS) (97 + x1)) ((gS_length (fX4_write uS (gS_length uS) (97 + x1))) + 1))) := hD
    exact k_vret_w (wf := (fun u => wS aS q u)) (post := Q) (u := (gS_set_length (fX4_write uS (gS_length uS) (97 + x1)) ((gS_length (fX4_write uS (gS_length uS) (97 + x1))) + 1))) hx hb hr hlocks hK hP hD hS hf dX4_addLetter_31
def fX4_addLetter (uS : SSt) (x1 : Int32) : SSt := (if (64 : Int32) ≤ (gS_length uS) then uS else (gS_set_length (fX4_write uS (gS_length uS) (97 + x1)) ((gS_length (fX4_write uS (gS_length uS) (97 + x1))) + 1)))
theorem pF_X4_addLetter (uS : SSt) (x1 : Int32) (Q : SSt → Prop) (hq : Q (fX4_addLetter uS x1)) : wpX4_addLetter uS x1 Q := by
  unfold fX4_addLetter at hq; unfold wpX4_addLetter; exact k_ite hq (fun hq => hq) (fun hq => hq)
theorem cF_X4_addLetter (l : Launch) (D : va_G) (q : Nat → ClassId) (aS : Nat → Nat) (uS : SSt) (x1 : Int32) : Met l yX4_addLetter wsX4_addLetter rmX4_addLetter (va_Pc [.ref (aS 0), .int x1] (kP D q (wS aS q uS))) (va_Qv (fun u => u = fX4_addLetter uS x1) (fun u t => kP D q (wS aS q u) t) (kIn (wS aS q uS))) 0 0 (kIn (wS aS q uS)) := c_X4_addLetter l D q aS uS x1 _ (pF_X4_addLetter uS x1 _ rfl)
