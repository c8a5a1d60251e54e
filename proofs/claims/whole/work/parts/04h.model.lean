def wpX7_moveOf (uR : RSt) (x1 : Int32) (x2 : Int32) (Q : Int32 → Prop) : Prop :=
  (vp_in x1 121 ∧
  wpX7_behind uR ((gR_ends uR) (x1 : Int32).toNatClampNeg) x2 (fun r1 =>
    wpX7_stateOf uR r1 (fun r2 =>
      Q r2)))
def rmX7_moveOf : Room := { frames := 2, cells := 0, slots := 0, locals := 48 }
theorem inX7_moveOf_X7 : ∀ w ∈ wsX70, w ∈ wsX7_moveOf := fun w h => List.mem_cons_of_mem _ (List.mem_append_right _ h)
set_option maxRecDepth 100000 in
set_option maxHeartbeats 4000000 in
theorem c_X7_moveOf (l : Launch) (D : va_G) (q : Nat → ClassId) (aR : Nat → Nat) (uR : RSt) (x1 : Int32) (x2 : Int32) (Q : Int32 → Prop) (hf : wpX7_moveOf uR x1 x2 Q) : Met l yX7_moveOf wsX7_moveOf rmX7_moveOf (va_Pc [.ref (aR 0), .int x1, .int x2] (kP D q (wR aR q uR))) (vp_Si Q) 0 0 (fun _ => False) := by
  refine Met.ofW (cc := cX7_moveOf) (maxL := 3) (ret := (some .int)) (by decide) rfl ?_
  intro p e s m args below meth c s₁ B hml hv
  obtain ⟨hargs, hP, hK, hD⟩ := hv
  have hx := B.exec
  have hb := B.bytes
  have hr := B.returns
  have hts := atoms_spec (ws := wsX7_moveOf) B.pre
  have hown : s.vm.findClass RX7 = some m.cls := findClass_of_methodNamed B.named
  have hlocks := B.notSynchronized
  refine k_entry hargs (Nat.le_of_ble_eq_true rfl) (fun ls hl => ?_)
  have hl : lv_has ls 3 [(0, .ref (aR 0)), (1, .int x1), (2, .int x2)] := hl
  change W p l e rmX7_moveOf s m args below meth c s.heap [] 0 0 (MQ below (vp_Si Q) args s 0 0 (fun _ => False)) _
  unfold wpX7_moveOf at hf
  refine lv_aload_n hx hb dX7_moveOf_0 rfl (lv_at hl 0 rfl) ?_
  refine lv_aload_n hx hb dX7_moveOf_1 rfl (lv_at hl 0 rfl) ?_
  refine lv_aload_n hx hb dX7_moveOf_2 rfl (lv_at hl 0 rfl) ?_
  refine va_get (D := D) (ci := 5) (v := .ref (aR 5)) (C := RX7) (T := TX7) (N := 14) hx hb hts inX7_moveOf_X7 hown hK hP 0 rfl rfl 7 (by decide) (hts (.fieldLink RX7 22 "GrowingTextModel" "ends" "[J") (List.mem_of_getElem? (i := 1) rfl)) (fun _ h9 => h9) rfl dX7_moveOf_3 ?_
  refine lv_iload_n hx hb dX7_moveOf_6 rfl (lv_at hl 1 rfl) ?_
  refine va_lald hx hb hK hP 5 1 (f := (gR_ends uR)) rfl rfl hf.1 dX7_moveOf_7 ?_
  have hf := hf.2
  refine lv_iload_n hx hb dX7_moveOf_8 rfl (lv_at hl 2 rfl) ?_
  refine k_sl (k_runV (As := [.long ((gR_ends uR) (x1 : Int32).toNatClampNeg), .int x2]) (rest := [.ref (aR 0)]) ⟨hx, hb, hml, hown, hts⟩ (c_X7_behind l D q aR uR ((gR_ends uR) (x1 : Int32).toNatClampNeg) x2 _ hf) (cwV 2 hts gX7_moveOf_X7_behind rfl rfl rfl cdX7_behind ⟨Nat.le_of_ble_eq_true rfl, Nat.le_of_ble_eq_true rfl⟩) hK hP hD 0 rfl rfl rfl hl.1 rfl (Nat.le_of_ble_eq_true rfl) dX7_moveOf_9 ⟨Nat.le_of_ble_eq_true rfl, Nat.le_of_ble_eq_true rfl⟩) (fun r1 hf => ?_)
  refine k_si (k_runV (As := [.long r1]) (rest := []) ⟨hx, hb, hml, hown, hts⟩ (c_X7_stateOf l D q aR uR r1 _ hf) (cwV 1 hts gX7_moveOf_X7_stateOf rfl rfl rfl cdX7_stateOf ⟨Nat.le_of_ble_eq_true rfl, Nat.le_of_ble_eq_true rfl⟩) hK hP hD 0 rfl rfl rfl hl.1 rfl (Nat.le_of_ble_eq_true rfl) dX7_moveOf_12 ⟨Nat.le_of_ble_eq_true rfl, Nat.le_of_ble_eq_true rfl⟩) (fun r2 hf => ?_)
  exact k_iret_r (v := r2) hx hb hr hlocks hf dX7_moveOf_15
def wpX7_move (uR : RSt) (x1 : Int32) (x2 : Int32) (Q : Int32 → Prop) : Prop :=
  (((fX7_isState uR x1) = 0 →
    Q (-1)) ∧
  (¬ ((fX7_isState uR x1) = 0) →
    ((fX7_isLetter uR x2) = 0 →
      Q (-1)) ∧
    (¬ ((fX7_isLetter uR x2) = 0) →
      wpX7_moveOf uR x1 x2 (fun r3 =>
        Q r3))))
def rmX7_move : Room := { frames := 3, cells := 0, slots := 0, locals := 70 }
set_option maxRecDepth 100000 in
set_option maxHeartbeats 4000000 in
theorem c_X7_move (l : Launch) (D : va_G) (q : Nat → ClassId) (aR : Nat → Nat) (uR : RSt) (x1 : Int32) (x2 : Int32) (Q : Int32 → Prop) (hf : wpX7_move uR x1 x2 Q) : Met l yX7_move wsX7_move rmX7_move (va_Pc [.ref (aR 0), .int x1, .int x2] (kP D q (wR aR q uR))) (vp_Si Q) 0 0 (fun _ => False) := by
  refine Met.ofW (cc := cX7_move) (maxL := 3) (ret := (some .int)) (by decide) rfl ?_
  intro p e s m args below meth c s₁ B hml hv
  obtain ⟨hargs, hP, hK, hD⟩ := hv
  have hx := B.exec
  have hb := B.bytes
  have hr := B.returns
  have hts := atoms_spec (ws := wsX7_move) B.pre
  have hown : s.vm.findClass RX7 = some m.cls := findClass_of_methodNamed B.named
  have hlocks := B.notSynchronized
  refine k_entry hargs (Nat.le_of_ble_eq_true rfl) (fun ls hl => ?_)
  have hl : lv_has ls 3 [(0, .ref (aR 0)), (1, .int x1), (2, .int x2)] := hl
  change W p l e rmX7_move s m args below meth c s.heap [] 0 0 (MQ below (vp_Si Q) args s 0 0 (fun _ => False)) _
  unfold wpX7_move at hf
  refine lv_aload_n hx hb dX7_move_0 rfl (lv_at hl 0 rfl) ?_
  refine lv_iload_n hx hb dX7_move_1 rfl (lv_at hl 1 rfl) ?_
  refine k_si (k_runV (As := [.int x1]) (rest := []) ⟨hx, hb, hml, hown, hts⟩ (cF_X7_isState l D q aR uR x1) (cwV 1 hts gX7_move_X7_isState rfl rfl rfl cdX7_isState ⟨Nat.le_of_ble_eq_true rfl, Nat.le_of_ble_eq_true rfl⟩) hK hP hD 0 rfl rfl rfl hl.1 rfl (Nat.le_of_ble_eq_true rfl) dX7_move_2 ⟨Nat.le_of_ble_eq_true rfl, Nat.le_of_ble_eq_true rfl⟩) (fun r hr => ?_)
  subst hr
  refine lv_if_eq (tgt := 25) hx hb dX7_move_5 (by decide) (fun c1 => ?_) (fun c1 => ?_)
  · have hf := hf.1 (c1)
    refine lv_iconst (v := (-1)) hx hb dX7_move_25 (by decide) ?_
    exact k_iret_r (v := (-1)) hx hb hr hlocks hf dX7_move_26
  · have hf := hf.2 (c1)
    refine lv_aload_n hx hb dX7_move_8 rfl (lv_at hl 0 rfl) ?_
    refine lv_iload_n hx hb dX7_move_9 rfl (lv_at hl 2 rfl) ?_
    refine k_si (k_runV (As := [.int x2]) (rest := []) ⟨hx, hb, hml, hown, hts⟩ (cF_X7_isLetter l D q aR uR x2) (cwV 1 hts gX7_move_X7_isLetter rfl rfl rfl cdX7_isLetter ⟨Nat.le_of_ble_eq_true rfl, Nat.le_of_ble_eq_true rfl⟩) hK hP hD 0 rfl rfl rfl hl.1 rfl (Nat.le_of_ble_eq_true rfl) dX7_move_10 ⟨Nat.le_of_ble_eq_true rfl, Nat.le_of_ble_eq_true rfl⟩) (fun r hr => ?_)
    subst hr
    refine lv_if_eq (tgt := 25) hx hb dX7_move_13 (by decide) (fun c2 => ?_) (fun c2 => ?_)
    · have hf := hf.1 (c2)
      refine lv_iconst (v := (-1)) hx hb dX7_move_25 (by decide) ?_
      exact k_iret_r (v := (-1)) hx hb hr hlocks hf dX7_move_26
    · have hf := hf.2 (c2)
      refine lv_aload_n hx hb dX7_move_16 rfl (lv_at hl 0 rfl) ?_
      refine lv_iload_n hx hb dX7_move_17 rfl (lv_at hl 1 rfl) ?_
      refine lv_iload_n hx hb dX7_move_18 rfl (lv_at hl 2 rfl) ?_
      refine k_si (k_runV (As := [.int x1, .int x2]) (rest := []) ⟨hx, hb, hml, hown, hts⟩ (c_X7_moveOf l D q aR uR x1 x2 _ hf) (cwV 2 hts gX7_move_X7_moveOf rfl rfl rfl cdX7_moveOf ⟨Nat.le_of_ble_eq_true rfl, Nat.le_of_ble_eq_true rfl⟩) hK hP hD 0 rfl rfl rfl hl.1 rfl (Nat.le_of_ble_eq_true rfl) dX7_move_19 ⟨Nat.le_of_ble_eq_true rfl, Nat.le_of_ble_eq_true rfl⟩) (fun r3 hf => ?_)
      refine lv_goto (tgt := 26) hx hb dX7_move_22 (by decide) ?_
      exact k_iret_r (v := r3) hx hb hr hlocks hf dX7_move_26
def wpX7_kthEnd (x0 : Int64) (x2 : Int32) (Q : Int32 → Prop) : Prop :=
  ∀ (X5 : Int32 → Int32 → Prop),
  (∀ (y3 : Int32) (y4 : Int32),
    (((60 : Int32) < y4 →
      Q (-4)) ∧
    (¬ ((60 : Int32) < y4) →
      ((fX7_has x0 y4) = 0 →
        X5 y3 (y4 + 1)) ∧
      (¬ ((fX7_has x0 y4) = 0) →
        (y3 = 0 →
          Q y4) ∧
        (¬ (y3 = 0) →
          X5 (y3 + (-1)) (y4 + 1))))) → X5 y3 y4) →
  X5 x2 0
def rmX7_kthEnd : Room := { frames := 1, cells := 0, slots := 0, locals := 22 }
set_option maxRecDepth 100000 in
set_option maxHeartbeats 4000000 in
theorem c_X7_kthEnd (l : Launch) (D : va_G) (q : Nat → ClassId) (x0 : Int64) (x2 : Int32) (Q : Int32 → Prop) (hf : wpX7_kthEnd x0 x2 Q) : Met l yX7_kthEnd wsX7_kthEnd rmX7_kthEnd (va_Pc [.long x0, .int x2] (kP D q ([]))) (vp_Si Q) 0 0 (fun _ => False) := by
  refine Met.ofW (cc := cX7_kthEnd) (maxL := 5) (ret := (some .int)) (by decide) rfl ?_
  intro p e s m args below meth c s₁ B hml hv
  obtain ⟨hargs, hP, hK, hD⟩ := hv
  have hx := B.exec
  have hb := B.bytes
  have hr := B.returns
  have hts := atoms_spec (ws := wsX7_kthEnd) B.pre
  have hown : s.vm.findClass RX7 = some m.cls := findClass_of_methodNamed B.named
  have hlocks := B.notSynchronized
  refine k_entry hargs (Nat.le_of_ble_eq_true rfl) (fun ls hl => ?_)
  have hl : lv_has ls 5 [(0, .long x0), (2, .int x2)] := hl
  change W p l e rmX7_kthEnd s m args below meth c s.heap [] 0 0 (MQ below (vp_Si Q) args s 0 0 (fun _ => False)) _
  unfold wpX7_kthEnd at hf
  have hf := hf
    (fun (y3 : Int32) (y4 : Int32) => ∀ (ls : Array Slot), lv_has ls 5 [(0, .long x0), (3, .int y3), (4, .int y4)] → W p l e rmX7_kthEnd s m args below meth c s.heap [] 0 0 (MQ below (vp_Si Q) args s 0 0 (fun _ => False)) (F0 m 5 ls []))
    (by
      intro y3 y4 hf ls hl
      refine lv_iload hx hb dX7_kthEnd_5 (lv_at hl 2 rfl) ?_
      refine lv_bipush (v := 60) hx hb dX7_kthEnd_7 (by decide) ?_
      refine lv_icmp_gt (tgt := 37) hx hb dX7_kthEnd_9 (by decide) (fun c1 => ?_) (fun c1 => ?_)
      · have hf := hf.1 (c1)
        refine lv_bipush (v := (-4)) hx hb dX7_kthEnd_37 (by decide) ?_
        exact k_iret_r (v := (-4)) hx hb hr hlocks hf dX7_kthEnd_39
      · have hf := hf.2 (c1)
        refine lv_lload_n hx hb dX7_kthEnd_12 rfl (lv_at hl 0 rfl) ?_
        refine lv_iload hx hb dX7_kthEnd_13 (lv_at hl 2 rfl) ?_
        refine k_si (k_runS (As := [.long x0, .int y4]) (rest := []) ⟨hx, hb, hml, hown, hts⟩ (cF_X7_has l D q x0 y4) (va_cwS 2 hts gX7_kthEnd_X7_has rfl rfl rfl cdX7_has ⟨Nat.le_of_ble_eq_true rfl, Nat.le_of_ble_eq_true rfl⟩) hK k_nilP k_nilD rfl hl.1 rfl (Nat.le_of_ble_eq_true rfl) dX7_kthEnd_15 ⟨Nat.le_of_ble_eq_true rfl, Nat.le_of_ble_eq_true rfl⟩) (fun r hr => ?_)
        subst hr
        refine lv_if_eq (tgt := 31) hx hb dX7_kthEnd_18 (by decide) (fun c2 => ?_) (fun c2 => ?_)
        · have hf := hf.1 (c2)
          refine lv_iinc (v := (y4 + 1)) (lv' := [(4, .int (y4 + 1)), (0, .long x0), (3, .int y3)]) hx hb dX7_kthEnd_31 hl (k := 2) rfl rfl (by decide) rfl (fun ls hl => ?_)
          refine lv_goto (tgt := 5) hx hb dX7_kthEnd_34 (by decide) ?_
          exact hf ls (lv_sub hl [1, 2, 0] rfl)
        · have hf := hf.2 (c2)
          refine lv_iload_n hx hb dX7_kthEnd_21 rfl (lv_at hl 1 rfl) ?_
          refine lv_if_ne (tgt := 28) hx hb dX7_kthEnd_22 (by decide) (fun c3 => ?_) (fun c3 => ?_)
          · have hf := hf.2 (c3)
            refine lv_iinc (v := (y3 + (-1))) (lv' := [(3, .int (y3 + (-1))), (0, .long x0), (4, .int y4)]) hx hb dX7_kthEnd_28 hl (k := 1) rfl rfl (by decide) rfl (fun ls hl => ?_)
            refine lv_iinc (v := (y4 + 1)) (lv' := [(4, .int (y4 + 1)), (3, .int (y3 + (-1))), (0, .long x0)]) hx hb dX7_kthEnd_31 hl (k := 2) rfl rfl (by decide) rfl (fun ls hl => ?_)
            refine lv_goto (tgt := 5) hx hb dX7_kthEnd_34 (by decide) ?_
            exact hf ls (lv_sub hl [2, 1, 0] rfl)
          · have hf := hf.1 (c3)
            refine lv_iload hx hb dX7_kthEnd_25 (lv_at hl 2 rfl) ?_
            exact k_iret_r (v := y4) hx hb hr hlocks hf dX7_kthEnd_27)
  refine lv_iload_n hx hb dX7_kthEnd_0 rfl (lv_at hl 1 rfl) ?_
  refine lv_istore_n (lv' := [(3, .int x2), (0, .long x0), (2, .int x2)]) hx hb dX7_kthEnd_1 rfl hl (by decide) rfl (fun ls hl => ?_)
  refine lv_iconst (v := 0) hx hb dX7_kthEnd_2 (by decide) ?_
  refine lv_istore (lv' := [(4, .int 0), (3, .int x2), (0, .long x0), (2, .int x2)]) hx hb dX7_kthEnd_3 hl (by decide) rfl (fun ls hl => ?_)
  exact hf ls (lv_sub hl [2, 1, 0] rfl)
def wpX7_end (uR : RSt) (x1 : Int32) (x2 : Int32) (Q : Int32 → Prop) : Prop :=
  (((fX7_isState uR x1) = 0 →
    Q (-1)) ∧
  (¬ ((fX7_isState uR x1) = 0) →
    (x2 < 0 →
      Q (-1)) ∧
    (¬ (x2 < 0) →
      vp_in x1 121 ∧
      wpX7_kthEnd ((gR_ends uR) (x1 : Int32).toNatClampNeg) x2 (fun r3 =>
        Q r3))))
def rmX7_end : Room := { frames := 2, cells := 0, slots := 0, locals := 46 }
theorem inX7_end_X7 : ∀ w ∈ wsX70, w ∈ wsX7_end := fun w h => List.mem_cons_of_mem _ (List.mem_append_right _ h)
set_option maxRecDepth 100000 in
set_option maxHeartbeats 4000000 in
theorem c_X7_end (l : Launch) (D : va_G) (q : Nat → ClassId) (aR : Nat → Nat) (uR : RSt) (x1 : Int32) (x2 : Int32) (Q : Int32 → Prop) (hf : wpX7_end uR x1 x2 Q) : Met l yX7_end wsX7_end rmX7_end (va_Pc [.ref (aR 0), .int x1, .int x2] (kP D q (wR aR q uR))) (vp_Si Q) 0 0 (fun _ => False) := by
  refine Met.ofW (cc := cX7_end) (maxL := 3) (ret := (some .int)) (by decide) rfl ?_
  intro p e s m args below meth c s₁ B hml hv
  obtain ⟨hargs, hP, hK, hD⟩ := hv
  have hx := B.exec
  have hb := B.bytes
  have hr := B.returns
  have hts := atoms_spec (ws := wsX7_end) B.pre
  have hown : s.vm.findClass RX7 = some m.cls := findClass_of_methodNamed B.named
  have hlocks := B.notSynchronized
  refine k_entry hargs (Nat.le_of_ble_eq_true rfl) (fun ls hl => ?_)
  have hl : lv_has ls 3 [(0, .ref (aR 0)), (1, .int x1), (2, .int x2)] := hl
  change W p l e rmX7_end s m args below meth c s.heap [] 0 0 (MQ below (vp_Si Q) args s 0 0 (fun _ => False)) _
  unfold wpX7_end at hf
  refine lv_aload_n hx hb dX7_end_0 rfl (lv_at hl 0 rfl) ?_
  refine lv_iload_n hx hb dX7_end_1 rfl (lv_at hl 1 rfl) ?_
  refine k_si (k_runV (As := [.int x1]) (rest := []) ⟨hx, hb, hml, hown, hts⟩ (cF_X7_isState l D q aR uR x1) (cwV 1 hts gX7_end_X7_isState rfl rfl rfl cdX7_isState ⟨Nat.le_of_ble_eq_true rfl, Nat.le_of_ble_eq_true rfl⟩) hK hP hD 0 rfl rfl rfl hl.1 rfl (Nat.le_of_ble_eq_true rfl) dX7_end_2 ⟨Nat.le_of_ble_eq_true rfl, Nat.le_of_ble_eq_true rfl⟩) (fun r hr => ?_)
  subst hr
  refine lv_if_eq (tgt := 25) hx hb dX7_end_5 (by decide) (fun c1 => ?_) (fun c1 => ?_)
  · have hf := hf.1 (c1)
    refine lv_iconst (v := (-1)) hx hb dX7_end_25 (by decide) ?_
    exact k_iret_r (v := (-1)) hx hb hr hlocks hf dX7_end_26
  · have hf := hf.2 (c1)
    refine lv_iload_n hx hb dX7_end_8 rfl (lv_at hl 2 rfl) ?_
    refine lv_if_lt (tgt := 25) hx hb dX7_end_9 (by decide) (fun c2 => ?_) (fun c2 => ?_)
    · have hf := hf.1 (c2)
      refine lv_iconst (v := (-1)) hx hb dX7_end_25 (by decide) ?_
      exact k_iret_r (v := (-1)) hx hb hr hlocks hf dX7_end_26
    · have hf := hf.2 (c2)
      refine lv_aload_n hx hb dX7_end_12 rfl (lv_at hl 0 rfl) ?_
      refine va_get (D := D) (ci := 5) (v := .ref (aR 5)) (C := RX7) (T := TX7) (N := 14) hx hb hts inX7_end_X7 hown hK hP 0 rfl rfl 7 (by decide) (hts (.fieldLink RX7 22 "GrowingTextModel" "ends" "[J") (List.mem_of_getElem? (i := 1) rfl)) (fun _ h9 => h9) rfl dX7_end_13 ?_
      refine lv_iload_n hx hb dX7_end_16 rfl (lv_at hl 1 rfl) ?_
      refine va_lald hx hb hK hP 5 1 (f := (gR_ends uR)) rfl rfl hf.1 dX7_end_17 ?_
      have hf := hf.2
      refine lv_iload_n hx hb dX7_end_18 rfl (lv_at hl 2 rfl) ?_
      refine k_si (k_runS (As := [.long ((gR_ends uR) (x1 : Int32).toNatClampNeg), .int x2]) (rest := []) ⟨hx, hb, hml, hown, hts⟩ (c_X7_kthEnd l D q ((gR_ends uR) (x1 : Int32).toNatClampNeg) x2 _ hf) (va_cwS 2 hts gX7_end_X7_kthEnd rfl rfl rfl cdX7_kthEnd ⟨Nat.le_of_ble_eq_true rfl, Nat.le_of_ble_eq_true rfl⟩) hK k_nilP k_nilD rfl hl.1 rfl (Nat.le_of_ble_eq_true rfl) dX7_end_19 ⟨Nat.le_of_ble_eq_true rfl, Nat.le_of_ble_eq_true rfl⟩) (fun r3 hf => ?_)
      refine lv_goto (tgt := 26) hx hb dX7_end_22 (by decide) ?_
      exact k_iret_r (v := r3) hx hb hr hlocks hf dX7_end_26
def wpX7_isSheet (x0 : Int32) (Q : Int32 → Prop) : Prop :=
  Q (fX7_in x0 0 3)
def rmX7_isSheet : Room := { frames := 1, cells := 0, slots := 0, locals := 22 }
set_option maxRecDepth 100000 in
set_option maxHeartbeats 4000000 in
theorem c_X7_isSheet (l : Launch) (D : va_G) (q : Nat → ClassId) (x0 : Int32) (Q : Int32 → Prop) (hf : wpX7_isSheet x0 Q) : Met l yX7_isSheet wsX7_isSheet rmX7_isSheet (va_Pc [.int x0] (kP D q ([]))) (vp_Si Q) 0 0 (fun _ => False) := by
  refine Met.ofW (cc := cX7_isSheet) (maxL := 1) (ret := (some .boolean)) (by decide) rfl ?_
  intro p e s m args below meth c s₁ B hml hv
  obtain ⟨hargs, hP, hK, hD⟩ := hv
  have hx := B.exec
  have hb := B.bytes
  have hr := B.returns
  have hts := atoms_spec (ws := wsX7_isSheet) B.pre
  have hown : s.vm.findClass RX7 = some m.cls := findClass_of_methodNamed B.named
  have hlocks := B.notSynchronized
  refine k_entry hargs (Nat.le_of_ble_eq_true rfl) (fun ls hl => ?_)
  have hl : lv_has ls 1 [(0, .int x0)] := hl
  change W p l e rmX7_isSheet s m args below meth c s.heap [] 0 0 (MQ below (vp_Si Q) args s 0 0 (fun _ => False)) _
  unfold wpX7_isSheet at hf
  refine lv_iload_n hx hb dX7_isSheet_0 rfl (lv_at hl 0 rfl) ?_
  refine lv_iconst (v := 0) hx hb dX7_isSheet_1 (by decide) ?_
  refine lv_iconst (v := 3) hx hb dX7_isSheet_2 (by decide) ?_
  refine k_si (k_runS (As := [.int x0, .int 0, .int 3]) (rest := []) ⟨hx, hb, hml, hown, hts⟩ (cF_X7_in l D q x0 0 3) (va_cwS 3 hts gX7_isSheet_X7_in rfl rfl rfl cdX7_in ⟨Nat.le_of_ble_eq_true rfl, Nat.le_of_ble_eq_true rfl⟩) hK k_nilP k_nilD rfl hl.1 rfl (Nat.le_of_ble_eq_true rfl) dX7_isSheet_3 ⟨Nat.le_of_ble_eq_true rfl, Nat.le_of_ble_eq_true rfl⟩) (fun r hr => ?_)
  subst hr
  exact k_zret_r (v := (fX7_in x0 0 3)) hx hb hr (by unfold fX7_in; (repeat' split) <;> rfl) hlocks hf dX7_isSheet_6
def fX7_isSheet (x0 : Int32) : Int32 := (fX7_in x0 0 3)
theorem pF_X7_isSheet (x0 : Int32) (Q : Int32 → Prop) (hq : Q (fX7_isSheet x0)) : wpX7_isSheet x0 Q := by
  unfold fX7_isSheet at hq; unfold wpX7_isSheet; exact hq
theorem cF_X7_isSheet (l : Launch) (D : va_G) (q : Nat → ClassId) (x0 : Int32) : Met l yX7_isSheet wsX7_isSheet rmX7_isSheet (va_Pc [.int x0] (kP D q ([]))) (vp_Si (fun r => r = fX7_isSheet x0)) 0 0 (fun _ => False) := c_X7_isSheet l D q x0 _ (pF_X7_isSheet x0 _ rfl)
def wpX7_need (uR : RSt) (x1 : Int32) (Q : Int32 → Prop) : Prop :=
  (((fX7_isSheet x1) = 0 →
    Q (-1)) ∧
  (¬ ((fX7_isSheet x1) = 0) →
    vp_in x1 4 ∧
    (((0 : Int32) ≤ ((gR_sizes uR) (x1 : Int32).toNatClampNeg) →
      Q 0) ∧
    (¬ ((0 : Int32) ≤ ((gR_sizes uR) (x1 : Int32).toNatClampNeg)) →
      Q (-11)))))
def rmX7_need : Room := { frames := 2, cells := 0, slots := 0, locals := 42 }
theorem inX7_need_X7 : ∀ w ∈ wsX70, w ∈ wsX7_need := fun w h => List.mem_cons_of_mem _ (List.mem_append_right _ h)
set_option maxRecDepth 100000 in
set_option maxHeartbeats 4000000 in
theorem c_X7_need (l : Launch) (D : va_G) (q : Nat → ClassId) (aR : Nat → Nat) (uR : RSt) (x1 : Int32) (Q : Int32 → Prop) (hf : wpX7_need uR x1 Q) : Met l yX7_need wsX7_need rmX7_need (va_Pc [.ref (aR 0), .int x1] (kP D q (wR aR q uR))) (vp_Si Q) 0 0 (fun _ => False) := by
  refine Met.ofW (cc := cX7_need) (maxL := 2) (ret := (some .int)) (by decide) rfl ?_
  intro p e s m args below meth c s₁ B hml hv
  obtain ⟨hargs, hP, hK, hD⟩ := hv
  have hx := B.exec
  have hb := B.bytes
  have hr := B.returns
  have hts := atoms_spec (ws := wsX7_need) B.pre
  have hown : s.vm.findClass RX7 = some m.cls := findClass_of_methodNamed B.named
  have hlocks := B.notSynchronized
  refine k_entry hargs (Nat.le_of_ble_eq_true rfl) (fun ls hl => ?_)
  have hl : lv_has ls 2 [(0, .ref (aR 0)), (1, .int x1)] := hl
  change W p l e rmX7_need s m args below meth c s.heap [] 0 0 (MQ below (vp_Si Q) args s 0 0 (fun _ => False)) _
  unfold wpX7_need at hf
  refine lv_iload_n hx hb dX7_need_0 rfl (lv_at hl 1 rfl) ?_
  refine k_si (k_runS (As := [.int x1]) (rest := []) ⟨hx, hb, hml, hown, hts⟩ (cF_X7_isSheet l D q x1) (va_cwS 1 hts gX7_need_X7_isSheet rfl rfl rfl cdX7_isSheet ⟨Nat.le_of_ble_eq_true rfl, Nat.le_of_ble_eq_true rfl⟩) hK k_nilP k_nilD rfl hl.1 rfl (Nat.le_of_ble_eq_true rfl) dX7_need_1 ⟨Nat.le_of_ble_eq_true rfl, Nat.le_of_ble_eq_true rfl⟩) (fun r hr => ?_)
  subst hr
  refine lv_if_ne (tgt := 11) hx hb dX7_need_4 (by decide) (fun c1 => ?_) (fun c1 => ?_)
  · have hf := hf.2 (c1)
    refine lv_aload_n hx hb dX7_need_11 rfl (lv_at hl 0 rfl) ?_
    refine va_get (D := D) (ci := 5) (v := .ref (aR 6)) (C := RX7) (T := TX7) (N := 14) hx hb hts inX7_need_X7 hown hK hP 0 rfl rfl 8 (by decide) (hts (.fieldLink RX7 26 "GrowingTextModel" "sizes" "[I") (List.mem_of_getElem? (i := 1) rfl)) (fun _ h9 => h9) rfl dX7_need_12 ?_
    refine lv_iload_n hx hb dX7_need_15 rfl (lv_at hl 1 rfl) ?_
    refine va_iald hx hb hK hP 6 0 (f := (gR_sizes uR)) rfl rfl hf.1 dX7_need_16 ?_
    have hf := hf.2
    refine lv_if_ge (tgt := 25) hx hb dX7_need_17 (by decide) (fun c2 => ?_) (fun c2 => ?_)
    · have hf := hf.1 (c2)
      refine lv_iconst (v := 0) hx hb dX7_need_25 (by decide) ?_
      exact k_iret_r (v := 0) hx hb hr hlocks hf dX7_need_26
    · have hf := hf.2 (c2)
      refine lv_bipush (v := (-11)) hx hb dX7_need_20 (by decide) ?_
      refine lv_goto (tgt := 26) hx hb dX7_need_22 (by decide) ?_
      exact k_iret_r (v := (-11)) hx hb hr hlocks hf dX7_need_26
  · have hf := hf.1 (c1)
    refine lv_iconst (v := (-1)) hx hb dX7_need_7 (by decide) ?_
    refine lv_goto (tgt := 26) hx hb dX7_need_8 (by decide) ?_
    exact k_iret_r (v := (-1)) hx hb hr hlocks hf dX7_need_26
def wpX7_sheet (uR : RSt) (x1 : Int32) (x2 : Int32) (Q : Int32 → RSt → Prop) : Prop :=
  ∀ (X28 : Int32 → RSt → Prop),
  (∀ (y3 : Int32) (tR : RSt),
    ((x2 ≤ y3 →
      Q x2 tR) ∧
    (¬ (x2 ≤ y3) →
      vp_in ((64 * x1) + y3) 256 ∧
      X28 (y3 + 1) (gR_set_sheets tR (upd (gR_sheets tR) (((64 * x1) + y3) : Int32).toNatClampNeg 97)))) → X28 y3 tR) →
  (((fX7_isSheet x1) = 0 →
    Q (-1) uR) ∧
  (¬ ((fX7_isSheet x1) = 0) →
    ((fX7_in x2 0 64) = 0 →
      Q (-1) uR) ∧
    (¬ ((fX7_in x2 0 64) = 0) →
      vp_in x1 4 ∧
      X28 0 (gR_set_sizes uR (upd (gR_sizes uR) (x1 : Int32).toNatClampNeg x2)))))
def rmX7_sheet : Room := { frames := 2, cells := 0, slots := 0, locals := 42 }
theorem inX7_sheet_X7 : ∀ w ∈ wsX70, w ∈ wsX7_sheet := fun w h => List.mem_cons_of_mem _ (List.mem_append_right _ h)
set_option maxRecDepth 100000 in
set_option maxHeartbeats 4000000 in
theorem c_X7_sheet (l : Launch) (D : va_G) (q : Nat → ClassId) (aR : Nat → Nat) (uR : RSt) (x1 : Int32) (x2 : Int32) (Q : Int32 → RSt → Prop) (hf : wpX7_sheet uR x1 x2 Q) : Met l yX7_sheet wsX7_sheet rmX7_sheet (va_Pc [.ref (aR 0), .int x1, .int x2] (kP D q (wR aR q uR))) (va_Qi Q (fun u t => kP D q (wR aR q u) t) (kIn (wR aR q uR))) 0 0 (kIn (wR aR q uR)) := by
  refine Met.ofW (cc := cX7_sheet) (maxL := 4) (ret := (some .int)) (by decide) rfl ?_
  intro p e s m args below meth c s₁ B hml hv
  obtain ⟨hargs, hP, hK, hD⟩ := hv
  have hx := B.exec
  have hb := B.bytes
  have hr := B.returns
  have hts := atoms_spec (ws := wsX7_sheet) B.pre
  have hown : s.vm.findClass RX7 = some m.cls := findClass_of_methodNamed B.named
  have hlocks := B.notSynchronized
  have hD := kd_self hD
  generalize kIn (wR aR q uR) = A at hD ⊢
  have hS : va_S A s.heap s.heap [] := va_S.rf
  refine k_entry hargs (Nat.le_of_ble_eq_true rfl) (fun ls hl => ?_)
  have hl : lv_has ls 4 [(0, .ref (aR 0)), (1, .int x1), (2, .int x2)] := hl
  change W p l e rmX7_sheet s m args below meth c s.heap [] 0 0 (MQ below (va_Qi Q (fun u t => kP D q (wR aR q u) t) A) args s 0 0 A) _
  unfold wpX7_sheet at hf
  obtain ⟨H, hH⟩ : ∃ H, H = s.heap := ⟨_, rfl⟩
  obtain ⟨locs, hlocs⟩ : ∃ x : List Loc, x = [] := ⟨_, rfl⟩
  rw [← hH] at hP
  have hS : va_S A s.heap H locs := by rw [hH, hlocs]; exact hS
  rw [show W p l e rmX7_sheet s m args below meth c s.heap [] 0 0 (MQ below (va_Qi Q (fun u t => kP D q (wR aR q u) t) A) args s 0 0 A) (F0 m 0 ls []) = W p l e rmX7_sheet s m args below meth c H locs 0 0 (MQ below (va_Qi Q (fun u t => kP D q (wR aR q u) t) A) args s 0 0 A) (F0 m 0 ls []) by rw [hH, hlocs]]
  clear hH hlocs
  have hf := hf
    (fun (y3 : Int32) (tR : RSt) => ∀ (H : Heap) (locs : List Loc) (ls : Array Slot), va_P D vwCl (wR aR q tR) H → va_D A (wR aR q tR) → va_S A s.heap H locs → lv_has ls 4 [(0, .ref (aR 0)), (1, .int x1), (2, .int x2), (3, .int y3)] → W p l e rmX7_sheet s m args below meth c H locs 0 0 (MQ below (va_Qi Q (fun u t => kP D q (wR aR q u) t) A) args s 0 0 A) (F0 m 28 ls []))
    (by
      intro y3 tR hf H locs ls hP hD hS hl
      refine lv_iload_n hx hb dX7_sheet_28 rfl (lv_at hl 3 rfl) ?_
      refine lv_iload_n hx hb dX7_sheet_29 rfl (lv_at hl 2 rfl) ?_
      refine lv_icmp_ge (tgt := 52) hx hb dX7_sheet_30 (by decide) (fun c3 => ?_) (fun c3 => ?_)
      · have hf := hf.1 (c3)
        refine lv_iload_n hx hb dX7_sheet_52 rfl (lv_at hl 2 rfl) ?_
        exact k_iret_w (wf := (fun u => wR aR q u)) (post := Q) (u := tR) (v := x2) hx hb hr hlocks hK hP hD hS hf dX7_sheet_53
      · have hf := hf.2 (c3)
        refine lv_aload_n hx hb dX7_sheet_33 rfl (lv_at hl 0 rfl) ?_
        refine va_get (D := D) (ci := 5) (v := .ref (aR 7)) (C := RX7) (T := TX7) (N := 14) hx hb hts inX7_sheet_X7 hown hK hP 0 rfl rfl 9 (by decide) (hts (.fieldLink RX7 29 "GrowingTextModel" "sheets" "[I") (List.mem_of_getElem? (i := 2) rfl)) (fun _ h9 => h9) rfl dX7_sheet_34 ?_
        refine lv_bipush (v := 64) hx hb dX7_sheet_37 (by decide) ?_
        refine lv_iload_n hx hb dX7_sheet_39 rfl (lv_at hl 1 rfl) ?_
        refine lv_imul hx hb dX7_sheet_40 ?_
        refine lv_iload_n hx hb dX7_sheet_41 rfl (lv_at hl 3 rfl) ?_
        refine lv_iadd hx hb dX7_sheet_42 ?_
        refine lv_bipush (v := 97) hx hb dX7_sheet_43 (by decide) ?_
        refine va_iast hx hb hK hP hD hS 7 0 (f := (gR_sheets tR)) rfl rfl hf.1 dX7_sheet_45 (fun H locs hP hD hS => ?_)
        have hf := hf.2
        have hP : va_P D vwCl (wR aR q (gR_set_sheets tR (upd (gR_sheets tR) (((64 * x1) + y3) : Int32).toNatClampNeg 97))) H := hP
        have hD : va_D A (wR aR q (gR_set_sheets tR (upd (gR_sheets tR) (((64 * x1) + y3) : Int32).toNatClampNeg 97))) := hD
        refine lv_iinc (v := (y3 + 1)) (lv' := [(3, .int (y3 + 1)), (0, .ref (aR 0)), (1, .int x1), (2, .int x2)]) hx hb dX7_sheet_46 hl (k := 3) rfl rfl (by decide) rfl (fun ls hl => ?_)
        refine lv_goto (tgt := 28) hx hb dX7_sheet_49 (by decide) ?_
        exact hf H locs ls hP hD hS (lv_sub hl [1, 2, 3, 0] rfl))
  refine lv_iload_n hx hb dX7_sheet_0 rfl (lv_at hl 1 rfl) ?_
  refine k_si (k_runS (As := [.int x1]) (rest := []) ⟨hx, hb, hml, hown, hts⟩ (cF_X7_isSheet l D q x1) (va_cwS 1 hts gX7_sheet_X7_isSheet rfl rfl rfl cdX7_isSheet ⟨Nat.le_of_ble_eq_true rfl, Nat.le_of_ble_eq_true rfl⟩) hK k_nilP k_nilD rfl hl.1 rfl (Nat.le_of_ble_eq_true rfl) dX7_sheet_1 ⟨Nat.le_of_ble_eq_true rfl, Nat.le_of_ble_eq_true rfl⟩) (fun r hr => ?_)
  subst hr
  refine lv_if_eq (tgt := 17) hx hb dX7_sheet_4 (by decide) (fun c1 => ?_) (fun c1 => ?_)
  · have hf := hf.1 (c1)
    refine lv_iconst (v := (-1)) hx hb dX7_sheet_17 (by decide) ?_
    exact k_iret_w (wf := (fun u => wR aR q u)) (post := Q) (u := uR) (v := (-1)) hx hb hr hlocks hK hP hD hS hf dX7_sheet_18
  · have hf := hf.2 (c1)
    refine lv_iload_n hx hb dX7_sheet_7 rfl (lv_at hl 2 rfl) ?_
    refine lv_iconst (v := 0) hx hb dX7_sheet_8 (by decide) ?_
    refine lv_bipush (v := 64) hx hb dX7_sheet_9 (by decide) ?_
    refine k_si (k_runS (As := [.int x2, .int 0, .int 64]) (rest := []) ⟨hx, hb, hml, hown, hts⟩ (cF_X7_in l D q x2 0 64) (va_cwS 3 hts gX7_sheet_X7_in rfl rfl rfl cdX7_in ⟨Nat.le_of_ble_eq_true rfl, Nat.le_of_ble_eq_true rfl⟩) hK k_nilP k_nilD rfl hl.1 rfl (Nat.le_of_ble_eq_true rfl) dX7_sheet_11 ⟨Nat.le_of_ble_eq_true rfl, Nat.le_of_ble_eq_true rfl⟩) (fun r hr => ?_)
    subst hr
    refine lv_if_ne (tgt := 19) hx hb dX7_sheet_14 (by decide) (fun c2 => ?_) (fun c2 => ?_)
    · have hf := hf.2 (c2)
      refine lv_aload_n hx hb dX7_sheet_19 rfl (lv_at hl 0 rfl) ?_
      refine va_get (D := D) (ci := 5) (v := .ref (aR 6)) (C := RX7) (T := TX7) (N := 14) hx hb hts inX7_sheet_X7 hown hK hP 0 rfl rfl 8 (by decide) (hts (.fieldLink RX7 26 "GrowingTextModel" "sizes" "[I") (List.mem_of_getElem? (i := 1) rfl)) (fun _ h9 => h9) rfl dX7_sheet_20 ?_
      refine lv_iload_n hx hb dX7_sheet_23 rfl (lv_at hl 1 rfl) ?_
      refine lv_iload_n hx hb dX7_sheet_24 rfl (lv_at hl 2 rfl) ?_
      refine va_iast hx hb hK hP hD hS 6 0 (f := (gR_sizes uR)) rfl rfl hf.1 dX7_sheet_25 (fun H locs hP hD hS => ?_)
      have hf := hf.2
      have hP : va_P D vwCl (wR aR q (gR_set_sizes uR (upd (gR_sizes uR) (x1 : Int32).toNatClampNeg x2))) H := hP
      have hD : va_D A (wR aR q (gR_set_sizes uR (upd (gR_sizes uR) (x1 : Int32).toNatClampNeg x2))) := hD
      refine lv_iconst (v := 0) hx hb dX7_sheet_26 (by decide) ?_
      refine lv_istore_n (lv' := [(3, .int 0), (0, .ref (aR 0)), (1, .int x1), (2, .int x2)]) hx hb dX7_sheet_27 rfl hl (by decide) rfl (fun ls hl => ?_)
      exact hf H locs ls hP hD hS (lv_sub hl [1, 2, 3, 0] rfl)
    · have hf := hf.1 (c2)
      refine lv_iconst (v := (-1)) hx hb dX7_sheet_17 (by decide) ?_
      exact k_iret_w (wf := (fun u => wR aR q u)) (post := Q) (u := uR) (v := (-1)) hx hb hr hlocks hK hP hD hS hf dX7_sheet_18
def wpX7_set (uR : RSt) (x1 : Int32) (x2 : Int32) (x3 : Int32) (Q : Int32 → RSt → Prop) : Prop :=
  ∀ (X19 : Int32 → RSt → Prop),
  (∀ (z0 : Int32) (tR : RSt),
    (((0 : Int32) ≤ z0 →
      vp_in x1 4 ∧
      (((fX7_in x2 0 (((gR_sizes tR) (x1 : Int32).toNatClampNeg) - 1)) = 0 →
        Q (-12) tR) ∧
      (¬ ((fX7_in x2 0 (((gR_sizes tR) (x1 : Int32).toNatClampNeg) - 1)) = 0) →
        vp_in ((64 * x1) + x2) 256 ∧
        vp_in ((64 * x1) + x2) 256 ∧
        Q ((gR_sheets tR) (((64 * x1) + x2) : Int32).toNatClampNeg) (gR_set_sheets tR (upd (gR_sheets tR) (((64 * x1) + x2) : Int32).toNatClampNeg x3))))) ∧
    (¬ ((0 : Int32) ≤ z0) →
      Q z0 tR)) → X19 z0 tR) →
  (((fX7_in x3 0 65535) = 0 →
    X19 (-1) uR) ∧
  (¬ ((fX7_in x3 0 65535) = 0) →
    wpX7_need uR x1 (fun r2 =>
      X19 r2 uR)))
def rmX7_set : Room := { frames := 3, cells := 0, slots := 0, locals := 63 }
theorem inX7_set_X7 : ∀ w ∈ wsX70, w ∈ wsX7_set := fun w h => List.mem_cons_of_mem _ (List.mem_append_right _ h)
set_option maxRecDepth 100000 in
set_option maxHeartbeats 4000000 in
theorem c_X7_set (l : Launch) (D : va_G) (q : Nat → ClassId) (aR : Nat → Nat) (uR : RSt) (x1 : Int32) (x2 : Int32) (x3 : Int32) (Q : Int32 → RSt → Prop) (hf : wpX7_set uR x1 x2 x3 Q) : Met l yX7_set wsX7_set rmX7_set (va_Pc [.ref (aR 0), .int x1, .int x2, .int x3] (kP D q (wR aR q uR))) (va_Qi Q (fun u t => kP D q (wR aR q u) t) (kIn (wR aR q uR))) 0 0 (kIn (wR aR q uR)) := by
  refine Met.ofW (cc := cX7_set) (maxL := 6) (ret := (some .int)) (by decide) rfl ?_
  intro p e s m args below meth c s₁ B hml hv
  obtain ⟨hargs, hP, hK, hD⟩ := hv
  have hx := B.exec
  have hb := B.bytes
  have hr := B.returns
  have hts := atoms_spec (ws := wsX7_set) B.pre
  have hown : s.vm.findClass RX7 = some m.cls := findClass_of_methodNamed B.named
  have hlocks := B.notSynchronized
  have hD := kd_self hD
  generalize kIn (wR aR q uR) = A at hD ⊢
  have hS : va_S A s.heap s.heap [] := va_S.rf
  refine k_entry hargs (Nat.le_of_ble_eq_true rfl) (fun ls hl => ?_)
  have hl : lv_has ls 6 [(0, .ref (aR 0)), (1, .int x1), (2, .int x2), (3, .int x3)] := hl
  change W p l e rmX7_set s m args below meth c s.heap [] 0 0 (MQ below (va_Qi Q (fun u t => kP D q (wR aR q u) t) A) args s 0 0 A) _
  unfold wpX7_set at hf
  obtain ⟨H, hH⟩ : ∃ H, H = s.heap := ⟨_, rfl⟩
  obtain ⟨locs, hlocs⟩ : ∃ x : List Loc, x = [] := ⟨_, rfl⟩
  rw [← hH] at hP
  have hS : va_S A s.heap H locs := by rw [hH, hlocs]; exact hS
  rw [show W p l e rmX7_set s m args below meth c s.heap [] 0 0 (MQ below (va_Qi Q (fun u t => kP D q (wR aR q u) t) A) args s 0 0 A) (F0 m 0 ls []) = W p l e rmX7_set s m args below meth c H locs 0 0 (MQ below (va_Qi Q (fun u t => kP D q (wR aR q u) t) A) args s 0 0 A) (F0 m 0 ls []) by rw [hH, hlocs]]
  clear hH hlocs
  have hf := hf
    (fun (z0 : Int32) (tR : RSt) => ∀ (H : Heap) (locs : List Loc) (ls : Array Slot), va_P D vwCl (wR aR q tR) H → va_D A (wR aR q tR) → va_S A s.heap H locs → lv_has ls 6 [(0, .ref (aR 0)), (1, .int x1), (2, .int x2), (3, .int x3)] → W p l e rmX7_set s m args below meth c H locs 0 0 (MQ below (va_Qi Q (fun u t => kP D q (wR aR q u) t) A) args s 0 0 A) (F0 m 19 ls [.int z0]))
    (by
      intro z0 tR hf H locs ls hP hD hS hl
      refine lv_istore (lv' := [(4, .int z0), (0, .ref (aR 0)), (1, .int x1), (2, .int x2), (3, .int x3)]) hx hb dX7_set_19 hl (by decide) rfl (fun ls hl => ?_)
      refine lv_iload hx hb dX7_set_21 (lv_at hl 0 rfl) ?_
      refine lv_if_ge (tgt := 29) hx hb dX7_set_23 (by decide) (fun c3 => ?_) (fun c3 => ?_)
      · have hf := hf.1 (c3)
        refine lv_iload_n hx hb dX7_set_29 rfl (lv_at hl 3 rfl) ?_
        refine lv_iconst (v := 0) hx hb dX7_set_30 (by decide) ?_
        refine lv_aload_n hx hb dX7_set_31 rfl (lv_at hl 1 rfl) ?_
        refine va_get (D := D) (ci := 5) (v := .ref (aR 6)) (C := RX7) (T := TX7) (N := 14) hx hb hts inX7_set_X7 hown hK hP 0 rfl rfl 8 (by decide) (hts (.fieldLink RX7 26 "GrowingTextModel" "sizes" "[I") (List.mem_of_getElem? (i := 2) rfl)) (fun _ h9 => h9) rfl dX7_set_32 ?_
        refine lv_iload_n hx hb dX7_set_35 rfl (lv_at hl 2 rfl) ?_
        refine va_iald hx hb hK hP 6 0 (f := (gR_sizes tR)) rfl rfl hf.1 dX7_set_36 ?_
        have hf := hf.2
        refine lv_iconst (v := 1) hx hb dX7_set_37 (by decide) ?_
        refine lv_isub hx hb dX7_set_38 ?_
        refine k_si (k_runS (As := [.int x2, .int 0, .int (((gR_sizes tR) (x1 : Int32).toNatClampNeg) - 1)]) (rest := []) ⟨hx, hb, hml, hown, hts⟩ (cF_X7_in l D q x2 0 (((gR_sizes tR) (x1 : Int32).toNatClampNeg) - 1)) (va_cwS 3 hts gX7_set_X7_in rfl rfl rfl cdX7_in ⟨Nat.le_of_ble_eq_true rfl, Nat.le_of_ble_eq_true rfl⟩) hK k_nilP k_nilD rfl hl.1 rfl (Nat.le_of_ble_eq_true rfl) dX7_set_39 ⟨Nat.le_of_ble_eq_true rfl, Nat.le_of_ble_eq_true rfl⟩) (fun r hr => ?_)
        subst hr
        refine lv_if_ne (tgt := 48) hx hb dX7_set_42 (by decide) (fun c4 => ?_) (fun c4 => ?_)
        · have hf := hf.2 (c4)
          refine lv_aload_n hx hb dX7_set_48 rfl (lv_at hl 1 rfl) ?_
          refine va_get (D := D) (ci := 5) (v := .ref (aR 7)) (C := RX7) (T := TX7) (N := 14) hx hb hts inX7_set_X7 hown hK hP 0 rfl rfl 9 (by decide) (hts (.fieldLink RX7 29 "GrowingTextModel" "sheets" "[I") (List.mem_of_getElem? (i := 3) rfl)) (fun _ h9 => h9) rfl dX7_set_49 ?_
          refine lv_bipush (v := 64) hx hb dX7_set_52 (by decide) ?_
          refine lv_iload_n hx hb dX7_set_54 rfl (lv_at hl 2 rfl) ?_
          refine lv_imul hx hb dX7_set_55 ?_
          refine lv_iload_n hx hb dX7_set_56 rfl (lv_at hl 3 rfl) ?_
          refine lv_iadd hx hb dX7_set_57 ?_
          refine va_iald hx hb hK hP 7 0 (f := (gR_sheets tR)) rfl rfl hf.1 dX7_set_58 ?_
          have hf := hf.2
          refine lv_istore (lv' := [(5, .int ((gR_sheets tR) (((64 * x1) + x2) : Int32).toNatClampNeg)), (4, .int z0), (0, .ref (aR 0)), (1, .int x1), (2, .int x2), (3, .int x3)]) hx hb dX7_set_59 hl (by decide) rfl (fun ls hl => ?_)
          refine lv_aload_n hx hb dX7_set_61 rfl (lv_at hl 2 rfl) ?_
          refine va_get (D := D) (ci := 5) (v := .ref (aR 7)) (C := RX7) (T := TX7) (N := 14) hx hb hts inX7_set_X7 hown hK hP 0 rfl rfl 9 (by decide) (hts (.fieldLink RX7 29 "GrowingTextModel" "sheets" "[I") (List.mem_of_getElem? (i := 3) rfl)) (fun _ h9 => h9) rfl dX7_set_62 ?_
          refine lv_bipush (v := 64) hx hb dX7_set_65 (by decide) ?_
          refine lv_iload_n hx hb dX7_set_67 rfl (lv_at hl 3 rfl) ?_
          refine lv_imul hx hb dX7_set_68 ?_
          refine lv_iload_n hx hb dX7_set_69 rfl (lv_at hl 4 rfl) ?_
          refine lv_iadd hx hb dX7_set_70 ?_
          refine lv_iload_n hx hb dX7_set_71 rfl (lv_at hl 5 rfl) ?_
          refine va_iast hx hb hK hP hD hS 7 0 (f := (gR_sheets tR)) rfl rfl hf.1 dX7_set_72 (fun H locs hP hD hS => ?_)
          have hf := hf.2
          have hP : va_P D vwCl (wR aR q (gR_set_sheets tR (upd (gR_sheets tR) (((64 * x1) + x2) : Int32).toNatClampNeg x3))) H := hP
          have hD : va_D A (wR aR q (gR_set_sheets tR (upd (gR_sheets tR) (((64 * x1) + x2) : Int32).toNatClampNeg x3))) := hD
          refine lv_iload hx hb dX7_set_73 (lv_at hl 0 rfl) ?_
          exact k_iret_w (wf := (fun u => wR aR q u)) (post := Q) (u := (gR_set_sheets tR (upd (gR_sheets tR) (((64 * x1) + x2) : Int32).toNatClampNeg x3))) (v := ((gR_sheets tR) (((64 * x1) + x2) : Int32).toNatClampNeg)) hx hb hr hlocks hK hP hD hS hf dX7_set_75
        · have hf := hf.1 (c4)
          refine lv_bipush (v := (-12)) hx hb dX7_set_45 (by decide) ?_
          exact k_iret_w (wf := (fun u => wR aR q u)) (post := Q) (u := tR) (v := (-12)) hx hb hr hlocks hK hP hD hS hf dX7_set_47
      · have hf := hf.2 (c3)
        refine lv_iload hx hb dX7_set_26 (lv_at hl 0 rfl) ?_
        exact k_iret_w (wf := (fun u => wR aR q u)) (post := Q) (u := tR) (v := z0) hx hb hr hlocks hK hP hD hS hf dX7_set_28)
  refine lv_iload_n hx hb dX7_set_0 rfl (lv_at hl 3 rfl) ?_
  refine lv_iconst (v := 0) hx hb dX7_set_1 (by decide) ?_
  refine lv_ldc (v := 65535) hx hb hown (hts (.constant RX7 130 (65535)) (List.mem_of_getElem? (i := 1) rfl)) dX7_set_2 ?_
  refine k_si (k_runS (As := [.int x3, .int 0, .int 65535]) (rest := []) ⟨hx, hb, hml, hown, hts⟩ (cF_X7_in l D q x3 0 65535) (va_cwS 3 hts gX7_set_X7_in rfl rfl rfl cdX7_in ⟨Nat.le_of_ble_eq_true rfl, Nat.le_of_ble_eq_true rfl⟩) hK k_nilP k_nilD rfl hl.1 rfl (Nat.le_of_ble_eq_true rfl) dX7_set_4 ⟨Nat.le_of_ble_eq_true rfl, Nat.le_of_ble_eq_true rfl⟩) (fun r hr => ?_)
  subst hr
  refine lv_if_eq (tgt := 18) hx hb dX7_set_7 (by decide) (fun c1 => ?_) (fun c1 => ?_)
  · have hf := hf.1 (c1)
    refine lv_iconst (v := (-1)) hx hb dX7_set_18 (by decide) ?_
    exact hf H locs ls hP hD hS (lv_sub hl [0, 1, 2, 3] rfl)
  · have hf := hf.2 (c1)
    refine lv_aload_n hx hb dX7_set_10 rfl (lv_at hl 0 rfl) ?_
    refine lv_iload_n hx hb dX7_set_11 rfl (lv_at hl 1 rfl) ?_
    refine k_si (k_runV (As := [.int x1]) (rest := []) ⟨hx, hb, hml, hown, hts⟩ (c_X7_need l D q aR uR x1 _ hf) (cwV 1 hts gX7_set_X7_need rfl rfl rfl cdX7_need ⟨Nat.le_of_ble_eq_true rfl, Nat.le_of_ble_eq_true rfl⟩) hK hP hD 0 rfl rfl rfl hl.1 rfl (Nat.le_of_ble_eq_true rfl) dX7_set_12 ⟨Nat.le_of_ble_eq_true rfl, Nat.le_of_ble_eq_true rfl⟩) (fun r2 hf => ?_)
    refine lv_goto (tgt := 19) hx hb dX7_set_15 (by decide) ?_
    exact hf H locs ls hP hD hS (lv_sub hl [0, 1, 2, 3] rfl)
def wpX7_get (uR : RSt) (x1 : Int32) (x2 : Int32) (Q : Int32 → Prop) : Prop :=
  wpX7_need uR x1 (fun r1 =>
    ((0 : Int32) ≤ r1 →
      vp_in x1 4 ∧
      (((fX7_in x2 0 (((gR_sizes uR) (x1 : Int32).toNatClampNeg) - 1)) = 0 →
        Q (-12)) ∧
      (¬ ((fX7_in x2 0 (((gR_sizes uR) (x1 : Int32).toNatClampNeg) - 1)) = 0) →
        vp_in ((64 * x1) + x2) 256 ∧
        Q ((gR_sheets uR) (((64 * x1) + x2) : Int32).toNatClampNeg)))) ∧
    (¬ ((0 : Int32) ≤ r1) →
      Q r1))
def rmX7_get : Room := { frames := 3, cells := 0, slots := 0, locals := 63 }
theorem inX7_get_X7 : ∀ w ∈ wsX70, w ∈ wsX7_get := fun w h => List.mem_cons_of_mem _ (List.mem_append_right _ h)
set_option maxRecDepth 100000 in
set_option maxHeartbeats 4000000 in
theorem c_X7_get (l : Launch) (D : va_G) (q : Nat → ClassId) (aR : Nat → Nat) (uR : RSt) (x1 : Int32) (x2 : Int32) (Q : Int32 → Prop) (hf : wpX7_get uR x1 x2 Q) : Met l yX7_get wsX7_get rmX7_get (va_Pc [.ref (aR 0), .int x1, .int x2] (kP D q (wR aR q uR))) (vp_Si Q) 0 0 (fun _ => False) := by
  refine Met.ofW (cc := cX7_get) (maxL := 4) (ret := (some .int)) (by decide) rfl ?_
  intro p e s m args below meth c s₁ B hml hv
  obtain ⟨hargs, hP, hK, hD⟩ := hv
  have hx := B.exec
  have hb := B.bytes
  have hr := B.returns
  have hts := atoms_spec (ws := wsX7_get) B.pre
  have hown : s.vm.findClass RX7 = some m.cls := findClass_of_methodNamed B.named
  have hlocks := B.notSynchronized
  refine k_entry hargs (Nat.le_of_ble_eq_true rfl) (fun ls hl => ?_)
  have hl : lv_has ls 4 [(0, .ref (aR 0)), (1, .int x1), (2, .int x2)] := hl
  change W p l e rmX7_get s m args below meth c s.heap [] 0 0 (MQ below (vp_Si Q) args s 0 0 (fun _ => False)) _
  unfold wpX7_get at hf
  refine lv_aload_n hx hb dX7_get_0 rfl (lv_at hl 0 rfl) ?_
  refine lv_iload_n hx hb dX7_get_1 rfl (lv_at hl 1 rfl) ?_
  refine k_si (k_runV (As := [.int x1]) (rest := []) ⟨hx, hb, hml, hown, hts⟩ (c_X7_need l D q aR uR x1 _ hf) (cwV 1 hts gX7_get_X7_need rfl rfl rfl cdX7_need ⟨Nat.le_of_ble_eq_true rfl, Nat.le_of_ble_eq_true rfl⟩) hK hP hD 0 rfl rfl rfl hl.1 rfl (Nat.le_of_ble_eq_true rfl) dX7_get_2 ⟨Nat.le_of_ble_eq_true rfl, Nat.le_of_ble_eq_true rfl⟩) (fun r1 hf => ?_)
  refine lv_istore_n (lv' := [(3, .int r1), (0, .ref (aR 0)), (1, .int x1), (2, .int x2)]) hx hb dX7_get_5 rfl hl (by decide) rfl (fun ls hl => ?_)
  refine lv_iload_n hx hb dX7_get_6 rfl (lv_at hl 0 rfl) ?_
  refine lv_if_ge (tgt := 14) hx hb dX7_get_7 (by decide) (fun c2 => ?_) (fun c2 => ?_)
  · have hf := hf.1 (c2)
    refine lv_iload_n hx hb dX7_get_14 rfl (lv_at hl 3 rfl) ?_
    refine lv_iconst (v := 0) hx hb dX7_get_15 (by decide) ?_
    refine lv_aload_n hx hb dX7_get_16 rfl (lv_at hl 1 rfl) ?_
    refine va_get (D := D) (ci := 5) (v := .ref (aR 6)) (C := RX7) (T := TX7) (N := 14) hx hb hts inX7_get_X7 hown hK hP 0 rfl rfl 8 (by decide) (hts (.fieldLink RX7 26 "GrowingTextModel" "sizes" "[I") (List.mem_of_getElem? (i := 1) rfl)) (fun _ h9 => h9) rfl dX7_get_17 ?_
    refine lv_iload_n hx hb dX7_get_20 rfl (lv_at hl 2 rfl) ?_
    refine va_iald hx hb hK hP 6 0 (f := (gR_sizes uR)) rfl rfl hf.1 dX7_get_21 ?_
    have hf := hf.2
    refine lv_iconst (v := 1) hx hb dX7_get_22 (by decide) ?_
    refine lv_isub hx hb dX7_get_23 ?_
    refine k_si (k_runS (As := [.int x2, .int 0, .int (((gR_sizes uR) (x1 : Int32).toNatClampNeg) - 1)]) (rest := []) ⟨hx, hb, hml, hown, hts⟩ (cF_X7_in l D q x2 0 (((gR_sizes uR) (x1 : Int32).toNatClampNeg) - 1)) (va_cwS 3 hts gX7_get_X7_in rfl rfl rfl cdX7_in ⟨Nat.le_of_ble_eq_true rfl, Nat.le_of_ble_eq_true rfl⟩) hK k_nilP k_nilD rfl hl.1 rfl (Nat.le_of_ble_eq_true rfl) dX7_get_24 ⟨Nat.le_of_ble_eq_true rfl, Nat.le_of_ble_eq_true rfl⟩) (fun r hr => ?_)
    subst hr
    refine lv_if_eq (tgt := 44) hx hb dX7_get_27 (by decide) (fun c3 => ?_) (fun c3 => ?_)
    · have hf := hf.1 (c3)
      refine lv_bipush (v := (-12)) hx hb dX7_get_44 (by decide) ?_
      exact k_iret_r (v := (-12)) hx hb hr hlocks hf dX7_get_46
    · have hf := hf.2 (c3)
      refine lv_aload_n hx hb dX7_get_30 rfl (lv_at hl 1 rfl) ?_
      refine va_get (D := D) (ci := 5) (v := .ref (aR 7)) (C := RX7) (T := TX7) (N := 14) hx hb hts inX7_get_X7 hown hK hP 0 rfl rfl 9 (by decide) (hts (.fieldLink RX7 29 "GrowingTextModel" "sheets" "[I") (List.mem_of_getElem? (i := 2) rfl)) (fun _ h9 => h9) rfl dX7_get_31 ?_
      refine lv_bipush (v := 64) hx hb dX7_get_34 (by decide) ?_
      refine lv_iload_n hx hb dX7_get_36 rfl (lv_at hl 2 rfl) ?_
      refine lv_imul hx hb dX7_get_37 ?_
      refine lv_iload_n hx hb dX7_get_38 rfl (lv_at hl 3 rfl) ?_
      refine lv_iadd hx hb dX7_get_39 ?_
      refine va_iald hx hb hK hP 7 0 (f := (gR_sheets uR)) rfl rfl hf.1 dX7_get_40 ?_
      have hf := hf.2
      refine lv_goto (tgt := 46) hx hb dX7_get_41 (by decide) ?_
      exact k_iret_r (v := ((gR_sheets uR) (((64 * x1) + x2) : Int32).toNatClampNeg)) hx hb hr hlocks hf dX7_get_46
  · have hf := hf.2 (c2)
    refine lv_iload_n hx hb dX7_get_10 rfl (lv_at hl 0 rfl) ?_
    refine lv_goto (tgt := 46) hx hb dX7_get_11 (by decide) ?_
    exact k_iret_r (v := r1) hx hb hr hlocks hf dX7_get_46
def wpX7_size (uR : RSt) (x1 : Int32) (Q : Int32 → Prop) : Prop :=
  wpX7_need uR x1 (fun r1 =>
    ((0 : Int32) ≤ r1 →
      vp_in x1 4 ∧
      Q ((gR_sizes uR) (x1 : Int32).toNatClampNeg)) ∧
    (¬ ((0 : Int32) ≤ r1) →
      Q r1))
def rmX7_size : Room := { frames := 3, cells := 0, slots := 0, locals := 63 }
theorem inX7_size_X7 : ∀ w ∈ wsX70, w ∈ wsX7_size := fun w h => List.mem_cons_of_mem _ (List.mem_append_right _ h)
set_option maxRecDepth 100000 in
set_option maxHeartbeats 4000000 in
theorem c_X7_size (l : Launch) (D : va_G) (q : Nat → ClassId) (aR : Nat → Nat) (uR : RSt) (x1 : Int32) (Q : Int32 → Prop) (hf : wpX7_size uR x1 Q) : Met l yX7_size wsX7_size rmX7_size (va_Pc [.ref (aR 0), .int x1] (kP D q (wR aR q uR))) (vp_Si Q) 0 0 (fun _ => False) := by
  refine Met.ofW (cc := cX7_size) (maxL := 3) (ret := (some .int)) (by decide) rfl ?_
  intro p e s m args below meth c s₁ B hml hv
  obtain ⟨hargs, hP, hK, hD⟩ := hv
  have hx := B.exec
  have hb := B.bytes
  have hr := B.returns
  have hts := atoms_spec (ws := wsX7_size) B.pre
  have hown : s.vm.findClass RX7 = some m.cls := findClass_of_methodNamed B.named
  have hlocks := B.notSynchronized
  refine k_entry hargs (Nat.le_of_ble_eq_true rfl) (fun ls hl => ?_)
  have hl : lv_has ls 3 [(0, .ref (aR 0)), (1, .int x1)] := hl
  change W p l e rmX7_size s m args below meth c s.heap [] 0 0 (MQ below (vp_Si Q) args s 0 0 (fun _ => False)) _
  unfold wpX7_size at hf
  refine lv_aload_n hx hb dX7_size_0 rfl (lv_at hl 0 rfl) ?_
  refine lv_iload_n hx hb dX7_size_1 rfl (lv_at hl 1 rfl) ?_
  refine k_si (k_runV (As := [.int x1]) (rest := []) ⟨hx, hb, hml, hown, hts⟩ (c_X7_need l D q aR uR x1 _ hf) (cwV 1 hts gX7_size_X7_need rfl rfl rfl cdX7_need ⟨Nat.le_of_ble_eq_true rfl, Nat.le_of_ble_eq_true rfl⟩) hK hP hD 0 rfl rfl rfl hl.1 rfl (Nat.le_of_ble_eq_true rfl) dX7_size_2 ⟨Nat.le_of_ble_eq_true rfl, Nat.le_of_ble_eq_true rfl⟩) (fun r1 hf => ?_)
  refine lv_istore_n (lv' := [(2, .int r1), (0, .ref (aR 0)), (1, .int x1)]) hx hb dX7_size_5 rfl hl (by decide) rfl (fun ls hl => ?_)
  refine lv_iload_n hx hb dX7_size_6 rfl (lv_at hl 0 rfl) ?_
  refine lv_if_ge (tgt := 14) hx hb dX7_size_7 (by decide) (fun c2 => ?_) (fun c2 => ?_)
  · have hf := hf.1 (c2)
    refine lv_aload_n hx hb dX7_size_14 rfl (lv_at hl 1 rfl) ?_
    refine va_get (D := D) (ci := 5) (v := .ref (aR 6)) (C := RX7) (T := TX7) (N := 14) hx hb hts inX7_size_X7 hown hK hP 0 rfl rfl 8 (by decide) (hts (.fieldLink RX7 26 "GrowingTextModel" "sizes" "[I") (List.mem_of_getElem? (i := 1) rfl)) (fun _ h9 => h9) rfl dX7_size_15 ?_
    refine lv_iload_n hx hb dX7_size_18 rfl (lv_at hl 2 rfl) ?_
    refine va_iald hx hb hK hP 6 0 (f := (gR_sizes uR)) rfl rfl hf.1 dX7_size_19 ?_
    have hf := hf.2
    exact k_iret_r (v := ((gR_sizes uR) (x1 : Int32).toNatClampNeg)) hx hb hr hlocks hf dX7_size_20
  · have hf := hf.2 (c2)
    refine lv_iload_n hx hb dX7_size_10 rfl (lv_at hl 0 rfl) ?_
    refine lv_goto (tgt := 20) hx hb dX7_size_11 (by decide) ?_
    exact k_iret_r (v := r1) hx hb hr hlocks hf dX7_size_20
def wpX7_drop (uR : RSt) (x1 : Int32) (Q : Int32 → RSt → Prop) : Prop :=
  wpX7_need uR x1 (fun r1 =>
    ((0 : Int32) ≤ r1 →
      vp_in x1 4 ∧
      vp_in x1 4 ∧
      Q ((gR_sizes uR) (x1 : Int32).toNatClampNeg) (gR_set_sizes uR (upd (gR_sizes uR) (x1 : Int32).toNatClampNeg (-1)))) ∧
    (¬ ((0 : Int32) ≤ r1) →
      Q r1 uR))
def rmX7_drop : Room := { frames := 3, cells := 0, slots := 0, locals := 63 }
theorem inX7_drop_X7 : ∀ w ∈ wsX70, w ∈ wsX7_drop := fun w h => List.mem_cons_of_mem _ (List.mem_append_right _ h)
set_option maxRecDepth 100000 in
set_option maxHeartbeats 4000000 in
theorem c_X7_drop (l : Launch) (D : va_G) (q : Nat → ClassId) (aR : Nat → Nat) (uR : RSt) (x1 : Int32) (Q : Int32 → RSt → Prop) (hf : wpX7_drop uR x1 Q) : Met l yX7_drop wsX7_drop rmX7_drop (va_Pc [.ref (aR 0), .int x1] (kP D q (wR aR q uR))) (va_Qi Q (fun u t => kP D q (wR aR q u) t) (kIn (wR aR q uR))) 0 0 (kIn (wR aR q uR)) := by
  refine Met.ofW (cc := cX7_drop) (maxL := 4) (ret := (some .int)) (by decide) rfl ?_
  intro p e s m args below meth c s₁ B hml hv
  obtain ⟨hargs, hP, hK, hD⟩ := hv
  have hx := B.exec
  have hb := B.bytes
  have hr := B.returns
  have hts := atoms_spec (ws := wsX7_drop) B.pre
  have hown : s.vm.findClass RX7 = some m.cls := findClass_of_methodNamed B.named
  have hlocks := B.notSynchronized
  have hD := kd_self hD
  generalize kIn (wR aR q uR) = A at hD ⊢
  have hS : va_S A s.heap s.heap [] := va_S.rf
  refine k_entry hargs (Nat.le_of_ble_eq_true rfl) (fun ls hl => ?_)
  have hl : lv_has ls 4 [(0, .ref (aR 0)), (1, .int x1)] := hl
  change W p l e rmX7_drop s m args below meth c s.heap [] 0 0 (MQ below (va_Qi Q (fun u t => kP D q (wR aR q u) t) A) args s 0 0 A) _
  unfold wpX7_drop at hf
  obtain ⟨H, hH⟩ : ∃ H, H = s.heap := ⟨_, rfl⟩
  obtain ⟨locs, hlocs⟩ : ∃ x : List Loc, x = [] := ⟨_, rfl⟩
  rw [← hH] at hP
  have hS : va_S A s.heap H locs := by rw [hH, hlocs]; exact hS
  rw [show W p l e rmX7_drop s m args below meth c s.heap [] 0 0 (MQ below (va_Qi Q (fun u t => kP D q (wR aR q u) t) A) args s 0 0 A) (F0 m 0 ls []) = W p l e rmX7_drop s m args below meth c H locs 0 0 (MQ below (va_Qi Q (fun u t => kP D q (wR aR q u) t) A) args s 0 0 A) (F0 m 0 ls []) by rw [hH, hlocs]]
  clear hH hlocs
  refine lv_aload_n hx hb dX7_drop_0 rfl (lv_at hl 0 rfl) ?_
  refine lv_iload_n hx hb dX7_drop_1 rfl (lv_at hl 1 rfl) ?_
  refine k_si (k_runV (As := [.int x1]) (rest := []) ⟨hx, hb, hml, hown, hts⟩ (c_X7_need l D q aR uR x1 _ hf) (cwV 1 hts gX7_drop_X7_need rfl rfl rfl cdX7_need ⟨Nat.le_of_ble_eq_true rfl, Nat.le_of_ble_eq_true rfl⟩) hK hP hD 0 rfl rfl rfl hl.1 rfl (Nat.le_of_ble_eq_true rfl) dX7_drop_2 ⟨Nat.le_of_ble_eq_true rfl, Nat.le_of_ble_eq_true rfl⟩) (fun r1 hf => ?_)
  refine lv_istore_n (lv' := [(2, .int r1), (0, .ref (aR 0)), (1, .int x1)]) hx hb dX7_drop_5 rfl hl (by decide) rfl (fun ls hl => ?_)
  refine lv_iload_n hx hb dX7_drop_6 rfl (lv_at hl 0 rfl) ?_
  refine lv_if_ge (tgt := 12) hx hb dX7_drop_7 (by decide) (fun c2 => ?_) (fun c2 => ?_)
  · have hf := hf.1 (c2)
    refine lv_aload_n hx hb dX7_drop_12 rfl (lv_at hl 1 rfl) ?_
    refine va_get (D := D) (ci := 5) (v := .ref (aR 6)) (C := RX7) (T := TX7) (N := 14) hx hb hts inX7_drop_X7 hown hK hP 0 rfl rfl 8 (by decide) (hts (.fieldLink RX7 26 "GrowingTextModel" "sizes" "[I") (List.mem_of_getElem? (i := 1) rfl)) (fun _ h9 => h9) rfl dX7_drop_13 ?_
    refine lv_iload_n hx hb dX7_drop_16 rfl (lv_at hl 2 rfl) ?_
    refine va_iald hx hb hK hP 6 0 (f := (gR_sizes uR)) rfl rfl hf.1 dX7_drop_17 ?_
    have hf := hf.2
    refine lv_istore_n (lv' := [(3, .int ((gR_sizes uR) (x1 : Int32).toNatClampNeg)), (2, .int r1), (0, .ref (aR 0)), (1, .int x1)]) hx hb dX7_drop_18 rfl hl (by decide) rfl (fun ls hl => ?_)
    refine lv_aload_n hx hb dX7_drop_19 rfl (lv_at hl 2 rfl) ?_
    refine va_get (D := D) (ci := 5) (v := .ref (aR 6)) (C := RX7) (T := TX7) (N := 14) hx hb hts inX7_drop_X7 hown hK hP 0 rfl rfl 8 (by decide) (hts (.fieldLink RX7 26 "GrowingTextModel" "sizes" "[I") (List.mem_of_getElem? (i := 1) rfl)) (fun _ h9 => h9) rfl dX7_drop_20 ?_
    refine lv_iload_n hx hb dX7_drop_23 rfl (lv_at hl 3 rfl) ?_
    refine lv_iconst (v := (-1)) hx hb dX7_drop_24 (by decide) ?_
    refine va_iast hx hb hK hP hD hS 6 0 (f := (gR_sizes uR)) rfl rfl hf.1 dX7_drop_25 (fun H locs hP hD hS => ?_)
    have hf := hf.2
    have hP : va_P D vwCl (wR aR q (gR_set_sizes uR (upd (gR_sizes uR) (x1 : Int32).toNatClampNeg (-1)))) H := hP
    have hD : va_D A (wR aR q (gR_set_sizes uR (upd (gR_sizes uR) (x1 : Int32).toNatClampNeg (-1)))) := hD
    refine lv_iload_n hx hb dX7_drop_26 rfl (lv_at hl 0 rfl) ?_
    exact k_iret_w (wf := (fun u => wR aR q u)) (post := Q) (u := (gR_set_sizes uR (upd (gR_sizes uR) (x1 : Int32).toNatClampNeg (-1)))) (v := ((gR_sizes uR) (x1 : Int32).toNatClampNeg)) hx hb hr hlocks hK hP hD hS hf dX7_drop_27
  · have hf := hf.2 (c2)
    refine lv_iload_n hx hb dX7_drop_10 rfl (lv_at hl 0 rfl) ?_
    exact k_iret_w (wf := (fun u => wR aR q u)) (post := Q) (u := uR) (v := r1) hx hb hr hlocks hK hP hD hS hf dX7_drop_11
def wpX7_growBy (uR : RSt) (x1 : Int32) (Q : Int32 → RSt → Prop) : Prop :=
  ∀ (X17 : Int32 → Int32 → RSt → Prop) (X95 : Int32 → RSt → Prop) (X58 : Int32 → RSt → Prop),
  (∀ (y3 : Int32) (y4 : Int32) (tR : RSt),
    (vp_in x1 4 ∧
    ((((gR_sizes tR) (x1 : Int32).toNatClampNeg) ≤ y4 →
      (y3 = 0 →
        Q (-2) tR) ∧
      (¬ (y3 = 0) →
        vp_in x1 4 ∧
        ((((gR_n tR) + ((gR_sizes tR) (x1 : Int32).toNatClampNeg)) ≤ 60 →
          X95 0 tR) ∧
        (¬ (((gR_n tR) + ((gR_sizes tR) (x1 : Int32).toNatClampNeg)) ≤ 60) →
          Q (-3) tR)))) ∧
    (¬ (((gR_sizes tR) (x1 : Int32).toNatClampNeg) ≤ y4) →
      (y3 = 0 →
        X58 y4 tR) ∧
      (¬ (y3 = 0) →
        vp_in ((64 * x1) + y4) 256 ∧
        (((fX7_isLetter tR (((gR_sheets tR) (((64 * x1) + y4) : Int32).toNatClampNeg) - 97)) = 0 →
          X58 y4 tR) ∧
        (¬ ((fX7_isLetter tR (((gR_sheets tR) (((64 * x1) + y4) : Int32).toNatClampNeg) - 97)) = 0) →
          X17 1 (y4 + 1) tR)))))) → X17 y3 y4 tR) →
  (∀ (y4 : Int32) (tR : RSt),
    (vp_in x1 4 ∧
    ((((gR_sizes tR) (x1 : Int32).toNatClampNeg) ≤ y4 →
      Q (gR_n tR) tR) ∧
    (¬ (((gR_sizes tR) (x1 : Int32).toNatClampNeg) ≤ y4) →
      vp_in ((64 * x1) + y4) 256 ∧
      wpX7_grows tR (((gR_sheets tR) (((64 * x1) + y4) : Int32).toNatClampNeg) - 97) (fun uR9 =>
        X95 (y4 + 1) uR9)))) → X95 y4 tR) →
  (∀ (y4 : Int32) (tR : RSt),
    X17 0 (y4 + 1) tR → X58 y4 tR) →
  wpX7_need uR x1 (fun r1 =>
    ((0 : Int32) ≤ r1 →
      X17 1 0 uR) ∧
    (¬ ((0 : Int32) ≤ r1) →
      Q r1 uR))
def rmX7_growBy : Room := { frames := 3, cells := 0, slots := 0, locals := 77 }
theorem inX7_growBy_X7 : ∀ w ∈ wsX70, w ∈ wsX7_growBy := fun w h => List.mem_cons_of_mem _ (List.mem_append_right _ h)
set_option maxRecDepth 100000 in
set_option maxHeartbeats 4000000 in
theorem c_X7_growBy (l : Launch) (D : va_G) (q : Nat → ClassId) (aR : Nat → Nat) (uR : RSt) (x1 : Int32) (Q : Int32 → RSt → Prop) (hf : wpX7_growBy uR x1 Q) : Met l yX7_growBy wsX7_growBy rmX7_growBy (va_Pc [.ref (aR 0), .int x1] (kP D q (wR aR q uR))) (va_Qi Q (fun u t => kP D q (wR aR q u) t) (kIn (wR aR q uR))) 0 0 (kIn (wR aR q uR)) := by
  refine Met.ofW (cc := cX7_growBy) (maxL := 5) (ret := (some .int)) (by decide) rfl ?_
  intro p e s m args below meth c s₁ B hml hv
  obtain ⟨hargs, hP, hK, hD⟩ := hv
  have hx := B.exec
  have hb := B.bytes
  have hr := B.returns
  have hts := atoms_spec (ws := wsX7_growBy) B.pre
  have hown : s.vm.findClass RX7 = some m.cls := findClass_of_methodNamed B.named
  have hlocks := B.notSynchronized
  have hD := kd_self hD
  generalize kIn (wR aR q uR) = A at hD ⊢
  have hS : va_S A s.heap s.heap [] := va_S.rf
  refine k_entry hargs (Nat.le_of_ble_eq_true rfl) (fun ls hl => ?_)
  have hl : lv_has ls 5 [(0, .ref (aR 0)), (1, .int x1)] := hl
  change W p l e rmX7_growBy s m args below meth c s.heap [] 0 0 (MQ below (va_Qi Q (fun u t => kP D q (wR aR q u) t) A) args s 0 0 A) _
  unfold wpX7_growBy at hf
  obtain ⟨H, hH⟩ : ∃ H, H = s.heap := ⟨_, rfl⟩
  obtain ⟨locs, hlocs⟩ : ∃ x : List Loc, x = [] := ⟨_, rfl⟩
  rw [← hH] at hP
  have hS : va_S A s.heap H locs := by rw [hH, hlocs]; exact hS
  rw [show W p l e rmX7_growBy s m args below meth c s.heap [] 0 0 (MQ below (va_Qi Q (fun u t => kP D q (wR aR q u) t) A) args s 0 0 A) (F0 m 0 ls []) = W p l e rmX7_growBy s m args below meth c H locs 0 0 (MQ below (va_Qi Q (fun u t => kP D q (wR aR q u) t) A) args s 0 0 A) (F0 m 0 ls []) by rw [hH, hlocs]]
  clear hH hlocs
  have hf := hf
    (fun (y3 : Int32) (y4 : Int32) (tR : RSt) => ∀ (H : Heap) (locs : List Loc) (ls : Array Slot), va_P D vwCl (wR aR q tR) H → va_D A (wR aR q tR) → va_S A s.heap H locs → lv_has ls 5 [(0, .ref (aR 0)), (1, .int x1), (3, .int y3), (4, .int y4)] → W p l e rmX7_growBy s m args below meth c H locs 0 0 (MQ below (va_Qi Q (fun u t => kP D q (wR aR q u) t) A) args s 0 0 A) (F0 m 17 ls []))
    (fun (y4 : Int32) (tR : RSt) => ∀ (H : Heap) (locs : List Loc) (ls : Array Slot), va_P D vwCl (wR aR q tR) H → va_D A (wR aR q tR) → va_S A s.heap H locs → lv_has ls 5 [(0, .ref (aR 0)), (1, .int x1), (4, .int y4)] → W p l e rmX7_growBy s m args below meth c H locs 0 0 (MQ below (va_Qi Q (fun u t => kP D q (wR aR q u) t) A) args s 0 0 A) (F0 m 95 ls []))
    (fun (y4 : Int32) (tR : RSt) => ∀ (H : Heap) (locs : List Loc) (ls : Array Slot), va_P D vwCl (wR aR q tR) H → va_D A (wR aR q tR) → va_S A s.heap H locs → lv_has ls 5 [(0, .ref (aR 0)), (1, .int x1), (4, .int y4)] → W p l e rmX7_growBy s m args below meth c H locs 0 0 (MQ below (va_Qi Q (fun u t => kP D q (wR aR q u) t) A) args s 0 0 A) (F0 m 58 ls []))
    (by
      intro y3 y4 tR hf H locs ls hP hD hS hl
      refine lv_iload hx hb dX7_growBy_17 (lv_at hl 3 rfl) ?_
      refine lv_aload_n hx hb dX7_growBy_19 rfl (lv_at hl 0 rfl) ?_
      refine va_get (D := D) (ci := 5) (v := .ref (aR 6)) (C := RX7) (T := TX7) (N := 14) hx hb hts inX7_growBy_X7 hown hK hP 0 rfl rfl 8 (by decide) (hts (.fieldLink RX7 26 "GrowingTextModel" "sizes" "[I") (List.mem_of_getElem? (i := 1) rfl)) (fun _ h9 => h9) rfl dX7_growBy_20 ?_
      refine lv_iload_n hx hb dX7_growBy_23 rfl (lv_at hl 1 rfl) ?_
      refine va_iald hx hb hK hP 6 0 (f := (gR_sizes tR)) rfl rfl hf.1 dX7_growBy_24 ?_
      have hf := hf.2
      refine lv_icmp_ge (tgt := 66) hx hb dX7_growBy_25 (by decide) (fun c3 => ?_) (fun c3 => ?_)
      · have hf := hf.1 (c3)
        refine lv_iload_n hx hb dX7_growBy_66 rfl (lv_at hl 2 rfl) ?_
        refine lv_if_ne (tgt := 73) hx hb dX7_growBy_67 (by decide) (fun c4 => ?_) (fun c4 => ?_)
        · have hf := hf.2 (c4)
          refine lv_aload_n hx hb dX7_growBy_73 rfl (lv_at hl 0 rfl) ?_
          refine va_get (D := D) (ci := 5) (v := .int (gR_n tR)) (C := RX7) (T := TX7) (N := 14) hx hb hts inX7_growBy_X7 hown hK hP 0 rfl rfl 1 (by decide) (hts (.fieldLink RX7 56 "GrowingTextModel" "n" "I") (List.mem_of_getElem? (i := 3) rfl)) (fun _ h9 => h9) rfl dX7_growBy_74 ?_
          refine lv_aload_n hx hb dX7_growBy_77 rfl (lv_at hl 0 rfl) ?_
          refine va_get (D := D) (ci := 5) (v := .ref (aR 6)) (C := RX7) (T := TX7) (N := 14) hx hb hts inX7_growBy_X7 hown hK hP 0 rfl rfl 8 (by decide) (hts (.fieldLink RX7 26 "GrowingTextModel" "sizes" "[I") (List.mem_of_getElem? (i := 1) rfl)) (fun _ h9 => h9) rfl dX7_growBy_78 ?_
          refine lv_iload_n hx hb dX7_growBy_81 rfl (lv_at hl 1 rfl) ?_
          refine va_iald hx hb hK hP 6 0 (f := (gR_sizes tR)) rfl rfl hf.1 dX7_growBy_82 ?_
          have hf := hf.2
          refine lv_iadd hx hb dX7_growBy_83 ?_
          refine lv_bipush (v := 60) hx hb dX7_growBy_84 (by decide) ?_
          refine lv_icmp_le (tgt := 92) hx hb dX7_growBy_86 (by decide) (fun c5 => ?_) (fun c5 => ?_)
          · have hf := hf.1 (c5)
            refine lv_iconst (v := 0) hx hb dX7_growBy_92 (by decide) ?_
            refine lv_istore (lv' := [(4, .int 0), (0, .ref (aR 0)), (1, .int x1), (3, .int y3)]) hx hb dX7_growBy_93 hl (by decide) rfl (fun ls hl => ?_)
            exact hf H locs ls hP hD hS (lv_sub hl [1, 2, 0] rfl)
          · have hf := hf.2 (c5)
            refine lv_bipush (v := (-3)) hx hb dX7_growBy_89 (by decide) ?_
            exact k_iret_w (wf := (fun u => wR aR q u)) (post := Q) (u := tR) (v := (-3)) hx hb hr hlocks hK hP hD hS hf dX7_growBy_91
        · have hf := hf.1 (c4)
          refine lv_bipush (v := (-2)) hx hb dX7_growBy_70 (by decide) ?_
          exact k_iret_w (wf := (fun u => wR aR q u)) (post := Q) (u := tR) (v := (-2)) hx hb hr hlocks hK hP hD hS hf dX7_growBy_72
      · have hf := hf.2 (c3)
        refine lv_iload_n hx hb dX7_growBy_28 rfl (lv_at hl 2 rfl) ?_
        refine lv_if_eq (tgt := 58) hx hb dX7_growBy_29 (by decide) (fun c6 => ?_) (fun c6 => ?_)
        · have hf := hf.1 (c6)
          exact hf H locs ls hP hD hS (lv_sub hl [0, 1, 3] rfl)
        · have hf := hf.2 (c6)
          refine lv_aload_n hx hb dX7_growBy_32 rfl (lv_at hl 0 rfl) ?_
          refine lv_aload_n hx hb dX7_growBy_33 rfl (lv_at hl 0 rfl) ?_
          refine va_get (D := D) (ci := 5) (v := .ref (aR 7)) (C := RX7) (T := TX7) (N := 14) hx hb hts inX7_growBy_X7 hown hK hP 0 rfl rfl 9 (by decide) (hts (.fieldLink RX7 29 "GrowingTextModel" "sheets" "[I") (List.mem_of_getElem? (i := 2) rfl)) (fun _ h9 => h9) rfl dX7_growBy_34 ?_
          refine lv_bipush (v := 64) hx hb dX7_growBy_37 (by decide) ?_
          refine lv_iload_n hx hb dX7_growBy_39 rfl (lv_at hl 1 rfl) ?_
          refine lv_imul hx hb dX7_growBy_40 ?_
          refine lv_iload hx hb dX7_growBy_41 (lv_at hl 3 rfl) ?_
          refine lv_iadd hx hb dX7_growBy_43 ?_
          refine va_iald hx hb hK hP 7 0 (f := (gR_sheets tR)) rfl rfl hf.1 dX7_growBy_44 ?_
          have hf := hf.2
          refine lv_bipush (v := 97) hx hb dX7_growBy_45 (by decide) ?_
          refine lv_isub hx hb dX7_growBy_47 ?_
          refine k_si (k_runV (As := [.int (((gR_sheets tR) (((64 * x1) + y4) : Int32).toNatClampNeg) - 97)]) (rest := []) ⟨hx, hb, hml, hown, hts⟩ (cF_X7_isLetter l D q aR tR (((gR_sheets tR) (((64 * x1) + y4) : Int32).toNatClampNeg) - 97)) (cwV 1 hts gX7_growBy_X7_isLetter rfl rfl rfl cdX7_isLetter ⟨Nat.le_of_ble_eq_true rfl, Nat.le_of_ble_eq_true rfl⟩) hK hP hD 0 rfl rfl rfl hl.1 rfl (Nat.le_of_ble_eq_true rfl) dX7_growBy_48 ⟨Nat.le_of_ble_eq_true rfl, Nat.le_of_ble_eq_true rfl⟩) (fun r hr => ?_)
          subst hr
          refine lv_if_eq (tgt := 58) hx hb dX7_growBy_51 (by decide) (fun c7 => ?_) (fun c7 => ?_)
          · have hf := hf.1 (c7)
            exact hf H locs ls hP hD hS (lv_sub hl [0, 1, 3] rfl)
          · have hf := hf.2 (c7)
            refine lv_iconst (v := 1) hx hb dX7_growBy_54 (by decide) ?_
            refine lv_goto (tgt := 59) hx hb dX7_growBy_55 (by decide) ?_
            refine lv_istore_n (lv' := [(3, .int 1), (0, .ref (aR 0)), (1, .int x1), (4, .int y4)]) hx hb dX7_growBy_59 rfl hl (by decide) rfl (fun ls hl => ?_)
            refine lv_iinc (v := (y4 + 1)) (lv' := [(4, .int (y4 + 1)), (3, .int 1), (0, .ref (aR 0)), (1, .int x1)]) hx hb dX7_growBy_60 hl (k := 3) rfl rfl (by decide) rfl (fun ls hl => ?_)
            refine lv_goto (tgt := 17) hx hb dX7_growBy_63 (by decide) ?_
            exact hf H locs ls hP hD hS (lv_sub hl [2, 3, 1, 0] rfl))
    (by
      intro y4 tR hf H locs ls hP hD hS hl
      refine lv_iload hx hb dX7_growBy_95 (lv_at hl 2 rfl) ?_
      refine lv_aload_n hx hb dX7_growBy_97 rfl (lv_at hl 0 rfl) ?_
      refine va_get (D := D) (ci := 5) (v := .ref (aR 6)) (C := RX7) (T := TX7) (N := 14) hx hb hts inX7_growBy_X7 hown hK hP 0 rfl rfl 8 (by decide) (hts (.fieldLink RX7 26 "GrowingTextModel" "sizes" "[I") (List.mem_of_getElem? (i := 1) rfl)) (fun _ h9 => h9) rfl dX7_growBy_98 ?_
      refine lv_iload_n hx hb dX7_growBy_101 rfl (lv_at hl 1 rfl) ?_
      refine va_iald hx hb hK hP 6 0 (f := (gR_sizes tR)) rfl rfl hf.1 dX7_growBy_102 ?_
      have hf := hf.2
      refine lv_icmp_ge (tgt := 131) hx hb dX7_growBy_103 (by decide) (fun c8 => ?_) (fun c8 => ?_)
      · have hf := hf.1 (c8)
        refine lv_aload_n hx hb dX7_growBy_131 rfl (lv_at hl 0 rfl) ?_
        refine va_get (D := D) (ci := 5) (v := .int (gR_n tR)) (C := RX7) (T := TX7) (N := 14) hx hb hts inX7_growBy_X7 hown hK hP 0 rfl rfl 1 (by decide) (hts (.fieldLink RX7 56 "GrowingTextModel" "n" "I") (List.mem_of_getElem? (i := 3) rfl)) (fun _ h9 => h9) rfl dX7_growBy_132 ?_
        exact k_iret_w (wf := (fun u => wR aR q u)) (post := Q) (u := tR) (v := (gR_n tR)) hx hb hr hlocks hK hP hD hS hf dX7_growBy_135
      · have hf := hf.2 (c8)
        refine lv_aload_n hx hb dX7_growBy_106 rfl (lv_at hl 0 rfl) ?_
        refine lv_aload_n hx hb dX7_growBy_107 rfl (lv_at hl 0 rfl) ?_
        refine va_get (D := D) (ci := 5) (v := .ref (aR 7)) (C := RX7) (T := TX7) (N := 14) hx hb hts inX7_growBy_X7 hown hK hP 0 rfl rfl 9 (by decide) (hts (.fieldLink RX7 29 "GrowingTextModel" "sheets" "[I") (List.mem_of_getElem? (i := 2) rfl)) (fun _ h9 => h9) rfl dX7_growBy_108 ?_
        refine lv_bipush (v := 64) hx hb dX7_growBy_111 (by decide) ?_
        refine lv_iload_n hx hb dX7_growBy_113 rfl (lv_at hl 1 rfl) ?_
        refine lv_imul hx hb dX7_growBy_114 ?_
        refine lv_iload hx hb dX7_growBy_115 (lv_at hl 2 rfl) ?_
        refine lv_iadd hx hb dX7_growBy_117 ?_
        refine va_iald hx hb hK hP 7 0 (f := (gR_sheets tR)) rfl rfl hf.1 dX7_growBy_118 ?_
        have hf := hf.2
        refine lv_bipush (v := 97) hx hb dX7_growBy_119 (by decide) ?_
        refine lv_isub hx hb dX7_growBy_121 ?_
        refine k_wv (wf := fun u => wR aR q u) (u0 := tR) (k_runV (As := [.int (((gR_sheets tR) (((64 * x1) + y4) : Int32).toNatClampNeg) - 97)]) (rest := []) ⟨hx, hb, hml, hown, hts⟩ (c_X7_grows l D q aR tR (((gR_sheets tR) (((64 * x1) + y4) : Int32).toNatClampNeg) - 97) _ hf) (cwV 1 hts gX7_growBy_X7_grows rfl rfl rfl cdX7_grows ⟨Nat.le_of_ble_eq_true rfl, Nat.le_of_ble_eq_true rfl⟩) hK hP hD 0 rfl rfl rfl hl.1 rfl (Nat.le_of_ble_eq_true rfl) dX7_growBy_122 ⟨Nat.le_of_ble_eq_true rfl, Nat.le_of_ble_eq_true rfl⟩) ([]) ([]) (fun _ => rfl) hP hD hS (fun uR9 H locs hf hP hD hS => ?_)
        have hP : va_P D vwCl (wR aR q uR9) H := hP
        have hD : va_D A (wR aR q uR9) := hD
        refine lv_iinc (v := (y4 + 1)) (lv' := [(4, .int (y4 + 1)), (0, .ref (aR 0)), (1, .int x1)]) hx hb dX7_growBy_125 hl (k := 2) rfl rfl (by decide) rfl (fun ls hl => ?_)
        refine lv_goto (tgt := 95) hx hb dX7_growBy_128 (by decide) ?_
        exact hf H locs ls hP hD hS (lv_sub hl [1, 2, 0] rfl))
    (by
      intro y4 tR hf H locs ls hP hD hS hl
      refine lv_iconst (v := 0) hx hb dX7_growBy_58 (by decide) ?_
      refine lv_istore_n (lv' := [(3, .int 0), (0, .ref (aR 0)), (1, .int x1), (4, .int y4)]) hx hb dX7_growBy_59 rfl hl (by decide) rfl (fun ls hl => ?_)
      refine lv_iinc (v := (y4 + 1)) (lv' := [(4, .int (y4 + 1)), (3, .int 0), (0, .ref (aR 0)), (1, .int x1)]) hx hb dX7_growBy_60 hl (k := 3) rfl rfl (by decide) rfl (fun ls hl => ?_)
      refine lv_goto (tgt := 17) hx hb dX7_growBy_63 (by decide) ?_
      exact hf H locs ls hP hD hS (lv_sub hl [2, 3, 1, 0] rfl))
  refine lv_aload_n hx hb dX7_growBy_0 rfl (lv_at hl 0 rfl) ?_
  refine lv_iload_n hx hb dX7_growBy_1 rfl (lv_at hl 1 rfl) ?_
  refine k_si (k_runV (As := [.int x1]) (rest := []) ⟨hx, hb, hml, hown, hts⟩ (c_X7_need l D q aR uR x1 _ hf) (cwV 1 hts gX7_growBy_X7_need rfl rfl rfl cdX7_need ⟨Nat.le_of_ble_eq_true rfl, Nat.le_of_ble_eq_true rfl⟩) hK hP hD 0 rfl rfl rfl hl.1 rfl (Nat.le_of_ble_eq_true rfl) dX7_growBy_2 ⟨Nat.le_of_ble_eq_true rfl, Nat.le_of_ble_eq_true rfl⟩) (fun r1 hf => ?_)
  refine lv_istore_n (lv' := [(2, .int r1), (0, .ref (aR 0)), (1, .int x1)]) hx hb dX7_growBy_5 rfl hl (by decide) rfl (fun ls hl => ?_)
  refine lv_iload_n hx hb dX7_growBy_6 rfl (lv_at hl 0 rfl) ?_
  refine lv_if_ge (tgt := 12) hx hb dX7_growBy_7 (by decide) (fun c2 => ?_) (fun c2 => ?_)
  · have hf := hf.1 (c2)
    refine lv_iconst (v := 1) hx hb dX7_growBy_12 (by decide) ?_
    refine lv_istore_n (lv' := [(3, .int 1), (2, .int r1), (0, .ref (aR 0)), (1, .int x1)]) hx hb dX7_growBy_13 rfl hl (by decide) rfl (fun ls hl => ?_)
    refine lv_iconst (v := 0) hx hb dX7_growBy_14 (by decide) ?_
    refine lv_istore (lv' := [(4, .int 0), (3, .int 1), (2, .int r1), (0, .ref (aR 0)), (1, .int x1)]) hx hb dX7_growBy_15 hl (by decide) rfl (fun ls hl => ?_)
    exact hf H locs ls hP hD hS (lv_sub hl [3, 4, 1, 0] rfl)
  · have hf := hf.2 (c2)
    refine lv_iload_n hx hb dX7_growBy_10 rfl (lv_at hl 0 rfl) ?_
    exact k_iret_w (wf := (fun u => wR aR q u)) (post := Q) (u := uR) (v := r1) hx hb hr hlocks hK hP hD hS hf dX7_growBy_11
def wpX7_toSheet (uR : RSt) (x1 : Int32) (x2 : Int32) (x3 : Int32) (Q : Int32 → RSt → Prop) : Prop :=
  ∀ (X10 : Int32 → RSt → Prop),
  (∀ (y4 : Int32) (tR : RSt),
    ((x2 ≤ y4 →
      Q x2 tR) ∧
    (¬ (x2 ≤ y4) →
      vp_in ((x1 - x2) + y4) 60 ∧
      vp_in ((64 * x3) + y4) 256 ∧
      X10 (y4 + 1) (gR_set_sheets tR (upd (gR_sheets tR) (((64 * x3) + y4) : Int32).toNatClampNeg (97 + ((gR_text tR) (((x1 - x2) + y4) : Int32).toNatClampNeg)))))) → X10 y4 tR) →
  (vp_in x3 4 ∧
  X10 0 (gR_set_sizes uR (upd (gR_sizes uR) (x3 : Int32).toNatClampNeg x2)))
def rmX7_toSheet : Room := { frames := 0, cells := 0, slots := 0, locals := 0 }
theorem inX7_toSheet_X7 : ∀ w ∈ wsX70, w ∈ wsX7_toSheet := fun w h => List.mem_cons_of_mem _ (List.mem_append_right _ h)
set_option maxRecDepth 100000 in
set_option maxHeartbeats 4000000 in
theorem c_X7_toSheet (l : Launch) (D : va_G) (q : Nat → ClassId) (aR : Nat → Nat) (uR : RSt) (x1 : Int32) (x2 : Int32) (x3 : Int32) (Q : Int32 → RSt → Prop) (hf : wpX7_toSheet uR x1 x2 x3 Q) : Met l yX7_toSheet wsX7_toSheet rmX7_toSheet (va_Pc [.ref (aR 0), .int x1, .int x2, .int x3] (kP D q (wR aR q uR))) (va_Qi Q (fun u t => kP D q (wR aR q u) t) (kIn (wR aR q uR))) 0 0 (kIn (wR aR q uR)) := by
  refine Met.ofW (cc := cX7_toSheet) (maxL := 5) (ret := (some .int)) (by decide) rfl ?_
  intro p e s m args below meth c s₁ B hml hv
  obtain ⟨hargs, hP, hK, hD⟩ := hv
  have hx := B.exec
  have hb := B.bytes
  have hr := B.returns
  have hts := atoms_spec (ws := wsX7_toSheet) B.pre
  have hown : s.vm.findClass RX7 = some m.cls := findClass_of_methodNamed B.named
  have hlocks := B.notSynchronized
  have hD := kd_self hD
  generalize kIn (wR aR q uR) = A at hD ⊢
  have hS : va_S A s.heap s.heap [] := va_S.rf
  refine k_entry hargs (Nat.le_of_ble_eq_true rfl) (fun ls hl => ?_)
  have hl : lv_has ls 5 [(0, .ref (aR 0)), (1, .int x1), (2, .int x2), (3, .int x3)] := hl
  change W p l e rmX7_toSheet s m args below meth c s.heap [] 0 0 (MQ below (va_Qi Q (fun u t => kP D q (wR aR q u) t) A) args s 0 0 A) _
  unfold wpX7_toSheet at hf
  obtain ⟨H, hH⟩ : ∃ H, H = s.heap := ⟨_, rfl⟩
  obtain ⟨locs, hlocs⟩ : ∃ x : List Loc, x = [] := ⟨_, rfl⟩
  rw [← hH] at hP
  have hS : va_S A s.heap H locs := by rw [hH, hlocs]; exact hS
  rw [show W p l e rmX7_toSheet s m args below meth c s.heap [] 0 0 (MQ below (va_Qi Q (fun u t => kP D q (wR aR q u) t) A) args s 0 0 A) (F0 m 0 ls []) = W p l e rmX7_toSheet s m args below meth c H locs 0 0 (MQ below (va_Qi Q (fun u t => kP D q (wR aR q u) t) A) args s 0 0 A) (F0 m 0 ls []) by rw [hH, hlocs]]
  clear hH hlocs
  have hf := hf
    (fun (y4 : Int32) (tR : RSt) => ∀ (H : Heap) (locs : List Loc) (ls : Array Slot), va_P D vwCl (wR aR q tR) H → va_D A (wR aR q tR) → va_S A s.heap H locs → lv_has ls 5 [(0, .ref (aR 0)), (1, .int x1), (2, .int x2), (3, .int x3), (4, .int y4)] → W p l e rmX7_toSheet s m args below meth c H locs 0 0 (MQ below (va_Qi Q (fun u t => kP D q (wR aR q u) t) A) args s 0 0 A) (F0 m 10 ls []))
    (by
      intro y4 tR hf H locs ls hP hD hS hl
      refine lv_iload hx hb dX7_toSheet_10 (lv_at hl 4 rfl) ?_
      refine lv_iload_n hx hb dX7_toSheet_12 rfl (lv_at hl 2 rfl) ?_
      refine lv_icmp_ge (tgt := 48) hx hb dX7_toSheet_13 (by decide) (fun c1 => ?_) (fun c1 => ?_)
      · have hf := hf.1 (c1)
        refine lv_iload_n hx hb dX7_toSheet_48 rfl (lv_at hl 2 rfl) ?_
        exact k_iret_w (wf := (fun u => wR aR q u)) (post := Q) (u := tR) (v := x2) hx hb hr hlocks hK hP hD hS hf dX7_toSheet_49
      · have hf := hf.2 (c1)
        refine lv_aload_n hx hb dX7_toSheet_16 rfl (lv_at hl 0 rfl) ?_
        refine va_get (D := D) (ci := 5) (v := .ref (aR 7)) (C := RX7) (T := TX7) (N := 14) hx hb hts inX7_toSheet_X7 hown hK hP 0 rfl rfl 9 (by decide) (hts (.fieldLink RX7 29 "GrowingTextModel" "sheets" "[I") (List.mem_of_getElem? (i := 2) rfl)) (fun _ h9 => h9) rfl dX7_toSheet_17 ?_
        refine lv_bipush (v := 64) hx hb dX7_toSheet_20 (by decide) ?_
        refine lv_iload_n hx hb dX7_toSheet_22 rfl (lv_at hl 3 rfl) ?_
        refine lv_imul hx hb dX7_toSheet_23 ?_
        refine lv_iload hx hb dX7_toSheet_24 (lv_at hl 4 rfl) ?_
        refine lv_iadd hx hb dX7_toSheet_26 ?_
        refine lv_bipush (v := 97) hx hb dX7_toSheet_27 (by decide) ?_
        refine lv_aload_n hx hb dX7_toSheet_29 rfl (lv_at hl 0 rfl) ?_
        refine va_get (D := D) (ci := 5) (v := .ref (aR 1)) (C := RX7) (T := TX7) (N := 14) hx hb hts inX7_toSheet_X7 hown hK hP 0 rfl rfl 2 (by decide) (hts (.fieldLink RX7 7 "GrowingTextModel" "text" "[I") (List.mem_of_getElem? (i := 3) rfl)) (fun _ h9 => h9) rfl dX7_toSheet_30 ?_
        refine lv_iload_n hx hb dX7_toSheet_33 rfl (lv_at hl 1 rfl) ?_
        refine lv_iload_n hx hb dX7_toSheet_34 rfl (lv_at hl 2 rfl) ?_
        refine lv_isub hx hb dX7_toSheet_35 ?_
        refine lv_iload hx hb dX7_toSheet_36 (lv_at hl 4 rfl) ?_
        refine lv_iadd hx hb dX7_toSheet_38 ?_
        refine va_iald hx hb hK hP 1 0 (f := (gR_text tR)) rfl rfl hf.1 dX7_toSheet_39 ?_
        have hf := hf.2
        refine lv_iadd hx hb dX7_toSheet_40 ?_
        refine va_iast hx hb hK hP hD hS 7 0 (f := (gR_sheets tR)) rfl rfl hf.1 dX7_toSheet_41 (fun H locs hP hD hS => ?_)
        have hf := hf.2
        have hP : va_P D vwCl (wR aR q (gR_set_sheets tR (upd (gR_sheets tR) (((64 * x3) + y4) : Int32).toNatClampNeg (97 + ((gR_text tR) (((x1 - x2) + y4) : Int32).toNatClampNeg))))) H := hP
        have hD : va_D A (wR aR q (gR_set_sheets tR (upd (gR_sheets tR) (((64 * x3) + y4) : Int32).toNatClampNeg (97 + ((gR_text tR) (((x1 - x2) + y4) : Int32).toNatClampNeg))))) := hD
        refine lv_iinc (v := (y4 + 1)) (lv' := [(4, .int (y4 + 1)), (0, .ref (aR 0)), (1, .int x1), (2, .int x2), (3, .int x3)]) hx hb dX7_toSheet_42 hl (k := 4) rfl rfl (by decide) rfl (fun ls hl => ?_)
        refine lv_goto (tgt := 10) hx hb dX7_toSheet_45 (by decide) ?_
        exact hf H locs ls hP hD hS (lv_sub hl [1, 2, 3, 4, 0] rfl))
  refine lv_aload_n hx hb dX7_toSheet_0 rfl (lv_at hl 0 rfl) ?_
  refine va_get (D := D) (ci := 5) (v := .ref (aR 6)) (C := RX7) (T := TX7) (N := 14) hx hb hts inX7_toSheet_X7 hown hK hP 0 rfl rfl 8 (by decide) (hts (.fieldLink RX7 26 "GrowingTextModel" "sizes" "[I") (List.mem_of_getElem? (i := 1) rfl)) (fun _ h9 => h9) rfl dX7_toSheet_1 ?_
  refine lv_iload_n hx hb dX7_toSheet_4 rfl (lv_at hl 3 rfl) ?_
  refine lv_iload_n hx hb dX7_toSheet_5 rfl (lv_at hl 2 rfl) ?_
  refine va_iast hx hb hK hP hD hS 6 0 (f := (gR_sizes uR)) rfl rfl hf.1 dX7_toSheet_6 (fun H locs hP hD hS => ?_)
  have hf := hf.2
  have hP : va_P D vwCl (wR aR q (gR_set_sizes uR (upd (gR_sizes uR) (x3 : Int32).toNatClampNeg x2))) H := hP
  have hD : va_D A (wR aR q (gR_set_sizes uR (upd (gR_sizes uR) (x3 : Int32).toNatClampNeg x2))) := hD
  refine lv_iconst (v := 0) hx hb dX7_toSheet_7 (by decide) ?_
  refine lv_istore (lv' := [(4, .int 0), (0, .ref (aR 0)), (1, .int x1), (2, .int x2), (3, .int x3)]) hx hb dX7_toSheet_8 hl (by decide) rfl (fun ls hl => ?_)
  exact hf H locs ls hP hD hS (lv_sub hl [1, 2, 3, 4, 0] rfl)
def wpX7_all (uR : RSt) (Q : Int64 → Prop) : Prop :=
  Q (((1 : Int64) <<< ((((gR_n uR) + 1) : Int32).toInt64 &&& 63)) - 1)
def rmX7_all : Room := { frames := 0, cells := 0, slots := 0, locals := 0 }
theorem inX7_all_X7 : ∀ w ∈ wsX70, w ∈ wsX7_all := fun w h => List.mem_cons_of_mem _ (List.mem_append_right _ h)
set_option maxRecDepth 100000 in
set_option maxHeartbeats 4000000 in
theorem c_X7_all (l : Launch) (D : va_G) (q : Nat → ClassId) (aR : Nat → Nat) (uR : RSt) (Q : Int64 → Prop) (hf : wpX7_all uR Q) : Met l yX7_all wsX7_all rmX7_all (va_Pc [.ref (aR 0)] (kP D q (wR aR q uR))) (vp_Sl Q) 0 0 (fun _ => False) := by
  refine Met.ofW (cc := cX7_all) (maxL := 1) (ret := (some .long)) (by decide) rfl ?_
  intro p e s m args below meth c s₁ B hml hv
  obtain ⟨hargs, hP, hK, hD⟩ := hv
  have hx := B.exec
  have hb := B.bytes
  have hr := B.returns
  have hts := atoms_spec (ws := wsX7_all) B.pre
  have hown : s.vm.findClass RX7 = some m.cls := findClass_of_methodNamed B.named
  have hlocks := B.notSynchronized
  refine k_entry hargs (Nat.le_of_ble_eq_true rfl) (fun ls hl => ?_)
  have hl : lv_has ls 1 [(0, .ref (aR 0))] := hl
  change W p l e rmX7_all s m args below meth c s.heap [] 0 0 (MQ below (vp_Sl Q) args s 0 0 (fun _ => False)) _
  unfold wpX7_all at hf
  refine lv_lconst (v := 1) hx hb dX7_all_0 (by decide) ?_
  refine lv_aload_n hx hb dX7_all_1 rfl (lv_at hl 0 rfl) ?_
  refine va_get (D := D) (ci := 5) (v := .int (gR_n uR)) (C := RX7) (T := TX7) (N := 14) hx hb hts inX7_all_X7 hown hK hP 0 rfl rfl 1 (by decide) (hts (.fieldLink RX7 56 "GrowingTextModel" "n" "I") (List.mem_of_getElem? (i := 1) rfl)) (fun _ h9 => h9) rfl dX7_all_2 ?_
  refine lv_iconst (v := 1) hx hb dX7_all_5 (by decide) ?_
  refine lv_iadd hx hb dX7_all_6 ?_
  refine lv_lshl (v := ((1 : Int64) <<< ((((gR_n uR) + 1) : Int32).toInt64 &&& 63))) hx hb dX7_all_7 rfl ?_
  refine lv_lconst (v := 1) hx hb dX7_all_8 (by decide) ?_
  refine lv_lsub hx hb dX7_all_9 ?_
  exact k_lret_r (v := (((1 : Int64) <<< ((((gR_n uR) + 1) : Int32).toInt64 &&& 63)) - 1)) hx hb hr hlocks hf dX7_all_10
def fX7_all (uR : RSt) : Int64 := (((1 : Int64) <<< ((((gR_n uR) + 1) : Int32).toInt64 &&& 63)) - 1)
theorem pF_X7_all (uR : RSt) (Q : Int64 → Prop) (hq : Q (fX7_all uR )) : wpX7_all uR Q := by
  unfold fX7_all at hq; unfold wpX7_all; exact hq
theorem cF_X7_all (l : Launch) (D : va_G) (q : Nat → ClassId) (aR : Nat → Nat) (uR : RSt) : Met l yX7_all wsX7_all rmX7_all (va_Pc [.ref (aR 0)] (kP D q (wR aR q uR))) (vp_Sl (fun r => r = fX7_all uR )) 0 0 (fun _ => False) := c_X7_all l D q aR uR _ (pF_X7_all uR _ rfl)
def wpX7_endsIn (uR : RSt) (x1 : Int32) (x2 : Int32) (x3 : Int32) (Q : Int64 → Prop) : Prop :=
  ∀ (X9 : Int64 → Int32 → Prop),
  (∀ (y4 : Int64) (y6 : Int32),
    ((x3 ≤ y6 →
      Q y4) ∧
    (¬ (x3 ≤ y6) →
      vp_in ((64 * x1) + y6) 256 ∧
      wpX7_behind uR y4 (((gR_sheets uR) (((64 * x1) + y6) : Int32).toNatClampNeg) - 97) (fun r2 =>
        X9 r2 (y6 + 1)))) → X9 y4 y6) →
  X9 (fX7_all uR) x2
def rmX7_endsIn : Room := { frames := 2, cells := 0, slots := 0, locals := 48 }
theorem inX7_endsIn_X7 : ∀ w ∈ wsX70, w ∈ wsX7_endsIn := fun w h => List.mem_cons_of_mem _ (List.mem_append_right _ h)
set_option maxRecDepth 100000 in
set_option maxHeartbeats 4000000 in
theorem c_X7_endsIn (l : Launch) (D : va_G) (q : Nat → ClassId) (aR : Nat → Nat) (uR : RSt) (x1 : Int32) (x2 : Int32) (x3 : Int32) (Q : Int64 → Prop) (hf : wpX7_endsIn uR x1 x2 x3 Q) : Met l yX7_endsIn wsX7_endsIn rmX7_endsIn (va_Pc [.ref (aR 0), .int x1, .int x2, .int x3] (kP D q (wR aR q uR))) (vp_Sl Q) 0 0 (fun _ => False) := by
  refine Met.ofW (cc := cX7_endsIn) (maxL := 7) (ret := (some .long)) (by decide) rfl ?_
  intro p e s m args below meth c s₁ B hml hv
  obtain ⟨hargs, hP, hK, hD⟩ := hv
  have hx := B.exec
  have hb := B.bytes
  have hr := B.returns
  have hts := atoms_spec (ws := wsX7_endsIn) B.pre
  have hown : s.vm.findClass RX7 = some m.cls := findClass_of_methodNamed B.named
  have hlocks := B.notSynchronized
  refine k_entry hargs (Nat.le_of_ble_eq_true rfl) (fun ls hl => ?_)
  have hl : lv_has ls 7 [(0, .ref (aR 0)), (1, .int x1), (2, .int x2), (3, .int x3)] := hl
  change W p l e rmX7_endsIn s m args below meth c s.heap [] 0 0 (MQ below (vp_Sl Q) args s 0 0 (fun _ => False)) _
  unfold wpX7_endsIn at hf
  have hf := hf
    (fun (y4 : Int64) (y6 : Int32) => ∀ (ls : Array Slot), lv_has ls 7 [(0, .ref (aR 0)), (1, .int x1), (3, .int x3), (4, .long y4), (6, .int y6)] → W p l e rmX7_endsIn s m args below meth c s.heap [] 0 0 (MQ below (vp_Sl Q) args s 0 0 (fun _ => False)) (F0 m 9 ls []))
    (by
      intro y4 y6 hf ls hl
      refine lv_iload hx hb dX7_endsIn_9 (lv_at hl 4 rfl) ?_
      refine lv_iload_n hx hb dX7_endsIn_11 rfl (lv_at hl 2 rfl) ?_
      refine lv_icmp_ge (tgt := 44) hx hb dX7_endsIn_12 (by decide) (fun c1 => ?_) (fun c1 => ?_)
      · have hf := hf.1 (c1)
        refine lv_lload hx hb dX7_endsIn_44 (lv_at hl 3 rfl) ?_
        exact k_lret_r (v := y4) hx hb hr hlocks hf dX7_endsIn_46
      · have hf := hf.2 (c1)
        refine lv_aload_n hx hb dX7_endsIn_15 rfl (lv_at hl 0 rfl) ?_
        refine lv_lload hx hb dX7_endsIn_16 (lv_at hl 3 rfl) ?_
        refine lv_aload_n hx hb dX7_endsIn_18 rfl (lv_at hl 0 rfl) ?_
        refine va_get (D := D) (ci := 5) (v := .ref (aR 7)) (C := RX7) (T := TX7) (N := 14) hx hb hts inX7_endsIn_X7 hown hK hP 0 rfl rfl 9 (by decide) (hts (.fieldLink RX7 29 "GrowingTextModel" "sheets" "[I") (List.mem_of_getElem? (i := 1) rfl)) (fun _ h9 => h9) rfl dX7_endsIn_19 ?_
        refine lv_bipush (v := 64) hx hb dX7_endsIn_22 (by decide) ?_
        refine lv_iload_n hx hb dX7_endsIn_24 rfl (lv_at hl 1 rfl) ?_
        refine lv_imul hx hb dX7_endsIn_25 ?_
        refine lv_iload hx hb dX7_endsIn_26 (lv_at hl 4 rfl) ?_
        refine lv_iadd hx hb dX7_endsIn_28 ?_
        refine va_iald hx hb hK hP 7 0 (f := (gR_sheets uR)) rfl rfl hf.1 dX7_endsIn_29 ?_
        have hf := hf.2
        refine lv_bipush (v := 97) hx hb dX7_endsIn_30 (by decide) ?_
        refine lv_isub hx hb dX7_endsIn_32 ?_
        refine k_sl (k_runV (As := [.long y4, .int (((gR_sheets uR) (((64 * x1) + y6) : Int32).toNatClampNeg) - 97)]) (rest := []) ⟨hx, hb, hml, hown, hts⟩ (c_X7_behind l D q aR uR y4 (((gR_sheets uR) (((64 * x1) + y6) : Int32).toNatClampNeg) - 97) _ hf) (cwV 2 hts gX7_endsIn_X7_behind rfl rfl rfl cdX7_behind ⟨Nat.le_of_ble_eq_true rfl, Nat.le_of_ble_eq_true rfl⟩) hK hP hD 0 rfl rfl rfl hl.1 rfl (Nat.le_of_ble_eq_true rfl) dX7_endsIn_33 ⟨Nat.le_of_ble_eq_true rfl, Nat.le_of_ble_eq_true rfl⟩) (fun r2 hf => ?_)
        refine lv_lstore (lv' := [(4, .long r2), (0, .ref (aR 0)), (1, .int x1), (3, .int x3), (6, .int y6)]) hx hb dX7_endsIn_36 hl (by decide) rfl (fun ls hl => ?_)
        refine lv_iinc (v := (y6 + 1)) (lv' := [(6, .int (y6 + 1)), (4, .long r2), (0, .ref (aR 0)), (1, .int x1), (3, .int x3)]) hx hb dX7_endsIn_38 hl (k := 4) rfl rfl (by decide) rfl (fun ls hl => ?_)
        refine lv_goto (tgt := 9) hx hb dX7_endsIn_41 (by decide) ?_
        exact hf ls (lv_sub hl [2, 3, 4, 1, 0] rfl))
  refine lv_aload_n hx hb dX7_endsIn_0 rfl (lv_at hl 0 rfl) ?_
  refine k_sl (k_runV (As := []) (rest := []) ⟨hx, hb, hml, hown, hts⟩ (cF_X7_all l D q aR uR) (cwV 0 hts gX7_endsIn_X7_all rfl rfl rfl cdX7_all ⟨Nat.le_of_ble_eq_true rfl, Nat.le_of_ble_eq_true rfl⟩) hK hP hD 0 rfl rfl rfl hl.1 rfl (Nat.le_of_ble_eq_true rfl) dX7_endsIn_1 ⟨Nat.le_of_ble_eq_true rfl, Nat.le_of_ble_eq_true rfl⟩) (fun r hr => ?_)
  subst hr
  refine lv_lstore (lv' := [(4, .long (fX7_all uR)), (0, .ref (aR 0)), (1, .int x1), (2, .int x2), (3, .int x3)]) hx hb dX7_endsIn_4 hl (by decide) rfl (fun ls hl => ?_)
  refine lv_iload_n hx hb dX7_endsIn_6 rfl (lv_at hl 3 rfl) ?_
  refine lv_istore (lv' := [(6, .int x2), (4, .long (fX7_all uR)), (0, .ref (aR 0)), (1, .int x1), (2, .int x2), (3, .int x3)]) hx hb dX7_endsIn_7 hl (by decide) rfl (fun ls hl => ?_)
  exact hf ls (lv_sub hl [2, 3, 5, 1, 0] rfl)
def wpX7_walk (uR : RSt) (x1 : Int32) (Q : Int32 → Prop) : Prop :=
  wpX7_need uR x1 (fun r1 =>
    ((0 : Int32) ≤ r1 →
      vp_in x1 4 ∧
      wpX7_endsIn uR x1 0 ((gR_sizes uR) (x1 : Int32).toNatClampNeg) (fun r3 =>
        wpX7_stateOf uR r3 (fun r4 =>
          Q r4))) ∧
    (¬ ((0 : Int32) ≤ r1) →
      Q r1))
def rmX7_walk : Room := { frames := 3, cells := 0, slots := 0, locals := 74 }
theorem inX7_walk_X7 : ∀ w ∈ wsX70, w ∈ wsX7_walk := fun w h => List.mem_cons_of_mem _ (List.mem_append_right _ h)
set_option maxRecDepth 100000 in
set_option maxHeartbeats 4000000 in
theorem c_X7_walk (l : Launch) (D : va_G) (q : Nat → ClassId) (aR : Nat → Nat) (uR : RSt) (x1 : Int32) (Q : Int32 → Prop) (hf : wpX7_walk uR x1 Q) : Met l yX7_walk wsX7_walk rmX7_walk (va_Pc [.ref (aR 0), .int x1] (kP D q (wR aR q uR))) (vp_Si Q) 0 0 (fun _ => False) := by
  refine Met.ofW (cc := cX7_walk) (maxL := 3) (ret := (some .int)) (by decide) rfl ?_
  intro p e s m args below meth c s₁ B hml hv
  obtain ⟨hargs, hP, hK, hD⟩ := hv
  have hx := B.exec
  have hb := B.bytes
  have hr := B.returns
  have hts := atoms_spec (ws := wsX7_walk) B.pre
  have hown : s.vm.findClass RX7 = some m.cls := findClass_of_methodNamed B.named
  have hlocks := B.notSynchronized
  refine k_entry hargs (Nat.le_of_ble_eq_true rfl) (fun ls hl => ?_)
  have hl : lv_has ls 3 [(0, .ref (aR 0)), (1, .int x1)] := hl
  change W p l e rmX7_walk s m args below meth c s.heap [] 0 0 (MQ below (vp_Si Q) args s 0 0 (fun _ => False)) _
  unfold wpX7_walk at hf
  refine lv_aload_n hx hb dX7_walk_0 rfl (lv_at hl 0 rfl) ?_
  refine lv_iload_n hx hb dX7_walk_1 rfl (lv_at hl 1 rfl) ?_
  refine k_si (k_runV (As := [.int x1]) (rest := []) ⟨hx, hb, hml, hown, hts⟩ (c_X7_need l D q aR uR x1 _ hf) (cwV 1 hts gX7_walk_X7_need rfl rfl rfl cdX7_need ⟨Nat.le_of_ble_eq_true rfl, Nat.le_of_ble_eq_true rfl⟩) hK hP hD 0 rfl rfl rfl hl.1 rfl (Nat.le_of_ble_eq_true rfl) dX7_walk_2 ⟨Nat.le_of_ble_eq_true rfl, Nat.le_of_ble_eq_true rfl⟩) (fun r1 hf => ?_)
  refine lv_istore_n (lv' := [(2, .int r1), (0, .ref (aR 0)), (1, .int x1)]) hx hb dX7_walk_5 rfl hl (by decide) rfl (fun ls hl => ?_)
  refine lv_iload_n hx hb dX7_walk_6 rfl (lv_at hl 0 rfl) ?_
  refine lv_if_ge (tgt := 14) hx hb dX7_walk_7 (by decide) (fun c2 => ?_) (fun c2 => ?_)
  · have hf := hf.1 (c2)
    refine lv_aload_n hx hb dX7_walk_14 rfl (lv_at hl 1 rfl) ?_
    refine lv_aload_n hx hb dX7_walk_15 rfl (lv_at hl 1 rfl) ?_
    refine lv_iload_n hx hb dX7_walk_16 rfl (lv_at hl 2 rfl) ?_
    refine lv_iconst (v := 0) hx hb dX7_walk_17 (by decide) ?_
    refine lv_aload_n hx hb dX7_walk_18 rfl (lv_at hl 1 rfl) ?_
    refine va_get (D := D) (ci := 5) (v := .ref (aR 6)) (C := RX7) (T := TX7) (N := 14) hx hb hts inX7_walk_X7 hown hK hP 0 rfl rfl 8 (by decide) (hts (.fieldLink RX7 26 "GrowingTextModel" "sizes" "[I") (List.mem_of_getElem? (i := 1) rfl)) (fun _ h9 => h9) rfl dX7_walk_19 ?_
    refine lv_iload_n hx hb dX7_walk_22 rfl (lv_at hl 2 rfl) ?_
    refine va_iald hx hb hK hP 6 0 (f := (gR_sizes uR)) rfl rfl hf.1 dX7_walk_23 ?_
    have hf := hf.2
    refine k_sl (k_runV (As := [.int x1, .int 0, .int ((gR_sizes uR) (x1 : Int32).toNatClampNeg)]) (rest := [.ref (aR 0)]) ⟨hx, hb, hml, hown, hts⟩ (c_X7_endsIn l D q aR uR x1 0 ((gR_sizes uR) (x1 : Int32).toNatClampNeg) _ hf) (cwV 3 hts gX7_walk_X7_endsIn rfl rfl rfl cdX7_endsIn ⟨Nat.le_of_ble_eq_true rfl, Nat.le_of_ble_eq_true rfl⟩) hK hP hD 0 rfl rfl rfl hl.1 rfl (Nat.le_of_ble_eq_true rfl) dX7_walk_24 ⟨Nat.le_of_ble_eq_true rfl, Nat.le_of_ble_eq_true rfl⟩) (fun r3 hf => ?_)
    refine k_si (k_runV (As := [.long r3]) (rest := []) ⟨hx, hb, hml, hown, hts⟩ (c_X7_stateOf l D q aR uR r3 _ hf) (cwV 1 hts gX7_walk_X7_stateOf rfl rfl rfl cdX7_stateOf ⟨Nat.le_of_ble_eq_true rfl, Nat.le_of_ble_eq_true rfl⟩) hK hP hD 0 rfl rfl rfl hl.1 rfl (Nat.le_of_ble_eq_true rfl) dX7_walk_27 ⟨Nat.le_of_ble_eq_true rfl, Nat.le_of_ble_eq_true rfl⟩) (fun r4 hf => ?_)
    exact k_iret_r (v := r4) hx hb hr hlocks hf dX7_walk_30
  · have hf := hf.2 (c2)
    refine lv_iload_n hx hb dX7_walk_10 rfl (lv_at hl 0 rfl) ?_
    refine lv_goto (tgt := 30) hx hb dX7_walk_11 (by decide) ?_
    exact k_iret_r (v := r1) hx hb hr hlocks hf dX7_walk_30
def wpX7_times (uR : RSt) (x1 : Int32) (x2 : Int32) (Q : Int32 → Prop) : Prop :=
  ∀ (X18 : Int32 → Prop),
  (∀ (z0 : Int32),
    (((0 : Int32) ≤ z0 →
      vp_in x1 4 ∧
      wpX7_endsIn uR x1 0 ((gR_sizes uR) (x1 : Int32).toNatClampNeg) (fun r4 =>
        (x2 = 0 →
          wpX7_bits r4 (fun r10 =>
            Q r10)) ∧
        (¬ (x2 = 0) →
          ((r4 : Int64) = 0 →
            Q (-4)) ∧
          (¬ ((r4 : Int64) = 0) →
            (x2 = 1 →
              wpX7_least r4 (fun r9 =>
                Q r9)) ∧
            (¬ (x2 = 1) →
              wpX7_greatest r4 (fun r8 =>
                Q r8)))))) ∧
    (¬ ((0 : Int32) ≤ z0) →
      Q z0)) → X18 z0) →
  (((fX7_in x2 0 2) = 0 →
    X18 (-1)) ∧
  (¬ ((fX7_in x2 0 2) = 0) →
    wpX7_need uR x1 (fun r2 =>
      X18 r2)))
def rmX7_times : Room := { frames := 3, cells := 0, slots := 0, locals := 74 }
theorem inX7_times_X7 : ∀ w ∈ wsX70, w ∈ wsX7_times := fun w h => List.mem_cons_of_mem _ (List.mem_append_right _ h)
set_option maxRecDepth 100000 in
set_option maxHeartbeats 4000000 in
theorem c_X7_times (l : Launch) (D : va_G) (q : Nat → ClassId) (aR : Nat → Nat) (uR : RSt) (x1 : Int32) (x2 : Int32) (Q : Int32 → Prop) (hf : wpX7_times uR x1 x2 Q) : Met l yX7_times wsX7_times rmX7_times (va_Pc [.ref (aR 0), .int x1, .int x2] (kP D q (wR aR q uR))) (vp_Si Q) 0 0 (fun _ => False) := by
  refine Met.ofW (cc := cX7_times) (maxL := 6) (ret := (some .int)) (by decide) rfl ?_
  intro p e s m args below meth c s₁ B hml hv
  obtain ⟨hargs, hP, hK, hD⟩ := hv
  have hx := B.exec
  have hb := B.bytes
  have hr := B.returns
  have hts := atoms_spec (ws := wsX7_times) B.pre
  have hown : s.vm.findClass RX7 = some m.cls := findClass_of_methodNamed B.named
  have hlocks := B.notSynchronized
  refine k_entry hargs (Nat.le_of_ble_eq_true rfl) (fun ls hl => ?_)
  have hl : lv_has ls 6 [(0, .ref (aR 0)), (1, .int x1), (2, .int x2)] := hl
  change W p l e rmX7_times s m args below meth c s.heap [] 0 0 (MQ below (vp_Si Q) args s 0 0 (fun _ => False)) _
  unfold wpX7_times at hf
  have hf := hf
    (fun (z0 : Int32) => ∀ (ls : Array Slot), lv_has ls 6 [(0, .ref (aR 0)), (1, .int x1), (2, .int x2)] → W p l e rmX7_times s m args below meth c s.heap [] 0 0 (MQ below (vp_Si Q) args s 0 0 (fun _ => False)) (F0 m 18 ls [.int z0]))
    (by
      intro z0 hf ls hl
      refine lv_istore_n (lv' := [(3, .int z0), (0, .ref (aR 0)), (1, .int x1), (2, .int x2)]) hx hb dX7_times_18 rfl hl (by decide) rfl (fun ls hl => ?_)
      refine lv_iload_n hx hb dX7_times_19 rfl (lv_at hl 0 rfl) ?_
      refine lv_if_ge (tgt := 25) hx hb dX7_times_20 (by decide) (fun c3 => ?_) (fun c3 => ?_)
      · have hf := hf.1 (c3)
        refine lv_aload_n hx hb dX7_times_25 rfl (lv_at hl 1 rfl) ?_
        refine lv_iload_n hx hb dX7_times_26 rfl (lv_at hl 2 rfl) ?_
        refine lv_iconst (v := 0) hx hb dX7_times_27 (by decide) ?_
        refine lv_aload_n hx hb dX7_times_28 rfl (lv_at hl 1 rfl) ?_
        refine va_get (D := D) (ci := 5) (v := .ref (aR 6)) (C := RX7) (T := TX7) (N := 14) hx hb hts inX7_times_X7 hown hK hP 0 rfl rfl 8 (by decide) (hts (.fieldLink RX7 26 "GrowingTextModel" "sizes" "[I") (List.mem_of_getElem? (i := 1) rfl)) (fun _ h9 => h9) rfl dX7_times_29 ?_
        refine lv_iload_n hx hb dX7_times_32 rfl (lv_at hl 2 rfl) ?_
        refine va_iald hx hb hK hP 6 0 (f := (gR_sizes uR)) rfl rfl hf.1 dX7_times_33 ?_
        have hf := hf.2
        refine k_sl (k_runV (As := [.int x1, .int 0, .int ((gR_sizes uR) (x1 : Int32).toNatClampNeg)]) (rest := []) ⟨hx, hb, hml, hown, hts⟩ (c_X7_endsIn l D q aR uR x1 0 ((gR_sizes uR) (x1 : Int32).toNatClampNeg) _ hf) (cwV 3 hts gX7_times_X7_endsIn rfl rfl rfl cdX7_endsIn ⟨Nat.le_of_ble_eq_true rfl, Nat.le_of_ble_eq_true rfl⟩) hK hP hD 0 rfl rfl rfl hl.1 rfl (Nat.le_of_ble_eq_true rfl) dX7_times_34 ⟨Nat.le_of_ble_eq_true rfl, Nat.le_of_ble_eq_true rfl⟩) (fun r4 hf => ?_)
        refine lv_lstore (lv' := [(4, .long r4), (3, .int z0), (0, .ref (aR 0)), (1, .int x1), (2, .int x2)]) hx hb dX7_times_37 hl (by decide) rfl (fun ls hl => ?_)
        refine lv_iload_n hx hb dX7_times_39 rfl (lv_at hl 4 rfl) ?_
        refine lv_if_ne (tgt := 51) hx hb dX7_times_40 (by decide) (fun c5 => ?_) (fun c5 => ?_)
        · have hf := hf.2 (c5)
          refine lv_lload hx hb dX7_times_51 (lv_at hl 0 rfl) ?_
          refine lv_lconst (v := 0) hx hb dX7_times_53 (by decide) ?_
          refine W.lcmp hx hb dX7_times_54 ?_
          refine lv_if_ne (tgt := 63) hx hb dX7_times_55 (by decide) (fun c6 => ?_) (fun c6 => ?_)
          · have hf := hf.2 ((fun h => c6 ((k_cmp_eq r4 0).mpr h)))
            refine lv_iload_n hx hb dX7_times_63 rfl (lv_at hl 4 rfl) ?_
            refine lv_iconst (v := 1) hx hb dX7_times_64 (by decide) ?_
            refine lv_icmp_ne (tgt := 76) hx hb dX7_times_65 (by decide) (fun c7 => ?_) (fun c7 => ?_)
            · have hf := hf.2 (c7)
              refine lv_lload hx hb dX7_times_76 (lv_at hl 0 rfl) ?_
              refine k_si (k_runS (As := [.long r4]) (rest := []) ⟨hx, hb, hml, hown, hts⟩ (c_X7_greatest l D q r4 _ hf) (va_cwS 1 hts gX7_times_X7_greatest rfl rfl rfl cdX7_greatest ⟨Nat.le_of_ble_eq_true rfl, Nat.le_of_ble_eq_true rfl⟩) hK k_nilP k_nilD rfl hl.1 rfl (Nat.le_of_ble_eq_true rfl) dX7_times_78 ⟨Nat.le_of_ble_eq_true rfl, Nat.le_of_ble_eq_true rfl⟩) (fun r8 hf => ?_)
              exact k_iret_r (v := r8) hx hb hr hlocks hf dX7_times_81
            · have hf := hf.1 (c7)
              refine lv_lload hx hb dX7_times_68 (lv_at hl 0 rfl) ?_
              refine k_si (k_runS (As := [.long r4]) (rest := []) ⟨hx, hb, hml, hown, hts⟩ (c_X7_least l D q r4 _ hf) (va_cwS 1 hts gX7_times_X7_least rfl rfl rfl cdX7_least ⟨Nat.le_of_ble_eq_true rfl, Nat.le_of_ble_eq_true rfl⟩) hK k_nilP k_nilD rfl hl.1 rfl (Nat.le_of_ble_eq_true rfl) dX7_times_70 ⟨Nat.le_of_ble_eq_true rfl, Nat.le_of_ble_eq_true rfl⟩) (fun r9 hf => ?_)
              refine lv_goto (tgt := 81) hx hb dX7_times_73 (by decide) ?_
              exact k_iret_r (v := r9) hx hb hr hlocks hf dX7_times_81
          · have hf := hf.1 ((k_cmp_eq r4 0).mp c6)
            refine lv_bipush (v := (-4)) hx hb dX7_times_58 (by decide) ?_
            refine lv_goto (tgt := 81) hx hb dX7_times_60 (by decide) ?_
            exact k_iret_r (v := (-4)) hx hb hr hlocks hf dX7_times_81
        · have hf := hf.1 (c5)
          refine lv_lload hx hb dX7_times_43 (lv_at hl 0 rfl) ?_
          refine k_si (k_runS (As := [.long r4]) (rest := []) ⟨hx, hb, hml, hown, hts⟩ (c_X7_bits l D q r4 _ hf) (va_cwS 1 hts gX7_times_X7_bits rfl rfl rfl cdX7_bits ⟨Nat.le_of_ble_eq_true rfl, Nat.le_of_ble_eq_true rfl⟩) hK k_nilP k_nilD rfl hl.1 rfl (Nat.le_of_ble_eq_true rfl) dX7_times_45 ⟨Nat.le_of_ble_eq_true rfl, Nat.le_of_ble_eq_true rfl⟩) (fun r10 hf => ?_)
          refine lv_goto (tgt := 81) hx hb dX7_times_48 (by decide) ?_
          exact k_iret_r (v := r10) hx hb hr hlocks hf dX7_times_81
      · have hf := hf.2 (c3)
        refine lv_iload_n hx hb dX7_times_23 rfl (lv_at hl 0 rfl) ?_
        exact k_iret_r (v := z0) hx hb hr hlocks hf dX7_times_24)
  refine lv_iload_n hx hb dX7_times_0 rfl (lv_at hl 2 rfl) ?_
  refine lv_iconst (v := 0) hx hb dX7_times_1 (by decide) ?_
  refine lv_iconst (v := 2) hx hb dX7_times_2 (by decide) ?_
  refine k_si (k_runS (As := [.int x2, .int 0, .int 2]) (rest := []) ⟨hx, hb, hml, hown, hts⟩ (cF_X7_in l D q x2 0 2) (va_cwS 3 hts gX7_times_X7_in rfl rfl rfl cdX7_in ⟨Nat.le_of_ble_eq_true rfl, Nat.le_of_ble_eq_true rfl⟩) hK k_nilP k_nilD rfl hl.1 rfl (Nat.le_of_ble_eq_true rfl) dX7_times_3 ⟨Nat.le_of_ble_eq_true rfl, Nat.le_of_ble_eq_true rfl⟩) (fun r hr => ?_)
  subst hr
  refine lv_if_eq (tgt := 17) hx hb dX7_times_6 (by decide) (fun c1 => ?_) (fun c1 => ?_)
  · have hf := hf.1 (c1)
    refine lv_iconst (v := (-1)) hx hb dX7_times_17 (by decide) ?_
    exact hf ls (lv_sub hl [0, 1, 2] rfl)
  · have hf := hf.2 (c1)
    refine lv_aload_n hx hb dX7_times_9 rfl (lv_at hl 0 rfl) ?_
    refine lv_iload_n hx hb dX7_times_10 rfl (lv_at hl 1 rfl) ?_
    refine k_si (k_runV (As := [.int x1]) (rest := []) ⟨hx, hb, hml, hown, hts⟩ (c_X7_need l D q aR uR x1 _ hf) (cwV 1 hts gX7_times_X7_need rfl rfl rfl cdX7_need ⟨Nat.le_of_ble_eq_true rfl, Nat.le_of_ble_eq_true rfl⟩) hK hP hD 0 rfl rfl rfl hl.1 rfl (Nat.le_of_ble_eq_true rfl) dX7_times_11 ⟨Nat.le_of_ble_eq_true rfl, Nat.le_of_ble_eq_true rfl⟩) (fun r2 hf => ?_)
    refine lv_goto (tgt := 18) hx hb dX7_times_14 (by decide) ?_
    exact hf ls (lv_sub hl [0, 1, 2] rfl)
def wpX7_layPaths (uR : RSt) (Q : RSt → Prop) : Prop :=
  ∀ (X5 : Int32 → RSt → Prop) (X11 : Int32 → Int32 → RSt → Prop) (X38 : Int32 → Int32 → Int32 → RSt → Prop) (X79 : Int32 → Int32 → Int32 → Int32 → Int32 → Int32 → RSt → Prop),
  (∀ (y1 : Int32) (tR : RSt),
    ((y1 < 0 →
      Q tR) ∧
    (¬ (y1 < 0) →
      X11 y1 0 tR)) → X5 y1 tR) →
  (∀ (y1 : Int32) (y2 : Int32) (tR : RSt),
    (((gR_stateMany tR) ≤ y2 →
      X5 (y1 + (-1)) tR) ∧
    (¬ ((gR_stateMany tR) ≤ y2) →
      vp_in y2 121 ∧
      ((((gR_longest tR) (y2 : Int32).toNatClampNeg) = y1 →
        vp_in y2 121 ∧
        X38 y1 y2 0 (gR_set_paths tR (upd (gR_paths tR) (y2 : Int32).toNatClampNeg 1))) ∧
      (¬ (((gR_longest tR) (y2 : Int32).toNatClampNeg) = y1) →
        X11 y1 (y2 + 1) tR)))) → X11 y1 y2 tR) →
  (∀ (y1 : Int32) (y2 : Int32) (y3 : Int32) (tR : RSt),
    (((gR_letters tR) ≤ y3 →
      X11 y1 (y2 + 1) tR) ∧
    (¬ ((gR_letters tR) ≤ y3) →
      wpX7_moveOf tR y2 y3 (fun r5 =>
        vp_in y2 121 ∧
        ((r5 = (-4) →
          X79 y1 y2 y3 0 ((gR_paths tR) (y2 : Int32).toNatClampNeg) y2 tR) ∧
        (¬ (r5 = (-4)) →
          vp_in r5 121 ∧
          X79 y1 y2 y3 ((gR_paths tR) (r5 : Int32).toNatClampNeg) ((gR_paths tR) (y2 : Int32).toNatClampNeg) y2 tR))))) → X38 y1 y2 y3 tR) →
  (∀ (y1 : Int32) (y2 : Int32) (y3 : Int32) (z0 : Int32) (z1 : Int32) (z2 : Int32) (tR : RSt),
    (vp_in z2 121 ∧
    X38 y1 y2 (y3 + 1) (gR_set_paths tR (upd (gR_paths tR) (z2 : Int32).toNatClampNeg (z1 + z0)))) → X79 y1 y2 y3 z0 z1 z2 tR) →
  X5 (gR_n uR) uR
def rmX7_layPaths : Room := { frames := 3, cells := 0, slots := 0, locals := 70 }
theorem inX7_layPaths_X7 : ∀ w ∈ wsX70, w ∈ wsX7_layPaths := fun w h => List.mem_cons_of_mem _ (List.mem_append_right _ h)
set_option maxRecDepth 100000 in
set_option maxHeartbeats 4000000 in
theorem c_X7_layPaths (l : Launch) (D : va_G) (q : Nat → ClassId) (aR : Nat → Nat) (uR : RSt) (Q : RSt → Prop) (hf : wpX7_layPaths uR Q) : Met l yX7_layPaths wsX7_layPaths rmX7_layPaths (va_Pc [.ref (aR 0)] (kP D q (wR aR q uR))) (va_Qv Q (fun u t => kP D q (wR aR q u) t) (kIn (wR aR q uR))) 0 0 (kIn (wR aR q uR)) := by
  refine Met.ofW (cc := cX7_layPaths) (maxL := 5) (ret := none) (by decide) rfl ?_
  intro p e s m args below meth c s₁ B hml hv
  obtain ⟨hargs, hP, hK, hD⟩ := hv
  have hx := B.exec
  have hb := B.bytes
  have hr := B.returns
  have hts := atoms_spec (ws := wsX7_layPaths) B.pre
  have hown : s.vm.findClass RX7 = some m.cls := findClass_of_methodNamed B.named
  have hlocks := B.notSynchronized
  have hD := kd_self hD
  generalize kIn (wR aR q uR) = A at hD ⊢
  have hS : va_S A s.heap s.heap [] := va_S.rf
  refine k_entry hargs (Nat.le_of_ble_eq_true rfl) (fun ls hl => ?_)
  have hl : lv_has ls 5 [(0, .ref (aR 0))] := hl
  change W p l e rmX7_layPaths s m args below meth c s.heap [] 0 0 (MQ below (va_Qv Q (fun u t => kP D q (wR aR q u) t) A) args s 0 0 A) _
  unfold wpX7_layPaths at hf
  obtain ⟨H, hH⟩ : ∃ H, H = s.heap := ⟨_, rfl⟩
  obtain ⟨locs, hlocs⟩ : ∃ x : List Loc, x = [] := ⟨_, rfl⟩
  rw [← hH] at hP
  have hS : va_S A s.heap H locs := by rw [hH, hlocs]; exact hS
  rw [show W p l e rmX7_layPaths s m args below meth c s.heap [] 0 0 (MQ below (va_Qv Q (fun u t => kP D q (wR aR q u) t) A) args s 0 0 A) (F0 m 0 ls []) = W p l e rmX7_layPaths s m args below meth c H locs 0 0 (MQ below (va_Qv Q (fun u t => kP D q (wR aR q u) t) A) args s 0 0 A) (F0 m 0 ls []) by rw [hH, hlocs]]
  clear hH hlocs
  have hf := hf
    (fun (y1 : Int32) (tR : RSt) => ∀ (H : Heap) (locs : List Loc) (ls : Array Slot), va_P D vwCl (wR aR q tR) H → va_D A (wR aR q tR) → va_S A s.heap H locs → lv_has ls 5 [(0, .ref (aR 0)), (1, .int y1)] → W p l e rmX7_layPaths s m args below meth c H locs 0 0 (MQ below (va_Qv Q (fun u t => kP D q (wR aR q u) t) A) args s 0 0 A) (F0 m 5 ls []))
    (fun (y1 : Int32) (y2 : Int32) (tR : RSt) => ∀ (H : Heap) (locs : List Loc) (ls : Array Slot), va_P D vwCl (wR aR q tR) H → va_D A (wR aR q tR) → va_S A s.heap H locs → lv_has ls 5 [(0, .ref (aR 0)), (1, .int y1), (2, .int y2)] → W p l e rmX7_layPaths s m args below meth c H locs 0 0 (MQ below (va_Qv Q (fun u t => kP D q (wR aR q u) t) A) args s 0 0 A) (F0 m 11 ls []))
    (fun (y1 : Int32) (y2 : Int32) (y3 : Int32) (tR : RSt) => ∀ (H : Heap) (locs : List Loc) (ls : Array Slot), va_P D vwCl (wR aR q tR) H → va_D A (wR aR q tR) → va_S A s.heap H locs → lv_has ls 5 [(0, .ref (aR 0)), (1, .int y1), (2, .int y2), (3, .int y3)] → W p l e rmX7_layPaths s m args below meth c H locs 0 0 (MQ below (va_Qv Q (fun u t => kP D q (wR aR q u) t) A) args s 0 0 A) (F0 m 38 ls []))
    (fun (y1 : Int32) (y2 : Int32) (y3 : Int32) (z0 : Int32) (z1 : Int32) (z2 : Int32) (tR : RSt) => ∀ (H : Heap) (locs : List Loc) (ls : Array Slot), va_P D vwCl (wR aR q tR) H → va_D A (wR aR q tR) → va_S A s.heap H locs → lv_has ls 5 [(0, .ref (aR 0)), (1, .int y1), (2, .int y2), (3, .int y3)] → W p l e rmX7_layPaths s m args below meth c H locs 0 0 (MQ below (va_Qv Q (fun u t => kP D q (wR aR q u) t) A) args s 0 0 A) (F0 m 79 ls [.int z0, .int z1, .int z2, .ref (aR 8)]))
    (by
      intro y1 tR hf H locs ls hP hD hS hl
      refine lv_iload_n hx hb dX7_layPaths_5 rfl (lv_at hl 1 rfl) ?_
      refine lv_if_lt (tgt := 99) hx hb dX7_layPaths_6 (by decide) (fun c1 => ?_) (fun c1 => ?_)
      · have hf := hf.1 (c1)
        exact k_vret_w (wf := (fun u => wR aR q u)) (post := Q) (u := tR) hx hb hr hlocks hK hP hD hS hf dX7_layPaths_99
      · have hf := hf.2 (c1)
        refine lv_iconst (v := 0) hx hb dX7_layPaths_9 (by decide) ?_
        refine lv_istore_n (lv' := [(2, .int 0), (0, .ref (aR 0)), (1, .int y1)]) hx hb dX7_layPaths_10 rfl hl (by decide) rfl (fun ls hl => ?_)
        exact hf H locs ls hP hD hS (lv_sub hl [1, 2, 0] rfl))
    (by
      intro y1 y2 tR hf H locs ls hP hD hS hl
      refine lv_iload_n hx hb dX7_layPaths_11 rfl (lv_at hl 2 rfl) ?_
      refine lv_aload_n hx hb dX7_layPaths_12 rfl (lv_at hl 0 rfl) ?_
      refine va_get (D := D) (ci := 5) (v := .int (gR_stateMany tR)) (C := RX7) (T := TX7) (N := 14) hx hb hts inX7_layPaths_X7 hown hK hP 0 rfl rfl 3 (by decide) (hts (.fieldLink RX7 59 "GrowingTextModel" "stateMany" "I") (List.mem_of_getElem? (i := 2) rfl)) (fun _ h9 => h9) rfl dX7_layPaths_13 ?_
      refine lv_icmp_ge (tgt := 93) hx hb dX7_layPaths_16 (by decide) (fun c2 => ?_) (fun c2 => ?_)
      · have hf := hf.1 (c2)
        refine lv_iinc (v := (y1 + (-1))) (lv' := [(1, .int (y1 + (-1))), (0, .ref (aR 0)), (2, .int y2)]) hx hb dX7_layPaths_93 hl (k := 1) rfl rfl (by decide) rfl (fun ls hl => ?_)
        refine lv_goto (tgt := 5) hx hb dX7_layPaths_96 (by decide) ?_
        exact hf H locs ls hP hD hS (lv_sub hl [1, 0] rfl)
      · have hf := hf.2 (c2)
        refine lv_aload_n hx hb dX7_layPaths_19 rfl (lv_at hl 0 rfl) ?_
        refine va_get (D := D) (ci := 5) (v := .ref (aR 2)) (C := RX7) (T := TX7) (N := 14) hx hb hts inX7_layPaths_X7 hown hK hP 0 rfl rfl 4 (by decide) (hts (.fieldLink RX7 13 "GrowingTextModel" "longest" "[I") (List.mem_of_getElem? (i := 3) rfl)) (fun _ h9 => h9) rfl dX7_layPaths_20 ?_
        refine lv_iload_n hx hb dX7_layPaths_23 rfl (lv_at hl 2 rfl) ?_
        refine va_iald hx hb hK hP 2 0 (f := (gR_longest tR)) rfl rfl hf.1 dX7_layPaths_24 ?_
        have hf := hf.2
        refine lv_iload_n hx hb dX7_layPaths_25 rfl (lv_at hl 1 rfl) ?_
        refine lv_icmp_ne (tgt := 87) hx hb dX7_layPaths_26 (by decide) (fun c3 => ?_) (fun c3 => ?_)
        · have hf := hf.2 (c3)
          refine lv_iinc (v := (y2 + 1)) (lv' := [(2, .int (y2 + 1)), (0, .ref (aR 0)), (1, .int y1)]) hx hb dX7_layPaths_87 hl (k := 2) rfl rfl (by decide) rfl (fun ls hl => ?_)
          refine lv_goto (tgt := 11) hx hb dX7_layPaths_90 (by decide) ?_
          exact hf H locs ls hP hD hS (lv_sub hl [1, 2, 0] rfl)
        · have hf := hf.1 (c3)
          refine lv_aload_n hx hb dX7_layPaths_29 rfl (lv_at hl 0 rfl) ?_
          refine va_get (D := D) (ci := 5) (v := .ref (aR 8)) (C := RX7) (T := TX7) (N := 14) hx hb hts inX7_layPaths_X7 hown hK hP 0 rfl rfl 10 (by decide) (hts (.fieldLink RX7 32 "GrowingTextModel" "paths" "[I") (List.mem_of_getElem? (i := 4) rfl)) (fun _ h9 => h9) rfl dX7_layPaths_30 ?_
          refine lv_iload_n hx hb dX7_layPaths_33 rfl (lv_at hl 2 rfl) ?_
          refine lv_iconst (v := 1) hx hb dX7_layPaths_34 (by decide) ?_
          refine va_iast hx hb hK hP hD hS 8 0 (f := (gR_paths tR)) rfl rfl hf.1 dX7_layPaths_35 (fun H locs hP hD hS => ?_)
          have hf := hf.2
          have hP : va_P D vwCl (wR aR q (gR_set_paths tR (upd (gR_paths tR) (y2 : Int32).toNatClampNeg 1))) H := hP
          have hD : va_D A (wR aR q (gR_set_paths tR (upd (gR_paths tR) (y2 : Int32).toNatClampNeg 1))) := hD
          refine lv_iconst (v := 0) hx hb dX7_layPaths_36 (by decide) ?_
          refine lv_istore_n (lv' := [(3, .int 0), (0, .ref (aR 0)), (1, .int y1), (2, .int y2)]) hx hb dX7_layPaths_37 rfl hl (by decide) rfl (fun ls hl => ?_)
          exact hf H locs ls hP hD hS (lv_sub hl [1, 2, 3, 0] rfl))
    (by
      intro y1 y2 y3 tR hf H locs ls hP hD hS hl
      refine lv_iload_n hx hb dX7_layPaths_38 rfl (lv_at hl 3 rfl) ?_
      refine lv_aload_n hx hb dX7_layPaths_39 rfl (lv_at hl 0 rfl) ?_
      refine va_get (D := D) (ci := 5) (v := .int (gR_letters tR)) (C := RX7) (T := TX7) (N := 14) hx hb hts inX7_layPaths_X7 hown hK hP 0 rfl rfl 0 (by decide) (hts (.fieldLink RX7 52 "GrowingTextModel" "letters" "I") (List.mem_of_getElem? (i := 5) rfl)) (fun _ h9 => h9) rfl dX7_layPaths_40 ?_
      refine lv_icmp_ge (tgt := 87) hx hb dX7_layPaths_43 (by decide) (fun c4 => ?_) (fun c4 => ?_)
      · have hf := hf.1 (c4)
        refine lv_iinc (v := (y2 + 1)) (lv' := [(2, .int (y2 + 1)), (0, .ref (aR 0)), (1, .int y1), (3, .int y3)]) hx hb dX7_layPaths_87 hl (k := 2) rfl rfl (by decide) rfl (fun ls hl => ?_)
        refine lv_goto (tgt := 11) hx hb dX7_layPaths_90 (by decide) ?_
        exact hf H locs ls hP hD hS (lv_sub hl [1, 2, 0] rfl)
      · have hf := hf.2 (c4)
        refine lv_aload_n hx hb dX7_layPaths_46 rfl (lv_at hl 0 rfl) ?_
        refine lv_iload_n hx hb dX7_layPaths_47 rfl (lv_at hl 2 rfl) ?_
        refine lv_iload_n hx hb dX7_layPaths_48 rfl (lv_at hl 3 rfl) ?_
        refine k_si (k_runV (As := [.int y2, .int y3]) (rest := []) ⟨hx, hb, hml, hown, hts⟩ (c_X7_moveOf l D q aR tR y2 y3 _ hf) (cwV 2 hts gX7_layPaths_X7_moveOf rfl rfl rfl cdX7_moveOf ⟨Nat.le_of_ble_eq_true rfl, Nat.le_of_ble_eq_true rfl⟩) hK hP hD 0 rfl rfl rfl hl.1 rfl (Nat.le_of_ble_eq_true rfl) dX7_layPaths_49 ⟨Nat.le_of_ble_eq_true rfl, Nat.le_of_ble_eq_true rfl⟩) (fun r5 hf => ?_)
        refine lv_istore (lv' := [(4, .int r5), (0, .ref (aR 0)), (1, .int y1), (2, .int y2), (3, .int y3)]) hx hb dX7_layPaths_52 hl (by decide) rfl (fun ls hl => ?_)
        refine lv_aload_n hx hb dX7_layPaths_54 rfl (lv_at hl 1 rfl) ?_
        refine va_get (D := D) (ci := 5) (v := .ref (aR 8)) (C := RX7) (T := TX7) (N := 14) hx hb hts inX7_layPaths_X7 hown hK hP 0 rfl rfl 10 (by decide) (hts (.fieldLink RX7 32 "GrowingTextModel" "paths" "[I") (List.mem_of_getElem? (i := 4) rfl)) (fun _ h9 => h9) rfl dX7_layPaths_55 ?_
        refine lv_iload_n hx hb dX7_layPaths_58 rfl (lv_at hl 3 rfl) ?_
        refine lv_dup2_11 hx hb dX7_layPaths_59 rfl rfl ?_
        refine va_iald hx hb hK hP 8 0 (f := (gR_paths tR)) rfl rfl hf.1 dX7_layPaths_60 ?_
        have hf := hf.2
        refine lv_iload hx hb dX7_layPaths_61 (lv_at hl 0 rfl) ?_
        refine lv_bipush (v := (-4)) hx hb dX7_layPaths_63 (by decide) ?_
        refine lv_icmp_ne (tgt := 72) hx hb dX7_layPaths_65 (by decide) (fun c6 => ?_) (fun c6 => ?_)
        · have hf := hf.2 (c6)
          refine lv_aload_n hx hb dX7_layPaths_72 rfl (lv_at hl 1 rfl) ?_
          refine va_get (D := D) (ci := 5) (v := .ref (aR 8)) (C := RX7) (T := TX7) (N := 14) hx hb hts inX7_layPaths_X7 hown hK hP 0 rfl rfl 10 (by decide) (hts (.fieldLink RX7 32 "GrowingTextModel" "paths" "[I") (List.mem_of_getElem? (i := 4) rfl)) (fun _ h9 => h9) rfl dX7_layPaths_73 ?_
          refine lv_iload hx hb dX7_layPaths_76 (lv_at hl 0 rfl) ?_
          refine va_iald hx hb hK hP 8 0 (f := (gR_paths tR)) rfl rfl hf.1 dX7_layPaths_78 ?_
          have hf := hf.2
          exact hf H locs ls hP hD hS (lv_sub hl [1, 2, 3, 4] rfl)
        · have hf := hf.1 (c6)
          refine lv_iconst (v := 0) hx hb dX7_layPaths_68 (by decide) ?_
          refine lv_goto (tgt := 79) hx hb dX7_layPaths_69 (by decide) ?_
          exact hf H locs ls hP hD hS (lv_sub hl [1, 2, 3, 4] rfl))
    (by
      intro y1 y2 y3 z0 z1 z2 tR hf H locs ls hP hD hS hl
      refine lv_iadd hx hb dX7_layPaths_79 ?_
      refine va_iast hx hb hK hP hD hS 8 0 (f := (gR_paths tR)) rfl rfl hf.1 dX7_layPaths_80 (fun H locs hP hD hS => ?_)
      have hf := hf.2
      have hP : va_P D vwCl (wR aR q (gR_set_paths tR (upd (gR_paths tR) (z2 : Int32).toNatClampNeg (z1 + z0)))) H := hP
      have hD : va_D A (wR aR q (gR_set_paths tR (upd (gR_paths tR) (z2 : Int32).toNatClampNeg (z1 + z0)))) := hD
      refine lv_iinc (v := (y3 + 1)) (lv' := [(3, .int (y3 + 1)), (0, .ref (aR 0)), (1, .int y1), (2, .int y2)]) hx hb dX7_layPaths_81 hl (k := 3) rfl rfl (by decide) rfl (fun ls hl => ?_)
      refine lv_goto (tgt := 38) hx hb dX7_layPaths_84 (by decide) ?_
      exact hf H locs ls hP hD hS (lv_sub hl [1, 2, 3, 0] rfl))
  refine lv_aload_n hx hb dX7_layPaths_0 rfl (lv_at hl 0 rfl) ?_
  refine va_get (D := D) (ci := 5) (v := .int (gR_n uR)) (C := RX7) (T := TX7) (N := 14) hx hb hts inX7_layPaths_X7 hown hK hP 0 rfl rfl 1 (by decide) (hts (.fieldLink RX7 56 "GrowingTextModel" "n" "I") (List.mem_of_getElem? (i := 1) rfl)) (fun _ h9 => h9) rfl dX7_layPaths_1 ?_
  refine lv_istore_n (lv' := [(1, .int (gR_n uR)), (0, .ref (aR 0))]) hx hb dX7_layPaths_4 rfl hl (by decide) rfl (fun ls hl => ?_)
  exact hf H locs ls hP hD hS (lv_sub hl [1, 0] rfl)
def wpX7_kth (uR : RSt) (x1 : Int32) (x2 : Int32) (Q : Int32 → RSt → Prop) : Prop :=
  ∀ (X42 : Int32 → Int32 → Int32 → RSt → Prop) (X61 : Int32 → Int32 → Int32 → Int32 → Int32 → RSt → Prop) (X79 : Int32 → Int32 → Int32 → Int32 → Int32 → RSt → Prop) (X98 : Int32 → Int32 → Int32 → Int32 → Int32 → RSt → Prop),
  (∀ (y3 : Int32) (y4 : Int32) (y5 : Int32) (tR : RSt),
    ((y3 ≤ 0 →
      vp_in x2 4 ∧
      Q y5 (gR_set_sizes tR (upd (gR_sizes tR) (x2 : Int32).toNatClampNeg y5))) ∧
    (¬ (y3 ≤ 0) →
      wpX7_moveOf tR y4 0 (fun r6 =>
        X61 (y3 + (-1)) y4 y5 0 r6 tR))) → X42 y3 y4 y5 tR) →
  (∀ (y3 : Int32) (y4 : Int32) (y5 : Int32) (y6 : Int32) (y7 : Int32) (tR : RSt),
    ((y7 = (-4) →
      X79 y3 y4 y5 y6 y7 tR) ∧
    (¬ (y7 = (-4)) →
      vp_in y7 121 ∧
      ((y3 < ((gR_paths tR) (y7 : Int32).toNatClampNeg) →
        vp_in ((64 * x2) + y5) 256 ∧
        X42 y3 y7 (y5 + 1) (gR_set_sheets tR (upd (gR_sheets tR) (((64 * x2) + y5) : Int32).toNatClampNeg (97 + y6)))) ∧
      (¬ (y3 < ((gR_paths tR) (y7 : Int32).toNatClampNeg)) →
        X79 y3 y4 y5 y6 y7 tR)))) → X61 y3 y4 y5 y6 y7 tR) →
  (∀ (y3 : Int32) (y4 : Int32) (y5 : Int32) (y6 : Int32) (y7 : Int32) (tR : RSt),
    ((y7 = (-4) →
      X98 y4 y5 y6 0 y3 tR) ∧
    (¬ (y7 = (-4)) →
      vp_in y7 121 ∧
      X98 y4 y5 y6 ((gR_paths tR) (y7 : Int32).toNatClampNeg) y3 tR)) → X79 y3 y4 y5 y6 y7 tR) →
  (∀ (y4 : Int32) (y5 : Int32) (y6 : Int32) (z0 : Int32) (z1 : Int32) (tR : RSt),
    wpX7_moveOf tR y4 (y6 + 1) (fun r10 =>
      X61 (z1 - z0) y4 y5 (y6 + 1) r10 tR) → X98 y4 y5 y6 z0 z1 tR) →
  ((x1 < 0 →
    Q (-1) uR) ∧
  (¬ (x1 < 0) →
    ((fX7_isSheet x2) = 0 →
      Q (-1) uR) ∧
    (¬ ((fX7_isSheet x2) = 0) →
      wpX7_layPaths uR (fun uR3 =>
        vp_in 0 121 ∧
        ((x1 < (((gR_paths uR3) (0 : Int32).toNatClampNeg) - 1) →
          X42 (x1 + 1) 0 0 uR3) ∧
        (¬ (x1 < (((gR_paths uR3) (0 : Int32).toNatClampNeg) - 1)) →
          Q (-4) uR3))))))
def rmX7_kth : Room := { frames := 4, cells := 0, slots := 0, locals := 94 }
theorem inX7_kth_X7 : ∀ w ∈ wsX70, w ∈ wsX7_kth := fun w h => List.mem_cons_of_mem _ (List.mem_append_right _ h)
set_option maxRecDepth 100000 in
set_option maxHeartbeats 4000000 in
theorem c_X7_kth (l : Launch) (D : va_G) (q : Nat → ClassId) (aR : Nat → Nat) (uR : RSt) (x1 : Int32) (x2 : Int32) (Q : Int32 → RSt → Prop) (hf : wpX7_kth uR x1 x2 Q) : Met l yX7_kth wsX7_kth rmX7_kth (va_Pc [.ref (aR 0), .int x1, .int x2] (kP D q (wR aR q uR))) (va_Qi Q (fun u t => kP D q (wR aR q u) t) (kIn (wR aR q uR))) 0 0 (kIn (wR aR q uR)) := by
  refine Met.ofW (cc := cX7_kth) (maxL := 8) (ret := (some .int)) (by decide) rfl ?_
  intro p e s m args below meth c s₁ B hml hv
  obtain ⟨hargs, hP, hK, hD⟩ := hv
  have hx := B.exec
  have hb := B.bytes
  have hr := B.returns
  have hts := atoms_spec (ws := wsX7_kth) B.pre
  have hown : s.vm.findClass RX7 = some m.cls := findClass_of_methodNamed B.named
  have hlocks := B.notSynchronized
  have hD := kd_self hD
  generalize kIn (wR aR q uR) = A at hD ⊢
  have hS : va_S A s.heap s.heap [] := va_S.rf
  refine k_entry hargs (Nat.le_of_ble_eq_true rfl) (fun ls hl => ?_)
  have hl : lv_has ls 8 [(0, .ref (aR 0)), (1, .int x1), (2, .int x2)] := hl
  change W p l e rmX7_kth s m args below meth c s.heap [] 0 0 (MQ below (va_Qi Q (fun u t => kP D q (wR aR q u) t) A) args s 0 0 A) _
  unfold wpX7_kth at hf
  obtain ⟨H, hH⟩ : ∃ H, H = s.heap := ⟨_, rfl⟩
  obtain ⟨locs, hlocs⟩ : ∃ x : List Loc, x = [] := ⟨_, rfl⟩
  rw [← hH] at hP
  have hS : va_S A s.heap H locs := by rw [hH, hlocs]; exact hS
  rw [show W p l e rmX7_kth s m args below meth c s.heap [] 0 0 (MQ below (va_Qi Q (fun u t => kP D q (wR aR q u) t) A) args s 0 0 A) (F0 m 0 ls []) = W p l e rmX7_kth s m args below meth c H locs 0 0 (MQ below (va_Qi Q (fun u t => kP D q (wR aR q u) t) A) args s 0 0 A) (F0 m 0 ls []) by rw [hH, hlocs]]
  clear hH hlocs
  have hf := hf
    (fun (y3 : Int32) (y4 : Int32) (y5 : Int32) (tR : RSt) => ∀ (H : Heap) (locs : List Loc) (ls : Array Slot), va_P D vwCl (wR aR q tR) H → va_D A (wR aR q tR) → va_S A s.heap H locs → lv_has ls 8 [(0, .ref (aR 0)), (2, .int x2), (3, .int y3), (4, .int y4), (5, .int y5)] → W p l e rmX7_kth s m args below meth c H locs 0 0 (MQ below (va_Qi Q (fun u t => kP D q (wR aR q u) t) A) args s 0 0 A) (F0 m 42 ls []))
    (fun (y3 : Int32) (y4 : Int32) (y5 : Int32) (y6 : Int32) (y7 : Int32) (tR : RSt) => ∀ (H : Heap) (locs : List Loc) (ls : Array Slot), va_P D vwCl (wR aR q tR) H → va_D A (wR aR q tR) → va_S A s.heap H locs → lv_has ls 8 [(0, .ref (aR 0)), (2, .int x2), (3, .int y3), (4, .int y4), (5, .int y5), (6, .int y6), (7, .int y7)] → W p l e rmX7_kth s m args below meth c H locs 0 0 (MQ below (va_Qi Q (fun u t => kP D q (wR aR q u) t) A) args s 0 0 A) (F0 m 61 ls []))
    (fun (y3 : Int32) (y4 : Int32) (y5 : Int32) (y6 : Int32) (y7 : Int32) (tR : RSt) => ∀ (H : Heap) (locs : List Loc) (ls : Array Slot), va_P D vwCl (wR aR q tR) H → va_D A (wR aR q tR) → va_S A s.heap H locs → lv_has ls 8 [(0, .ref (aR 0)), (2, .int x2), (3, .int y3), (4, .int y4), (5, .int y5), (6, .int y6), (7, .int y7)] → W p l e rmX7_kth s m args below meth c H locs 0 0 (MQ below (va_Qi Q (fun u t => kP D q (wR aR q u) t) A) args s 0 0 A) (F0 m 79 ls []))
    (fun (y4 : Int32) (y5 : Int32) (y6 : Int32) (z0 : Int32) (z1 : Int32) (tR : RSt) => ∀ (H : Heap) (locs : List Loc) (ls : Array Slot), va_P D vwCl (wR aR q tR) H → va_D A (wR aR q tR) → va_S A s.heap H locs → lv_has ls 8 [(0, .ref (aR 0)), (2, .int x2), (4, .int y4), (5, .int y5), (6, .int y6)] → W p l e rmX7_kth s m args below meth c H locs 0 0 (MQ below (va_Qi Q (fun u t => kP D q (wR aR q u) t) A) args s 0 0 A) (F0 m 98 ls [.int z0, .int z1]))
    (by
      intro y3 y4 y5 tR hf H locs ls hP hD hS hl
      refine lv_iload_n hx hb dX7_kth_42 rfl (lv_at hl 2 rfl) ?_
      refine lv_if_le (tgt := 143) hx hb dX7_kth_43 (by decide) (fun c5 => ?_) (fun c5 => ?_)
      · have hf := hf.1 (c5)
        refine lv_aload_n hx hb dX7_kth_143 rfl (lv_at hl 0 rfl) ?_
        refine va_get (D := D) (ci := 5) (v := .ref (aR 6)) (C := RX7) (T := TX7) (N := 14) hx hb hts inX7_kth_X7 hown hK hP 0 rfl rfl 8 (by decide) (hts (.fieldLink RX7 26 "GrowingTextModel" "sizes" "[I") (List.mem_of_getElem? (i := 3) rfl)) (fun _ h9 => h9) rfl dX7_kth_144 ?_
        refine lv_iload_n hx hb dX7_kth_147 rfl (lv_at hl 1 rfl) ?_
        refine lv_iload hx hb dX7_kth_148 (lv_at hl 4 rfl) ?_
        refine va_iast hx hb hK hP hD hS 6 0 (f := (gR_sizes tR)) rfl rfl hf.1 dX7_kth_150 (fun H locs hP hD hS => ?_)
        have hf := hf.2
        have hP : va_P D vwCl (wR aR q (gR_set_sizes tR (upd (gR_sizes tR) (x2 : Int32).toNatClampNeg y5))) H := hP
        have hD : va_D A (wR aR q (gR_set_sizes tR (upd (gR_sizes tR) (x2 : Int32).toNatClampNeg y5))) := hD
        refine lv_iload hx hb dX7_kth_151 (lv_at hl 4 rfl) ?_
        exact k_iret_w (wf := (fun u => wR aR q u)) (post := Q) (u := (gR_set_sizes tR (upd (gR_sizes tR) (x2 : Int32).toNatClampNeg y5))) (v := y5) hx hb hr hlocks hK hP hD hS hf dX7_kth_153
      · have hf := hf.2 (c5)
        refine lv_iinc (v := (y3 + (-1))) (lv' := [(3, .int (y3 + (-1))), (0, .ref (aR 0)), (2, .int x2), (4, .int y4), (5, .int y5)]) hx hb dX7_kth_46 hl (k := 2) rfl rfl (by decide) rfl (fun ls hl => ?_)
        refine lv_iconst (v := 0) hx hb dX7_kth_49 (by decide) ?_
        refine lv_istore (lv' := [(6, .int 0), (3, .int (y3 + (-1))), (0, .ref (aR 0)), (2, .int x2), (4, .int y4), (5, .int y5)]) hx hb dX7_kth_50 hl (by decide) rfl (fun ls hl => ?_)
        refine lv_aload_n hx hb dX7_kth_52 rfl (lv_at hl 2 rfl) ?_
        refine lv_iload hx hb dX7_kth_53 (lv_at hl 4 rfl) ?_
        refine lv_iconst (v := 0) hx hb dX7_kth_55 (by decide) ?_
        refine k_si (k_runV (As := [.int y4, .int 0]) (rest := []) ⟨hx, hb, hml, hown, hts⟩ (c_X7_moveOf l D q aR tR y4 0 _ hf) (cwV 2 hts gX7_kth_X7_moveOf rfl rfl rfl cdX7_moveOf ⟨Nat.le_of_ble_eq_true rfl, Nat.le_of_ble_eq_true rfl⟩) hK hP hD 0 rfl rfl rfl hl.1 rfl (Nat.le_of_ble_eq_true rfl) dX7_kth_56 ⟨Nat.le_of_ble_eq_true rfl, Nat.le_of_ble_eq_true rfl⟩) (fun r6 hf => ?_)
        refine lv_istore (lv' := [(7, .int r6), (6, .int 0), (3, .int (y3 + (-1))), (0, .ref (aR 0)), (2, .int x2), (4, .int y4), (5, .int y5)]) hx hb dX7_kth_59 hl (by decide) rfl (fun ls hl => ?_)
        exact hf H locs ls hP hD hS (lv_sub hl [3, 4, 2, 5, 6, 1, 0] rfl))
    (by
      intro y3 y4 y5 y6 y7 tR hf H locs ls hP hD hS hl
      refine lv_iload hx hb dX7_kth_61 (lv_at hl 6 rfl) ?_
      refine lv_bipush (v := (-4)) hx hb dX7_kth_63 (by decide) ?_
      refine lv_icmp_eq (tgt := 79) hx hb dX7_kth_65 (by decide) (fun c7 => ?_) (fun c7 => ?_)
      · have hf := hf.1 (c7)
        exact hf H locs ls hP hD hS (lv_sub hl [0, 1, 2, 3, 4, 5, 6] rfl)
      · have hf := hf.2 (c7)
        refine lv_iload_n hx hb dX7_kth_68 rfl (lv_at hl 2 rfl) ?_
        refine lv_aload_n hx hb dX7_kth_69 rfl (lv_at hl 0 rfl) ?_
        refine va_get (D := D) (ci := 5) (v := .ref (aR 8)) (C := RX7) (T := TX7) (N := 14) hx hb hts inX7_kth_X7 hown hK hP 0 rfl rfl 10 (by decide) (hts (.fieldLink RX7 32 "GrowingTextModel" "paths" "[I") (List.mem_of_getElem? (i := 1) rfl)) (fun _ h9 => h9) rfl dX7_kth_70 ?_
        refine lv_iload hx hb dX7_kth_73 (lv_at hl 6 rfl) ?_
        refine va_iald hx hb hK hP 8 0 (f := (gR_paths tR)) rfl rfl hf.1 dX7_kth_75 ?_
        have hf := hf.2
        refine lv_icmp_lt (tgt := 116) hx hb dX7_kth_76 (by decide) (fun c8 => ?_) (fun c8 => ?_)
        · have hf := hf.1 (c8)
          refine lv_iload hx hb dX7_kth_116 (lv_at hl 6 rfl) ?_
          refine lv_istore (lv' := [(4, .int y7), (0, .ref (aR 0)), (2, .int x2), (3, .int y3), (5, .int y5), (6, .int y6), (7, .int y7)]) hx hb dX7_kth_118 hl (by decide) rfl (fun ls hl => ?_)
          refine lv_aload_n hx hb dX7_kth_120 rfl (lv_at hl 1 rfl) ?_
          refine va_get (D := D) (ci := 5) (v := .ref (aR 7)) (C := RX7) (T := TX7) (N := 14) hx hb hts inX7_kth_X7 hown hK hP 0 rfl rfl 9 (by decide) (hts (.fieldLink RX7 29 "GrowingTextModel" "sheets" "[I") (List.mem_of_getElem? (i := 2) rfl)) (fun _ h9 => h9) rfl dX7_kth_121 ?_
          refine lv_bipush (v := 64) hx hb dX7_kth_124 (by decide) ?_
          refine lv_iload_n hx hb dX7_kth_126 rfl (lv_at hl 2 rfl) ?_
          refine lv_imul hx hb dX7_kth_127 ?_
          refine lv_iload hx hb dX7_kth_128 (lv_at hl 4 rfl) ?_
          refine lv_iadd hx hb dX7_kth_130 ?_
          refine lv_bipush (v := 97) hx hb dX7_kth_131 (by decide) ?_
          refine lv_iload hx hb dX7_kth_133 (lv_at hl 5 rfl) ?_
          refine lv_iadd hx hb dX7_kth_135 ?_
          refine va_iast hx hb hK hP hD hS 7 0 (f := (gR_sheets tR)) rfl rfl hf.1 dX7_kth_136 (fun H locs hP hD hS => ?_)
          have hf := hf.2
          have hP : va_P D vwCl (wR aR q (gR_set_sheets tR (upd (gR_sheets tR) (((64 * x2) + y5) : Int32).toNatClampNeg (97 + y6)))) H := hP
          have hD : va_D A (wR aR q (gR_set_sheets tR (upd (gR_sheets tR) (((64 * x2) + y5) : Int32).toNatClampNeg (97 + y6)))) := hD
          refine lv_iinc (v := (y5 + 1)) (lv' := [(5, .int (y5 + 1)), (4, .int y7), (0, .ref (aR 0)), (2, .int x2), (3, .int y3), (6, .int y6), (7, .int y7)]) hx hb dX7_kth_137 hl (k := 4) rfl rfl (by decide) rfl (fun ls hl => ?_)
          refine lv_goto (tgt := 42) hx hb dX7_kth_140 (by decide) ?_
          exact hf H locs ls hP hD hS (lv_sub hl [2, 3, 4, 1, 0] rfl)
        · have hf := hf.2 (c8)
          exact hf H locs ls hP hD hS (lv_sub hl [0, 1, 2, 3, 4, 5, 6] rfl))
    (by
      intro y3 y4 y5 y6 y7 tR hf H locs ls hP hD hS hl
      refine lv_iload_n hx hb dX7_kth_79 rfl (lv_at hl 2 rfl) ?_
      refine lv_iload hx hb dX7_kth_80 (lv_at hl 6 rfl) ?_
      refine lv_bipush (v := (-4)) hx hb dX7_kth_82 (by decide) ?_
      refine lv_icmp_ne (tgt := 91) hx hb dX7_kth_84 (by decide) (fun c9 => ?_) (fun c9 => ?_)
      · have hf := hf.2 (c9)
        refine lv_aload_n hx hb dX7_kth_91 rfl (lv_at hl 0 rfl) ?_
        refine va_get (D := D) (ci := 5) (v := .ref (aR 8)) (C := RX7) (T := TX7) (N := 14) hx hb hts inX7_kth_X7 hown hK hP 0 rfl rfl 10 (by decide) (hts (.fieldLink RX7 32 "GrowingTextModel" "paths" "[I") (List.mem_of_getElem? (i := 1) rfl)) (fun _ h9 => h9) rfl dX7_kth_92 ?_
        refine lv_iload hx hb dX7_kth_95 (lv_at hl 6 rfl) ?_
        refine va_iald hx hb hK hP 8 0 (f := (gR_paths tR)) rfl rfl hf.1 dX7_kth_97 ?_
        have hf := hf.2
        exact hf H locs ls hP hD hS (lv_sub hl [0, 1, 3, 4, 5] rfl)
      · have hf := hf.1 (c9)
        refine lv_iconst (v := 0) hx hb dX7_kth_87 (by decide) ?_
        refine lv_goto (tgt := 98) hx hb dX7_kth_88 (by decide) ?_
        exact hf H locs ls hP hD hS (lv_sub hl [0, 1, 3, 4, 5] rfl))
    (by
      intro y4 y5 y6 z0 z1 tR hf H locs ls hP hD hS hl
      refine lv_isub hx hb dX7_kth_98 ?_
      refine lv_istore_n (lv' := [(3, .int (z1 - z0)), (0, .ref (aR 0)), (2, .int x2), (4, .int y4), (5, .int y5), (6, .int y6)]) hx hb dX7_kth_99 rfl hl (by decide) rfl (fun ls hl => ?_)
      refine lv_iinc (v := (y6 + 1)) (lv' := [(6, .int (y6 + 1)), (3, .int (z1 - z0)), (0, .ref (aR 0)), (2, .int x2), (4, .int y4), (5, .int y5)]) hx hb dX7_kth_100 hl (k := 5) rfl rfl (by decide) rfl (fun ls hl => ?_)
      refine lv_aload_n hx hb dX7_kth_103 rfl (lv_at hl 2 rfl) ?_
      refine lv_iload hx hb dX7_kth_104 (lv_at hl 4 rfl) ?_
      refine lv_iload hx hb dX7_kth_106 (lv_at hl 0 rfl) ?_
      refine k_si (k_runV (As := [.int y4, .int (y6 + 1)]) (rest := []) ⟨hx, hb, hml, hown, hts⟩ (c_X7_moveOf l D q aR tR y4 (y6 + 1) _ hf) (cwV 2 hts gX7_kth_X7_moveOf rfl rfl rfl cdX7_moveOf ⟨Nat.le_of_ble_eq_true rfl, Nat.le_of_ble_eq_true rfl⟩) hK hP hD 0 rfl rfl rfl hl.1 rfl (Nat.le_of_ble_eq_true rfl) dX7_kth_108 ⟨Nat.le_of_ble_eq_true rfl, Nat.le_of_ble_eq_true rfl⟩) (fun r10 hf => ?_)
      refine lv_istore (lv' := [(7, .int r10), (6, .int (y6 + 1)), (3, .int (z1 - z0)), (0, .ref (aR 0)), (2, .int x2), (4, .int y4), (5, .int y5)]) hx hb dX7_kth_111 hl (by decide) rfl (fun ls hl => ?_)
      refine lv_goto (tgt := 61) hx hb dX7_kth_113 (by decide) ?_
      exact hf H locs ls hP hD hS (lv_sub hl [3, 4, 2, 5, 6, 1, 0] rfl))
  refine lv_iload_n hx hb dX7_kth_0 rfl (lv_at hl 1 rfl) ?_
  refine lv_if_lt (tgt := 11) hx hb dX7_kth_1 (by decide) (fun c1 => ?_) (fun c1 => ?_)
  · have hf := hf.1 (c1)
    refine lv_iconst (v := (-1)) hx hb dX7_kth_11 (by decide) ?_
    exact k_iret_w (wf := (fun u => wR aR q u)) (post := Q) (u := uR) (v := (-1)) hx hb hr hlocks hK hP hD hS hf dX7_kth_12
  · have hf := hf.2 (c1)
    refine lv_iload_n hx hb dX7_kth_4 rfl (lv_at hl 2 rfl) ?_
    refine k_si (k_runS (As := [.int x2]) (rest := []) ⟨hx, hb, hml, hown, hts⟩ (cF_X7_isSheet l D q x2) (va_cwS 1 hts gX7_kth_X7_isSheet rfl rfl rfl cdX7_isSheet ⟨Nat.le_of_ble_eq_true rfl, Nat.le_of_ble_eq_true rfl⟩) hK k_nilP k_nilD rfl hl.1 rfl (Nat.le_of_ble_eq_true rfl) dX7_kth_5 ⟨Nat.le_of_ble_eq_true rfl, Nat.le_of_ble_eq_true rfl⟩) (fun r hr => ?_)
    subst hr
    refine lv_if_ne (tgt := 13) hx hb dX7_kth_8 (by decide) (fun c2 => ?_) (fun c2 => ?_)
    · have hf := hf.2 (c2)
      refine lv_aload_n hx hb dX7_kth_13 rfl (lv_at hl 0 rfl) ?_
      refine k_wv (wf := fun u => wR aR q u) (u0 := uR) (k_runV (As := []) (rest := []) ⟨hx, hb, hml, hown, hts⟩ (c_X7_layPaths l D q aR uR _ hf) (cwV 0 hts gX7_kth_X7_layPaths rfl rfl rfl cdX7_layPaths ⟨Nat.le_of_ble_eq_true rfl, Nat.le_of_ble_eq_true rfl⟩) hK hP hD 0 rfl rfl rfl hl.1 rfl (Nat.le_of_ble_eq_true rfl) dX7_kth_14 ⟨Nat.le_of_ble_eq_true rfl, Nat.le_of_ble_eq_true rfl⟩) ([]) ([]) (fun _ => rfl) hP hD hS (fun uR3 H locs hf hP hD hS => ?_)
      have hP : va_P D vwCl (wR aR q uR3) H := hP
      have hD : va_D A (wR aR q uR3) := hD
      refine lv_iload_n hx hb dX7_kth_17 rfl (lv_at hl 1 rfl) ?_
      refine lv_aload_n hx hb dX7_kth_18 rfl (lv_at hl 0 rfl) ?_
      refine va_get (D := D) (ci := 5) (v := .ref (aR 8)) (C := RX7) (T := TX7) (N := 14) hx hb hts inX7_kth_X7 hown hK hP 0 rfl rfl 10 (by decide) (hts (.fieldLink RX7 32 "GrowingTextModel" "paths" "[I") (List.mem_of_getElem? (i := 1) rfl)) (fun _ h9 => h9) rfl dX7_kth_19 ?_
      refine lv_iconst (v := 0) hx hb dX7_kth_22 (by decide) ?_
      refine va_iald hx hb hK hP 8 0 (f := (gR_paths uR3)) rfl rfl hf.1 dX7_kth_23 ?_
      have hf := hf.2
      refine lv_iconst (v := 1) hx hb dX7_kth_24 (by decide) ?_
      refine lv_isub hx hb dX7_kth_25 ?_
      refine lv_icmp_lt (tgt := 32) hx hb dX7_kth_26 (by decide) (fun c4 => ?_) (fun c4 => ?_)
      · have hf := hf.1 (c4)
        refine lv_iload_n hx hb dX7_kth_32 rfl (lv_at hl 1 rfl) ?_
        refine lv_iconst (v := 1) hx hb dX7_kth_33 (by decide) ?_
        refine lv_iadd hx hb dX7_kth_34 ?_
        refine lv_istore_n (lv' := [(3, .int (x1 + 1)), (0, .ref (aR 0)), (1, .int x1), (2, .int x2)]) hx hb dX7_kth_35 rfl hl (by decide) rfl (fun ls hl => ?_)
        refine lv_iconst (v := 0) hx hb dX7_kth_36 (by decide) ?_
        refine lv_istore (lv' := [(4, .int 0), (3, .int (x1 + 1)), (0, .ref (aR 0)), (1, .int x1), (2, .int x2)]) hx hb dX7_kth_37 hl (by decide) rfl (fun ls hl => ?_)
        refine lv_iconst (v := 0) hx hb dX7_kth_39 (by decide) ?_
        refine lv_istore (lv' := [(5, .int 0), (4, .int 0), (3, .int (x1 + 1)), (0, .ref (aR 0)), (1, .int x1), (2, .int x2)]) hx hb dX7_kth_40 hl (by decide) rfl (fun ls hl => ?_)
        exact hf H locs ls hP hD hS (lv_sub hl [3, 5, 2, 1, 0] rfl)
      · have hf := hf.2 (c4)
        refine lv_bipush (v := (-4)) hx hb dX7_kth_29 (by decide) ?_
        exact k_iret_w (wf := (fun u => wR aR q u)) (post := Q) (u := uR3) (v := (-4)) hx hb hr hlocks hK hP hD hS hf dX7_kth_31
    · have hf := hf.1 (c2)
      refine lv_iconst (v := (-1)) hx hb dX7_kth_11 (by decide) ?_
      exact k_iret_w (wf := (fun u => wR aR q u)) (post := Q) (u := uR) (v := (-1)) hx hb hr hlocks hK hP hD hS hf dX7_kth_12
def wpX7_rank (uR : RSt) (x1 : Int32) (Q : Int32 → RSt → Prop) : Prop :=
  ∀ (X53 : Int32 → Int32 → Int32 → RSt → Prop) (X84 : Int32 → Int32 → Int32 → Int32 → Int32 → RSt → Prop) (X139 : Int32 → Int32 → Int32 → Int32 → Int32 → RSt → Prop) (X120 : Int32 → Int32 → Int32 → Int32 → Int32 → Int32 → RSt → Prop),
  (∀ (y3 : Int32) (y4 : Int32) (y5 : Int32) (tR : RSt),
    (vp_in x1 4 ∧
    ((((gR_sizes tR) (x1 : Int32).toNatClampNeg) ≤ y5 →
      Q y3 tR) ∧
    (¬ (((gR_sizes tR) (x1 : Int32).toNatClampNeg) ≤ y5) →
      vp_in ((64 * x1) + y5) 256 ∧
      X84 y3 y4 y5 (((gR_sheets tR) (((64 * x1) + y5) : Int32).toNatClampNeg) - 97) 0 tR))) → X53 y3 y4 y5 tR) →
  (∀ (y3 : Int32) (y4 : Int32) (y5 : Int32) (y6 : Int32) (y7 : Int32) (tR : RSt),
    ((y6 ≤ y7 →
      (y5 ≤ 0 →
        X139 y4 y5 y6 0 y3 tR) ∧
      (¬ (y5 ≤ 0) →
        X139 y4 y5 y6 1 y3 tR)) ∧
    (¬ (y6 ≤ y7) →
      wpX7_moveOf tR y4 y7 (fun r10 =>
        (r10 = (-4) →
          X120 y4 y5 y6 y7 0 y3 tR) ∧
        (¬ (r10 = (-4)) →
          vp_in r10 121 ∧
          X120 y4 y5 y6 y7 ((gR_paths tR) (r10 : Int32).toNatClampNeg) y3 tR)))) → X84 y3 y4 y5 y6 y7 tR) →
  (∀ (y4 : Int32) (y5 : Int32) (y6 : Int32) (z0 : Int32) (z1 : Int32) (tR : RSt),
    wpX7_moveOf tR y4 y6 (fun r12 =>
      X53 (z1 + z0) r12 (y5 + 1) tR) → X139 y4 y5 y6 z0 z1 tR) →
  (∀ (y4 : Int32) (y5 : Int32) (y6 : Int32) (y7 : Int32) (z0 : Int32) (z1 : Int32) (tR : RSt),
    X84 (z1 + z0) y4 y5 y6 (y7 + 1) tR → X120 y4 y5 y6 y7 z0 z1 tR) →
  wpX7_need uR x1 (fun r1 =>
    ((0 : Int32) ≤ r1 →
      vp_in x1 4 ∧
      ((((gR_sizes uR) (x1 : Int32).toNatClampNeg) = 0 →
        Q (-4) uR) ∧
      (¬ (((gR_sizes uR) (x1 : Int32).toNatClampNeg) = 0) →
        vp_in x1 4 ∧
        wpX7_endsIn uR x1 0 ((gR_sizes uR) (x1 : Int32).toNatClampNeg) (fun r4 =>
          ((r4 : Int64) = 0 →
            Q (-4) uR) ∧
          (¬ ((r4 : Int64) = 0) →
            wpX7_layPaths uR (fun uR6 =>
              X53 0 0 0 uR6)))))) ∧
    (¬ ((0 : Int32) ≤ r1) →
      Q r1 uR))
def rmX7_rank : Room := { frames := 4, cells := 0, slots := 0, locals := 94 }
theorem inX7_rank_X7 : ∀ w ∈ wsX70, w ∈ wsX7_rank := fun w h => List.mem_cons_of_mem _ (List.mem_append_right _ h)
set_option maxRecDepth 100000 in
set_option maxHeartbeats 4000000 in
theorem c_X7_rank (l : Launch) (D : va_G) (q : Nat → ClassId) (aR : Nat → Nat) (uR : RSt) (x1 : Int32) (Q : Int32 → RSt → Prop) (hf : wpX7_rank uR x1 Q) : Met l yX7_rank wsX7_rank rmX7_rank (va_Pc [.ref (aR 0), .int x1] (kP D q (wR aR q uR))) (va_Qi Q (fun u t => kP D q (wR aR q u) t) (kIn (wR aR q uR))) 0 0 (kIn (wR aR q uR)) := by
  refine Met.ofW (cc := cX7_rank) (maxL := 9) (ret := (some .int)) (by decide) rfl ?_
  intro p e s m args below meth c s₁ B hml hv
  obtain ⟨hargs, hP, hK, hD⟩ := hv
  have hx := B.exec
  have hb := B.bytes
  have hr := B.returns
  have hts := atoms_spec (ws := wsX7_rank) B.pre
  have hown : s.vm.findClass RX7 = some m.cls := findClass_of_methodNamed B.named
  have hlocks := B.notSynchronized
  have hD := kd_self hD
  generalize kIn (wR aR q uR) = A at hD ⊢
  have hS : va_S A s.heap s.heap [] := va_S.rf
  refine k_entry hargs (Nat.le_of_ble_eq_true rfl) (fun ls hl => ?_)
  have hl : lv_has ls 9 [(0, .ref (aR 0)), (1, .int x1)] := hl
  change W p l e rmX7_rank s m args below meth c s.heap [] 0 0 (MQ below (va_Qi Q (fun u t => kP D q (wR aR q u) t) A) args s 0 0 A) _
  unfold wpX7_rank at hf
  obtain ⟨H, hH⟩ : ∃ H, H = s.heap := ⟨_, rfl⟩
  obtain ⟨locs, hlocs⟩ : ∃ x : List Loc, x = [] := ⟨_, rfl⟩
  rw [← hH] at hP
  have hS : va_S A s.heap H locs := by rw [hH, hlocs]; exact hS
  rw [show W p l e rmX7_rank s m args below meth c s.heap [] 0 0 (MQ below (va_Qi Q (fun u t => kP D q (wR aR q u) t) A) args s 0 0 A) (F0 m 0 ls []) = W p l e rmX7_rank s m args below meth c H locs 0 0 (MQ below (va_Qi Q (fun u t => kP D q (wR aR q u) t) A) args s 0 0 A) (F0 m 0 ls []) by rw [hH, hlocs]]
  clear hH hlocs
  have hf := hf
    (fun (y3 : Int32) (y4 : Int32) (y5 : Int32) (tR : RSt) => ∀ (H : Heap) (locs : List Loc) (ls : Array Slot), va_P D vwCl (wR aR q tR) H → va_D A (wR aR q tR) → va_S A s.heap H locs → lv_has ls 9 [(0, .ref (aR 0)), (1, .int x1), (3, .int y3), (4, .int y4), (5, .int y5)] → W p l e rmX7_rank s m args below meth c H locs 0 0 (MQ below (va_Qi Q (fun u t => kP D q (wR aR q u) t) A) args s 0 0 A) (F0 m 53 ls []))
    (fun (y3 : Int32) (y4 : Int32) (y5 : Int32) (y6 : Int32) (y7 : Int32) (tR : RSt) => ∀ (H : Heap) (locs : List Loc) (ls : Array Slot), va_P D vwCl (wR aR q tR) H → va_D A (wR aR q tR) → va_S A s.heap H locs → lv_has ls 9 [(0, .ref (aR 0)), (1, .int x1), (3, .int y3), (4, .int y4), (5, .int y5), (6, .int y6), (7, .int y7)] → W p l e rmX7_rank s m args below meth c H locs 0 0 (MQ below (va_Qi Q (fun u t => kP D q (wR aR q u) t) A) args s 0 0 A) (F0 m 84 ls []))
    (fun (y4 : Int32) (y5 : Int32) (y6 : Int32) (z0 : Int32) (z1 : Int32) (tR : RSt) => ∀ (H : Heap) (locs : List Loc) (ls : Array Slot), va_P D vwCl (wR aR q tR) H → va_D A (wR aR q tR) → va_S A s.heap H locs → lv_has ls 9 [(0, .ref (aR 0)), (1, .int x1), (4, .int y4), (5, .int y5), (6, .int y6)] → W p l e rmX7_rank s m args below meth c H locs 0 0 (MQ below (va_Qi Q (fun u t => kP D q (wR aR q u) t) A) args s 0 0 A) (F0 m 139 ls [.int z0, .int z1]))
    (fun (y4 : Int32) (y5 : Int32) (y6 : Int32) (y7 : Int32) (z0 : Int32) (z1 : Int32) (tR : RSt) => ∀ (H : Heap) (locs : List Loc) (ls : Array Slot), va_P D vwCl (wR aR q tR) H → va_D A (wR aR q tR) → va_S A s.heap H locs → lv_has ls 9 [(0, .ref (aR 0)), (1, .int x1), (4, .int y4), (5, .int y5), (6, .int y6), (7, .int y7)] → W p l e rmX7_rank s m args below meth c H locs 0 0 (MQ below (va_Qi Q (fun u t => kP D q (wR aR q u) t) A) args s 0 0 A) (F0 m 120 ls [.int z0, .int z1]))
    (by
      intro y3 y4 y5 tR hf H locs ls hP hD hS hl
      refine lv_iload hx hb dX7_rank_53 (lv_at hl 4 rfl) ?_
      refine lv_aload_n hx hb dX7_rank_55 rfl (lv_at hl 0 rfl) ?_
      refine va_get (D := D) (ci := 5) (v := .ref (aR 6)) (C := RX7) (T := TX7) (N := 14) hx hb hts inX7_rank_X7 hown hK hP 0 rfl rfl 8 (by decide) (hts (.fieldLink RX7 26 "GrowingTextModel" "sizes" "[I") (List.mem_of_getElem? (i := 1) rfl)) (fun _ h9 => h9) rfl dX7_rank_56 ?_
      refine lv_iload_n hx hb dX7_rank_59 rfl (lv_at hl 1 rfl) ?_
      refine va_iald hx hb hK hP 6 0 (f := (gR_sizes tR)) rfl rfl hf.1 dX7_rank_60 ?_
      have hf := hf.2
      refine lv_icmp_ge (tgt := 157) hx hb dX7_rank_61 (by decide) (fun c7 => ?_) (fun c7 => ?_)
      · have hf := hf.1 (c7)
        refine lv_iload_n hx hb dX7_rank_157 rfl (lv_at hl 2 rfl) ?_
        exact k_iret_w (wf := (fun u => wR aR q u)) (post := Q) (u := tR) (v := y3) hx hb hr hlocks hK hP hD hS hf dX7_rank_158
      · have hf := hf.2 (c7)
        refine lv_aload_n hx hb dX7_rank_64 rfl (lv_at hl 0 rfl) ?_
        refine va_get (D := D) (ci := 5) (v := .ref (aR 7)) (C := RX7) (T := TX7) (N := 14) hx hb hts inX7_rank_X7 hown hK hP 0 rfl rfl 9 (by decide) (hts (.fieldLink RX7 29 "GrowingTextModel" "sheets" "[I") (List.mem_of_getElem? (i := 2) rfl)) (fun _ h9 => h9) rfl dX7_rank_65 ?_
        refine lv_bipush (v := 64) hx hb dX7_rank_68 (by decide) ?_
        refine lv_iload_n hx hb dX7_rank_70 rfl (lv_at hl 1 rfl) ?_
        refine lv_imul hx hb dX7_rank_71 ?_
        refine lv_iload hx hb dX7_rank_72 (lv_at hl 4 rfl) ?_
        refine lv_iadd hx hb dX7_rank_74 ?_
        refine va_iald hx hb hK hP 7 0 (f := (gR_sheets tR)) rfl rfl hf.1 dX7_rank_75 ?_
        have hf := hf.2
        refine lv_bipush (v := 97) hx hb dX7_rank_76 (by decide) ?_
        refine lv_isub hx hb dX7_rank_78 ?_
        refine lv_istore (lv' := [(6, .int (((gR_sheets tR) (((64 * x1) + y5) : Int32).toNatClampNeg) - 97)), (0, .ref (aR 0)), (1, .int x1), (3, .int y3), (4, .int y4), (5, .int y5)]) hx hb dX7_rank_79 hl (by decide) rfl (fun ls hl => ?_)
        refine lv_iconst (v := 0) hx hb dX7_rank_81 (by decide) ?_
        refine lv_istore (lv' := [(7, .int 0), (6, .int (((gR_sheets tR) (((64 * x1) + y5) : Int32).toNatClampNeg) - 97)), (0, .ref (aR 0)), (1, .int x1), (3, .int y3), (4, .int y4), (5, .int y5)]) hx hb dX7_rank_82 hl (by decide) rfl (fun ls hl => ?_)
        exact hf H locs ls hP hD hS (lv_sub hl [2, 3, 4, 5, 6, 1, 0] rfl))
    (by
      intro y3 y4 y5 y6 y7 tR hf H locs ls hP hD hS hl
      refine lv_iload hx hb dX7_rank_84 (lv_at hl 6 rfl) ?_
      refine lv_iload hx hb dX7_rank_86 (lv_at hl 5 rfl) ?_
      refine lv_icmp_ge (tgt := 128) hx hb dX7_rank_88 (by decide) (fun c8 => ?_) (fun c8 => ?_)
      · have hf := hf.1 (c8)
        refine lv_iload_n hx hb dX7_rank_128 rfl (lv_at hl 2 rfl) ?_
        refine lv_iload hx hb dX7_rank_129 (lv_at hl 4 rfl) ?_
        refine lv_if_le (tgt := 138) hx hb dX7_rank_131 (by decide) (fun c9 => ?_) (fun c9 => ?_)
        · have hf := hf.1 (c9)
          refine lv_iconst (v := 0) hx hb dX7_rank_138 (by decide) ?_
          exact hf H locs ls hP hD hS (lv_sub hl [0, 1, 3, 4, 5] rfl)
        · have hf := hf.2 (c9)
          refine lv_iconst (v := 1) hx hb dX7_rank_134 (by decide) ?_
          refine lv_goto (tgt := 139) hx hb dX7_rank_135 (by decide) ?_
          exact hf H locs ls hP hD hS (lv_sub hl [0, 1, 3, 4, 5] rfl)
      · have hf := hf.2 (c8)
        refine lv_aload_n hx hb dX7_rank_91 rfl (lv_at hl 0 rfl) ?_
        refine lv_iload hx hb dX7_rank_92 (lv_at hl 3 rfl) ?_
        refine lv_iload hx hb dX7_rank_94 (lv_at hl 6 rfl) ?_
        refine k_si (k_runV (As := [.int y4, .int y7]) (rest := []) ⟨hx, hb, hml, hown, hts⟩ (c_X7_moveOf l D q aR tR y4 y7 _ hf) (cwV 2 hts gX7_rank_X7_moveOf rfl rfl rfl cdX7_moveOf ⟨Nat.le_of_ble_eq_true rfl, Nat.le_of_ble_eq_true rfl⟩) hK hP hD 0 rfl rfl rfl hl.1 rfl (Nat.le_of_ble_eq_true rfl) dX7_rank_96 ⟨Nat.le_of_ble_eq_true rfl, Nat.le_of_ble_eq_true rfl⟩) (fun r10 hf => ?_)
        refine lv_istore (lv' := [(8, .int r10), (0, .ref (aR 0)), (1, .int x1), (3, .int y3), (4, .int y4), (5, .int y5), (6, .int y6), (7, .int y7)]) hx hb dX7_rank_99 hl (by decide) rfl (fun ls hl => ?_)
        refine lv_iload_n hx hb dX7_rank_101 rfl (lv_at hl 3 rfl) ?_
        refine lv_iload hx hb dX7_rank_102 (lv_at hl 0 rfl) ?_
        refine lv_bipush (v := (-4)) hx hb dX7_rank_104 (by decide) ?_
        refine lv_icmp_ne (tgt := 113) hx hb dX7_rank_106 (by decide) (fun c11 => ?_) (fun c11 => ?_)
        · have hf := hf.2 (c11)
          refine lv_aload_n hx hb dX7_rank_113 rfl (lv_at hl 1 rfl) ?_
          refine va_get (D := D) (ci := 5) (v := .ref (aR 8)) (C := RX7) (T := TX7) (N := 14) hx hb hts inX7_rank_X7 hown hK hP 0 rfl rfl 10 (by decide) (hts (.fieldLink RX7 32 "GrowingTextModel" "paths" "[I") (List.mem_of_getElem? (i := 3) rfl)) (fun _ h9 => h9) rfl dX7_rank_114 ?_
          refine lv_iload hx hb dX7_rank_117 (lv_at hl 0 rfl) ?_
          refine va_iald hx hb hK hP 8 0 (f := (gR_paths tR)) rfl rfl hf.1 dX7_rank_119 ?_
          have hf := hf.2
          exact hf H locs ls hP hD hS (lv_sub hl [1, 2, 4, 5, 6, 7] rfl)
        · have hf := hf.1 (c11)
          refine lv_iconst (v := 0) hx hb dX7_rank_109 (by decide) ?_
          refine lv_goto (tgt := 120) hx hb dX7_rank_110 (by decide) ?_
          exact hf H locs ls hP hD hS (lv_sub hl [1, 2, 4, 5, 6, 7] rfl))
    (by
      intro y4 y5 y6 z0 z1 tR hf H locs ls hP hD hS hl
      refine lv_iadd hx hb dX7_rank_139 ?_
      refine lv_istore_n (lv' := [(3, .int (z1 + z0)), (0, .ref (aR 0)), (1, .int x1), (4, .int y4), (5, .int y5), (6, .int y6)]) hx hb dX7_rank_140 rfl hl (by decide) rfl (fun ls hl => ?_)
      refine lv_aload_n hx hb dX7_rank_141 rfl (lv_at hl 1 rfl) ?_
      refine lv_iload hx hb dX7_rank_142 (lv_at hl 3 rfl) ?_
      refine lv_iload hx hb dX7_rank_144 (lv_at hl 5 rfl) ?_
      refine k_si (k_runV (As := [.int y4, .int y6]) (rest := []) ⟨hx, hb, hml, hown, hts⟩ (c_X7_moveOf l D q aR tR y4 y6 _ hf) (cwV 2 hts gX7_rank_X7_moveOf rfl rfl rfl cdX7_moveOf ⟨Nat.le_of_ble_eq_true rfl, Nat.le_of_ble_eq_true rfl⟩) hK hP hD 0 rfl rfl rfl hl.1 rfl (Nat.le_of_ble_eq_true rfl) dX7_rank_146 ⟨Nat.le_of_ble_eq_true rfl, Nat.le_of_ble_eq_true rfl⟩) (fun r12 hf => ?_)
      refine lv_istore (lv' := [(4, .int r12), (3, .int (z1 + z0)), (0, .ref (aR 0)), (1, .int x1), (5, .int y5), (6, .int y6)]) hx hb dX7_rank_149 hl (by decide) rfl (fun ls hl => ?_)
      refine lv_iinc (v := (y5 + 1)) (lv' := [(5, .int (y5 + 1)), (4, .int r12), (3, .int (z1 + z0)), (0, .ref (aR 0)), (1, .int x1), (6, .int y6)]) hx hb dX7_rank_151 hl (k := 4) rfl rfl (by decide) rfl (fun ls hl => ?_)
      refine lv_goto (tgt := 53) hx hb dX7_rank_154 (by decide) ?_
      exact hf H locs ls hP hD hS (lv_sub hl [3, 4, 2, 1, 0] rfl))
    (by
      intro y4 y5 y6 y7 z0 z1 tR hf H locs ls hP hD hS hl
      refine lv_iadd hx hb dX7_rank_120 ?_
      refine lv_istore_n (lv' := [(3, .int (z1 + z0)), (0, .ref (aR 0)), (1, .int x1), (4, .int y4), (5, .int y5), (6, .int y6), (7, .int y7)]) hx hb dX7_rank_121 rfl hl (by decide) rfl (fun ls hl => ?_)
      refine lv_iinc (v := (y7 + 1)) (lv' := [(7, .int (y7 + 1)), (3, .int (z1 + z0)), (0, .ref (aR 0)), (1, .int x1), (4, .int y4), (5, .int y5), (6, .int y6)]) hx hb dX7_rank_122 hl (k := 6) rfl rfl (by decide) rfl (fun ls hl => ?_)
      refine lv_goto (tgt := 84) hx hb dX7_rank_125 (by decide) ?_
      exact hf H locs ls hP hD hS (lv_sub hl [2, 3, 1, 4, 5, 6, 0] rfl))
  refine lv_aload_n hx hb dX7_rank_0 rfl (lv_at hl 0 rfl) ?_
  refine lv_iload_n hx hb dX7_rank_1 rfl (lv_at hl 1 rfl) ?_
  refine k_si (k_runV (As := [.int x1]) (rest := []) ⟨hx, hb, hml, hown, hts⟩ (c_X7_need l D q aR uR x1 _ hf) (cwV 1 hts gX7_rank_X7_need rfl rfl rfl cdX7_need ⟨Nat.le_of_ble_eq_true rfl, Nat.le_of_ble_eq_true rfl⟩) hK hP hD 0 rfl rfl rfl hl.1 rfl (Nat.le_of_ble_eq_true rfl) dX7_rank_2 ⟨Nat.le_of_ble_eq_true rfl, Nat.le_of_ble_eq_true rfl⟩) (fun r1 hf => ?_)
  refine lv_istore_n (lv' := [(2, .int r1), (0, .ref (aR 0)), (1, .int x1)]) hx hb dX7_rank_5 rfl hl (by decide) rfl (fun ls hl => ?_)
  refine lv_iload_n hx hb dX7_rank_6 rfl (lv_at hl 0 rfl) ?_
  refine lv_if_ge (tgt := 12) hx hb dX7_rank_7 (by decide) (fun c2 => ?_) (fun c2 => ?_)
  · have hf := hf.1 (c2)
    refine lv_aload_n hx hb dX7_rank_12 rfl (lv_at hl 1 rfl) ?_
    refine va_get (D := D) (ci := 5) (v := .ref (aR 6)) (C := RX7) (T := TX7) (N := 14) hx hb hts inX7_rank_X7 hown hK hP 0 rfl rfl 8 (by decide) (hts (.fieldLink RX7 26 "GrowingTextModel" "sizes" "[I") (List.mem_of_getElem? (i := 1) rfl)) (fun _ h9 => h9) rfl dX7_rank_13 ?_
    refine lv_iload_n hx hb dX7_rank_16 rfl (lv_at hl 2 rfl) ?_
    refine va_iald hx hb hK hP 6 0 (f := (gR_sizes uR)) rfl rfl hf.1 dX7_rank_17 ?_
    have hf := hf.2
    refine lv_if_eq (tgt := 38) hx hb dX7_rank_18 (by decide) (fun c3 => ?_) (fun c3 => ?_)
    · have hf := hf.1 (c3)
      refine lv_bipush (v := (-4)) hx hb dX7_rank_38 (by decide) ?_
      exact k_iret_w (wf := (fun u => wR aR q u)) (post := Q) (u := uR) (v := (-4)) hx hb hr hlocks hK hP hD hS hf dX7_rank_40
    · have hf := hf.2 (c3)
      refine lv_aload_n hx hb dX7_rank_21 rfl (lv_at hl 1 rfl) ?_
      refine lv_iload_n hx hb dX7_rank_22 rfl (lv_at hl 2 rfl) ?_
      refine lv_iconst (v := 0) hx hb dX7_rank_23 (by decide) ?_
      refine lv_aload_n hx hb dX7_rank_24 rfl (lv_at hl 1 rfl) ?_
      refine va_get (D := D) (ci := 5) (v := .ref (aR 6)) (C := RX7) (T := TX7) (N := 14) hx hb hts inX7_rank_X7 hown hK hP 0 rfl rfl 8 (by decide) (hts (.fieldLink RX7 26 "GrowingTextModel" "sizes" "[I") (List.mem_of_getElem? (i := 1) rfl)) (fun _ h9 => h9) rfl dX7_rank_25 ?_
      refine lv_iload_n hx hb dX7_rank_28 rfl (lv_at hl 2 rfl) ?_
      refine va_iald hx hb hK hP 6 0 (f := (gR_sizes uR)) rfl rfl hf.1 dX7_rank_29 ?_
      have hf := hf.2
      refine k_sl (k_runV (As := [.int x1, .int 0, .int ((gR_sizes uR) (x1 : Int32).toNatClampNeg)]) (rest := []) ⟨hx, hb, hml, hown, hts⟩ (c_X7_endsIn l D q aR uR x1 0 ((gR_sizes uR) (x1 : Int32).toNatClampNeg) _ hf) (cwV 3 hts gX7_rank_X7_endsIn rfl rfl rfl cdX7_endsIn ⟨Nat.le_of_ble_eq_true rfl, Nat.le_of_ble_eq_true rfl⟩) hK hP hD 0 rfl rfl rfl hl.1 rfl (Nat.le_of_ble_eq_true rfl) dX7_rank_30 ⟨Nat.le_of_ble_eq_true rfl, Nat.le_of_ble_eq_true rfl⟩) (fun r4 hf => ?_)
      refine lv_lconst (v := 0) hx hb dX7_rank_33 (by decide) ?_
      refine W.lcmp hx hb dX7_rank_34 ?_
      refine lv_if_ne (tgt := 41) hx hb dX7_rank_35 (by decide) (fun c5 => ?_) (fun c5 => ?_)
      · have hf := hf.2 ((fun h => c5 ((k_cmp_eq r4 0).mpr h)))
        refine lv_aload_n hx hb dX7_rank_41 rfl (lv_at hl 1 rfl) ?_
        refine k_wv (wf := fun u => wR aR q u) (u0 := uR) (k_runV (As := []) (rest := []) ⟨hx, hb, hml, hown, hts⟩ (c_X7_layPaths l D q aR uR _ hf) (cwV 0 hts gX7_rank_X7_layPaths rfl rfl rfl cdX7_layPaths ⟨Nat.le_of_ble_eq_true rfl, Nat.le_of_ble_eq_true rfl⟩) hK hP hD 0 rfl rfl rfl hl.1 rfl (Nat.le_of_ble_eq_true rfl) dX7_rank_42 ⟨Nat.le_of_ble_eq_true rfl, Nat.le_of_ble_eq_true rfl⟩) ([]) ([]) (fun _ => rfl) hP hD hS (fun uR6 H locs hf hP hD hS => ?_)
        have hP : va_P D vwCl (wR aR q uR6) H := hP
        have hD : va_D A (wR aR q uR6) := hD
        refine lv_iconst (v := 0) hx hb dX7_rank_45 (by decide) ?_
        refine lv_istore_n (lv' := [(3, .int 0), (2, .int r1), (0, .ref (aR 0)), (1, .int x1)]) hx hb dX7_rank_46 rfl hl (by decide) rfl (fun ls hl => ?_)
        refine lv_iconst (v := 0) hx hb dX7_rank_47 (by decide) ?_
        refine lv_istore (lv' := [(4, .int 0), (3, .int 0), (2, .int r1), (0, .ref (aR 0)), (1, .int x1)]) hx hb dX7_rank_48 hl (by decide) rfl (fun ls hl => ?_)
        refine lv_iconst (v := 0) hx hb dX7_rank_50 (by decide) ?_
        refine lv_istore (lv' := [(5, .int 0), (4, .int 0), (3, .int 0), (2, .int r1), (0, .ref (aR 0)), (1, .int x1)]) hx hb dX7_rank_51 hl (by decide) rfl (fun ls hl => ?_)
        exact hf H locs ls hP hD hS (lv_sub hl [4, 5, 2, 1, 0] rfl)
      · have hf := hf.1 ((k_cmp_eq r4 0).mp c5)
        refine lv_bipush (v := (-4)) hx hb dX7_rank_38 (by decide) ?_
        exact k_iret_w (wf := (fun u => wR aR q u)) (post := Q) (u := uR) (v := (-4)) hx hb hr hlocks hK hP hD hS hf dX7_rank_40
  · have hf := hf.2 (c2)
    refine lv_iload_n hx hb dX7_rank_10 rfl (lv_at hl 0 rfl) ?_
    exact k_iret_w (wf := (fun u => wR aR q u)) (post := Q) (u := uR) (v := r1) hx hb hr hlocks hK hP hD hS hf dX7_rank_11
