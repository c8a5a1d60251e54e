def wpX6_begin (uM : MSt) (uW : WSt) (sh : Nat → SSt) (im : Nat → ISt) (x1 : Int32) (Q : Int32 → CSt → Prop) : Prop :=
  ((x1 < 1 →
    Q (-1) (uM, uW, sh, im)) ∧
  (¬ (x1 < 1) →
    (x1 ≤ 5 →
      wpX2_startOver uM x1 (fun uM3 =>
        Q (gM_length uM) (uM3, uW, sh, im))) ∧
    (¬ (x1 ≤ 5) →
      Q (-1) (uM, uW, sh, im))))
def rmX6_begin : Room := { frames := 4, cells := 0, slots := 0, locals := 89 }
theorem inX6_begin_X2 : ∀ w ∈ wsX20, w ∈ wsX6_begin := fun w h => List.mem_cons_of_mem _ (List.mem_append_right _ h)
theorem inX6_begin_X6 : ∀ w ∈ wsX60, w ∈ wsX6_begin := fun w h => List.mem_cons_of_mem _ (List.mem_append_left _ (List.mem_append_right _ h))
set_option maxRecDepth 100000 in
set_option maxHeartbeats 4000000 in
theorem c_X6_begin (l : Launch) (D : va_G) (q : Nat → ClassId) (aG aM aW : Nat → Nat) (aS aI : Nat → Nat → Nat) (uM : MSt) (uW : WSt) (sh : Nat → SSt) (im : Nat → ISt) (x1 : Int32) (Q : Int32 → CSt → Prop) (hf : wpX6_begin uM uW sh im x1 Q) : Met l yX6_begin wsX6_begin rmX6_begin (va_Pc [.ref (aG 0), .int x1] (kP D q (wX aG aM aW aS aI q (uM, uW, sh, im)))) (va_Qi Q (fun u t => kP D q (wX aG aM aW aS aI q u) t) (kIn (wX aG aM aW aS aI q (uM, uW, sh, im)))) 0 0 (kIn (wX aG aM aW aS aI q (uM, uW, sh, im))) := by
  refine Met.ofW (cc := cX6_begin) (maxL := 3) (ret := (some .int)) (by decide) rfl ?_
  intro p e s m args below meth c s₁ B hml hv
  obtain ⟨hargs, hP, hK, hD⟩ := hv
  have hx := B.exec
  have hb := B.bytes
  have hr := B.returns
  have hts := atoms_spec (ws := wsX6_begin) B.pre
  have hown : s.vm.findClass RX6 = some m.cls := findClass_of_methodNamed B.named
  have hlocks := B.notSynchronized
  have hD := kd_self hD
  generalize kIn (wX aG aM aW aS aI q (uM, uW, sh, im)) = A at hD ⊢
  have hS : va_S A s.heap s.heap [] := va_S.rf
  refine k_entry hargs (Nat.le_of_ble_eq_true rfl) (fun ls hl => ?_)
  have hl : lv_has ls 3 [(0, .ref (aG 0)), (1, .int x1)] := hl
  change W p l e rmX6_begin s m args below meth c s.heap [] 0 0 (MQ below (va_Qi Q (fun u t => kP D q (wX aG aM aW aS aI q u) t) A) args s 0 0 A) _
  unfold wpX6_begin at hf
  obtain ⟨H, hH⟩ : ∃ H, H = s.heap := ⟨_, rfl⟩
  obtain ⟨locs, hlocs⟩ : ∃ x : List Loc, x = [] := ⟨_, rfl⟩
  rw [← hH] at hP
  have hS : va_S A s.heap H locs := by rw [hH, hlocs]; exact hS
  rw [show W p l e rmX6_begin s m args below meth c s.heap [] 0 0 (MQ below (va_Qi Q (fun u t => kP D q (wX aG aM aW aS aI q u) t) A) args s 0 0 A) (F0 m 0 ls []) = W p l e rmX6_begin s m args below meth c H locs 0 0 (MQ below (va_Qi Q (fun u t => kP D q (wX aG aM aW aS aI q u) t) A) args s 0 0 A) (F0 m 0 ls []) by rw [hH, hlocs]]
  clear hH hlocs
  have hP : va_P D vwCl (wZ aG aM aW aS aI q sh im ++ (wW aW aM q uW ++ wM aM q uM)) H := hP
  have hD : va_D A (wZ aG aM aW aS aI q sh im ++ (wW aW aM q uW ++ wM aM q uM)) := hD
  refine lv_iload_n hx hb dX6_begin_0 rfl (lv_at hl 1 rfl) ?_
  refine lv_iconst (v := 1) hx hb dX6_begin_1 (by decide) ?_
  refine lv_icmp_lt (tgt := 10) hx hb dX6_begin_2 (by decide) (fun c1 => ?_) (fun c1 => ?_)
  · have hf := hf.1 (c1)
    refine lv_iconst (v := (-1)) hx hb dX6_begin_10 (by decide) ?_
    exact k_iret_w (wf := (fun u => wX aG aM aW aS aI q u)) (post := Q) (u := (uM, uW, sh, im)) (v := (-1)) hx hb hr hlocks hK hP hD hS hf dX6_begin_11
  · have hf := hf.2 (c1)
    refine lv_iload_n hx hb dX6_begin_5 rfl (lv_at hl 1 rfl) ?_
    refine lv_iconst (v := 5) hx hb dX6_begin_6 (by decide) ?_
    refine lv_icmp_le (tgt := 12) hx hb dX6_begin_7 (by decide) (fun c2 => ?_) (fun c2 => ?_)
    · have hf := hf.1 (c2)
      refine lv_aload_n hx hb dX6_begin_12 rfl (lv_at hl 0 rfl) ?_
      refine va_get (D := D) (ci := 4) (v := .ref (aM 0)) (C := RX6) (T := TX6) (N := 4) hx hb hts inX6_begin_X6 hown hK hP 0 rfl rfl 0 (by decide) (hts (.fieldLink RX6 12 "GrowingText" "machine" "LGrowingText$Machine;") (List.mem_of_getElem? (i := 1) rfl)) (fun _ h9 => h9) rfl dX6_begin_13 ?_
      refine va_get (D := D) (ci := 1) (v := .int (gM_length uM)) (C := RX2) (T := TX2) (N := 12) hx hb hts inX6_begin_X2 hown hK (kp_r (kp_r hP)) 0 rfl rfl 1 (by decide) (hts (.fieldLink RX6 39 "GrowingText$Machine" "length" "I") (List.mem_of_getElem? (i := 2) rfl)) (fun _ h9 => h9) rfl dX6_begin_16 ?_
      refine lv_istore_n (lv' := [(2, .int (gM_length uM)), (0, .ref (aG 0)), (1, .int x1)]) hx hb dX6_begin_19 rfl hl (by decide) rfl (fun ls hl => ?_)
      refine lv_aload_n hx hb dX6_begin_20 rfl (lv_at hl 1 rfl) ?_
      refine va_get (D := D) (ci := 4) (v := .ref (aM 0)) (C := RX6) (T := TX6) (N := 4) hx hb hts inX6_begin_X6 hown hK hP 0 rfl rfl 0 (by decide) (hts (.fieldLink RX6 12 "GrowingText" "machine" "LGrowingText$Machine;") (List.mem_of_getElem? (i := 1) rfl)) (fun _ h9 => h9) rfl dX6_begin_21 ?_
      refine lv_iload_n hx hb dX6_begin_24 rfl (lv_at hl 2 rfl) ?_
      refine k_wv (wf := fun u => wM aM q u) (u0 := uM) (k_runV (As := [.int x1]) (rest := []) ⟨hx, hb, hml, hown, hts⟩ (c_X2_startOver l D q aM uM x1 _ hf) (cwV 1 hts gX6_begin_X2_startOver rfl rfl rfl cdX2_startOver ⟨Nat.le_of_ble_eq_true rfl, Nat.le_of_ble_eq_true rfl⟩) hK (kp_r (kp_r hP)) (kd_r (kd_r hD)) 0 rfl rfl rfl hl.1 rfl (Nat.le_of_ble_eq_true rfl) dX6_begin_25 ⟨Nat.le_of_ble_eq_true rfl, Nat.le_of_ble_eq_true rfl⟩) (wZ aG aM aW aS aI q sh im ++ wW aW aM q uW) ([]) (fun _ => rfl) (kp_as (a := wZ aG aM aW aS aI q sh im) (b := wW aW aM q uW) (c := (wM aM q uM) ++ ([])) hP) (kd_as (a := wZ aG aM aW aS aI q sh im) (b := wW aW aM q uW) (c := (wM aM q uM) ++ ([])) hD) hS (fun uM3 H locs hf hP hD hS => ?_)
      have hP := kp_sa hP
      have hD := kd_sa hD
      have hP : va_P D vwCl (wZ aG aM aW aS aI q sh im ++ (wW aW aM q uW ++ wM aM q uM3)) H := hP
      have hD : va_D A (wZ aG aM aW aS aI q sh im ++ (wW aW aM q uW ++ wM aM q uM3)) := hD
      refine lv_iload_n hx hb dX6_begin_28 rfl (lv_at hl 0 rfl) ?_
      exact k_iret_w (wf := (fun u => wX aG aM aW aS aI q u)) (post := Q) (u := (uM3, uW, sh, im)) (v := (gM_length uM)) hx hb hr hlocks hK hP hD hS hf dX6_begin_29
    · have hf := hf.2 (c2)
      refine lv_iconst (v := (-1)) hx hb dX6_begin_10 (by decide) ?_
      exact k_iret_w (wf := (fun u => wX aG aM aW aS aI q u)) (post := Q) (u := (uM, uW, sh, im)) (v := (-1)) hx hb hr hlocks hK hP hD hS hf dX6_begin_11
def wpX6_grow (uM : MSt) (uW : WSt) (sh : Nat → SSt) (im : Nat → ISt) (x1 : Int32) (Q : Int32 → CSt → Prop) : Prop :=
  (((fX2_isLetter uM x1) = 0 →
    Q (-1) (uM, uW, sh, im)) ∧
  (¬ ((fX2_isLetter uM x1) = 0) →
    ((fX2_hasRoomFor uM 1) = 0 →
      Q (-3) (uM, uW, sh, im)) ∧
    (¬ ((fX2_hasRoomFor uM 1) = 0) →
      wpX2_append uM x1 (fun uM3 =>
        Q (gM_states uM3) (uM3, uW, sh, im)))))
def rmX6_grow : Room := { frames := 5, cells := 0, slots := 0, locals := 120 }
theorem inX6_grow_X2 : ∀ w ∈ wsX20, w ∈ wsX6_grow := fun w h => List.mem_cons_of_mem _ (List.mem_append_right _ h)
theorem inX6_grow_X6 : ∀ w ∈ wsX60, w ∈ wsX6_grow := fun w h => List.mem_cons_of_mem _ (List.mem_append_left _ (List.mem_append_right _ h))
set_option maxRecDepth 100000 in
set_option maxHeartbeats 4000000 in
theorem c_X6_grow (l : Launch) (D : va_G) (q : Nat → ClassId) (aG aM aW : Nat → Nat) (aS aI : Nat → Nat → Nat) (uM : MSt) (uW : WSt) (sh : Nat → SSt) (im : Nat → ISt) (x1 : Int32) (Q : Int32 → CSt → Prop) (hf : wpX6_grow uM uW sh im x1 Q) : Met l yX6_grow wsX6_grow rmX6_grow (va_Pc [.ref (aG 0), .int x1] (kP D q (wX aG aM aW aS aI q (uM, uW, sh, im)))) (va_Qi Q (fun u t => kP D q (wX aG aM aW aS aI q u) t) (kIn (wX aG aM aW aS aI q (uM, uW, sh, im)))) 0 0 (kIn (wX aG aM aW aS aI q (uM, uW, sh, im))) := by
  refine Met.ofW (cc := cX6_grow) (maxL := 2) (ret := (some .int)) (by decide) rfl ?_
  intro p e s m args below meth c s₁ B hml hv
  obtain ⟨hargs, hP, hK, hD⟩ := hv
  have hx := B.exec
  have hb := B.bytes
  have hr := B.returns
  have hts := atoms_spec (ws := wsX6_grow) B.pre
  have hown : s.vm.findClass RX6 = some m.cls := findClass_of_methodNamed B.named
  have hlocks := B.notSynchronized
  have hD := kd_self hD
  generalize kIn (wX aG aM aW aS aI q (uM, uW, sh, im)) = A at hD ⊢
  have hS : va_S A s.heap s.heap [] := va_S.rf
  refine k_entry hargs (Nat.le_of_ble_eq_true rfl) (fun ls hl => ?_)
  have hl : lv_has ls 2 [(0, .ref (aG 0)), (1, .int x1)] := hl
  change W p l e rmX6_grow s m args below meth c s.heap [] 0 0 (MQ below (va_Qi Q (fun u t => kP D q (wX aG aM aW aS aI q u) t) A) args s 0 0 A) _
  unfold wpX6_grow at hf
  obtain ⟨H, hH⟩ : ∃ H, H = s.heap := ⟨_, rfl⟩
  obtain ⟨locs, hlocs⟩ : ∃ x : List Loc, x = [] := ⟨_, rfl⟩
  rw [← hH] at hP
  have hS : va_S A s.heap H locs := by rw [hH, hlocs]; exact hS
  rw [show W p l e rmX6_grow s m args below meth c s.heap [] 0 0 (MQ below (va_Qi Q (fun u t => kP D q (wX aG aM aW aS aI q u) t) A) args s 0 0 A) (F0 m 0 ls []) = W p l e rmX6_grow s m args below meth c H locs 0 0 (MQ below (va_Qi Q (fun u t => kP D q (wX aG aM aW aS aI q u) t) A) args s 0 0 A) (F0 m 0 ls []) by rw [hH, hlocs]]
  clear hH hlocs
  have hP : va_P D vwCl (wZ aG aM aW aS aI q sh im ++ (wW aW aM q uW ++ wM aM q uM)) H := hP
  have hD : va_D A (wZ aG aM aW aS aI q sh im ++ (wW aW aM q uW ++ wM aM q uM)) := hD
  refine lv_aload_n hx hb dX6_grow_0 rfl (lv_at hl 0 rfl) ?_
  refine va_get (D := D) (ci := 4) (v := .ref (aM 0)) (C := RX6) (T := TX6) (N := 4) hx hb hts inX6_grow_X6 hown hK hP 0 rfl rfl 0 (by decide) (hts (.fieldLink RX6 12 "GrowingText" "machine" "LGrowingText$Machine;") (List.mem_of_getElem? (i := 1) rfl)) (fun _ h9 => h9) rfl dX6_grow_1 ?_
  refine lv_iload_n hx hb dX6_grow_4 rfl (lv_at hl 1 rfl) ?_
  refine k_si (k_runV (As := [.int x1]) (rest := []) ⟨hx, hb, hml, hown, hts⟩ (cF_X2_isLetter l D q aM uM x1) (cwV 1 hts gX6_grow_X2_isLetter rfl rfl rfl cdX2_isLetter ⟨Nat.le_of_ble_eq_true rfl, Nat.le_of_ble_eq_true rfl⟩) hK (kp_r (kp_r hP)) (kd_r (kd_r hD)) 0 rfl rfl rfl hl.1 rfl (Nat.le_of_ble_eq_true rfl) dX6_grow_5 ⟨Nat.le_of_ble_eq_true rfl, Nat.le_of_ble_eq_true rfl⟩) (fun r hr => ?_)
  subst hr
  refine lv_if_ne (tgt := 13) hx hb dX6_grow_8 (by decide) (fun c1 => ?_) (fun c1 => ?_)
  · have hf := hf.2 (c1)
    refine lv_aload_n hx hb dX6_grow_13 rfl (lv_at hl 0 rfl) ?_
    refine va_get (D := D) (ci := 4) (v := .ref (aM 0)) (C := RX6) (T := TX6) (N := 4) hx hb hts inX6_grow_X6 hown hK hP 0 rfl rfl 0 (by decide) (hts (.fieldLink RX6 12 "GrowingText" "machine" "LGrowingText$Machine;") (List.mem_of_getElem? (i := 1) rfl)) (fun _ h9 => h9) rfl dX6_grow_14 ?_
    refine lv_iconst (v := 1) hx hb dX6_grow_17 (by decide) ?_
    refine k_si (k_runV (As := [.int 1]) (rest := []) ⟨hx, hb, hml, hown, hts⟩ (cF_X2_hasRoomFor l D q aM uM 1) (cwV 1 hts gX6_grow_X2_hasRoomFor rfl rfl rfl cdX2_hasRoomFor ⟨Nat.le_of_ble_eq_true rfl, Nat.le_of_ble_eq_true rfl⟩) hK (kp_r (kp_r hP)) (kd_r (kd_r hD)) 0 rfl rfl rfl hl.1 rfl (Nat.le_of_ble_eq_true rfl) dX6_grow_18 ⟨Nat.le_of_ble_eq_true rfl, Nat.le_of_ble_eq_true rfl⟩) (fun r hr => ?_)
    subst hr
    refine lv_if_ne (tgt := 27) hx hb dX6_grow_21 (by decide) (fun c2 => ?_) (fun c2 => ?_)
    · have hf := hf.2 (c2)
      refine lv_aload_n hx hb dX6_grow_27 rfl (lv_at hl 0 rfl) ?_
      refine va_get (D := D) (ci := 4) (v := .ref (aM 0)) (C := RX6) (T := TX6) (N := 4) hx hb hts inX6_grow_X6 hown hK hP 0 rfl rfl 0 (by decide) (hts (.fieldLink RX6 12 "GrowingText" "machine" "LGrowingText$Machine;") (List.mem_of_getElem? (i := 1) rfl)) (fun _ h9 => h9) rfl dX6_grow_28 ?_
      refine lv_iload_n hx hb dX6_grow_31 rfl (lv_at hl 1 rfl) ?_
      refine k_wv (wf := fun u => wM aM q u) (u0 := uM) (k_runV (As := [.int x1]) (rest := []) ⟨hx, hb, hml, hown, hts⟩ (c_X2_append l D q aM uM x1 _ hf) (cwV 1 hts gX6_grow_X2_append rfl rfl rfl cdX2_append ⟨Nat.le_of_ble_eq_true rfl, Nat.le_of_ble_eq_true rfl⟩) hK (kp_r (kp_r hP)) (kd_r (kd_r hD)) 0 rfl rfl rfl hl.1 rfl (Nat.le_of_ble_eq_true rfl) dX6_grow_32 ⟨Nat.le_of_ble_eq_true rfl, Nat.le_of_ble_eq_true rfl⟩) (wZ aG aM aW aS aI q sh im ++ wW aW aM q uW) ([]) (fun _ => rfl) (kp_as (a := wZ aG aM aW aS aI q sh im) (b := wW aW aM q uW) (c := (wM aM q uM) ++ ([])) hP) (kd_as (a := wZ aG aM aW aS aI q sh im) (b := wW aW aM q uW) (c := (wM aM q uM) ++ ([])) hD) hS (fun uM3 H locs hf hP hD hS => ?_)
      have hP := kp_sa hP
      have hD := kd_sa hD
      have hP : va_P D vwCl (wZ aG aM aW aS aI q sh im ++ (wW aW aM q uW ++ wM aM q uM3)) H := hP
      have hD : va_D A (wZ aG aM aW aS aI q sh im ++ (wW aW aM q uW ++ wM aM q uM3)) := hD
      refine lv_aload_n hx hb dX6_grow_35 rfl (lv_at hl 0 rfl) ?_
      refine va_get (D := D) (ci := 4) (v := .ref (aM 0)) (C := RX6) (T := TX6) (N := 4) hx hb hts inX6_grow_X6 hown hK hP 0 rfl rfl 0 (by decide) (hts (.fieldLink RX6 12 "GrowingText" "machine" "LGrowingText$Machine;") (List.mem_of_getElem? (i := 1) rfl)) (fun _ h9 => h9) rfl dX6_grow_36 ?_
      refine va_get (D := D) (ci := 1) (v := .int (gM_states uM3)) (C := RX2) (T := TX2) (N := 12) hx hb hts inX6_grow_X2 hown hK (kp_r (kp_r hP)) 0 rfl rfl 2 (by decide) (hts (.fieldLink RX6 57 "GrowingText$Machine" "states" "I") (List.mem_of_getElem? (i := 2) rfl)) (fun _ h9 => h9) rfl dX6_grow_39 ?_
      exact k_iret_w (wf := (fun u => wX aG aM aW aS aI q u)) (post := Q) (u := (uM3, uW, sh, im)) (v := (gM_states uM3)) hx hb hr hlocks hK hP hD hS hf dX6_grow_42
    · have hf := hf.1 (c2)
      refine lv_bipush (v := (-3)) hx hb dX6_grow_24 (by decide) ?_
      exact k_iret_w (wf := (fun u => wX aG aM aW aS aI q u)) (post := Q) (u := (uM, uW, sh, im)) (v := (-3)) hx hb hr hlocks hK hP hD hS hf dX6_grow_26
  · have hf := hf.1 (c1)
    refine lv_iconst (v := (-1)) hx hb dX6_grow_11 (by decide) ?_
    exact k_iret_w (wf := (fun u => wX aG aM aW aS aI q u)) (post := Q) (u := (uM, uW, sh, im)) (v := (-1)) hx hb hr hlocks hK hP hD hS hf dX6_grow_12
def wpX6_growBy (uM : MSt) (uW : WSt) (sh : Nat → SSt) (im : Nat → ISt) (x1 : Int32) (Q : Int32 → CSt → Prop) : Prop :=
  ∀ (X55 : Nat → Int32 → MSt → Prop),
  (∀ (i : Nat) (y3 : Int32) (tM : MSt),
    (((gS_length (sh i)) ≤ y3 →
      Q (gM_length tM) (tM, uW, sh, im)) ∧
    (¬ ((gS_length (sh i)) ≤ y3) →
      wpX2_append tM (fX4_letterAt (sh i) y3) (fun uM6 =>
        X55 i (y3 + 1) uM6))) → X55 i y3 tM) →
  (((x1 < 0 ∨ 4 ≤ x1) →
    Q (-1) (uM, uW, sh, im)) ∧
  (∀ i : Nat, i < 4 → x1 = nI i →
    ((gS_there (sh i)) = 0 →
      Q (-11) (uM, uW, sh, im)) ∧
    (¬ ((gS_there (sh i)) = 0) →
      wpX2_takesAllOf uM (sh i) (fun r2 =>
        (r2 = 0 →
          Q (-2) (uM, uW, sh, im)) ∧
        (¬ (r2 = 0) →
          ((fX2_hasRoomFor uM (gS_length (sh i))) = 0 →
            Q (-3) (uM, uW, sh, im)) ∧
          (¬ ((fX2_hasRoomFor uM (gS_length (sh i))) = 0) →
            X55 i 0 uM))))))
def rmX6_growBy : Room := { frames := 5, cells := 0, slots := 0, locals := 120 }
theorem inX6_growBy_X2 : ∀ w ∈ wsX20, w ∈ wsX6_growBy := fun w h => List.mem_cons_of_mem _ (List.mem_append_right _ h)
theorem inX6_growBy_X4 : ∀ w ∈ wsX40, w ∈ wsX6_growBy := fun w h => List.mem_cons_of_mem _ (List.mem_append_left _ (List.mem_append_left _ (List.mem_append_right _ h)))
theorem inX6_growBy_X6 : ∀ w ∈ wsX60, w ∈ wsX6_growBy := fun w h => List.mem_cons_of_mem _ (List.mem_append_left _ (List.mem_append_right _ h))
set_option maxRecDepth 100000 in
set_option maxHeartbeats 4000000 in
theorem c_X6_growBy (l : Launch) (D : va_G) (q : Nat → ClassId) (aG aM aW : Nat → Nat) (aS aI : Nat → Nat → Nat) (uM : MSt) (uW : WSt) (sh : Nat → SSt) (im : Nat → ISt) (x1 : Int32) (Q : Int32 → CSt → Prop) (hf : wpX6_growBy uM uW sh im x1 Q) : Met l yX6_growBy wsX6_growBy rmX6_growBy (va_Pc [.ref (aG 0), .int x1] (kP D q (wX aG aM aW aS aI q (uM, uW, sh, im)))) (va_Qi Q (fun u t => kP D q (wX aG aM aW aS aI q u) t) (kIn (wX aG aM aW aS aI q (uM, uW, sh, im)))) 0 0 (kIn (wX aG aM aW aS aI q (uM, uW, sh, im))) := by
  refine Met.ofW (cc := cX6_growBy) (maxL := 4) (ret := (some .int)) (by decide) rfl ?_
  intro p e s m args below meth c s₁ B hml hv
  obtain ⟨hargs, hP, hK, hD⟩ := hv
  have hx := B.exec
  have hb := B.bytes
  have hr := B.returns
  have hts := atoms_spec (ws := wsX6_growBy) B.pre
  have hown : s.vm.findClass RX6 = some m.cls := findClass_of_methodNamed B.named
  have hlocks := B.notSynchronized
  have hD := kd_self hD
  generalize kIn (wX aG aM aW aS aI q (uM, uW, sh, im)) = A at hD ⊢
  have hS : va_S A s.heap s.heap [] := va_S.rf
  refine k_entry hargs (Nat.le_of_ble_eq_true rfl) (fun ls hl => ?_)
  have hl : lv_has ls 4 [(0, .ref (aG 0)), (1, .int x1)] := hl
  change W p l e rmX6_growBy s m args below meth c s.heap [] 0 0 (MQ below (va_Qi Q (fun u t => kP D q (wX aG aM aW aS aI q u) t) A) args s 0 0 A) _
  unfold wpX6_growBy at hf
  obtain ⟨H, hH⟩ : ∃ H, H = s.heap := ⟨_, rfl⟩
  obtain ⟨locs, hlocs⟩ : ∃ x : List Loc, x = [] := ⟨_, rfl⟩
  rw [← hH] at hP
  have hS : va_S A s.heap H locs := by rw [hH, hlocs]; exact hS
  rw [show W p l e rmX6_growBy s m args below meth c s.heap [] 0 0 (MQ below (va_Qi Q (fun u t => kP D q (wX aG aM aW aS aI q u) t) A) args s 0 0 A) (F0 m 0 ls []) = W p l e rmX6_growBy s m args below meth c H locs 0 0 (MQ below (va_Qi Q (fun u t => kP D q (wX aG aM aW aS aI q u) t) A) args s 0 0 A) (F0 m 0 ls []) by rw [hH, hlocs]]
  clear hH hlocs
  have hP : va_P D vwCl (wZ aG aM aW aS aI q sh im ++ (wW aW aM q uW ++ wM aM q uM)) H := hP
  have hD : va_D A (wZ aG aM aW aS aI q sh im ++ (wW aW aM q uW ++ wM aM q uM)) := hD
  have hf := hf
    (fun (i : Nat) (y3 : Int32) (tM : MSt) => i < 4 → ∀ (H : Heap) (locs : List Loc) (ls : Array Slot), va_P D vwCl (wY i aG aM aW aS aI q sh im ++ (wW aW aM q uW ++ (wM aM q tM ++ wS (aS i) q (sh i)))) H → va_D A (wY i aG aM aW aS aI q sh im ++ (wW aW aM q uW ++ (wM aM q tM ++ wS (aS i) q (sh i)))) → va_S A s.heap H locs → lv_has ls 4 [(0, .ref (aG 0)), (2, .ref ((aS i) 0)), (3, .int y3)] → W p l e rmX6_growBy s m args below meth c H locs 0 0 (MQ below (va_Qi Q (fun u t => kP D q (wX aG aM aW aS aI q u) t) A) args s 0 0 A) (F0 m 55 ls []))
    (by
      intro i y3 tM hf hi H locs ls hP hD hS hl
      refine lv_iload_n hx hb dX6_growBy_55 rfl (lv_at hl 2 rfl) ?_
      refine lv_aload_n hx hb dX6_growBy_56 rfl (lv_at hl 1 rfl) ?_
      refine va_get (D := D) (ci := 2) (v := .int (gS_length (sh i))) (C := RX4) (T := TX4) (N := 3) hx hb hts inX6_growBy_X4 hown hK (kp_r (kp_r (kp_r hP))) 0 rfl rfl 2 (by decide) (hts (.fieldLink RX6 72 "GrowingText$Sheet" "length" "I") (List.mem_of_getElem? (i := 3) rfl)) (fun _ h9 => h9) rfl dX6_growBy_57 ?_
      refine lv_icmp_ge (tgt := 81) hx hb dX6_growBy_60 (by decide) (fun c5 => ?_) (fun c5 => ?_)
      · have hf := hf.1 (c5)
        refine lv_aload_n hx hb dX6_growBy_81 rfl (lv_at hl 0 rfl) ?_
        refine va_get (D := D) (ci := 4) (v := .ref (aM 0)) (C := RX6) (T := TX6) (N := 4) hx hb hts inX6_growBy_X6 hown hK hP 0 rfl rfl 0 (by decide) (hts (.fieldLink RX6 12 "GrowingText" "machine" "LGrowingText$Machine;") (List.mem_of_getElem? (i := 2) rfl)) (fun _ h9 => h9) rfl dX6_growBy_82 ?_
        refine va_get (D := D) (ci := 1) (v := .int (gM_length tM)) (C := RX2) (T := TX2) (N := 12) hx hb hts inX6_growBy_X2 hown hK (kp_r (kp_r hP)) 0 rfl rfl 1 (by decide) (hts (.fieldLink RX6 39 "GrowingText$Machine" "length" "I") (List.mem_of_getElem? (i := 4) rfl)) (fun _ h9 => h9) rfl dX6_growBy_85 ?_
        have hP := z_cs0P hi hP
        have hD := z_cs0D hi hD
        exact k_iret_w (wf := (fun u => wX aG aM aW aS aI q u)) (post := Q) (u := (tM, uW, sh, im)) (v := (gM_length tM)) hx hb hr hlocks hK hP hD hS hf dX6_growBy_88
      · have hf := hf.2 (c5)
        refine lv_aload_n hx hb dX6_growBy_63 rfl (lv_at hl 0 rfl) ?_
        refine va_get (D := D) (ci := 4) (v := .ref (aM 0)) (C := RX6) (T := TX6) (N := 4) hx hb hts inX6_growBy_X6 hown hK hP 0 rfl rfl 0 (by decide) (hts (.fieldLink RX6 12 "GrowingText" "machine" "LGrowingText$Machine;") (List.mem_of_getElem? (i := 2) rfl)) (fun _ h9 => h9) rfl dX6_growBy_64 ?_
        refine lv_aload_n hx hb dX6_growBy_67 rfl (lv_at hl 1 rfl) ?_
        refine lv_iload_n hx hb dX6_growBy_68 rfl (lv_at hl 2 rfl) ?_
        refine k_si (k_runV (As := [.int y3]) (rest := [.ref (aM 0)]) ⟨hx, hb, hml, hown, hts⟩ (cF_X4_letterAt l D q (aS i) (sh i) y3) (cwV 1 hts gX6_growBy_X4_letterAt rfl rfl rfl cdX4_letterAt ⟨Nat.le_of_ble_eq_true rfl, Nat.le_of_ble_eq_true rfl⟩) hK (kp_r (kp_r (kp_r hP))) (kd_r (kd_r (kd_r hD))) 0 rfl rfl rfl hl.1 rfl (Nat.le_of_ble_eq_true rfl) dX6_growBy_69 ⟨Nat.le_of_ble_eq_true rfl, Nat.le_of_ble_eq_true rfl⟩) (fun r hr => ?_)
        subst hr
        refine k_wv (wf := fun u => wM aM q u) (u0 := tM) (k_runV (As := [.int (fX4_letterAt (sh i) y3)]) (rest := []) ⟨hx, hb, hml, hown, hts⟩ (c_X2_append l D q aM tM (fX4_letterAt (sh i) y3) _ hf) (cwV 1 hts gX6_growBy_X2_append rfl rfl rfl cdX2_append ⟨Nat.le_of_ble_eq_true rfl, Nat.le_of_ble_eq_true rfl⟩) hK (kp_l (a := wM aM q tM) (b := wS (aS i) q (sh i)) (kp_r (kp_r hP))) (kd_l (a := wM aM q tM) (b := wS (aS i) q (sh i)) (kd_r (kd_r hD))) 0 rfl rfl rfl hl.1 rfl (Nat.le_of_ble_eq_true rfl) dX6_growBy_72 ⟨Nat.le_of_ble_eq_true rfl, Nat.le_of_ble_eq_true rfl⟩) (wY i aG aM aW aS aI q sh im ++ wW aW aM q uW) (wS (aS i) q (sh i)) (fun _ => rfl) (kp_as (a := wY i aG aM aW aS aI q sh im) (b := wW aW aM q uW) (c := (wM aM q tM) ++ (wS (aS i) q (sh i))) hP) (kd_as (a := wY i aG aM aW aS aI q sh im) (b := wW aW aM q uW) (c := (wM aM q tM) ++ (wS (aS i) q (sh i))) hD) hS (fun uM6 H locs hf hP hD hS => ?_)
        have hP := kp_sa hP
        have hD := kd_sa hD
        have hP : va_P D vwCl (wY i aG aM aW aS aI q sh im ++ (wW aW aM q uW ++ (wM aM q uM6 ++ wS (aS i) q (sh i)))) H := hP
        have hD : va_D A (wY i aG aM aW aS aI q sh im ++ (wW aW aM q uW ++ (wM aM q uM6 ++ wS (aS i) q (sh i)))) := hD
        refine lv_iinc (v := (y3 + 1)) (lv' := [(3, .int (y3 + 1)), (0, .ref (aG 0)), (2, .ref ((aS i) 0))]) hx hb dX6_growBy_75 hl (k := 2) rfl rfl (by decide) rfl (fun ls hl => ?_)
        refine lv_goto (tgt := 55) hx hb dX6_growBy_78 (by decide) ?_
        exact hf hi H locs ls hP hD hS (lv_sub hl [1, 2, 0] rfl))
  refine lv_aload_n hx hb dX6_growBy_0 rfl (lv_at hl 0 rfl) ?_
  refine lv_iload_n hx hb dX6_growBy_1 rfl (lv_at hl 1 rfl) ?_
  refine k_sq (k_runV (As := [.int x1]) (rest := []) ⟨hx, hb, hml, hown, hts⟩ (c_X6_pageAt l D q aG aM aW aS aI x1) (cwV 1 hts gX6_growBy_X6_pageAt rfl rfl rfl cdX6_pageAt ⟨Nat.le_of_ble_eq_true rfl, Nat.le_of_ble_eq_true rfl⟩) hK (kp_l (kp_l hP)) (kd_l (kd_l hD)) 0 rfl rfl rfl hl.1 rfl (Nat.le_of_ble_eq_true rfl) dX6_growBy_2 ⟨Nat.le_of_ble_eq_true rfl, Nat.le_of_ble_eq_true rfl⟩) (fun r hr => ?_)
  rcases hr with ⟨hc, rfl⟩ | ⟨i, hi, hs, rfl⟩
  · have hf := hf.1 hc
    change W p l e rmX6_growBy s m args below meth c H locs 0 0 _ (F0 m 5 ls (.null :: []))
    refine lv_astore_nN (lv' := [(2, .null), (0, .ref (aG 0)), (1, .int x1)]) hx hb dX6_growBy_5 rfl hl (by decide) rfl (fun ls hl => ?_)
    refine lv_aload_nN hx hb dX6_growBy_6 rfl (lv_at hl 0 rfl) ?_
    refine lv_ifnonnullN hx hb dX6_growBy_7 ?_
    refine lv_iconst (v := (-1)) hx hb dX6_growBy_10 (by decide) ?_
    exact k_iret_w (wf := (fun u => wX aG aM aW aS aI q u)) (post := Q) (u := (uM, uW, sh, im)) (v := (-1)) hx hb hr hlocks hK hP hD hS hf dX6_growBy_11
  · have hf := hf.2 i hi hs
    have hP := z_osP hi hP
    have hD := z_osD hi hD
    change W p l e rmX6_growBy s m args below meth c H locs 0 0 _ (F0 m 5 ls (.ref ((aS i) 0) :: []))
    refine lv_astore_n (lv' := [(2, .ref ((aS i) 0)), (0, .ref (aG 0)), (1, .int x1)]) hx hb dX6_growBy_5 rfl hl (by decide) rfl (fun ls hl => ?_)
    refine lv_aload_n hx hb dX6_growBy_6 rfl (lv_at hl 0 rfl) ?_
    refine lv_ifnonnull (tgt := 12) hx hb dX6_growBy_7 (by decide) ?_
    refine lv_aload_n hx hb dX6_growBy_12 rfl (lv_at hl 0 rfl) ?_
    refine va_get (D := D) (ci := 2) (v := .int (gS_there (sh i))) (C := RX4) (T := TX4) (N := 3) hx hb hts inX6_growBy_X4 hown hK (kp_r (kp_r (kp_r hP))) 0 rfl rfl 1 (by decide) (hts (.fieldLink RX6 64 "GrowingText$Sheet" "there" "Z") (List.mem_of_getElem? (i := 1) rfl)) (fun _ h9 => h9) rfl dX6_growBy_13 ?_
    refine lv_if_ne (tgt := 22) hx hb dX6_growBy_16 (by decide) (fun c1 => ?_) (fun c1 => ?_)
    · have hf := hf.2 (c1)
      refine lv_aload_n hx hb dX6_growBy_22 rfl (lv_at hl 1 rfl) ?_
      refine va_get (D := D) (ci := 4) (v := .ref (aM 0)) (C := RX6) (T := TX6) (N := 4) hx hb hts inX6_growBy_X6 hown hK hP 0 rfl rfl 0 (by decide) (hts (.fieldLink RX6 12 "GrowingText" "machine" "LGrowingText$Machine;") (List.mem_of_getElem? (i := 2) rfl)) (fun _ h9 => h9) rfl dX6_growBy_23 ?_
      refine lv_aload_n hx hb dX6_growBy_26 rfl (lv_at hl 0 rfl) ?_
      refine k_si (k_runV (As := [.ref ((aS i) 0)]) (rest := []) ⟨hx, hb, hml, hown, hts⟩ (c_X2_takesAllOf l D q aM (aS i) uM (sh i) _ hf) (cwV 1 hts gX6_growBy_X2_takesAllOf rfl rfl rfl cdX2_takesAllOf ⟨Nat.le_of_ble_eq_true rfl, Nat.le_of_ble_eq_true rfl⟩) hK (kp_r (kp_r hP)) (kd_r (kd_r hD)) 0 rfl rfl rfl hl.1 rfl (Nat.le_of_ble_eq_true rfl) dX6_growBy_27 ⟨Nat.le_of_ble_eq_true rfl, Nat.le_of_ble_eq_true rfl⟩) (fun r2 hf => ?_)
      refine lv_if_ne (tgt := 36) hx hb dX6_growBy_30 (by decide) (fun c3 => ?_) (fun c3 => ?_)
      · have hf := hf.2 (c3)
        refine lv_aload_n hx hb dX6_growBy_36 rfl (lv_at hl 1 rfl) ?_
        refine va_get (D := D) (ci := 4) (v := .ref (aM 0)) (C := RX6) (T := TX6) (N := 4) hx hb hts inX6_growBy_X6 hown hK hP 0 rfl rfl 0 (by decide) (hts (.fieldLink RX6 12 "GrowingText" "machine" "LGrowingText$Machine;") (List.mem_of_getElem? (i := 2) rfl)) (fun _ h9 => h9) rfl dX6_growBy_37 ?_
        refine lv_aload_n hx hb dX6_growBy_40 rfl (lv_at hl 0 rfl) ?_
        refine va_get (D := D) (ci := 2) (v := .int (gS_length (sh i))) (C := RX4) (T := TX4) (N := 3) hx hb hts inX6_growBy_X4 hown hK (kp_r (kp_r (kp_r hP))) 0 rfl rfl 2 (by decide) (hts (.fieldLink RX6 72 "GrowingText$Sheet" "length" "I") (List.mem_of_getElem? (i := 3) rfl)) (fun _ h9 => h9) rfl dX6_growBy_41 ?_
        refine k_si (k_runV (As := [.int (gS_length (sh i))]) (rest := []) ⟨hx, hb, hml, hown, hts⟩ (cF_X2_hasRoomFor l D q aM uM (gS_length (sh i))) (cwV 1 hts gX6_growBy_X2_hasRoomFor rfl rfl rfl cdX2_hasRoomFor ⟨Nat.le_of_ble_eq_true rfl, Nat.le_of_ble_eq_true rfl⟩) hK (kp_l (a := wM aM q uM) (b := wS (aS i) q (sh i)) (kp_r (kp_r hP))) (kd_l (a := wM aM q uM) (b := wS (aS i) q (sh i)) (kd_r (kd_r hD))) 0 rfl rfl rfl hl.1 rfl (Nat.le_of_ble_eq_true rfl) dX6_growBy_44 ⟨Nat.le_of_ble_eq_true rfl, Nat.le_of_ble_eq_true rfl⟩) (fun r hr => ?_)
        subst hr
        refine lv_if_ne (tgt := 53) hx hb dX6_growBy_47 (by decide) (fun c4 => ?_) (fun c4 => ?_)
        · have hf := hf.2 (c4)
          refine lv_iconst (v := 0) hx hb dX6_growBy_53 (by decide) ?_
          refine lv_istore_n (lv' := [(3, .int 0), (2, .ref ((aS i) 0)), (0, .ref (aG 0)), (1, .int x1)]) hx hb dX6_growBy_54 rfl hl (by decide) rfl (fun ls hl => ?_)
          exact hf hi H locs ls hP hD hS (lv_sub hl [2, 1, 0] rfl)
        · have hf := hf.1 (c4)
          refine lv_bipush (v := (-3)) hx hb dX6_growBy_50 (by decide) ?_
          have hP := z_cs0P hi hP
          have hD := z_cs0D hi hD
          exact k_iret_w (wf := (fun u => wX aG aM aW aS aI q u)) (post := Q) (u := (uM, uW, sh, im)) (v := (-3)) hx hb hr hlocks hK hP hD hS hf dX6_growBy_52
      · have hf := hf.1 (c3)
        refine lv_bipush (v := (-2)) hx hb dX6_growBy_33 (by decide) ?_
        have hP := z_cs0P hi hP
        have hD := z_cs0D hi hD
        exact k_iret_w (wf := (fun u => wX aG aM aW aS aI q u)) (post := Q) (u := (uM, uW, sh, im)) (v := (-2)) hx hb hr hlocks hK hP hD hS hf dX6_growBy_35
    · have hf := hf.1 (c1)
      refine lv_bipush (v := (-11)) hx hb dX6_growBy_19 (by decide) ?_
      have hP := z_cs0P hi hP
      have hD := z_cs0D hi hD
      exact k_iret_w (wf := (fun u => wX aG aM aW aS aI q u)) (post := Q) (u := (uM, uW, sh, im)) (v := (-11)) hx hb hr hlocks hK hP hD hS hf dX6_growBy_21
def wpX6_cut (uM : MSt) (uW : WSt) (sh : Nat → SSt) (im : Nat → ISt) (x1 : Int32) (Q : Int32 → CSt → Prop) : Prop :=
  ((x1 < 0 →
    Q (-1) (uM, uW, sh, im)) ∧
  (¬ (x1 < 0) →
    (x1 ≤ (gM_length uM) →
      wpX2_shortenTo uM ((gM_length uM) - x1) (fun uM3 =>
        Q (gM_length uM3) (uM3, uW, sh, im))) ∧
    (¬ (x1 ≤ (gM_length uM)) →
      Q (-1) (uM, uW, sh, im))))
def rmX6_cut : Room := { frames := 6, cells := 0, slots := 0, locals := 142 }
theorem inX6_cut_X2 : ∀ w ∈ wsX20, w ∈ wsX6_cut := fun w h => List.mem_cons_of_mem _ (List.mem_append_right _ h)
theorem inX6_cut_X6 : ∀ w ∈ wsX60, w ∈ wsX6_cut := fun w h => List.mem_cons_of_mem _ (List.mem_append_left _ (List.mem_append_right _ h))
set_option maxRecDepth 100000 in
set_option maxHeartbeats 4000000 in
theorem c_X6_cut (l : Launch) (D : va_G) (q : Nat → ClassId) (aG aM aW : Nat → Nat) (aS aI : Nat → Nat → Nat) (uM : MSt) (uW : WSt) (sh : Nat → SSt) (im : Nat → ISt) (x1 : Int32) (Q : Int32 → CSt → Prop) (hf : wpX6_cut uM uW sh im x1 Q) : Met l yX6_cut wsX6_cut rmX6_cut (va_Pc [.ref (aG 0), .int x1] (kP D q (wX aG aM aW aS aI q (uM, uW, sh, im)))) (va_Qi Q (fun u t => kP D q (wX aG aM aW aS aI q u) t) (kIn (wX aG aM aW aS aI q (uM, uW, sh, im)))) 0 0 (kIn (wX aG aM aW aS aI q (uM, uW, sh, im))) := by
  refine Met.ofW (cc := cX6_cut) (maxL := 2) (ret := (some .int)) (by decide) rfl ?_
  intro p e s m args below meth c s₁ B hml hv
  obtain ⟨hargs, hP, hK, hD⟩ := hv
  have hx := B.exec
  have hb := B.bytes
  have hr := B.returns
  have hts := atoms_spec (ws := wsX6_cut) B.pre
  have hown : s.vm.findClass RX6 = some m.cls := findClass_of_methodNamed B.named
  have hlocks := B.notSynchronized
  have hD := kd_self hD
  generalize kIn (wX aG aM aW aS aI q (uM, uW, sh, im)) = A at hD ⊢
  have hS : va_S A s.heap s.heap [] := va_S.rf
  refine k_entry hargs (Nat.le_of_ble_eq_true rfl) (fun ls hl => ?_)
  have hl : lv_has ls 2 [(0, .ref (aG 0)), (1, .int x1)] := hl
  change W p l e rmX6_cut s m args below meth c s.heap [] 0 0 (MQ below (va_Qi Q (fun u t => kP D q (wX aG aM aW aS aI q u) t) A) args s 0 0 A) _
  unfold wpX6_cut at hf
  obtain ⟨H, hH⟩ : ∃ H, H = s.heap := ⟨_, rfl⟩
  obtain ⟨locs, hlocs⟩ : ∃ x : List Loc, x = [] := ⟨_, rfl⟩
  rw [← hH] at hP
  have hS : va_S A s.heap H locs := by rw [hH, hlocs]; exact hS
  rw [show W p l e rmX6_cut s m args below meth c s.heap [] 0 0 (MQ below (va_Qi Q (fun u t => kP D q (wX aG aM aW aS aI q u) t) A) args s 0 0 A) (F0 m 0 ls []) = W p l e rmX6_cut s m args below meth c H locs 0 0 (MQ below (va_Qi Q (fun u t => kP D q (wX aG aM aW aS aI q u) t) A) args s 0 0 A) (F0 m 0 ls []) by rw [hH, hlocs]]
  clear hH hlocs
  have hP : va_P D vwCl (wZ aG aM aW aS aI q sh im ++ (wW aW aM q uW ++ wM aM q uM)) H := hP
  have hD : va_D A (wZ aG aM aW aS aI q sh im ++ (wW aW aM q uW ++ wM aM q uM)) := hD
  refine lv_iload_n hx hb dX6_cut_0 rfl (lv_at hl 1 rfl) ?_
  refine lv_if_lt (tgt := 15) hx hb dX6_cut_1 (by decide) (fun c1 => ?_) (fun c1 => ?_)
  · have hf := hf.1 (c1)
    refine lv_iconst (v := (-1)) hx hb dX6_cut_15 (by decide) ?_
    exact k_iret_w (wf := (fun u => wX aG aM aW aS aI q u)) (post := Q) (u := (uM, uW, sh, im)) (v := (-1)) hx hb hr hlocks hK hP hD hS hf dX6_cut_16
  · have hf := hf.2 (c1)
    refine lv_iload_n hx hb dX6_cut_4 rfl (lv_at hl 1 rfl) ?_
    refine lv_aload_n hx hb dX6_cut_5 rfl (lv_at hl 0 rfl) ?_
    refine va_get (D := D) (ci := 4) (v := .ref (aM 0)) (C := RX6) (T := TX6) (N := 4) hx hb hts inX6_cut_X6 hown hK hP 0 rfl rfl 0 (by decide) (hts (.fieldLink RX6 12 "GrowingText" "machine" "LGrowingText$Machine;") (List.mem_of_getElem? (i := 1) rfl)) (fun _ h9 => h9) rfl dX6_cut_6 ?_
    refine va_get (D := D) (ci := 1) (v := .int (gM_length uM)) (C := RX2) (T := TX2) (N := 12) hx hb hts inX6_cut_X2 hown hK (kp_r (kp_r hP)) 0 rfl rfl 1 (by decide) (hts (.fieldLink RX6 39 "GrowingText$Machine" "length" "I") (List.mem_of_getElem? (i := 2) rfl)) (fun _ h9 => h9) rfl dX6_cut_9 ?_
    refine lv_icmp_le (tgt := 17) hx hb dX6_cut_12 (by decide) (fun c2 => ?_) (fun c2 => ?_)
    · have hf := hf.1 (c2)
      refine lv_aload_n hx hb dX6_cut_17 rfl (lv_at hl 0 rfl) ?_
      refine va_get (D := D) (ci := 4) (v := .ref (aM 0)) (C := RX6) (T := TX6) (N := 4) hx hb hts inX6_cut_X6 hown hK hP 0 rfl rfl 0 (by decide) (hts (.fieldLink RX6 12 "GrowingText" "machine" "LGrowingText$Machine;") (List.mem_of_getElem? (i := 1) rfl)) (fun _ h9 => h9) rfl dX6_cut_18 ?_
      refine lv_aload_n hx hb dX6_cut_21 rfl (lv_at hl 0 rfl) ?_
      refine va_get (D := D) (ci := 4) (v := .ref (aM 0)) (C := RX6) (T := TX6) (N := 4) hx hb hts inX6_cut_X6 hown hK hP 0 rfl rfl 0 (by decide) (hts (.fieldLink RX6 12 "GrowingText" "machine" "LGrowingText$Machine;") (List.mem_of_getElem? (i := 1) rfl)) (fun _ h9 => h9) rfl dX6_cut_22 ?_
      refine va_get (D := D) (ci := 1) (v := .int (gM_length uM)) (C := RX2) (T := TX2) (N := 12) hx hb hts inX6_cut_X2 hown hK (kp_r (kp_r hP)) 0 rfl rfl 1 (by decide) (hts (.fieldLink RX6 39 "GrowingText$Machine" "length" "I") (List.mem_of_getElem? (i := 2) rfl)) (fun _ h9 => h9) rfl dX6_cut_25 ?_
      refine lv_iload_n hx hb dX6_cut_28 rfl (lv_at hl 1 rfl) ?_
      refine lv_isub hx hb dX6_cut_29 ?_
      refine k_wv (wf := fun u => wM aM q u) (u0 := uM) (k_runV (As := [.int ((gM_length uM) - x1)]) (rest := []) ⟨hx, hb, hml, hown, hts⟩ (c_X2_shortenTo l D q aM uM ((gM_length uM) - x1) _ hf) (cwV 1 hts gX6_cut_X2_shortenTo rfl rfl rfl cdX2_shortenTo ⟨Nat.le_of_ble_eq_true rfl, Nat.le_of_ble_eq_true rfl⟩) hK (kp_r (kp_r hP)) (kd_r (kd_r hD)) 0 rfl rfl rfl hl.1 rfl (Nat.le_of_ble_eq_true rfl) dX6_cut_30 ⟨Nat.le_of_ble_eq_true rfl, Nat.le_of_ble_eq_true rfl⟩) (wZ aG aM aW aS aI q sh im ++ wW aW aM q uW) ([]) (fun _ => rfl) (kp_as (a := wZ aG aM aW aS aI q sh im) (b := wW aW aM q uW) (c := (wM aM q uM) ++ ([])) hP) (kd_as (a := wZ aG aM aW aS aI q sh im) (b := wW aW aM q uW) (c := (wM aM q uM) ++ ([])) hD) hS (fun uM3 H locs hf hP hD hS => ?_)
      have hP := kp_sa hP
      have hD := kd_sa hD
      have hP : va_P D vwCl (wZ aG aM aW aS aI q sh im ++ (wW aW aM q uW ++ wM aM q uM3)) H := hP
      have hD : va_D A (wZ aG aM aW aS aI q sh im ++ (wW aW aM q uW ++ wM aM q uM3)) := hD
      refine lv_aload_n hx hb dX6_cut_33 rfl (lv_at hl 0 rfl) ?_
      refine va_get (D := D) (ci := 4) (v := .ref (aM 0)) (C := RX6) (T := TX6) (N := 4) hx hb hts inX6_cut_X6 hown hK hP 0 rfl rfl 0 (by decide) (hts (.fieldLink RX6 12 "GrowingText" "machine" "LGrowingText$Machine;") (List.mem_of_getElem? (i := 1) rfl)) (fun _ h9 => h9) rfl dX6_cut_34 ?_
      refine va_get (D := D) (ci := 1) (v := .int (gM_length uM3)) (C := RX2) (T := TX2) (N := 12) hx hb hts inX6_cut_X2 hown hK (kp_r (kp_r hP)) 0 rfl rfl 1 (by decide) (hts (.fieldLink RX6 39 "GrowingText$Machine" "length" "I") (List.mem_of_getElem? (i := 2) rfl)) (fun _ h9 => h9) rfl dX6_cut_37 ?_
      exact k_iret_w (wf := (fun u => wX aG aM aW aS aI q u)) (post := Q) (u := (uM3, uW, sh, im)) (v := (gM_length uM3)) hx hb hr hlocks hK hP hD hS hf dX6_cut_40
    · have hf := hf.2 (c2)
      refine lv_iconst (v := (-1)) hx hb dX6_cut_15 (by decide) ?_
      exact k_iret_w (wf := (fun u => wX aG aM aW aS aI q u)) (post := Q) (u := (uM, uW, sh, im)) (v := (-1)) hx hb hr hlocks hK hP hD hS hf dX6_cut_16
def wpX6_drift (uM : MSt) (uW : WSt) (sh : Nat → SSt) (im : Nat → ISt) (x1 : Int32) (x2 : Int32) (Q : Int32 → CSt → Prop) : Prop :=
  ∀ (X44 : Int64 → Int32 → MSt → Prop),
  (∀ (y3 : Int64) (y5 : Int32) (tM : MSt),
    ((x1 ≤ y5 →
      Q (gM_length tM) (tM, uW, sh, im)) ∧
    (¬ (x1 ≤ y5) →
      wpX2_letterLeftOver tM ((y3 * 16807) - (y3 * 16807) / 2147483647 * 2147483647) (fun r7 =>
        wpX2_append tM r7 (fun uM8 =>
          X44 ((y3 * 16807) - (y3 * 16807) / 2147483647 * 2147483647) (y5 + 1) uM8)))) → X44 y3 y5 tM) →
  ((x1 < 1 →
    Q (-1) (uM, uW, sh, im)) ∧
  (¬ (x1 < 1) →
    ((60 : Int32) < x1 →
      Q (-1) (uM, uW, sh, im)) ∧
    (¬ ((60 : Int32) < x1) →
      (x2 < 1 →
        Q (-1) (uM, uW, sh, im)) ∧
      (¬ (x2 < 1) →
        (x2 ≤ 999999 →
          ((fX2_hasRoomFor uM x1) = 0 →
            Q (-3) (uM, uW, sh, im)) ∧
          (¬ ((fX2_hasRoomFor uM x1) = 0) →
            X44 ((x2).toInt64) 0 uM)) ∧
        (¬ (x2 ≤ 999999) →
          Q (-1) (uM, uW, sh, im))))))
def rmX6_drift : Room := { frames := 5, cells := 0, slots := 0, locals := 120 }
theorem inX6_drift_X2 : ∀ w ∈ wsX20, w ∈ wsX6_drift := fun w h => List.mem_cons_of_mem _ (List.mem_append_right _ h)
theorem inX6_drift_X6 : ∀ w ∈ wsX60, w ∈ wsX6_drift := fun w h => List.mem_cons_of_mem _ (List.mem_append_left _ (List.mem_append_right _ h))
set_option maxRecDepth 100000 in
set_option maxHeartbeats 4000000 in
theorem c_X6_drift (l : Launch) (D : va_G) (q : Nat → ClassId) (aG aM aW : Nat → Nat) (aS aI : Nat → Nat → Nat) (uM : MSt) (uW : WSt) (sh : Nat → SSt) (im : Nat → ISt) (x1 : Int32) (x2 : Int32) (Q : Int32 → CSt → Prop) (hf : wpX6_drift uM uW sh im x1 x2 Q) : Met l yX6_drift wsX6_drift rmX6_drift (va_Pc [.ref (aG 0), .int x1, .int x2] (kP D q (wX aG aM aW aS aI q (uM, uW, sh, im)))) (va_Qi Q (fun u t => kP D q (wX aG aM aW aS aI q u) t) (kIn (wX aG aM aW aS aI q (uM, uW, sh, im)))) 0 0 (kIn (wX aG aM aW aS aI q (uM, uW, sh, im))) := by
  refine Met.ofW (cc := cX6_drift) (maxL := 6) (ret := (some .int)) (by decide) rfl ?_
  intro p e s m args below meth c s₁ B hml hv
  obtain ⟨hargs, hP, hK, hD⟩ := hv
  have hx := B.exec
  have hb := B.bytes
  have hr := B.returns
  have hts := atoms_spec (ws := wsX6_drift) B.pre
  have hown : s.vm.findClass RX6 = some m.cls := findClass_of_methodNamed B.named
  have hlocks := B.notSynchronized
  have hD := kd_self hD
  generalize kIn (wX aG aM aW aS aI q (uM, uW, sh, im)) = A at hD ⊢
  have hS : va_S A s.heap s.heap [] := va_S.rf
  refine k_entry hargs (Nat.le_of_ble_eq_true rfl) (fun ls hl => ?_)
  have hl : lv_has ls 6 [(0, .ref (aG 0)), (1, .int x1), (2, .int x2)] := hl
  change W p l e rmX6_drift s m args below meth c s.heap [] 0 0 (MQ below (va_Qi Q (fun u t => kP D q (wX aG aM aW aS aI q u) t) A) args s 0 0 A) _
  unfold wpX6_drift at hf
  obtain ⟨H, hH⟩ : ∃ H, H = s.heap := ⟨_, rfl⟩
  obtain ⟨locs, hlocs⟩ : ∃ x : List Loc, x = [] := ⟨_, rfl⟩
  rw [← hH] at hP
  have hS : va_S A s.heap H locs := by rw [hH, hlocs]; exact hS
  rw [show W p l e rmX6_drift s m args below meth c s.heap [] 0 0 (MQ below (va_Qi Q (fun u t => kP D q (wX aG aM aW aS aI q u) t) A) args s 0 0 A) (F0 m 0 ls []) = W p l e rmX6_drift s m args below meth c H locs 0 0 (MQ below (va_Qi Q (fun u t => kP D q (wX aG aM aW aS aI q u) t) A) args s 0 0 A) (F0 m 0 ls []) by rw [hH, hlocs]]
  clear hH hlocs
  have hP : va_P D vwCl (wZ aG aM aW aS aI q sh im ++ (wW aW aM q uW ++ wM aM q uM)) H := hP
  have hD : va_D A (wZ aG aM aW aS aI q sh im ++ (wW aW aM q uW ++ wM aM q uM)) := hD
  have hf := hf
    (fun (y3 : Int64) (y5 : Int32) (tM : MSt) => ∀ (H : Heap) (locs : List Loc) (ls : Array Slot), va_P D vwCl (wZ aG aM aW aS aI q sh im ++ (wW aW aM q uW ++ wM aM q tM)) H → va_D A (wZ aG aM aW aS aI q sh im ++ (wW aW aM q uW ++ wM aM q tM)) → va_S A s.heap H locs → lv_has ls 6 [(0, .ref (aG 0)), (1, .int x1), (3, .long y3), (5, .int y5)] → W p l e rmX6_drift s m args below meth c H locs 0 0 (MQ below (va_Qi Q (fun u t => kP D q (wX aG aM aW aS aI q u) t) A) args s 0 0 A) (F0 m 44 ls []))
    (by
      intro y3 y5 tM hf H locs ls hP hD hS hl
      refine lv_iload hx hb dX6_drift_44 (lv_at hl 3 rfl) ?_
      refine lv_iload_n hx hb dX6_drift_46 rfl (lv_at hl 1 rfl) ?_
      refine lv_icmp_ge (tgt := 81) hx hb dX6_drift_47 (by decide) (fun c6 => ?_) (fun c6 => ?_)
      · have hf := hf.1 (c6)
        refine lv_aload_n hx hb dX6_drift_81 rfl (lv_at hl 0 rfl) ?_
        refine va_get (D := D) (ci := 4) (v := .ref (aM 0)) (C := RX6) (T := TX6) (N := 4) hx hb hts inX6_drift_X6 hown hK hP 0 rfl rfl 0 (by decide) (hts (.fieldLink RX6 12 "GrowingText" "machine" "LGrowingText$Machine;") (List.mem_of_getElem? (i := 2) rfl)) (fun _ h9 => h9) rfl dX6_drift_82 ?_
        refine va_get (D := D) (ci := 1) (v := .int (gM_length tM)) (C := RX2) (T := TX2) (N := 12) hx hb hts inX6_drift_X2 hown hK (kp_r (kp_r hP)) 0 rfl rfl 1 (by decide) (hts (.fieldLink RX6 39 "GrowingText$Machine" "length" "I") (List.mem_of_getElem? (i := 5) rfl)) (fun _ h9 => h9) rfl dX6_drift_85 ?_
        exact k_iret_w (wf := (fun u => wX aG aM aW aS aI q u)) (post := Q) (u := (tM, uW, sh, im)) (v := (gM_length tM)) hx hb hr hlocks hK hP hD hS hf dX6_drift_88
      · have hf := hf.2 (c6)
        refine lv_lload_n hx hb dX6_drift_50 rfl (lv_at hl 2 rfl) ?_
        refine lv_ldc2 (v := 16807) hx hb hown (hts (.constantLong RX6 81 (16807)) (List.mem_of_getElem? (i := 3) rfl)) dX6_drift_51 ?_
        refine lv_lmul hx hb dX6_drift_54 ?_
        refine lv_ldc2 (v := 2147483647) hx hb hown (hts (.constantLong RX6 83 (2147483647)) (List.mem_of_getElem? (i := 4) rfl)) dX6_drift_55 ?_
        refine lv_lrem hx hb dX6_drift_58 (by decide) ?_
        refine lv_lstore_n (lv' := [(3, .long ((y3 * 16807) - (y3 * 16807) / 2147483647 * 2147483647)), (0, .ref (aG 0)), (1, .int x1), (5, .int y5)]) hx hb dX6_drift_59 rfl hl (by decide) rfl (fun ls hl => ?_)
        refine lv_aload_n hx hb dX6_drift_60 rfl (lv_at hl 1 rfl) ?_
        refine va_get (D := D) (ci := 4) (v := .ref (aM 0)) (C := RX6) (T := TX6) (N := 4) hx hb hts inX6_drift_X6 hown hK hP 0 rfl rfl 0 (by decide) (hts (.fieldLink RX6 12 "GrowingText" "machine" "LGrowingText$Machine;") (List.mem_of_getElem? (i := 2) rfl)) (fun _ h9 => h9) rfl dX6_drift_61 ?_
        refine lv_aload_n hx hb dX6_drift_64 rfl (lv_at hl 1 rfl) ?_
        refine va_get (D := D) (ci := 4) (v := .ref (aM 0)) (C := RX6) (T := TX6) (N := 4) hx hb hts inX6_drift_X6 hown hK hP 0 rfl rfl 0 (by decide) (hts (.fieldLink RX6 12 "GrowingText" "machine" "LGrowingText$Machine;") (List.mem_of_getElem? (i := 2) rfl)) (fun _ h9 => h9) rfl dX6_drift_65 ?_
        refine lv_lload_n hx hb dX6_drift_68 rfl (lv_at hl 0 rfl) ?_
        refine k_si (k_runV (As := [.long ((y3 * 16807) - (y3 * 16807) / 2147483647 * 2147483647)]) (rest := [.ref (aM 0)]) ⟨hx, hb, hml, hown, hts⟩ (c_X2_letterLeftOver l D q aM tM ((y3 * 16807) - (y3 * 16807) / 2147483647 * 2147483647) _ hf) (cwV 1 hts gX6_drift_X2_letterLeftOver rfl rfl rfl cdX2_letterLeftOver ⟨Nat.le_of_ble_eq_true rfl, Nat.le_of_ble_eq_true rfl⟩) hK (kp_r (kp_r hP)) (kd_r (kd_r hD)) 0 rfl rfl rfl hl.1 rfl (Nat.le_of_ble_eq_true rfl) dX6_drift_69 ⟨Nat.le_of_ble_eq_true rfl, Nat.le_of_ble_eq_true rfl⟩) (fun r7 hf => ?_)
        refine k_wv (wf := fun u => wM aM q u) (u0 := tM) (k_runV (As := [.int r7]) (rest := []) ⟨hx, hb, hml, hown, hts⟩ (c_X2_append l D q aM tM r7 _ hf) (cwV 1 hts gX6_drift_X2_append rfl rfl rfl cdX2_append ⟨Nat.le_of_ble_eq_true rfl, Nat.le_of_ble_eq_true rfl⟩) hK (kp_r (kp_r hP)) (kd_r (kd_r hD)) 0 rfl rfl rfl hl.1 rfl (Nat.le_of_ble_eq_true rfl) dX6_drift_72 ⟨Nat.le_of_ble_eq_true rfl, Nat.le_of_ble_eq_true rfl⟩) (wZ aG aM aW aS aI q sh im ++ wW aW aM q uW) ([]) (fun _ => rfl) (kp_as (a := wZ aG aM aW aS aI q sh im) (b := wW aW aM q uW) (c := (wM aM q tM) ++ ([])) hP) (kd_as (a := wZ aG aM aW aS aI q sh im) (b := wW aW aM q uW) (c := (wM aM q tM) ++ ([])) hD) hS (fun uM8 H locs hf hP hD hS => ?_)
        have hP := kp_sa hP
        have hD := kd_sa hD
        have hP : va_P D vwCl (wZ aG aM aW aS aI q sh im ++ (wW aW aM q uW ++ wM aM q uM8)) H := hP
        have hD : va_D A (wZ aG aM aW aS aI q sh im ++ (wW aW aM q uW ++ wM aM q uM8)) := hD
        refine lv_iinc (v := (y5 + 1)) (lv' := [(5, .int (y5 + 1)), (3, .long ((y3 * 16807) - (y3 * 16807) / 2147483647 * 2147483647)), (0, .ref (aG 0)), (1, .int x1)]) hx hb dX6_drift_75 hl (k := 3) rfl rfl (by decide) rfl (fun ls hl => ?_)
        refine lv_goto (tgt := 44) hx hb dX6_drift_78 (by decide) ?_
        exact hf H locs ls hP hD hS (lv_sub hl [2, 3, 1, 0] rfl))
  refine lv_iload_n hx hb dX6_drift_0 rfl (lv_at hl 1 rfl) ?_
  refine lv_iconst (v := 1) hx hb dX6_drift_1 (by decide) ?_
  refine lv_icmp_lt (tgt := 22) hx hb dX6_drift_2 (by decide) (fun c1 => ?_) (fun c1 => ?_)
  · have hf := hf.1 (c1)
    refine lv_iconst (v := (-1)) hx hb dX6_drift_22 (by decide) ?_
    exact k_iret_w (wf := (fun u => wX aG aM aW aS aI q u)) (post := Q) (u := (uM, uW, sh, im)) (v := (-1)) hx hb hr hlocks hK hP hD hS hf dX6_drift_23
  · have hf := hf.2 (c1)
    refine lv_iload_n hx hb dX6_drift_5 rfl (lv_at hl 1 rfl) ?_
    refine lv_bipush (v := 60) hx hb dX6_drift_6 (by decide) ?_
    refine lv_icmp_gt (tgt := 22) hx hb dX6_drift_8 (by decide) (fun c2 => ?_) (fun c2 => ?_)
    · have hf := hf.1 (c2)
      refine lv_iconst (v := (-1)) hx hb dX6_drift_22 (by decide) ?_
      exact k_iret_w (wf := (fun u => wX aG aM aW aS aI q u)) (post := Q) (u := (uM, uW, sh, im)) (v := (-1)) hx hb hr hlocks hK hP hD hS hf dX6_drift_23
    · have hf := hf.2 (c2)
      refine lv_iload_n hx hb dX6_drift_11 rfl (lv_at hl 2 rfl) ?_
      refine lv_iconst (v := 1) hx hb dX6_drift_12 (by decide) ?_
      refine lv_icmp_lt (tgt := 22) hx hb dX6_drift_13 (by decide) (fun c3 => ?_) (fun c3 => ?_)
      · have hf := hf.1 (c3)
        refine lv_iconst (v := (-1)) hx hb dX6_drift_22 (by decide) ?_
        exact k_iret_w (wf := (fun u => wX aG aM aW aS aI q u)) (post := Q) (u := (uM, uW, sh, im)) (v := (-1)) hx hb hr hlocks hK hP hD hS hf dX6_drift_23
      · have hf := hf.2 (c3)
        refine lv_iload_n hx hb dX6_drift_16 rfl (lv_at hl 2 rfl) ?_
        refine lv_ldc (v := 999999) hx hb hown (hts (.constant RX6 80 (999999)) (List.mem_of_getElem? (i := 1) rfl)) dX6_drift_17 ?_
        refine lv_icmp_le (tgt := 24) hx hb dX6_drift_19 (by decide) (fun c4 => ?_) (fun c4 => ?_)
        · have hf := hf.1 (c4)
          refine lv_aload_n hx hb dX6_drift_24 rfl (lv_at hl 0 rfl) ?_
          refine va_get (D := D) (ci := 4) (v := .ref (aM 0)) (C := RX6) (T := TX6) (N := 4) hx hb hts inX6_drift_X6 hown hK hP 0 rfl rfl 0 (by decide) (hts (.fieldLink RX6 12 "GrowingText" "machine" "LGrowingText$Machine;") (List.mem_of_getElem? (i := 2) rfl)) (fun _ h9 => h9) rfl dX6_drift_25 ?_
          refine lv_iload_n hx hb dX6_drift_28 rfl (lv_at hl 1 rfl) ?_
          refine k_si (k_runV (As := [.int x1]) (rest := []) ⟨hx, hb, hml, hown, hts⟩ (cF_X2_hasRoomFor l D q aM uM x1) (cwV 1 hts gX6_drift_X2_hasRoomFor rfl rfl rfl cdX2_hasRoomFor ⟨Nat.le_of_ble_eq_true rfl, Nat.le_of_ble_eq_true rfl⟩) hK (kp_r (kp_r hP)) (kd_r (kd_r hD)) 0 rfl rfl rfl hl.1 rfl (Nat.le_of_ble_eq_true rfl) dX6_drift_29 ⟨Nat.le_of_ble_eq_true rfl, Nat.le_of_ble_eq_true rfl⟩) (fun r hr => ?_)
          subst hr
          refine lv_if_ne (tgt := 38) hx hb dX6_drift_32 (by decide) (fun c5 => ?_) (fun c5 => ?_)
          · have hf := hf.2 (c5)
            refine lv_iload_n hx hb dX6_drift_38 rfl (lv_at hl 2 rfl) ?_
            refine lv_i2l (v := (x2).toInt64) hx hb dX6_drift_39 rfl ?_
            refine lv_lstore_n (lv' := [(3, .long ((x2).toInt64)), (0, .ref (aG 0)), (1, .int x1), (2, .int x2)]) hx hb dX6_drift_40 rfl hl (by decide) rfl (fun ls hl => ?_)
            refine lv_iconst (v := 0) hx hb dX6_drift_41 (by decide) ?_
            refine lv_istore (lv' := [(5, .int 0), (3, .long ((x2).toInt64)), (0, .ref (aG 0)), (1, .int x1), (2, .int x2)]) hx hb dX6_drift_42 hl (by decide) rfl (fun ls hl => ?_)
            exact hf H locs ls hP hD hS (lv_sub hl [2, 3, 1, 0] rfl)
          · have hf := hf.1 (c5)
            refine lv_bipush (v := (-3)) hx hb dX6_drift_35 (by decide) ?_
            exact k_iret_w (wf := (fun u => wX aG aM aW aS aI q u)) (post := Q) (u := (uM, uW, sh, im)) (v := (-3)) hx hb hr hlocks hK hP hD hS hf dX6_drift_37
        · have hf := hf.2 (c4)
          refine lv_iconst (v := (-1)) hx hb dX6_drift_22 (by decide) ?_
          exact k_iret_w (wf := (fun u => wX aG aM aW aS aI q u)) (post := Q) (u := (uM, uW, sh, im)) (v := (-1)) hx hb hr hlocks hK hP hD hS hf dX6_drift_23
def wpX6_letter (uM : MSt) (uW : WSt) (sh : Nat → SSt) (im : Nat → ISt) (x1 : Int32) (Q : Int32 → CSt → Prop) : Prop :=
  ((x1 < 0 →
    Q (-12) (uM, uW, sh, im)) ∧
  (¬ (x1 < 0) →
    ((gM_length uM) ≤ x1 →
      Q (-12) (uM, uW, sh, im)) ∧
    (¬ ((gM_length uM) ≤ x1) →
      Q (fX2_letterAt uM x1) (uM, uW, sh, im))))
def rmX6_letter : Room := { frames := 2, cells := 0, slots := 0, locals := 42 }
theorem inX6_letter_X2 : ∀ w ∈ wsX20, w ∈ wsX6_letter := fun w h => List.mem_cons_of_mem _ (List.mem_append_right _ h)
theorem inX6_letter_X6 : ∀ w ∈ wsX60, w ∈ wsX6_letter := fun w h => List.mem_cons_of_mem _ (List.mem_append_left _ (List.mem_append_right _ h))
set_option maxRecDepth 100000 in
set_option maxHeartbeats 4000000 in
theorem c_X6_letter (l : Launch) (D : va_G) (q : Nat → ClassId) (aG aM aW : Nat → Nat) (aS aI : Nat → Nat → Nat) (uM : MSt) (uW : WSt) (sh : Nat → SSt) (im : Nat → ISt) (x1 : Int32) (Q : Int32 → CSt → Prop) (hf : wpX6_letter uM uW sh im x1 Q) : Met l yX6_letter wsX6_letter rmX6_letter (va_Pc [.ref (aG 0), .int x1] (kP D q (wX aG aM aW aS aI q (uM, uW, sh, im)))) (va_Qi Q (fun u t => kP D q (wX aG aM aW aS aI q u) t) (kIn (wX aG aM aW aS aI q (uM, uW, sh, im)))) 0 0 (kIn (wX aG aM aW aS aI q (uM, uW, sh, im))) := by
  refine Met.ofW (cc := cX6_letter) (maxL := 2) (ret := (some .int)) (by decide) rfl ?_
  intro p e s m args below meth c s₁ B hml hv
  obtain ⟨hargs, hP, hK, hD⟩ := hv
  have hx := B.exec
  have hb := B.bytes
  have hr := B.returns
  have hts := atoms_spec (ws := wsX6_letter) B.pre
  have hown : s.vm.findClass RX6 = some m.cls := findClass_of_methodNamed B.named
  have hlocks := B.notSynchronized
  have hD := kd_self hD
  generalize kIn (wX aG aM aW aS aI q (uM, uW, sh, im)) = A at hD ⊢
  have hS : va_S A s.heap s.heap [] := va_S.rf
  refine k_entry hargs (Nat.le_of_ble_eq_true rfl) (fun ls hl => ?_)
  have hl : lv_has ls 2 [(0, .ref (aG 0)), (1, .int x1)] := hl
  change W p l e rmX6_letter s m args below meth c s.heap [] 0 0 (MQ below (va_Qi Q (fun u t => kP D q (wX aG aM aW aS aI q u) t) A) args s 0 0 A) _
  unfold wpX6_letter at hf
  obtain ⟨H, hH⟩ : ∃ H, H = s.heap := ⟨_, rfl⟩
  obtain ⟨locs, hlocs⟩ : ∃ x : List Loc, x = [] := ⟨_, rfl⟩
  rw [← hH] at hP
  have hS : va_S A s.heap H locs := by rw [hH, hlocs]; exact hS
  rw [show W p l e rmX6_letter s m args below meth c s.heap [] 0 0 (MQ below (va_Qi Q (fun u t => kP D q (wX aG aM aW aS aI q u) t) A) args s 0 0 A) (F0 m 0 ls []) = W p l e rmX6_letter s m args below meth c H locs 0 0 (MQ below (va_Qi Q (fun u t => kP D q (wX aG aM aW aS aI q u) t) A) args s 0 0 A) (F0 m 0 ls []) by rw [hH, hlocs]]
  clear hH hlocs
  have hP : va_P D vwCl (wZ aG aM aW aS aI q sh im ++ (wW aW aM q uW ++ wM aM q uM)) H := hP
  have hD : va_D A (wZ aG aM aW aS aI q sh im ++ (wW aW aM q uW ++ wM aM q uM)) := hD
  refine lv_iload_n hx hb dX6_letter_0 rfl (lv_at hl 1 rfl) ?_
  refine lv_if_lt (tgt := 26) hx hb dX6_letter_1 (by decide) (fun c1 => ?_) (fun c1 => ?_)
  · have hf := hf.1 (c1)
    refine lv_bipush (v := (-12)) hx hb dX6_letter_26 (by decide) ?_
    exact k_iret_w (wf := (fun u => wX aG aM aW aS aI q u)) (post := Q) (u := (uM, uW, sh, im)) (v := (-12)) hx hb hr hlocks hK hP hD hS hf dX6_letter_28
  · have hf := hf.2 (c1)
    refine lv_iload_n hx hb dX6_letter_4 rfl (lv_at hl 1 rfl) ?_
    refine lv_aload_n hx hb dX6_letter_5 rfl (lv_at hl 0 rfl) ?_
    refine va_get (D := D) (ci := 4) (v := .ref (aM 0)) (C := RX6) (T := TX6) (N := 4) hx hb hts inX6_letter_X6 hown hK hP 0 rfl rfl 0 (by decide) (hts (.fieldLink RX6 12 "GrowingText" "machine" "LGrowingText$Machine;") (List.mem_of_getElem? (i := 1) rfl)) (fun _ h9 => h9) rfl dX6_letter_6 ?_
    refine va_get (D := D) (ci := 1) (v := .int (gM_length uM)) (C := RX2) (T := TX2) (N := 12) hx hb hts inX6_letter_X2 hown hK (kp_r (kp_r hP)) 0 rfl rfl 1 (by decide) (hts (.fieldLink RX6 39 "GrowingText$Machine" "length" "I") (List.mem_of_getElem? (i := 2) rfl)) (fun _ h9 => h9) rfl dX6_letter_9 ?_
    refine lv_icmp_ge (tgt := 26) hx hb dX6_letter_12 (by decide) (fun c2 => ?_) (fun c2 => ?_)
    · have hf := hf.1 (c2)
      refine lv_bipush (v := (-12)) hx hb dX6_letter_26 (by decide) ?_
      exact k_iret_w (wf := (fun u => wX aG aM aW aS aI q u)) (post := Q) (u := (uM, uW, sh, im)) (v := (-12)) hx hb hr hlocks hK hP hD hS hf dX6_letter_28
    · have hf := hf.2 (c2)
      refine lv_aload_n hx hb dX6_letter_15 rfl (lv_at hl 0 rfl) ?_
      refine va_get (D := D) (ci := 4) (v := .ref (aM 0)) (C := RX6) (T := TX6) (N := 4) hx hb hts inX6_letter_X6 hown hK hP 0 rfl rfl 0 (by decide) (hts (.fieldLink RX6 12 "GrowingText" "machine" "LGrowingText$Machine;") (List.mem_of_getElem? (i := 1) rfl)) (fun _ h9 => h9) rfl dX6_letter_16 ?_
      refine lv_iload_n hx hb dX6_letter_19 rfl (lv_at hl 1 rfl) ?_
      refine k_si (k_runV (As := [.int x1]) (rest := []) ⟨hx, hb, hml, hown, hts⟩ (cF_X2_letterAt l D q aM uM x1) (cwV 1 hts gX6_letter_X2_letterAt rfl rfl rfl cdX2_letterAt ⟨Nat.le_of_ble_eq_true rfl, Nat.le_of_ble_eq_true rfl⟩) hK (kp_r (kp_r hP)) (kd_r (kd_r hD)) 0 rfl rfl rfl hl.1 rfl (Nat.le_of_ble_eq_true rfl) dX6_letter_20 ⟨Nat.le_of_ble_eq_true rfl, Nat.le_of_ble_eq_true rfl⟩) (fun r hr => ?_)
      subst hr
      refine lv_goto (tgt := 28) hx hb dX6_letter_23 (by decide) ?_
      exact k_iret_w (wf := (fun u => wX aG aM aW aS aI q u)) (post := Q) (u := (uM, uW, sh, im)) (v := (fX2_letterAt uM x1)) hx hb hr hlocks hK hP hD hS hf dX6_letter_28
def wpX6_count (uM : MSt) (uW : WSt) (sh : Nat → SSt) (im : Nat → ISt) (x1 : Int32) (Q : Int32 → CSt → Prop) : Prop :=
  ((x1 = 0 →
    Q (gM_alphabet uM) (uM, uW, sh, im)) ∧
  (¬ (x1 = 0) →
    (x1 = 1 →
      Q (gM_length uM) (uM, uW, sh, im)) ∧
    (¬ (x1 = 1) →
      (x1 = 2 →
        Q (gM_states uM) (uM, uW, sh, im)) ∧
      (¬ (x1 = 2) →
        (x1 = 3 →
          wpX2_clones uM (fun r5 =>
            Q r5 (uM, uW, sh, im))) ∧
        (¬ (x1 = 3) →
          (x1 = 4 →
            wpX2_movesInAll uM (fun r7 =>
              Q r7 (uM, uW, sh, im))) ∧
          (¬ (x1 = 4) →
            (x1 = 5 →
              wpX5_unlikeUpTo uW uM (gM_length uM) (fun r9 =>
                Q r9 (uM, uW, sh, im))) ∧
            (¬ (x1 = 5) →
              (x1 = 6 →
                ((gM_length uM) ≤ 0 →
                  Q (-4) (uM, uW, sh, im)) ∧
                (¬ ((gM_length uM) ≤ 0) →
                  Q (fX2_againAt uM (gM_length uM)) (uM, uW, sh, im))) ∧
              (¬ (x1 = 6) →
                (x1 = 7 →
                  wpX5_period uW uM (fun r13 =>
                    Q r13 (uM, uW, sh, im))) ∧
                (¬ (x1 = 7) →
                  (x1 = 8 →
                    wpX5_lengthsTogether uW uM (fun r15 =>
                      Q r15 (uM, uW, sh, im))) ∧
                  (¬ (x1 = 8) →
                    (x1 = 9 →
                      Q (cThere sh 4) (uM, uW, sh, im)) ∧
                    (¬ (x1 = 9) →
                      (x1 = 10 →
                        wpX5_parts uW uM (fun r18 =>
                          Q r18 (uM, uW, sh, im))) ∧
                      (¬ (x1 = 10) →
                        Q (-1) (uM, uW, sh, im)))))))))))))
def rmX6_count : Room := { frames := 6, cells := 0, slots := 0, locals := 130 }
theorem inX6_count_X2 : ∀ w ∈ wsX20, w ∈ wsX6_count := fun w h => List.mem_cons_of_mem _ (List.mem_append_left _ (List.mem_append_left _ (List.mem_append_right _ h)))
theorem inX6_count_X6 : ∀ w ∈ wsX60, w ∈ wsX6_count := fun w h => List.mem_cons_of_mem _ (List.mem_append_left _ (List.mem_append_left _ (List.mem_append_left _ (List.mem_append_right _ h))))
set_option maxRecDepth 100000 in
set_option maxHeartbeats 4000000 in
theorem c_X6_count (l : Launch) (D : va_G) (q : Nat → ClassId) (aG aM aW : Nat → Nat) (aS aI : Nat → Nat → Nat) (uM : MSt) (uW : WSt) (sh : Nat → SSt) (im : Nat → ISt) (x1 : Int32) (Q : Int32 → CSt → Prop) (hf : wpX6_count uM uW sh im x1 Q) : Met l yX6_count wsX6_count rmX6_count (va_Pc [.ref (aG 0), .int x1] (kP D q (wX aG aM aW aS aI q (uM, uW, sh, im)))) (va_Qi Q (fun u t => kP D q (wX aG aM aW aS aI q u) t) (kIn (wX aG aM aW aS aI q (uM, uW, sh, im)))) 0 0 (kIn (wX aG aM aW aS aI q (uM, uW, sh, im))) := by
  refine Met.ofW (cc := cX6_count) (maxL := 2) (ret := (some .int)) (by decide) rfl ?_
  intro p e s m args below meth c s₁ B hml hv
  obtain ⟨hargs, hP, hK, hD⟩ := hv
  have hx := B.exec
  have hb := B.bytes
  have hr := B.returns
  have hts := atoms_spec (ws := wsX6_count) B.pre
  have hown : s.vm.findClass RX6 = some m.cls := findClass_of_methodNamed B.named
  have hlocks := B.notSynchronized
  have hD := kd_self hD
  generalize kIn (wX aG aM aW aS aI q (uM, uW, sh, im)) = A at hD ⊢
  have hS : va_S A s.heap s.heap [] := va_S.rf
  refine k_entry hargs (Nat.le_of_ble_eq_true rfl) (fun ls hl => ?_)
  have hl : lv_has ls 2 [(0, .ref (aG 0)), (1, .int x1)] := hl
  change W p l e rmX6_count s m args below meth c s.heap [] 0 0 (MQ below (va_Qi Q (fun u t => kP D q (wX aG aM aW aS aI q u) t) A) args s 0 0 A) _
  unfold wpX6_count at hf
  obtain ⟨H, hH⟩ : ∃ H, H = s.heap := ⟨_, rfl⟩
  obtain ⟨locs, hlocs⟩ : ∃ x : List Loc, x = [] := ⟨_, rfl⟩
  rw [← hH] at hP
  have hS : va_S A s.heap H locs := by rw [hH, hlocs]; exact hS
  rw [show W p l e rmX6_count s m args below meth c s.heap [] 0 0 (MQ below (va_Qi Q (fun u t => kP D q (wX aG aM aW aS aI q u) t) A) args s 0 0 A) (F0 m 0 ls []) = W p l e rmX6_count s m args below meth c H locs 0 0 (MQ below (va_Qi Q (fun u t => kP D q (wX aG aM aW aS aI q u) t) A) args s 0 0 A) (F0 m 0 ls []) by rw [hH, hlocs]]
  clear hH hlocs
  have hP : va_P D vwCl (wZ aG aM aW aS aI q sh im ++ (wW aW aM q uW ++ wM aM q uM)) H := hP
  have hD : va_D A (wZ aG aM aW aS aI q sh im ++ (wW aW aM q uW ++ wM aM q uM)) := hD
  refine lv_iload_n hx hb dX6_count_0 rfl (lv_at hl 1 rfl) ?_
  by_cases c1 : x1 = 0
  · have hf := hf.1 c1
    refine lv_tableIn (tgt := 60) hx hb dX6_count_1 (by rw [c1]; decide) (by rw [c1]; decide) (by rw [c1]; rfl) (by decide) ?_
    refine lv_aload_n hx hb dX6_count_60 rfl (lv_at hl 0 rfl) ?_
    refine va_get (D := D) (ci := 4) (v := .ref (aM 0)) (C := RX6) (T := TX6) (N := 4) hx hb hts inX6_count_X6 hown hK hP 0 rfl rfl 0 (by decide) (hts (.fieldLink RX6 12 "GrowingText" "machine" "LGrowingText$Machine;") (List.mem_of_getElem? (i := 1) rfl)) (fun _ h9 => h9) rfl dX6_count_61 ?_
    refine va_get (D := D) (ci := 1) (v := .int (gM_alphabet uM)) (C := RX2) (T := TX2) (N := 12) hx hb hts inX6_count_X2 hown hK (kp_r (kp_r hP)) 0 rfl rfl 0 (by decide) (hts (.fieldLink RX6 90 "GrowingText$Machine" "alphabet" "I") (List.mem_of_getElem? (i := 2) rfl)) (fun _ h9 => h9) rfl dX6_count_64 ?_
    exact k_iret_w (wf := (fun u => wX aG aM aW aS aI q u)) (post := Q) (u := (uM, uW, sh, im)) (v := (gM_alphabet uM)) hx hb hr hlocks hK hP hD hS hf dX6_count_67
  have hf := hf.2 c1
  by_cases c2 : x1 = 1
  · have hf := hf.1 c2
    refine lv_tableIn (tgt := 68) hx hb dX6_count_1 (by rw [c2]; decide) (by rw [c2]; decide) (by rw [c2]; rfl) (by decide) ?_
    refine lv_aload_n hx hb dX6_count_68 rfl (lv_at hl 0 rfl) ?_
    refine va_get (D := D) (ci := 4) (v := .ref (aM 0)) (C := RX6) (T := TX6) (N := 4) hx hb hts inX6_count_X6 hown hK hP 0 rfl rfl 0 (by decide) (hts (.fieldLink RX6 12 "GrowingText" "machine" "LGrowingText$Machine;") (List.mem_of_getElem? (i := 1) rfl)) (fun _ h9 => h9) rfl dX6_count_69 ?_
    refine va_get (D := D) (ci := 1) (v := .int (gM_length uM)) (C := RX2) (T := TX2) (N := 12) hx hb hts inX6_count_X2 hown hK (kp_r (kp_r hP)) 0 rfl rfl 1 (by decide) (hts (.fieldLink RX6 39 "GrowingText$Machine" "length" "I") (List.mem_of_getElem? (i := 3) rfl)) (fun _ h9 => h9) rfl dX6_count_72 ?_
    exact k_iret_w (wf := (fun u => wX aG aM aW aS aI q u)) (post := Q) (u := (uM, uW, sh, im)) (v := (gM_length uM)) hx hb hr hlocks hK hP hD hS hf dX6_count_75
  have hf := hf.2 c2
  by_cases c3 : x1 = 2
  · have hf := hf.1 c3
    refine lv_tableIn (tgt := 76) hx hb dX6_count_1 (by rw [c3]; decide) (by rw [c3]; decide) (by rw [c3]; rfl) (by decide) ?_
    refine lv_aload_n hx hb dX6_count_76 rfl (lv_at hl 0 rfl) ?_
    refine va_get (D := D) (ci := 4) (v := .ref (aM 0)) (C := RX6) (T := TX6) (N := 4) hx hb hts inX6_count_X6 hown hK hP 0 rfl rfl 0 (by decide) (hts (.fieldLink RX6 12 "GrowingText" "machine" "LGrowingText$Machine;") (List.mem_of_getElem? (i := 1) rfl)) (fun _ h9 => h9) rfl dX6_count_77 ?_
    refine va_get (D := D) (ci := 1) (v := .int (gM_states uM)) (C := RX2) (T := TX2) (N := 12) hx hb hts inX6_count_X2 hown hK (kp_r (kp_r hP)) 0 rfl rfl 2 (by decide) (hts (.fieldLink RX6 57 "GrowingText$Machine" "states" "I") (List.mem_of_getElem? (i := 4) rfl)) (fun _ h9 => h9) rfl dX6_count_80 ?_
    exact k_iret_w (wf := (fun u => wX aG aM aW aS aI q u)) (post := Q) (u := (uM, uW, sh, im)) (v := (gM_states uM)) hx hb hr hlocks hK hP hD hS hf dX6_count_83
  have hf := hf.2 c3
  by_cases c4 : x1 = 3
  · have hf := hf.1 c4
    refine lv_tableIn (tgt := 84) hx hb dX6_count_1 (by rw [c4]; decide) (by rw [c4]; decide) (by rw [c4]; rfl) (by decide) ?_
    refine lv_aload_n hx hb dX6_count_84 rfl (lv_at hl 0 rfl) ?_
    refine va_get (D := D) (ci := 4) (v := .ref (aM 0)) (C := RX6) (T := TX6) (N := 4) hx hb hts inX6_count_X6 hown hK hP 0 rfl rfl 0 (by decide) (hts (.fieldLink RX6 12 "GrowingText" "machine" "LGrowingText$Machine;") (List.mem_of_getElem? (i := 1) rfl)) (fun _ h9 => h9) rfl dX6_count_85 ?_
    refine k_si (k_runV (As := []) (rest := []) ⟨hx, hb, hml, hown, hts⟩ (c_X2_clones l D q aM uM _ hf) (cwV 0 hts gX6_count_X2_clones rfl rfl rfl cdX2_clones ⟨Nat.le_of_ble_eq_true rfl, Nat.le_of_ble_eq_true rfl⟩) hK (kp_r (kp_r hP)) (kd_r (kd_r hD)) 0 rfl rfl rfl hl.1 rfl (Nat.le_of_ble_eq_true rfl) dX6_count_88 ⟨Nat.le_of_ble_eq_true rfl, Nat.le_of_ble_eq_true rfl⟩) (fun r5 hf => ?_)
    exact k_iret_w (wf := (fun u => wX aG aM aW aS aI q u)) (post := Q) (u := (uM, uW, sh, im)) (v := r5) hx hb hr hlocks hK hP hD hS hf dX6_count_91
  have hf := hf.2 c4
  by_cases c6 : x1 = 4
  · have hf := hf.1 c6
    refine lv_tableIn (tgt := 92) hx hb dX6_count_1 (by rw [c6]; decide) (by rw [c6]; decide) (by rw [c6]; rfl) (by decide) ?_
    refine lv_aload_n hx hb dX6_count_92 rfl (lv_at hl 0 rfl) ?_
    refine va_get (D := D) (ci := 4) (v := .ref (aM 0)) (C := RX6) (T := TX6) (N := 4) hx hb hts inX6_count_X6 hown hK hP 0 rfl rfl 0 (by decide) (hts (.fieldLink RX6 12 "GrowingText" "machine" "LGrowingText$Machine;") (List.mem_of_getElem? (i := 1) rfl)) (fun _ h9 => h9) rfl dX6_count_93 ?_
    refine k_si (k_runV (As := []) (rest := []) ⟨hx, hb, hml, hown, hts⟩ (c_X2_movesInAll l D q aM uM _ hf) (cwV 0 hts gX6_count_X2_movesInAll rfl rfl rfl cdX2_movesInAll ⟨Nat.le_of_ble_eq_true rfl, Nat.le_of_ble_eq_true rfl⟩) hK (kp_r (kp_r hP)) (kd_r (kd_r hD)) 0 rfl rfl rfl hl.1 rfl (Nat.le_of_ble_eq_true rfl) dX6_count_96 ⟨Nat.le_of_ble_eq_true rfl, Nat.le_of_ble_eq_true rfl⟩) (fun r7 hf => ?_)
    exact k_iret_w (wf := (fun u => wX aG aM aW aS aI q u)) (post := Q) (u := (uM, uW, sh, im)) (v := r7) hx hb hr hlocks hK hP hD hS hf dX6_count_99
  have hf := hf.2 c6
  by_cases c8 : x1 = 5
  · have hf := hf.1 c8
    refine lv_tableIn (tgt := 100) hx hb dX6_count_1 (by rw [c8]; decide) (by rw [c8]; decide) (by rw [c8]; rfl) (by decide) ?_
    refine lv_aload_n hx hb dX6_count_100 rfl (lv_at hl 0 rfl) ?_
    refine va_get (D := D) (ci := 4) (v := .ref (aW 0)) (C := RX6) (T := TX6) (N := 4) hx hb hts inX6_count_X6 hown hK hP 0 rfl rfl 1 (by decide) (hts (.fieldLink RX6 21 "GrowingText" "words" "LGrowingText$Words;") (List.mem_of_getElem? (i := 5) rfl)) (fun _ h9 => h9) rfl dX6_count_101 ?_
    refine lv_aload_n hx hb dX6_count_104 rfl (lv_at hl 0 rfl) ?_
    refine va_get (D := D) (ci := 4) (v := .ref (aM 0)) (C := RX6) (T := TX6) (N := 4) hx hb hts inX6_count_X6 hown hK hP 0 rfl rfl 0 (by decide) (hts (.fieldLink RX6 12 "GrowingText" "machine" "LGrowingText$Machine;") (List.mem_of_getElem? (i := 1) rfl)) (fun _ h9 => h9) rfl dX6_count_105 ?_
    refine va_get (D := D) (ci := 1) (v := .int (gM_length uM)) (C := RX2) (T := TX2) (N := 12) hx hb hts inX6_count_X2 hown hK (kp_r (kp_r hP)) 0 rfl rfl 1 (by decide) (hts (.fieldLink RX6 39 "GrowingText$Machine" "length" "I") (List.mem_of_getElem? (i := 3) rfl)) (fun _ h9 => h9) rfl dX6_count_108 ?_
    refine k_si (k_runV (As := [.int (gM_length uM)]) (rest := []) ⟨hx, hb, hml, hown, hts⟩ (c_X5_unlikeUpTo l D q aW aM uW uM (gM_length uM) _ hf) (cwV 1 hts gX6_count_X5_unlikeUpTo rfl rfl rfl cdX5_unlikeUpTo ⟨Nat.le_of_ble_eq_true rfl, Nat.le_of_ble_eq_true rfl⟩) hK (kp_r hP) (kd_r hD) 0 rfl rfl rfl hl.1 rfl (Nat.le_of_ble_eq_true rfl) dX6_count_111 ⟨Nat.le_of_ble_eq_true rfl, Nat.le_of_ble_eq_true rfl⟩) (fun r9 hf => ?_)
    exact k_iret_w (wf := (fun u => wX aG aM aW aS aI q u)) (post := Q) (u := (uM, uW, sh, im)) (v := r9) hx hb hr hlocks hK hP hD hS hf dX6_count_114
  have hf := hf.2 c8
  by_cases c10 : x1 = 6
  · have hf := hf.1 c10
    refine lv_tableIn (tgt := 115) hx hb dX6_count_1 (by rw [c10]; decide) (by rw [c10]; decide) (by rw [c10]; rfl) (by decide) ?_
    refine lv_aload_n hx hb dX6_count_115 rfl (lv_at hl 0 rfl) ?_
    refine va_get (D := D) (ci := 4) (v := .ref (aM 0)) (C := RX6) (T := TX6) (N := 4) hx hb hts inX6_count_X6 hown hK hP 0 rfl rfl 0 (by decide) (hts (.fieldLink RX6 12 "GrowingText" "machine" "LGrowingText$Machine;") (List.mem_of_getElem? (i := 1) rfl)) (fun _ h9 => h9) rfl dX6_count_116 ?_
    refine va_get (D := D) (ci := 1) (v := .int (gM_length uM)) (C := RX2) (T := TX2) (N := 12) hx hb hts inX6_count_X2 hown hK (kp_r (kp_r hP)) 0 rfl rfl 1 (by decide) (hts (.fieldLink RX6 39 "GrowingText$Machine" "length" "I") (List.mem_of_getElem? (i := 3) rfl)) (fun _ h9 => h9) rfl dX6_count_119 ?_
    refine lv_if_le (tgt := 142) hx hb dX6_count_122 (by decide) (fun c11 => ?_) (fun c11 => ?_)
    · have hf := hf.1 (c11)
      refine lv_bipush (v := (-4)) hx hb dX6_count_142 (by decide) ?_
      exact k_iret_w (wf := (fun u => wX aG aM aW aS aI q u)) (post := Q) (u := (uM, uW, sh, im)) (v := (-4)) hx hb hr hlocks hK hP hD hS hf dX6_count_144
    · have hf := hf.2 (c11)
      refine lv_aload_n hx hb dX6_count_125 rfl (lv_at hl 0 rfl) ?_
      refine va_get (D := D) (ci := 4) (v := .ref (aM 0)) (C := RX6) (T := TX6) (N := 4) hx hb hts inX6_count_X6 hown hK hP 0 rfl rfl 0 (by decide) (hts (.fieldLink RX6 12 "GrowingText" "machine" "LGrowingText$Machine;") (List.mem_of_getElem? (i := 1) rfl)) (fun _ h9 => h9) rfl dX6_count_126 ?_
      refine lv_aload_n hx hb dX6_count_129 rfl (lv_at hl 0 rfl) ?_
      refine va_get (D := D) (ci := 4) (v := .ref (aM 0)) (C := RX6) (T := TX6) (N := 4) hx hb hts inX6_count_X6 hown hK hP 0 rfl rfl 0 (by decide) (hts (.fieldLink RX6 12 "GrowingText" "machine" "LGrowingText$Machine;") (List.mem_of_getElem? (i := 1) rfl)) (fun _ h9 => h9) rfl dX6_count_130 ?_
      refine va_get (D := D) (ci := 1) (v := .int (gM_length uM)) (C := RX2) (T := TX2) (N := 12) hx hb hts inX6_count_X2 hown hK (kp_r (kp_r hP)) 0 rfl rfl 1 (by decide) (hts (.fieldLink RX6 39 "GrowingText$Machine" "length" "I") (List.mem_of_getElem? (i := 3) rfl)) (fun _ h9 => h9) rfl dX6_count_133 ?_
      refine k_si (k_runV (As := [.int (gM_length uM)]) (rest := []) ⟨hx, hb, hml, hown, hts⟩ (cF_X2_againAt l D q aM uM (gM_length uM)) (cwV 1 hts gX6_count_X2_againAt rfl rfl rfl cdX2_againAt ⟨Nat.le_of_ble_eq_true rfl, Nat.le_of_ble_eq_true rfl⟩) hK (kp_r (kp_r hP)) (kd_r (kd_r hD)) 0 rfl rfl rfl hl.1 rfl (Nat.le_of_ble_eq_true rfl) dX6_count_136 ⟨Nat.le_of_ble_eq_true rfl, Nat.le_of_ble_eq_true rfl⟩) (fun r hr => ?_)
      subst hr
      refine lv_goto (tgt := 144) hx hb dX6_count_139 (by decide) ?_
      exact k_iret_w (wf := (fun u => wX aG aM aW aS aI q u)) (post := Q) (u := (uM, uW, sh, im)) (v := (fX2_againAt uM (gM_length uM))) hx hb hr hlocks hK hP hD hS hf dX6_count_144
  have hf := hf.2 c10
  by_cases c12 : x1 = 7
  · have hf := hf.1 c12
    refine lv_tableIn (tgt := 145) hx hb dX6_count_1 (by rw [c12]; decide) (by rw [c12]; decide) (by rw [c12]; rfl) (by decide) ?_
    refine lv_aload_n hx hb dX6_count_145 rfl (lv_at hl 0 rfl) ?_
    refine va_get (D := D) (ci := 4) (v := .ref (aW 0)) (C := RX6) (T := TX6) (N := 4) hx hb hts inX6_count_X6 hown hK hP 0 rfl rfl 1 (by decide) (hts (.fieldLink RX6 21 "GrowingText" "words" "LGrowingText$Words;") (List.mem_of_getElem? (i := 5) rfl)) (fun _ h9 => h9) rfl dX6_count_146 ?_
    refine k_si (k_runV (As := []) (rest := []) ⟨hx, hb, hml, hown, hts⟩ (c_X5_period l D q aW aM uW uM _ hf) (cwV 0 hts gX6_count_X5_period rfl rfl rfl cdX5_period ⟨Nat.le_of_ble_eq_true rfl, Nat.le_of_ble_eq_true rfl⟩) hK (kp_r hP) (kd_r hD) 0 rfl rfl rfl hl.1 rfl (Nat.le_of_ble_eq_true rfl) dX6_count_149 ⟨Nat.le_of_ble_eq_true rfl, Nat.le_of_ble_eq_true rfl⟩) (fun r13 hf => ?_)
    exact k_iret_w (wf := (fun u => wX aG aM aW aS aI q u)) (post := Q) (u := (uM, uW, sh, im)) (v := r13) hx hb hr hlocks hK hP hD hS hf dX6_count_152
  have hf := hf.2 c12
  by_cases c14 : x1 = 8
  · have hf := hf.1 c14
    refine lv_tableIn (tgt := 153) hx hb dX6_count_1 (by rw [c14]; decide) (by rw [c14]; decide) (by rw [c14]; rfl) (by decide) ?_
    refine lv_aload_n hx hb dX6_count_153 rfl (lv_at hl 0 rfl) ?_
    refine va_get (D := D) (ci := 4) (v := .ref (aW 0)) (C := RX6) (T := TX6) (N := 4) hx hb hts inX6_count_X6 hown hK hP 0 rfl rfl 1 (by decide) (hts (.fieldLink RX6 21 "GrowingText" "words" "LGrowingText$Words;") (List.mem_of_getElem? (i := 5) rfl)) (fun _ h9 => h9) rfl dX6_count_154 ?_
    refine k_si (k_runV (As := []) (rest := []) ⟨hx, hb, hml, hown, hts⟩ (c_X5_lengthsTogether l D q aW aM uW uM _ hf) (cwV 0 hts gX6_count_X5_lengthsTogether rfl rfl rfl cdX5_lengthsTogether ⟨Nat.le_of_ble_eq_true rfl, Nat.le_of_ble_eq_true rfl⟩) hK (kp_r hP) (kd_r hD) 0 rfl rfl rfl hl.1 rfl (Nat.le_of_ble_eq_true rfl) dX6_count_157 ⟨Nat.le_of_ble_eq_true rfl, Nat.le_of_ble_eq_true rfl⟩) (fun r15 hf => ?_)
    exact k_iret_w (wf := (fun u => wX aG aM aW aS aI q u)) (post := Q) (u := (uM, uW, sh, im)) (v := r15) hx hb hr hlocks hK hP hD hS hf dX6_count_160
  have hf := hf.2 c14
  by_cases c16 : x1 = 9
  · have hf := hf.1 c16
    refine lv_tableIn (tgt := 161) hx hb dX6_count_1 (by rw [c16]; decide) (by rw [c16]; decide) (by rw [c16]; rfl) (by decide) ?_
    refine lv_aload_n hx hb dX6_count_161 rfl (lv_at hl 0 rfl) ?_
    refine k_si (k_runV (As := []) (rest := []) ⟨hx, hb, hml, hown, hts⟩ (c_X6_sheetsThere l D q aG aM aW aS aI sh im) (cwV 0 hts gX6_count_X6_sheetsThere rfl rfl rfl cdX6_sheetsThere ⟨Nat.le_of_ble_eq_true rfl, Nat.le_of_ble_eq_true rfl⟩) hK (kp_l hP) (kd_l hD) 0 rfl rfl rfl hl.1 rfl (Nat.le_of_ble_eq_true rfl) dX6_count_162 ⟨Nat.le_of_ble_eq_true rfl, Nat.le_of_ble_eq_true rfl⟩) (fun r hr => ?_)
    subst hr
    exact k_iret_w (wf := (fun u => wX aG aM aW aS aI q u)) (post := Q) (u := (uM, uW, sh, im)) (v := (cThere sh 4)) hx hb hr hlocks hK hP hD hS hf dX6_count_165
  have hf := hf.2 c16
  by_cases c17 : x1 = 10
  · have hf := hf.1 c17
    refine lv_tableIn (tgt := 166) hx hb dX6_count_1 (by rw [c17]; decide) (by rw [c17]; decide) (by rw [c17]; rfl) (by decide) ?_
    refine lv_aload_n hx hb dX6_count_166 rfl (lv_at hl 0 rfl) ?_
    refine va_get (D := D) (ci := 4) (v := .ref (aW 0)) (C := RX6) (T := TX6) (N := 4) hx hb hts inX6_count_X6 hown hK hP 0 rfl rfl 1 (by decide) (hts (.fieldLink RX6 21 "GrowingText" "words" "LGrowingText$Words;") (List.mem_of_getElem? (i := 5) rfl)) (fun _ h9 => h9) rfl dX6_count_167 ?_
    refine k_si (k_runV (As := []) (rest := []) ⟨hx, hb, hml, hown, hts⟩ (c_X5_parts l D q aW aM uW uM _ hf) (cwV 0 hts gX6_count_X5_parts rfl rfl rfl cdX5_parts ⟨Nat.le_of_ble_eq_true rfl, Nat.le_of_ble_eq_true rfl⟩) hK (kp_r hP) (kd_r hD) 0 rfl rfl rfl hl.1 rfl (Nat.le_of_ble_eq_true rfl) dX6_count_170 ⟨Nat.le_of_ble_eq_true rfl, Nat.le_of_ble_eq_true rfl⟩) (fun r18 hf => ?_)
    exact k_iret_w (wf := (fun u => wX aG aM aW aS aI q u)) (post := Q) (u := (uM, uW, sh, im)) (v := r18) hx hb hr hlocks hK hP hD hS hf dX6_count_173
  have hf := hf.2 c17
  refine lv_tableOut (tgt := 174) hx hb dX6_count_1 (k_sw10 c1 c2 c3 c4 c6 c8 c10 c12 c14 c16 c17) (by decide) ?_
  refine lv_iconst (v := (-1)) hx hb dX6_count_174 (by decide) ?_
  exact k_iret_w (wf := (fun u => wX aG aM aW aS aI q u)) (post := Q) (u := (uM, uW, sh, im)) (v := (-1)) hx hb hr hlocks hK hP hD hS hf dX6_count_175
def wpX6_state (uM : MSt) (uW : WSt) (sh : Nat → SSt) (im : Nat → ISt) (x1 : Int32) (x2 : Int32) (Q : Int32 → CSt → Prop) : Prop :=
  (((fX2_isState uM x1) = 0 →
    Q (-1) (uM, uW, sh, im)) ∧
  (¬ ((fX2_isState uM x1) = 0) →
    (x2 = 0 →
      Q (fX2_longestOf uM x1) (uM, uW, sh, im)) ∧
    (¬ (x2 = 0) →
      (x2 = 1 →
        Q (fX2_shortestOf uM x1) (uM, uW, sh, im)) ∧
      (¬ (x2 = 1) →
        (x2 = 2 →
          Q (fX2_linkOf uM x1) (uM, uW, sh, im)) ∧
        (¬ (x2 = 2) →
          (x2 = 3 →
            Q (fJ13_bitCount_95d88 (fX2_endsOf uM x1)) (uM, uW, sh, im)) ∧
          (¬ (x2 = 3) →
            (x2 = 4 →
              Q (fX2_firstEndOf uM x1) (uM, uW, sh, im)) ∧
            (¬ (x2 = 4) →
              (x2 = 5 →
                Q (fX2_madeBehind uM x1) (uM, uW, sh, im)) ∧
              (¬ (x2 = 5) →
                (x2 = 6 →
                  Q (fX2_originalOf uM x1) (uM, uW, sh, im)) ∧
                (¬ (x2 = 6) →
                  Q (-1) (uM, uW, sh, im))))))))))
def rmX6_state : Room := { frames := 3, cells := 0, slots := 0, locals := 65 }
theorem inX6_state_X6 : ∀ w ∈ wsX60, w ∈ wsX6_state := fun w h => List.mem_cons_of_mem _ (List.mem_append_left _ (List.mem_append_right _ h))
set_option maxRecDepth 100000 in
set_option maxHeartbeats 4000000 in
theorem c_X6_state (l : Launch) (D : va_G) (q : Nat → ClassId) (aG aM aW : Nat → Nat) (aS aI : Nat → Nat → Nat) (uM : MSt) (uW : WSt) (sh : Nat → SSt) (im : Nat → ISt) (x1 : Int32) (x2 : Int32) (Q : Int32 → CSt → Prop) (hf : wpX6_state uM uW sh im x1 x2 Q) : Met l yX6_state wsX6_state rmX6_state (va_Pc [.ref (aG 0), .int x1, .int x2] (kP D q (wX aG aM aW aS aI q (uM, uW, sh, im)))) (va_Qi Q (fun u t => kP D q (wX aG aM aW aS aI q u) t) (kIn (wX aG aM aW aS aI q (uM, uW, sh, im)))) 0 0 (kIn (wX aG aM aW aS aI q (uM, uW, sh, im))) := by
  refine Met.ofW (cc := cX6_state) (maxL := 3) (ret := (some .int)) (by decide) rfl ?_
  intro p e s m args below meth c s₁ B hml hv
  obtain ⟨hargs, hP, hK, hD⟩ := hv
  have hx := B.exec
  have hb := B.bytes
  have hr := B.returns
  have hts := atoms_spec (ws := wsX6_state) B.pre
  have hown : s.vm.findClass RX6 = some m.cls := findClass_of_methodNamed B.named
  have hlocks := B.notSynchronized
  have hD := kd_self hD
  generalize kIn (wX aG aM aW aS aI q (uM, uW, sh, im)) = A at hD ⊢
  have hS : va_S A s.heap s.heap [] := va_S.rf
  refine k_entry hargs (Nat.le_of_ble_eq_true rfl) (fun ls hl => ?_)
  have hl : lv_has ls 3 [(0, .ref (aG 0)), (1, .int x1), (2, .int x2)] := hl
  change W p l e rmX6_state s m args below meth c s.heap [] 0 0 (MQ below (va_Qi Q (fun u t => kP D q (wX aG aM aW aS aI q u) t) A) args s 0 0 A) _
  unfold wpX6_state at hf
  obtain ⟨H, hH⟩ : ∃ H, H = s.heap := ⟨_, rfl⟩
  obtain ⟨locs, hlocs⟩ : ∃ x : List Loc, x = [] := ⟨_, rfl⟩
  rw [← hH] at hP
  have hS : va_S A s.heap H locs := by rw [hH, hlocs]; exact hS
  rw [show W p l e rmX6_state s m args below meth c s.heap [] 0 0 (MQ below (va_Qi Q (fun u t => kP D q (wX aG aM aW aS aI q u) t) A) args s 0 0 A) (F0 m 0 ls []) = W p l e rmX6_state s m args below meth c H locs 0 0 (MQ below (va_Qi Q (fun u t => kP D q (wX aG aM aW aS aI q u) t) A) args s 0 0 A) (F0 m 0 ls []) by rw [hH, hlocs]]
  clear hH hlocs
  have hP : va_P D vwCl (wZ aG aM aW aS aI q sh im ++ (wW aW aM q uW ++ wM aM q uM)) H := hP
  have hD : va_D A (wZ aG aM aW aS aI q sh im ++ (wW aW aM q uW ++ wM aM q uM)) := hD
  refine lv_aload_n hx hb dX6_state_0 rfl (lv_at hl 0 rfl) ?_
  refine va_get (D := D) (ci := 4) (v := .ref (aM 0)) (C := RX6) (T := TX6) (N := 4) hx hb hts inX6_state_X6 hown hK hP 0 rfl rfl 0 (by decide) (hts (.fieldLink RX6 12 "GrowingText" "machine" "LGrowingText$Machine;") (List.mem_of_getElem? (i := 1) rfl)) (fun _ h9 => h9) rfl dX6_state_1 ?_
  refine lv_iload_n hx hb dX6_state_4 rfl (lv_at hl 1 rfl) ?_
  refine k_si (k_runV (As := [.int x1]) (rest := []) ⟨hx, hb, hml, hown, hts⟩ (cF_X2_isState l D q aM uM x1) (cwV 1 hts gX6_state_X2_isState rfl rfl rfl cdX2_isState ⟨Nat.le_of_ble_eq_true rfl, Nat.le_of_ble_eq_true rfl⟩) hK (kp_r (kp_r hP)) (kd_r (kd_r hD)) 0 rfl rfl rfl hl.1 rfl (Nat.le_of_ble_eq_true rfl) dX6_state_5 ⟨Nat.le_of_ble_eq_true rfl, Nat.le_of_ble_eq_true rfl⟩) (fun r hr => ?_)
  subst hr
  refine lv_if_ne (tgt := 13) hx hb dX6_state_8 (by decide) (fun c1 => ?_) (fun c1 => ?_)
  · have hf := hf.2 (c1)
    refine lv_iload_n hx hb dX6_state_13 rfl (lv_at hl 2 rfl) ?_
    by_cases c2 : x2 = 0
    · have hf := hf.1 c2
      refine lv_tableIn (tgt := 56) hx hb dX6_state_14 (by rw [c2]; decide) (by rw [c2]; decide) (by rw [c2]; rfl) (by decide) ?_
      refine lv_aload_n hx hb dX6_state_56 rfl (lv_at hl 0 rfl) ?_
      refine va_get (D := D) (ci := 4) (v := .ref (aM 0)) (C := RX6) (T := TX6) (N := 4) hx hb hts inX6_state_X6 hown hK hP 0 rfl rfl 0 (by decide) (hts (.fieldLink RX6 12 "GrowingText" "machine" "LGrowingText$Machine;") (List.mem_of_getElem? (i := 1) rfl)) (fun _ h9 => h9) rfl dX6_state_57 ?_
      refine lv_iload_n hx hb dX6_state_60 rfl (lv_at hl 1 rfl) ?_
      refine k_si (k_runV (As := [.int x1]) (rest := []) ⟨hx, hb, hml, hown, hts⟩ (cF_X2_longestOf l D q aM uM x1) (cwV 1 hts gX6_state_X2_longestOf rfl rfl rfl cdX2_longestOf ⟨Nat.le_of_ble_eq_true rfl, Nat.le_of_ble_eq_true rfl⟩) hK (kp_r (kp_r hP)) (kd_r (kd_r hD)) 0 rfl rfl rfl hl.1 rfl (Nat.le_of_ble_eq_true rfl) dX6_state_61 ⟨Nat.le_of_ble_eq_true rfl, Nat.le_of_ble_eq_true rfl⟩) (fun r hr => ?_)
      subst hr
      exact k_iret_w (wf := (fun u => wX aG aM aW aS aI q u)) (post := Q) (u := (uM, uW, sh, im)) (v := (fX2_longestOf uM x1)) hx hb hr hlocks hK hP hD hS hf dX6_state_64
    have hf := hf.2 c2
    by_cases c3 : x2 = 1
    · have hf := hf.1 c3
      refine lv_tableIn (tgt := 65) hx hb dX6_state_14 (by rw [c3]; decide) (by rw [c3]; decide) (by rw [c3]; rfl) (by decide) ?_
      refine lv_aload_n hx hb dX6_state_65 rfl (lv_at hl 0 rfl) ?_
      refine va_get (D := D) (ci := 4) (v := .ref (aM 0)) (C := RX6) (T := TX6) (N := 4) hx hb hts inX6_state_X6 hown hK hP 0 rfl rfl 0 (by decide) (hts (.fieldLink RX6 12 "GrowingText" "machine" "LGrowingText$Machine;") (List.mem_of_getElem? (i := 1) rfl)) (fun _ h9 => h9) rfl dX6_state_66 ?_
      refine lv_iload_n hx hb dX6_state_69 rfl (lv_at hl 1 rfl) ?_
      refine k_si (k_runV (As := [.int x1]) (rest := []) ⟨hx, hb, hml, hown, hts⟩ (cF_X2_shortestOf l D q aM uM x1) (cwV 1 hts gX6_state_X2_shortestOf rfl rfl rfl cdX2_shortestOf ⟨Nat.le_of_ble_eq_true rfl, Nat.le_of_ble_eq_true rfl⟩) hK (kp_r (kp_r hP)) (kd_r (kd_r hD)) 0 rfl rfl rfl hl.1 rfl (Nat.le_of_ble_eq_true rfl) dX6_state_70 ⟨Nat.le_of_ble_eq_true rfl, Nat.le_of_ble_eq_true rfl⟩) (fun r hr => ?_)
      subst hr
      exact k_iret_w (wf := (fun u => wX aG aM aW aS aI q u)) (post := Q) (u := (uM, uW, sh, im)) (v := (fX2_shortestOf uM x1)) hx hb hr hlocks hK hP hD hS hf dX6_state_73
    have hf := hf.2 c3
    by_cases c4 : x2 = 2
    · have hf := hf.1 c4
      refine lv_tableIn (tgt := 74) hx hb dX6_state_14 (by rw [c4]; decide) (by rw [c4]; decide) (by rw [c4]; rfl) (by decide) ?_
      refine lv_aload_n hx hb dX6_state_74 rfl (lv_at hl 0 rfl) ?_
      refine va_get (D := D) (ci := 4) (v := .ref (aM 0)) (C := RX6) (T := TX6) (N := 4) hx hb hts inX6_state_X6 hown hK hP 0 rfl rfl 0 (by decide) (hts (.fieldLink RX6 12 "GrowingText" "machine" "LGrowingText$Machine;") (List.mem_of_getElem? (i := 1) rfl)) (fun _ h9 => h9) rfl dX6_state_75 ?_
      refine lv_iload_n hx hb dX6_state_78 rfl (lv_at hl 1 rfl) ?_
      refine k_si (k_runV (As := [.int x1]) (rest := []) ⟨hx, hb, hml, hown, hts⟩ (cF_X2_linkOf l D q aM uM x1) (cwV 1 hts gX6_state_X2_linkOf rfl rfl rfl cdX2_linkOf ⟨Nat.le_of_ble_eq_true rfl, Nat.le_of_ble_eq_true rfl⟩) hK (kp_r (kp_r hP)) (kd_r (kd_r hD)) 0 rfl rfl rfl hl.1 rfl (Nat.le_of_ble_eq_true rfl) dX6_state_79 ⟨Nat.le_of_ble_eq_true rfl, Nat.le_of_ble_eq_true rfl⟩) (fun r hr => ?_)
      subst hr
      exact k_iret_w (wf := (fun u => wX aG aM aW aS aI q u)) (post := Q) (u := (uM, uW, sh, im)) (v := (fX2_linkOf uM x1)) hx hb hr hlocks hK hP hD hS hf dX6_state_82
    have hf := hf.2 c4
    by_cases c5 : x2 = 3
    · have hf := hf.1 c5
      refine lv_tableIn (tgt := 83) hx hb dX6_state_14 (by rw [c5]; decide) (by rw [c5]; decide) (by rw [c5]; rfl) (by decide) ?_
      refine lv_aload_n hx hb dX6_state_83 rfl (lv_at hl 0 rfl) ?_
      refine va_get (D := D) (ci := 4) (v := .ref (aM 0)) (C := RX6) (T := TX6) (N := 4) hx hb hts inX6_state_X6 hown hK hP 0 rfl rfl 0 (by decide) (hts (.fieldLink RX6 12 "GrowingText" "machine" "LGrowingText$Machine;") (List.mem_of_getElem? (i := 1) rfl)) (fun _ h9 => h9) rfl dX6_state_84 ?_
      refine lv_iload_n hx hb dX6_state_87 rfl (lv_at hl 1 rfl) ?_
      refine k_sl (k_runV (As := [.int x1]) (rest := []) ⟨hx, hb, hml, hown, hts⟩ (cF_X2_endsOf l D q aM uM x1) (cwV 1 hts gX6_state_X2_endsOf rfl rfl rfl cdX2_endsOf ⟨Nat.le_of_ble_eq_true rfl, Nat.le_of_ble_eq_true rfl⟩) hK (kp_r (kp_r hP)) (kd_r (kd_r hD)) 0 rfl rfl rfl hl.1 rfl (Nat.le_of_ble_eq_true rfl) dX6_state_88 ⟨Nat.le_of_ble_eq_true rfl, Nat.le_of_ble_eq_true rfl⟩) (fun r hr => ?_)
      subst hr
      refine k_si (k_runS (As := [.long (fX2_endsOf uM x1)]) (rest := []) ⟨hx, hb, hml, hown, hts⟩ (cF_J13_bitCount_95d88 l D q (fX2_endsOf uM x1)) (va_cwS 1 hts gX6_state_J13_bitCount_95d88 rfl rfl rfl cdJ13_bitCount_95d88 ⟨Nat.le_of_ble_eq_true rfl, Nat.le_of_ble_eq_true rfl⟩) hK k_nilP k_nilD rfl hl.1 rfl (Nat.le_of_ble_eq_true rfl) dX6_state_91 ⟨Nat.le_of_ble_eq_true rfl, Nat.le_of_ble_eq_true rfl⟩) (fun r hr => ?_)
      subst hr
      exact k_iret_w (wf := (fun u => wX aG aM aW aS aI q u)) (post := Q) (u := (uM, uW, sh, im)) (v := (fJ13_bitCount_95d88 (fX2_endsOf uM x1))) hx hb hr hlocks hK hP hD hS hf dX6_state_94
    have hf := hf.2 c5
    by_cases c6 : x2 = 4
    · have hf := hf.1 c6
      refine lv_tableIn (tgt := 95) hx hb dX6_state_14 (by rw [c6]; decide) (by rw [c6]; decide) (by rw [c6]; rfl) (by decide) ?_
      refine lv_aload_n hx hb dX6_state_95 rfl (lv_at hl 0 rfl) ?_
      refine va_get (D := D) (ci := 4) (v := .ref (aM 0)) (C := RX6) (T := TX6) (N := 4) hx hb hts inX6_state_X6 hown hK hP 0 rfl rfl 0 (by decide) (hts (.fieldLink RX6 12 "GrowingText" "machine" "LGrowingText$Machine;") (List.mem_of_getElem? (i := 1) rfl)) (fun _ h9 => h9) rfl dX6_state_96 ?_
      refine lv_iload_n hx hb dX6_state_99 rfl (lv_at hl 1 rfl) ?_
      refine k_si (k_runV (As := [.int x1]) (rest := []) ⟨hx, hb, hml, hown, hts⟩ (cF_X2_firstEndOf l D q aM uM x1) (cwV 1 hts gX6_state_X2_firstEndOf rfl rfl rfl cdX2_firstEndOf ⟨Nat.le_of_ble_eq_true rfl, Nat.le_of_ble_eq_true rfl⟩) hK (kp_r (kp_r hP)) (kd_r (kd_r hD)) 0 rfl rfl rfl hl.1 rfl (Nat.le_of_ble_eq_true rfl) dX6_state_100 ⟨Nat.le_of_ble_eq_true rfl, Nat.le_of_ble_eq_true rfl⟩) (fun r hr => ?_)
      subst hr
      exact k_iret_w (wf := (fun u => wX aG aM aW aS aI q u)) (post := Q) (u := (uM, uW, sh, im)) (v := (fX2_firstEndOf uM x1)) hx hb hr hlocks hK hP hD hS hf dX6_state_103
    have hf := hf.2 c6
    by_cases c7 : x2 = 5
    · have hf := hf.1 c7
      refine lv_tableIn (tgt := 104) hx hb dX6_state_14 (by rw [c7]; decide) (by rw [c7]; decide) (by rw [c7]; rfl) (by decide) ?_
      refine lv_aload_n hx hb dX6_state_104 rfl (lv_at hl 0 rfl) ?_
      refine va_get (D := D) (ci := 4) (v := .ref (aM 0)) (C := RX6) (T := TX6) (N := 4) hx hb hts inX6_state_X6 hown hK hP 0 rfl rfl 0 (by decide) (hts (.fieldLink RX6 12 "GrowingText" "machine" "LGrowingText$Machine;") (List.mem_of_getElem? (i := 1) rfl)) (fun _ h9 => h9) rfl dX6_state_105 ?_
      refine lv_iload_n hx hb dX6_state_108 rfl (lv_at hl 1 rfl) ?_
      refine k_si (k_runV (As := [.int x1]) (rest := []) ⟨hx, hb, hml, hown, hts⟩ (cF_X2_madeBehind l D q aM uM x1) (cwV 1 hts gX6_state_X2_madeBehind rfl rfl rfl cdX2_madeBehind ⟨Nat.le_of_ble_eq_true rfl, Nat.le_of_ble_eq_true rfl⟩) hK (kp_r (kp_r hP)) (kd_r (kd_r hD)) 0 rfl rfl rfl hl.1 rfl (Nat.le_of_ble_eq_true rfl) dX6_state_109 ⟨Nat.le_of_ble_eq_true rfl, Nat.le_of_ble_eq_true rfl⟩) (fun r hr => ?_)
      subst hr
      exact k_iret_w (wf := (fun u => wX aG aM aW aS aI q u)) (post := Q) (u := (uM, uW, sh, im)) (v := (fX2_madeBehind uM x1)) hx hb hr hlocks hK hP hD hS hf dX6_state_112
    have hf := hf.2 c7
    by_cases c8 : x2 = 6
    · have hf := hf.1 c8
      refine lv_tableIn (tgt := 113) hx hb dX6_state_14 (by rw [c8]; decide) (by rw [c8]; decide) (by rw [c8]; rfl) (by decide) ?_
      refine lv_aload_n hx hb dX6_state_113 rfl (lv_at hl 0 rfl) ?_
      refine va_get (D := D) (ci := 4) (v := .ref (aM 0)) (C := RX6) (T := TX6) (N := 4) hx hb hts inX6_state_X6 hown hK hP 0 rfl rfl 0 (by decide) (hts (.fieldLink RX6 12 "GrowingText" "machine" "LGrowingText$Machine;") (List.mem_of_getElem? (i := 1) rfl)) (fun _ h9 => h9) rfl dX6_state_114 ?_
      refine lv_iload_n hx hb dX6_state_117 rfl (lv_at hl 1 rfl) ?_
      refine k_si (k_runV (As := [.int x1]) (rest := []) ⟨hx, hb, hml, hown, hts⟩ (cF_X2_originalOf l D q aM uM x1) (cwV 1 hts gX6_state_X2_originalOf rfl rfl rfl cdX2_originalOf ⟨Nat.le_of_ble_eq_true rfl, Nat.le_of_ble_eq_true rfl⟩) hK (kp_r (kp_r hP)) (kd_r (kd_r hD)) 0 rfl rfl rfl hl.1 rfl (Nat.le_of_ble_eq_true rfl) dX6_state_118 ⟨Nat.le_of_ble_eq_true rfl, Nat.le_of_ble_eq_true rfl⟩) (fun r hr => ?_)
      subst hr
      exact k_iret_w (wf := (fun u => wX aG aM aW aS aI q u)) (post := Q) (u := (uM, uW, sh, im)) (v := (fX2_originalOf uM x1)) hx hb hr hlocks hK hP hD hS hf dX6_state_121
    have hf := hf.2 c8
    refine lv_tableOut (tgt := 122) hx hb dX6_state_14 (k_sw6 c2 c3 c4 c5 c6 c7 c8) (by decide) ?_
    refine lv_iconst (v := (-1)) hx hb dX6_state_122 (by decide) ?_
    exact k_iret_w (wf := (fun u => wX aG aM aW aS aI q u)) (post := Q) (u := (uM, uW, sh, im)) (v := (-1)) hx hb hr hlocks hK hP hD hS hf dX6_state_123
  · have hf := hf.1 (c1)
    refine lv_iconst (v := (-1)) hx hb dX6_state_11 (by decide) ?_
    exact k_iret_w (wf := (fun u => wX aG aM aW aS aI q u)) (post := Q) (u := (uM, uW, sh, im)) (v := (-1)) hx hb hr hlocks hK hP hD hS hf dX6_state_12
def wpX6_move (uM : MSt) (uW : WSt) (sh : Nat → SSt) (im : Nat → ISt) (x1 : Int32) (x2 : Int32) (Q : Int32 → CSt → Prop) : Prop :=
  (((fX2_isState uM x1) = 0 →
    Q (-1) (uM, uW, sh, im)) ∧
  (¬ ((fX2_isState uM x1) = 0) →
    ((fX2_isLetter uM x2) = 0 →
      Q (-1) (uM, uW, sh, im)) ∧
    (¬ ((fX2_isLetter uM x2) = 0) →
      Q (fX2_moveOf uM x1 x2) (uM, uW, sh, im))))
def rmX6_move : Room := { frames := 2, cells := 0, slots := 0, locals := 43 }
theorem inX6_move_X6 : ∀ w ∈ wsX60, w ∈ wsX6_move := fun w h => List.mem_cons_of_mem _ (List.mem_append_left _ (List.mem_append_right _ h))
set_option maxRecDepth 100000 in
set_option maxHeartbeats 4000000 in
theorem c_X6_move (l : Launch) (D : va_G) (q : Nat → ClassId) (aG aM aW : Nat → Nat) (aS aI : Nat → Nat → Nat) (uM : MSt) (uW : WSt) (sh : Nat → SSt) (im : Nat → ISt) (x1 : Int32) (x2 : Int32) (Q : Int32 → CSt → Prop) (hf : wpX6_move uM uW sh im x1 x2 Q) : Met l yX6_move wsX6_move rmX6_move (va_Pc [.ref (aG 0), .int x1, .int x2] (kP D q (wX aG aM aW aS aI q (uM, uW, sh, im)))) (va_Qi Q (fun u t => kP D q (wX aG aM aW aS aI q u) t) (kIn (wX aG aM aW aS aI q (uM, uW, sh, im)))) 0 0 (kIn (wX aG aM aW aS aI q (uM, uW, sh, im))) := by
  refine Met.ofW (cc := cX6_move) (maxL := 3) (ret := (some .int)) (by decide) rfl ?_
  intro p e s m args below meth c s₁ B hml hv
  obtain ⟨hargs, hP, hK, hD⟩ := hv
  have hx := B.exec
  have hb := B.bytes
  have hr := B.returns
  have hts := atoms_spec (ws := wsX6_move) B.pre
  have hown : s.vm.findClass RX6 = some m.cls := findClass_of_methodNamed B.named
  have hlocks := B.notSynchronized
  have hD := kd_self hD
  generalize kIn (wX aG aM aW aS aI q (uM, uW, sh, im)) = A at hD ⊢
  have hS : va_S A s.heap s.heap [] := va_S.rf
  refine k_entry hargs (Nat.le_of_ble_eq_true rfl) (fun ls hl => ?_)
  have hl : lv_has ls 3 [(0, .ref (aG 0)), (1, .int x1), (2, .int x2)] := hl
  change W p l e rmX6_move s m args below meth c s.heap [] 0 0 (MQ below (va_Qi Q (fun u t => kP D q (wX aG aM aW aS aI q u) t) A) args s 0 0 A) _
  unfold wpX6_move at hf
  obtain ⟨H, hH⟩ : ∃ H, H = s.heap := ⟨_, rfl⟩
  obtain ⟨locs, hlocs⟩ : ∃ x : List Loc, x = [] := ⟨_, rfl⟩
  rw [← hH] at hP
  have hS : va_S A s.heap H locs := by rw [hH, hlocs]; exact hS
  rw [show W p l e rmX6_move s m args below meth c s.heap [] 0 0 (MQ below (va_Qi Q (fun u t => kP D q (wX aG aM aW aS aI q u) t) A) args s 0 0 A) (F0 m 0 ls []) = W p l e rmX6_move s m args below meth c H locs 0 0 (MQ below (va_Qi Q (fun u t => kP D q (wX aG aM aW aS aI q u) t) A) args s 0 0 A) (F0 m 0 ls []) by rw [hH, hlocs]]
  clear hH hlocs
  have hP : va_P D vwCl (wZ aG aM aW aS aI q sh im ++ (wW aW aM q uW ++ wM aM q uM)) H := hP
  have hD : va_D A (wZ aG aM aW aS aI q sh im ++ (wW aW aM q uW ++ wM aM q uM)) := hD
  refine lv_aload_n hx hb dX6_move_0 rfl (lv_at hl 0 rfl) ?_
  refine va_get (D := D) (ci := 4) (v := .ref (aM 0)) (C := RX6) (T := TX6) (N := 4) hx hb hts inX6_move_X6 hown hK hP 0 rfl rfl 0 (by decide) (hts (.fieldLink RX6 12 "GrowingText" "machine" "LGrowingText$Machine;") (List.mem_of_getElem? (i := 1) rfl)) (fun _ h9 => h9) rfl dX6_move_1 ?_
  refine lv_iload_n hx hb dX6_move_4 rfl (lv_at hl 1 rfl) ?_
  refine k_si (k_runV (As := [.int x1]) (rest := []) ⟨hx, hb, hml, hown, hts⟩ (cF_X2_isState l D q aM uM x1) (cwV 1 hts gX6_move_X2_isState rfl rfl rfl cdX2_isState ⟨Nat.le_of_ble_eq_true rfl, Nat.le_of_ble_eq_true rfl⟩) hK (kp_r (kp_r hP)) (kd_r (kd_r hD)) 0 rfl rfl rfl hl.1 rfl (Nat.le_of_ble_eq_true rfl) dX6_move_5 ⟨Nat.le_of_ble_eq_true rfl, Nat.le_of_ble_eq_true rfl⟩) (fun r hr => ?_)
  subst hr
  refine lv_if_eq (tgt := 22) hx hb dX6_move_8 (by decide) (fun c1 => ?_) (fun c1 => ?_)
  · have hf := hf.1 (c1)
    refine lv_iconst (v := (-1)) hx hb dX6_move_22 (by decide) ?_
    exact k_iret_w (wf := (fun u => wX aG aM aW aS aI q u)) (post := Q) (u := (uM, uW, sh, im)) (v := (-1)) hx hb hr hlocks hK hP hD hS hf dX6_move_23
  · have hf := hf.2 (c1)
    refine lv_aload_n hx hb dX6_move_11 rfl (lv_at hl 0 rfl) ?_
    refine va_get (D := D) (ci := 4) (v := .ref (aM 0)) (C := RX6) (T := TX6) (N := 4) hx hb hts inX6_move_X6 hown hK hP 0 rfl rfl 0 (by decide) (hts (.fieldLink RX6 12 "GrowingText" "machine" "LGrowingText$Machine;") (List.mem_of_getElem? (i := 1) rfl)) (fun _ h9 => h9) rfl dX6_move_12 ?_
    refine lv_iload_n hx hb dX6_move_15 rfl (lv_at hl 2 rfl) ?_
    refine k_si (k_runV (As := [.int x2]) (rest := []) ⟨hx, hb, hml, hown, hts⟩ (cF_X2_isLetter l D q aM uM x2) (cwV 1 hts gX6_move_X2_isLetter rfl rfl rfl cdX2_isLetter ⟨Nat.le_of_ble_eq_true rfl, Nat.le_of_ble_eq_true rfl⟩) hK (kp_r (kp_r hP)) (kd_r (kd_r hD)) 0 rfl rfl rfl hl.1 rfl (Nat.le_of_ble_eq_true rfl) dX6_move_16 ⟨Nat.le_of_ble_eq_true rfl, Nat.le_of_ble_eq_true rfl⟩) (fun r hr => ?_)
    subst hr
    refine lv_if_ne (tgt := 24) hx hb dX6_move_19 (by decide) (fun c2 => ?_) (fun c2 => ?_)
    · have hf := hf.2 (c2)
      refine lv_aload_n hx hb dX6_move_24 rfl (lv_at hl 0 rfl) ?_
      refine va_get (D := D) (ci := 4) (v := .ref (aM 0)) (C := RX6) (T := TX6) (N := 4) hx hb hts inX6_move_X6 hown hK hP 0 rfl rfl 0 (by decide) (hts (.fieldLink RX6 12 "GrowingText" "machine" "LGrowingText$Machine;") (List.mem_of_getElem? (i := 1) rfl)) (fun _ h9 => h9) rfl dX6_move_25 ?_
      refine lv_iload_n hx hb dX6_move_28 rfl (lv_at hl 1 rfl) ?_
      refine lv_iload_n hx hb dX6_move_29 rfl (lv_at hl 2 rfl) ?_
      refine k_si (k_runV (As := [.int x1, .int x2]) (rest := []) ⟨hx, hb, hml, hown, hts⟩ (cF_X2_moveOf l D q aM uM x1 x2) (cwV 2 hts gX6_move_X2_moveOf rfl rfl rfl cdX2_moveOf ⟨Nat.le_of_ble_eq_true rfl, Nat.le_of_ble_eq_true rfl⟩) hK (kp_r (kp_r hP)) (kd_r (kd_r hD)) 0 rfl rfl rfl hl.1 rfl (Nat.le_of_ble_eq_true rfl) dX6_move_30 ⟨Nat.le_of_ble_eq_true rfl, Nat.le_of_ble_eq_true rfl⟩) (fun r hr => ?_)
      subst hr
      exact k_iret_w (wf := (fun u => wX aG aM aW aS aI q u)) (post := Q) (u := (uM, uW, sh, im)) (v := (fX2_moveOf uM x1 x2)) hx hb hr hlocks hK hP hD hS hf dX6_move_33
    · have hf := hf.1 (c2)
      refine lv_iconst (v := (-1)) hx hb dX6_move_22 (by decide) ?_
      exact k_iret_w (wf := (fun u => wX aG aM aW aS aI q u)) (post := Q) (u := (uM, uW, sh, im)) (v := (-1)) hx hb hr hlocks hK hP hD hS hf dX6_move_23
def wpX6_end (uM : MSt) (uW : WSt) (sh : Nat → SSt) (im : Nat → ISt) (x1 : Int32) (x2 : Int32) (Q : Int32 → CSt → Prop) : Prop :=
  (((fX2_isState uM x1) = 0 →
    Q (-1) (uM, uW, sh, im)) ∧
  (¬ ((fX2_isState uM x1) = 0) →
    ((0 : Int32) ≤ x2 →
      wpX0_kthOf (fX2_endsOf uM x1) x2 (fun r3 =>
        Q r3 (uM, uW, sh, im))) ∧
    (¬ ((0 : Int32) ≤ x2) →
      Q (-1) (uM, uW, sh, im))))
def rmX6_end : Room := { frames := 3, cells := 0, slots := 0, locals := 69 }
theorem inX6_end_X6 : ∀ w ∈ wsX60, w ∈ wsX6_end := fun w h => List.mem_cons_of_mem _ (List.mem_append_left _ (List.mem_append_right _ h))
set_option maxRecDepth 100000 in
set_option maxHeartbeats 4000000 in
theorem c_X6_end (l : Launch) (D : va_G) (q : Nat → ClassId) (aG aM aW : Nat → Nat) (aS aI : Nat → Nat → Nat) (uM : MSt) (uW : WSt) (sh : Nat → SSt) (im : Nat → ISt) (x1 : Int32) (x2 : Int32) (Q : Int32 → CSt → Prop) (hf : wpX6_end uM uW sh im x1 x2 Q) : Met l yX6_end wsX6_end rmX6_end (va_Pc [.ref (aG 0), .int x1, .int x2] (kP D q (wX aG aM aW aS aI q (uM, uW, sh, im)))) (va_Qi Q (fun u t => kP D q (wX aG aM aW aS aI q u) t) (kIn (wX aG aM aW aS aI q (uM, uW, sh, im)))) 0 0 (kIn (wX aG aM aW aS aI q (uM, uW, sh, im))) := by
  refine Met.ofW (cc := cX6_end) (maxL := 3) (ret := (some .int)) (by decide) rfl ?_
  intro p e s m args below meth c s₁ B hml hv
  obtain ⟨hargs, hP, hK, hD⟩ := hv
  have hx := B.exec
  have hb := B.bytes
  have hr := B.returns
  have hts := atoms_spec (ws := wsX6_end) B.pre
  have hown : s.vm.findClass RX6 = some m.cls := findClass_of_methodNamed B.named
  have hlocks := B.notSynchronized
  have hD := kd_self hD
  generalize kIn (wX aG aM aW aS aI q (uM, uW, sh, im)) = A at hD ⊢
  have hS : va_S A s.heap s.heap [] := va_S.rf
  refine k_entry hargs (Nat.le_of_ble_eq_true rfl) (fun ls hl => ?_)
  have hl : lv_has ls 3 [(0, .ref (aG 0)), (1, .int x1), (2, .int x2)] := hl
  change W p l e rmX6_end s m args below meth c s.heap [] 0 0 (MQ below (va_Qi Q (fun u t => kP D q (wX aG aM aW aS aI q u) t) A) args s 0 0 A) _
  unfold wpX6_end at hf
  obtain ⟨H, hH⟩ : ∃ H, H = s.heap := ⟨_, rfl⟩
  obtain ⟨locs, hlocs⟩ : ∃ x : List Loc, x = [] := ⟨_, rfl⟩
  rw [← hH] at hP
  have hS : va_S A s.heap H locs := by rw [hH, hlocs]; exact hS
  rw [show W p l e rmX6_end s m args below meth c s.heap [] 0 0 (MQ below (va_Qi Q (fun u t => kP D q (wX aG aM aW aS aI q u) t) A) args s 0 0 A) (F0 m 0 ls []) = W p l e rmX6_end s m args below meth c H locs 0 0 (MQ below (va_Qi Q (fun u t => kP D q (wX aG aM aW aS aI q u) t) A) args s 0 0 A) (F0 m 0 ls []) by rw [hH, hlocs]]
  clear hH hlocs
  have hP : va_P D vwCl (wZ aG aM aW aS aI q sh im ++ (wW aW aM q uW ++ wM aM q uM)) H := hP
  have hD : va_D A (wZ aG aM aW aS aI q sh im ++ (wW aW aM q uW ++ wM aM q uM)) := hD
  refine lv_aload_n hx hb dX6_end_0 rfl (lv_at hl 0 rfl) ?_
  refine va_get (D := D) (ci := 4) (v := .ref (aM 0)) (C := RX6) (T := TX6) (N := 4) hx hb hts inX6_end_X6 hown hK hP 0 rfl rfl 0 (by decide) (hts (.fieldLink RX6 12 "GrowingText" "machine" "LGrowingText$Machine;") (List.mem_of_getElem? (i := 1) rfl)) (fun _ h9 => h9) rfl dX6_end_1 ?_
  refine lv_iload_n hx hb dX6_end_4 rfl (lv_at hl 1 rfl) ?_
  refine k_si (k_runV (As := [.int x1]) (rest := []) ⟨hx, hb, hml, hown, hts⟩ (cF_X2_isState l D q aM uM x1) (cwV 1 hts gX6_end_X2_isState rfl rfl rfl cdX2_isState ⟨Nat.le_of_ble_eq_true rfl, Nat.le_of_ble_eq_true rfl⟩) hK (kp_r (kp_r hP)) (kd_r (kd_r hD)) 0 rfl rfl rfl hl.1 rfl (Nat.le_of_ble_eq_true rfl) dX6_end_5 ⟨Nat.le_of_ble_eq_true rfl, Nat.le_of_ble_eq_true rfl⟩) (fun r hr => ?_)
  subst hr
  refine lv_if_eq (tgt := 15) hx hb dX6_end_8 (by decide) (fun c1 => ?_) (fun c1 => ?_)
  · have hf := hf.1 (c1)
    refine lv_iconst (v := (-1)) hx hb dX6_end_15 (by decide) ?_
    exact k_iret_w (wf := (fun u => wX aG aM aW aS aI q u)) (post := Q) (u := (uM, uW, sh, im)) (v := (-1)) hx hb hr hlocks hK hP hD hS hf dX6_end_16
  · have hf := hf.2 (c1)
    refine lv_iload_n hx hb dX6_end_11 rfl (lv_at hl 2 rfl) ?_
    refine lv_if_ge (tgt := 17) hx hb dX6_end_12 (by decide) (fun c2 => ?_) (fun c2 => ?_)
    · have hf := hf.1 (c2)
      refine lv_aload_n hx hb dX6_end_17 rfl (lv_at hl 0 rfl) ?_
      refine va_get (D := D) (ci := 4) (v := .ref (aM 0)) (C := RX6) (T := TX6) (N := 4) hx hb hts inX6_end_X6 hown hK hP 0 rfl rfl 0 (by decide) (hts (.fieldLink RX6 12 "GrowingText" "machine" "LGrowingText$Machine;") (List.mem_of_getElem? (i := 1) rfl)) (fun _ h9 => h9) rfl dX6_end_18 ?_
      refine lv_iload_n hx hb dX6_end_21 rfl (lv_at hl 1 rfl) ?_
      refine k_sl (k_runV (As := [.int x1]) (rest := []) ⟨hx, hb, hml, hown, hts⟩ (cF_X2_endsOf l D q aM uM x1) (cwV 1 hts gX6_end_X2_endsOf rfl rfl rfl cdX2_endsOf ⟨Nat.le_of_ble_eq_true rfl, Nat.le_of_ble_eq_true rfl⟩) hK (kp_r (kp_r hP)) (kd_r (kd_r hD)) 0 rfl rfl rfl hl.1 rfl (Nat.le_of_ble_eq_true rfl) dX6_end_22 ⟨Nat.le_of_ble_eq_true rfl, Nat.le_of_ble_eq_true rfl⟩) (fun r hr => ?_)
      subst hr
      refine lv_iload_n hx hb dX6_end_25 rfl (lv_at hl 2 rfl) ?_
      refine k_si (k_runS (As := [.long (fX2_endsOf uM x1), .int x2]) (rest := []) ⟨hx, hb, hml, hown, hts⟩ (c_X0_kthOf l D q (fX2_endsOf uM x1) x2 _ hf) (va_cwS 2 hts gX6_end_X0_kthOf rfl rfl rfl cdX0_kthOf ⟨Nat.le_of_ble_eq_true rfl, Nat.le_of_ble_eq_true rfl⟩) hK k_nilP k_nilD rfl hl.1 rfl (Nat.le_of_ble_eq_true rfl) dX6_end_26 ⟨Nat.le_of_ble_eq_true rfl, Nat.le_of_ble_eq_true rfl⟩) (fun r3 hf => ?_)
      exact k_iret_w (wf := (fun u => wX aG aM aW aS aI q u)) (post := Q) (u := (uM, uW, sh, im)) (v := r3) hx hb hr hlocks hK hP hD hS hf dX6_end_29
    · have hf := hf.2 (c2)
      refine lv_iconst (v := (-1)) hx hb dX6_end_15 (by decide) ?_
      exact k_iret_w (wf := (fun u => wX aG aM aW aS aI q u)) (post := Q) (u := (uM, uW, sh, im)) (v := (-1)) hx hb hr hlocks hK hP hD hS hf dX6_end_16
def wpX6_sheet (uM : MSt) (uW : WSt) (sh : Nat → SSt) (im : Nat → ISt) (x1 : Int32) (x2 : Int32) (Q : Int32 → CSt → Prop) : Prop :=
  (((x1 < 0 ∨ 4 ≤ x1) →
    Q (-1) (uM, uW, sh, im)) ∧
  (∀ i : Nat, i < 4 → x1 = nI i →
    (x2 < 0 →
      Q (-1) (uM, uW, sh, im)) ∧
    (¬ (x2 < 0) →
      (x2 ≤ 64 →
        wpX4_layOut (sh i) x2 (fun uS3 =>
          Q x2 (uM, uW, (va_up sh i uS3), im))) ∧
      (¬ (x2 ≤ 64) →
        Q (-1) (uM, uW, sh, im)))))
def rmX6_sheet : Room := { frames := 3, cells := 0, slots := 0, locals := 66 }
set_option maxRecDepth 100000 in
set_option maxHeartbeats 4000000 in
theorem c_X6_sheet (l : Launch) (D : va_G) (q : Nat → ClassId) (aG aM aW : Nat → Nat) (aS aI : Nat → Nat → Nat) (uM : MSt) (uW : WSt) (sh : Nat → SSt) (im : Nat → ISt) (x1 : Int32) (x2 : Int32) (Q : Int32 → CSt → Prop) (hf : wpX6_sheet uM uW sh im x1 x2 Q) : Met l yX6_sheet wsX6_sheet rmX6_sheet (va_Pc [.ref (aG 0), .int x1, .int x2] (kP D q (wX aG aM aW aS aI q (uM, uW, sh, im)))) (va_Qi Q (fun u t => kP D q (wX aG aM aW aS aI q u) t) (kIn (wX aG aM aW aS aI q (uM, uW, sh, im)))) 0 0 (kIn (wX aG aM aW aS aI q (uM, uW, sh, im))) := by
  refine Met.ofW (cc := cX6_sheet) (maxL := 4) (ret := (some .int)) (by decide) rfl ?_
  intro p e s m args below meth c s₁ B hml hv
  obtain ⟨hargs, hP, hK, hD⟩ := hv
  have hx := B.exec
  have hb := B.bytes
  have hr := B.returns
  have hts := atoms_spec (ws := wsX6_sheet) B.pre
  have hown : s.vm.findClass RX6 = some m.cls := findClass_of_methodNamed B.named
  have hlocks := B.notSynchronized
  have hD := kd_self hD
  generalize kIn (wX aG aM aW aS aI q (uM, uW, sh, im)) = A at hD ⊢
  have hS : va_S A s.heap s.heap [] := va_S.rf
  refine k_entry hargs (Nat.le_of_ble_eq_true rfl) (fun ls hl => ?_)
  have hl : lv_has ls 4 [(0, .ref (aG 0)), (1, .int x1), (2, .int x2)] := hl
  change W p l e rmX6_sheet s m args below meth c s.heap [] 0 0 (MQ below (va_Qi Q (fun u t => kP D q (wX aG aM aW aS aI q u) t) A) args s 0 0 A) _
  unfold wpX6_sheet at hf
  obtain ⟨H, hH⟩ : ∃ H, H = s.heap := ⟨_, rfl⟩
  obtain ⟨locs, hlocs⟩ : ∃ x : List Loc, x = [] := ⟨_, rfl⟩
  rw [← hH] at hP
  have hS : va_S A s.heap H locs := by rw [hH, hlocs]; exact hS
  rw [show W p l e rmX6_sheet s m args below meth c s.heap [] 0 0 (MQ below (va_Qi Q (fun u t => kP D q (wX aG aM aW aS aI q u) t) A) args s 0 0 A) (F0 m 0 ls []) = W p l e rmX6_sheet s m args below meth c H locs 0 0 (MQ below (va_Qi Q (fun u t => kP D q (wX aG aM aW aS aI q u) t) A) args s 0 0 A) (F0 m 0 ls []) by rw [hH, hlocs]]
  clear hH hlocs
  have hP : va_P D vwCl (wZ aG aM aW aS aI q sh im ++ (wW aW aM q uW ++ wM aM q uM)) H := hP
  have hD : va_D A (wZ aG aM aW aS aI q sh im ++ (wW aW aM q uW ++ wM aM q uM)) := hD
  refine lv_aload_n hx hb dX6_sheet_0 rfl (lv_at hl 0 rfl) ?_
  refine lv_iload_n hx hb dX6_sheet_1 rfl (lv_at hl 1 rfl) ?_
  refine k_sq (k_runV (As := [.int x1]) (rest := []) ⟨hx, hb, hml, hown, hts⟩ (c_X6_pageAt l D q aG aM aW aS aI x1) (cwV 1 hts gX6_sheet_X6_pageAt rfl rfl rfl cdX6_pageAt ⟨Nat.le_of_ble_eq_true rfl, Nat.le_of_ble_eq_true rfl⟩) hK (kp_l (kp_l hP)) (kd_l (kd_l hD)) 0 rfl rfl rfl hl.1 rfl (Nat.le_of_ble_eq_true rfl) dX6_sheet_2 ⟨Nat.le_of_ble_eq_true rfl, Nat.le_of_ble_eq_true rfl⟩) (fun r hr => ?_)
  rcases hr with ⟨hc, rfl⟩ | ⟨i, hi, hs, rfl⟩
  · have hf := hf.1 hc
    change W p l e rmX6_sheet s m args below meth c H locs 0 0 _ (F0 m 5 ls (.null :: []))
    refine lv_astore_nN (lv' := [(3, .null), (0, .ref (aG 0)), (1, .int x1), (2, .int x2)]) hx hb dX6_sheet_5 rfl hl (by decide) rfl (fun ls hl => ?_)
    refine lv_aload_nN hx hb dX6_sheet_6 rfl (lv_at hl 0 rfl) ?_
    refine lv_ifnullN (tgt := 20) hx hb dX6_sheet_7 (by decide) ?_
    refine lv_iconst (v := (-1)) hx hb dX6_sheet_20 (by decide) ?_
    exact k_iret_w (wf := (fun u => wX aG aM aW aS aI q u)) (post := Q) (u := (uM, uW, sh, im)) (v := (-1)) hx hb hr hlocks hK hP hD hS hf dX6_sheet_21
  · have hf := hf.2 i hi hs
    have hP := z_osP hi hP
    have hD := z_osD hi hD
    change W p l e rmX6_sheet s m args below meth c H locs 0 0 _ (F0 m 5 ls (.ref ((aS i) 0) :: []))
    refine lv_astore_n (lv' := [(3, .ref ((aS i) 0)), (0, .ref (aG 0)), (1, .int x1), (2, .int x2)]) hx hb dX6_sheet_5 rfl hl (by decide) rfl (fun ls hl => ?_)
    refine lv_aload_n hx hb dX6_sheet_6 rfl (lv_at hl 0 rfl) ?_
    refine lv_ifnull hx hb dX6_sheet_7 ?_
    refine lv_iload_n hx hb dX6_sheet_10 rfl (lv_at hl 3 rfl) ?_
    refine lv_if_lt (tgt := 20) hx hb dX6_sheet_11 (by decide) (fun c1 => ?_) (fun c1 => ?_)
    · have hf := hf.1 (c1)
      refine lv_iconst (v := (-1)) hx hb dX6_sheet_20 (by decide) ?_
      have hP := z_cs0P hi hP
      have hD := z_cs0D hi hD
      exact k_iret_w (wf := (fun u => wX aG aM aW aS aI q u)) (post := Q) (u := (uM, uW, sh, im)) (v := (-1)) hx hb hr hlocks hK hP hD hS hf dX6_sheet_21
    · have hf := hf.2 (c1)
      refine lv_iload_n hx hb dX6_sheet_14 rfl (lv_at hl 3 rfl) ?_
      refine lv_bipush (v := 64) hx hb dX6_sheet_15 (by decide) ?_
      refine lv_icmp_le (tgt := 22) hx hb dX6_sheet_17 (by decide) (fun c2 => ?_) (fun c2 => ?_)
      · have hf := hf.1 (c2)
        refine lv_aload_n hx hb dX6_sheet_22 rfl (lv_at hl 0 rfl) ?_
        refine lv_iload_n hx hb dX6_sheet_23 rfl (lv_at hl 3 rfl) ?_
        refine k_wv (wf := fun u => wS (aS i) q u) (u0 := (sh i)) (k_runV (As := [.int x2]) (rest := []) ⟨hx, hb, hml, hown, hts⟩ (c_X4_layOut l D q (aS i) (sh i) x2 _ hf) (cwV 1 hts gX6_sheet_X4_layOut rfl rfl rfl cdX4_layOut ⟨Nat.le_of_ble_eq_true rfl, Nat.le_of_ble_eq_true rfl⟩) hK (kp_r (kp_r (kp_r hP))) (kd_r (kd_r (kd_r hD))) 0 rfl rfl rfl hl.1 rfl (Nat.le_of_ble_eq_true rfl) dX6_sheet_24 ⟨Nat.le_of_ble_eq_true rfl, Nat.le_of_ble_eq_true rfl⟩) (wY i aG aM aW aS aI q sh im ++ (wW aW aM q uW ++ wM aM q uM)) ([]) (fun _ => rfl) (kp_as (a := wY i aG aM aW aS aI q sh im) (b := wW aW aM q uW ++ wM aM q uM) (c := (wS (aS i) q (sh i)) ++ ([])) hP) (kd_as (a := wY i aG aM aW aS aI q sh im) (b := wW aW aM q uW ++ wM aM q uM) (c := (wS (aS i) q (sh i)) ++ ([])) hD) hS (fun uS3 H locs hf hP hD hS => ?_)
        have hP := kp_sa hP
        have hD := kd_sa hD
        have hP : va_P D vwCl (wY i aG aM aW aS aI q sh im ++ (wW aW aM q uW ++ (wM aM q uM ++ wS (aS i) q uS3))) H := hP
        have hD : va_D A (wY i aG aM aW aS aI q sh im ++ (wW aW aM q uW ++ (wM aM q uM ++ wS (aS i) q uS3))) := hD
        refine lv_iload_n hx hb dX6_sheet_27 rfl (lv_at hl 3 rfl) ?_
        have hP := z_csP hi hP
        have hD := z_csD hi hD
        exact k_iret_w (wf := (fun u => wX aG aM aW aS aI q u)) (post := Q) (u := (uM, uW, (va_up sh i uS3), im)) (v := x2) hx hb hr hlocks hK hP hD hS hf dX6_sheet_28
      · have hf := hf.2 (c2)
        refine lv_iconst (v := (-1)) hx hb dX6_sheet_20 (by decide) ?_
        have hP := z_cs0P hi hP
        have hD := z_cs0D hi hD
        exact k_iret_w (wf := (fun u => wX aG aM aW aS aI q u)) (post := Q) (u := (uM, uW, sh, im)) (v := (-1)) hx hb hr hlocks hK hP hD hS hf dX6_sheet_21
def wpX6_set (uM : MSt) (uW : WSt) (sh : Nat → SSt) (im : Nat → ISt) (x1 : Int32) (x2 : Int32) (x3 : Int32) (Q : Int32 → CSt → Prop) : Prop :=
  (((x1 < 0 ∨ 4 ≤ x1) →
    Q (-1) (uM, uW, sh, im)) ∧
  (∀ i : Nat, i < 4 → x1 = nI i →
    (x3 < 0 →
      Q (-1) (uM, uW, sh, im)) ∧
    (¬ (x3 < 0) →
      (x3 ≤ 65535 →
        ((gS_there (sh i)) = 0 →
          Q (-11) (uM, uW, sh, im)) ∧
        (¬ ((gS_there (sh i)) = 0) →
          ((fX4_hasPlace (sh i) x2) = 0 →
            Q (-12) (uM, uW, sh, im)) ∧
          (¬ ((fX4_hasPlace (sh i) x2) = 0) →
            Q (fX4_signAt (sh i) x2) (uM, uW, (va_up sh i (fX4_write (sh i) x2 x3)), im)))) ∧
      (¬ (x3 ≤ 65535) →
        Q (-1) (uM, uW, sh, im)))))
def rmX6_set : Room := { frames := 2, cells := 0, slots := 0, locals := 44 }
theorem inX6_set_X4 : ∀ w ∈ wsX40, w ∈ wsX6_set := fun w h => List.mem_cons_of_mem _ (List.mem_append_left _ (List.mem_append_right _ h))
set_option maxRecDepth 100000 in
set_option maxHeartbeats 4000000 in
theorem c_X6_set (l : Launch) (D : va_G) (q : Nat → ClassId) (aG aM aW : Nat → Nat) (aS aI : Nat → Nat → Nat) (uM : MSt) (uW : WSt) (sh : Nat → SSt) (im : Nat → ISt) (x1 : Int32) (x2 : Int32) (x3 : Int32) (Q : Int32 → CSt → Prop) (hf : wpX6_set uM uW sh im x1 x2 x3 Q) : Met l yX6_set wsX6_set rmX6_set (va_Pc [.ref (aG 0), .int x1, .int x2, .int x3] (kP D q (wX aG aM aW aS aI q (uM, uW, sh, im)))) (va_Qi Q (fun u t => kP D q (wX aG aM aW aS aI q u) t) (kIn (wX aG aM aW aS aI q (uM, uW, sh, im)))) 0 0 (kIn (wX aG aM aW aS aI q (uM, uW, sh, im))) := by
  refine Met.ofW (cc := cX6_set) (maxL := 6) (ret := (some .int)) (by decide) rfl ?_
  intro p e s m args below meth c s₁ B hml hv
  obtain ⟨hargs, hP, hK, hD⟩ := hv
  have hx := B.exec
  have hb := B.bytes
  have hr := B.returns
  have hts := atoms_spec (ws := wsX6_set) B.pre
  have hown : s.vm.findClass RX6 = some m.cls := findClass_of_methodNamed B.named
  have hlocks := B.notSynchronized
  have hD := kd_self hD
  generalize kIn (wX aG aM aW aS aI q (uM, uW, sh, im)) = A at hD ⊢
  have hS : va_S A s.heap s.heap [] := va_S.rf
  refine k_entry hargs (Nat.le_of_ble_eq_true rfl) (fun ls hl => ?_)
  have hl : lv_has ls 6 [(0, .ref (aG 0)), (1, .int x1), (2, .int x2), (3, .int x3)] := hl
  change W p l e rmX6_set s m args below meth c s.heap [] 0 0 (MQ below (va_Qi Q (fun u t => kP D q (wX aG aM aW aS aI q u) t) A) args s 0 0 A) _
  unfold wpX6_set at hf
  obtain ⟨H, hH⟩ : ∃ H, H = s.heap := ⟨_, rfl⟩
  obtain ⟨locs, hlocs⟩ : ∃ x : List Loc, x = [] := ⟨_, rfl⟩
  rw [← hH] at hP
  have hS : va_S A s.heap H locs := by rw [hH, hlocs]; exact hS
  rw [show W p l e rmX6_set s m args below meth c s.heap [] 0 0 (MQ below (va_Qi Q (fun u t => kP D q (wX aG aM aW aS aI q u) t) A) args s 0 0 A) (F0 m 0 ls []) = W p l e rmX6_set s m args below meth c H locs 0 0 (MQ below (va_Qi Q (fun u t => kP D q (wX aG aM aW aS aI q u) t) A) args s 0 0 A) (F0 m 0 ls []) by rw [hH, hlocs]]
  clear hH hlocs
  have hP : va_P D vwCl (wZ aG aM aW aS aI q sh im ++ (wW aW aM q uW ++ wM aM q uM)) H := hP
  have hD : va_D A (wZ aG aM aW aS aI q sh im ++ (wW aW aM q uW ++ wM aM q uM)) := hD
  refine lv_aload_n hx hb dX6_set_0 rfl (lv_at hl 0 rfl) ?_
  refine lv_iload_n hx hb dX6_set_1 rfl (lv_at hl 1 rfl) ?_
  refine k_sq (k_runV (As := [.int x1]) (rest := []) ⟨hx, hb, hml, hown, hts⟩ (c_X6_pageAt l D q aG aM aW aS aI x1) (cwV 1 hts gX6_set_X6_pageAt rfl rfl rfl cdX6_pageAt ⟨Nat.le_of_ble_eq_true rfl, Nat.le_of_ble_eq_true rfl⟩) hK (kp_l (kp_l hP)) (kd_l (kd_l hD)) 0 rfl rfl rfl hl.1 rfl (Nat.le_of_ble_eq_true rfl) dX6_set_2 ⟨Nat.le_of_ble_eq_true rfl, Nat.le_of_ble_eq_true rfl⟩) (fun r hr => ?_)
  rcases hr with ⟨hc, rfl⟩ | ⟨i, hi, hs, rfl⟩
  · have hf := hf.1 hc
    change W p l e rmX6_set s m args below meth c H locs 0 0 _ (F0 m 5 ls (.null :: []))
    refine lv_astoreN (lv' := [(4, .null), (0, .ref (aG 0)), (1, .int x1), (2, .int x2), (3, .int x3)]) hx hb dX6_set_5 hl (by decide) rfl (fun ls hl => ?_)
    refine lv_aloadN hx hb dX6_set_7 (lv_at hl 0 rfl) ?_
    refine lv_ifnullN (tgt := 22) hx hb dX6_set_9 (by decide) ?_
    refine lv_iconst (v := (-1)) hx hb dX6_set_22 (by decide) ?_
    exact k_iret_w (wf := (fun u => wX aG aM aW aS aI q u)) (post := Q) (u := (uM, uW, sh, im)) (v := (-1)) hx hb hr hlocks hK hP hD hS hf dX6_set_23
  · have hf := hf.2 i hi hs
    have hP := z_osP hi hP
    have hD := z_osD hi hD
    change W p l e rmX6_set s m args below meth c H locs 0 0 _ (F0 m 5 ls (.ref ((aS i) 0) :: []))
    refine lv_astore (lv' := [(4, .ref ((aS i) 0)), (0, .ref (aG 0)), (1, .int x1), (2, .int x2), (3, .int x3)]) hx hb dX6_set_5 hl (by decide) rfl (fun ls hl => ?_)
    refine lv_aload hx hb dX6_set_7 (lv_at hl 0 rfl) ?_
    refine lv_ifnull hx hb dX6_set_9 ?_
    refine lv_iload_n hx hb dX6_set_12 rfl (lv_at hl 4 rfl) ?_
    refine lv_if_lt (tgt := 22) hx hb dX6_set_13 (by decide) (fun c1 => ?_) (fun c1 => ?_)
    · have hf := hf.1 (c1)
      refine lv_iconst (v := (-1)) hx hb dX6_set_22 (by decide) ?_
      have hP := z_cs0P hi hP
      have hD := z_cs0D hi hD
      exact k_iret_w (wf := (fun u => wX aG aM aW aS aI q u)) (post := Q) (u := (uM, uW, sh, im)) (v := (-1)) hx hb hr hlocks hK hP hD hS hf dX6_set_23
    · have hf := hf.2 (c1)
      refine lv_iload_n hx hb dX6_set_16 rfl (lv_at hl 4 rfl) ?_
      refine lv_ldc (v := 65535) hx hb hown (hts (.constant RX6 161 (65535)) (List.mem_of_getElem? (i := 1) rfl)) dX6_set_17 ?_
      refine lv_icmp_le (tgt := 24) hx hb dX6_set_19 (by decide) (fun c2 => ?_) (fun c2 => ?_)
      · have hf := hf.1 (c2)
        refine lv_aload hx hb dX6_set_24 (lv_at hl 0 rfl) ?_
        refine va_get (D := D) (ci := 2) (v := .int (gS_there (sh i))) (C := RX4) (T := TX4) (N := 3) hx hb hts inX6_set_X4 hown hK (kp_r (kp_r (kp_r hP))) 0 rfl rfl 1 (by decide) (hts (.fieldLink RX6 64 "GrowingText$Sheet" "there" "Z") (List.mem_of_getElem? (i := 2) rfl)) (fun _ h9 => h9) rfl dX6_set_26 ?_
        refine lv_if_ne (tgt := 35) hx hb dX6_set_29 (by decide) (fun c3 => ?_) (fun c3 => ?_)
        · have hf := hf.2 (c3)
          refine lv_aload hx hb dX6_set_35 (lv_at hl 0 rfl) ?_
          refine lv_iload_n hx hb dX6_set_37 rfl (lv_at hl 3 rfl) ?_
          refine k_si (k_runV (As := [.int x2]) (rest := []) ⟨hx, hb, hml, hown, hts⟩ (cF_X4_hasPlace l D q (aS i) (sh i) x2) (cwV 1 hts gX6_set_X4_hasPlace rfl rfl rfl cdX4_hasPlace ⟨Nat.le_of_ble_eq_true rfl, Nat.le_of_ble_eq_true rfl⟩) hK (kp_r (kp_r (kp_r hP))) (kd_r (kd_r (kd_r hD))) 0 rfl rfl rfl hl.1 rfl (Nat.le_of_ble_eq_true rfl) dX6_set_38 ⟨Nat.le_of_ble_eq_true rfl, Nat.le_of_ble_eq_true rfl⟩) (fun r hr => ?_)
          subst hr
          refine lv_if_ne (tgt := 47) hx hb dX6_set_41 (by decide) (fun c4 => ?_) (fun c4 => ?_)
          · have hf := hf.2 (c4)
            refine lv_aload hx hb dX6_set_47 (lv_at hl 0 rfl) ?_
            refine lv_iload_n hx hb dX6_set_49 rfl (lv_at hl 3 rfl) ?_
            refine k_si (k_runV (As := [.int x2]) (rest := []) ⟨hx, hb, hml, hown, hts⟩ (cF_X4_signAt l D q (aS i) (sh i) x2) (cwV 1 hts gX6_set_X4_signAt rfl rfl rfl cdX4_signAt ⟨Nat.le_of_ble_eq_true rfl, Nat.le_of_ble_eq_true rfl⟩) hK (kp_r (kp_r (kp_r hP))) (kd_r (kd_r (kd_r hD))) 0 rfl rfl rfl hl.1 rfl (Nat.le_of_ble_eq_true rfl) dX6_set_50 ⟨Nat.le_of_ble_eq_true rfl, Nat.le_of_ble_eq_true rfl⟩) (fun r hr => ?_)
            subst hr
            refine lv_istore (lv' := [(5, .int (fX4_signAt (sh i) x2)), (4, .ref ((aS i) 0)), (0, .ref (aG 0)), (1, .int x1), (2, .int x2), (3, .int x3)]) hx hb dX6_set_53 hl (by decide) rfl (fun ls hl => ?_)
            refine lv_aload hx hb dX6_set_55 (lv_at hl 1 rfl) ?_
            refine lv_iload_n hx hb dX6_set_57 rfl (lv_at hl 4 rfl) ?_
            refine lv_iload_n hx hb dX6_set_58 rfl (lv_at hl 5 rfl) ?_
            refine k_wv (wf := fun u => wS (aS i) q u) (u0 := (sh i)) (k_runV (As := [.int x2, .int x3]) (rest := []) ⟨hx, hb, hml, hown, hts⟩ (cF_X4_write l D q (aS i) (sh i) x2 x3) (cwV 2 hts gX6_set_X4_write rfl rfl rfl cdX4_write ⟨Nat.le_of_ble_eq_true rfl, Nat.le_of_ble_eq_true rfl⟩) hK (kp_r (kp_r (kp_r hP))) (kd_r (kd_r (kd_r hD))) 0 rfl rfl rfl hl.1 rfl (Nat.le_of_ble_eq_true rfl) dX6_set_59 ⟨Nat.le_of_ble_eq_true rfl, Nat.le_of_ble_eq_true rfl⟩) (wY i aG aM aW aS aI q sh im ++ (wW aW aM q uW ++ wM aM q uM)) ([]) (fun _ => rfl) (kp_as (a := wY i aG aM aW aS aI q sh im) (b := wW aW aM q uW ++ wM aM q uM) (c := (wS (aS i) q (sh i)) ++ ([])) hP) (kd_as (a := wY i aG aM aW aS aI q sh im) (b := wW aW aM q uW ++ wM aM q uM) (c := (wS (aS i) q (sh i)) ++ ([])) hD) hS (fun u H locs hu hP hD hS => ?_)
            subst hu
            have hP := kp_sa hP
            have hD := kd_sa hD
            have hP : va_P D vwCl (wY i aG aM aW aS aI q sh im ++ (wW aW aM q uW ++ (wM aM q uM ++ wS (aS i) q (fX4_write (sh i) x2 x3)))) H := hP
            have hD : va_D A (wY i aG aM aW aS aI q sh im ++ (wW aW aM q uW ++ (wM aM q uM ++ wS (aS i) q (fX4_write (sh i) x2 x3)))) := hD
            refine lv_iload hx hb dX6_set_62 (lv_at hl 0 rfl) ?_
            have hP := z_csP hi hP
            have hD := z_csD hi hD
            exact k_iret_w (wf := (fun u => wX aG aM aW aS aI q u)) (post := Q) (u := (uM, uW, (va_up sh i (fX4_write (sh i) x2 x3)), im)) (v := (fX4_signAt (sh i) x2)) hx hb hr hlocks hK hP hD hS hf dX6_set_64
          · have hf := hf.1 (c4)
            refine lv_bipush (v := (-12)) hx hb dX6_set_44 (by decide) ?_
            have hP := z_cs0P hi hP
            have hD := z_cs0D hi hD
            exact k_iret_w (wf := (fun u => wX aG aM aW aS aI q u)) (post := Q) (u := (uM, uW, sh, im)) (v := (-12)) hx hb hr hlocks hK hP hD hS hf dX6_set_46
        · have hf := hf.1 (c3)
          refine lv_bipush (v := (-11)) hx hb dX6_set_32 (by decide) ?_
          have hP := z_cs0P hi hP
          have hD := z_cs0D hi hD
          exact k_iret_w (wf := (fun u => wX aG aM aW aS aI q u)) (post := Q) (u := (uM, uW, sh, im)) (v := (-11)) hx hb hr hlocks hK hP hD hS hf dX6_set_34
      · have hf := hf.2 (c2)
        refine lv_iconst (v := (-1)) hx hb dX6_set_22 (by decide) ?_
        have hP := z_cs0P hi hP
        have hD := z_cs0D hi hD
        exact k_iret_w (wf := (fun u => wX aG aM aW aS aI q u)) (post := Q) (u := (uM, uW, sh, im)) (v := (-1)) hx hb hr hlocks hK hP hD hS hf dX6_set_23
def wpX6_get (uM : MSt) (uW : WSt) (sh : Nat → SSt) (im : Nat → ISt) (x1 : Int32) (x2 : Int32) (Q : Int32 → CSt → Prop) : Prop :=
  (((x1 < 0 ∨ 4 ≤ x1) →
    Q (-1) (uM, uW, sh, im)) ∧
  (∀ i : Nat, i < 4 → x1 = nI i →
    ((gS_there (sh i)) = 0 →
      Q (-11) (uM, uW, sh, im)) ∧
    (¬ ((gS_there (sh i)) = 0) →
      ((fX4_hasPlace (sh i) x2) = 0 →
        Q (-12) (uM, uW, sh, im)) ∧
      (¬ ((fX4_hasPlace (sh i) x2) = 0) →
        Q (fX4_signAt (sh i) x2) (uM, uW, sh, im)))))
def rmX6_get : Room := { frames := 2, cells := 0, slots := 0, locals := 42 }
theorem inX6_get_X4 : ∀ w ∈ wsX40, w ∈ wsX6_get := fun w h => List.mem_cons_of_mem _ (List.mem_append_left _ (List.mem_append_right _ h))
set_option maxRecDepth 100000 in
set_option maxHeartbeats 4000000 in
theorem c_X6_get (l : Launch) (D : va_G) (q : Nat → ClassId) (aG aM aW : Nat → Nat) (aS aI : Nat → Nat → Nat) (uM : MSt) (uW : WSt) (sh : Nat → SSt) (im : Nat → ISt) (x1 : Int32) (x2 : Int32) (Q : Int32 → CSt → Prop) (hf : wpX6_get uM uW sh im x1 x2 Q) : Met l yX6_get wsX6_get rmX6_get (va_Pc [.ref (aG 0), .int x1, .int x2] (kP D q (wX aG aM aW aS aI q (uM, uW, sh, im)))) (va_Qi Q (fun u t => kP D q (wX aG aM aW aS aI q u) t) (kIn (wX aG aM aW aS aI q (uM, uW, sh, im)))) 0 0 (kIn (wX aG aM aW aS aI q (uM, uW, sh, im))) := by
  refine Met.ofW (cc := cX6_get) (maxL := 4) (ret := (some .int)) (by decide) rfl ?_
  intro p e s m args below meth c s₁ B hml hv
  obtain ⟨hargs, hP, hK, hD⟩ := hv
  have hx := B.exec
  have hb := B.bytes
  have hr := B.returns
  have hts := atoms_spec (ws := wsX6_get) B.pre
  have hown : s.vm.findClass RX6 = some m.cls := findClass_of_methodNamed B.named
  have hlocks := B.notSynchronized
  have hD := kd_self hD
  generalize kIn (wX aG aM aW aS aI q (uM, uW, sh, im)) = A at hD ⊢
  have hS : va_S A s.heap s.heap [] := va_S.rf
  refine k_entry hargs (Nat.le_of_ble_eq_true rfl) (fun ls hl => ?_)
  have hl : lv_has ls 4 [(0, .ref (aG 0)), (1, .int x1), (2, .int x2)] := hl
  change W p l e rmX6_get s m args below meth c s.heap [] 0 0 (MQ below (va_Qi Q (fun u t => kP D q (wX aG aM aW aS aI q u) t) A) args s 0 0 A) _
  unfold wpX6_get at hf
  obtain ⟨H, hH⟩ : ∃ H, H = s.heap := ⟨_, rfl⟩
  obtain ⟨locs, hlocs⟩ : ∃ x : List Loc, x = [] := ⟨_, rfl⟩
  rw [← hH] at hP
  have hS : va_S A s.heap H locs := by rw [hH, hlocs]; exact hS
  rw [show W p l e rmX6_get s m args below meth c s.heap [] 0 0 (MQ below (va_Qi Q (fun u t => kP D q (wX aG aM aW aS aI q u) t) A) args s 0 0 A) (F0 m 0 ls []) = W p l e rmX6_get s m args below meth c H locs 0 0 (MQ below (va_Qi Q (fun u t => kP D q (wX aG aM aW aS aI q u) t) A) args s 0 0 A) (F0 m 0 ls []) by rw [hH, hlocs]]
  clear hH hlocs
  have hP : va_P D vwCl (wZ aG aM aW aS aI q sh im ++ (wW aW aM q uW ++ wM aM q uM)) H := hP
  have hD : va_D A (wZ aG aM aW aS aI q sh im ++ (wW aW aM q uW ++ wM aM q uM)) := hD
  refine lv_aload_n hx hb dX6_get_0 rfl (lv_at hl 0 rfl) ?_
  refine lv_iload_n hx hb dX6_get_1 rfl (lv_at hl 1 rfl) ?_
  refine k_sq (k_runV (As := [.int x1]) (rest := []) ⟨hx, hb, hml, hown, hts⟩ (c_X6_pageAt l D q aG aM aW aS aI x1) (cwV 1 hts gX6_get_X6_pageAt rfl rfl rfl cdX6_pageAt ⟨Nat.le_of_ble_eq_true rfl, Nat.le_of_ble_eq_true rfl⟩) hK (kp_l (kp_l hP)) (kd_l (kd_l hD)) 0 rfl rfl rfl hl.1 rfl (Nat.le_of_ble_eq_true rfl) dX6_get_2 ⟨Nat.le_of_ble_eq_true rfl, Nat.le_of_ble_eq_true rfl⟩) (fun r hr => ?_)
  rcases hr with ⟨hc, rfl⟩ | ⟨i, hi, hs, rfl⟩
  · have hf := hf.1 hc
    change W p l e rmX6_get s m args below meth c H locs 0 0 _ (F0 m 5 ls (.null :: []))
    refine lv_astore_nN (lv' := [(3, .null), (0, .ref (aG 0)), (1, .int x1), (2, .int x2)]) hx hb dX6_get_5 rfl hl (by decide) rfl (fun ls hl => ?_)
    refine lv_aload_nN hx hb dX6_get_6 rfl (lv_at hl 0 rfl) ?_
    refine lv_ifnonnullN hx hb dX6_get_7 ?_
    refine lv_iconst (v := (-1)) hx hb dX6_get_10 (by decide) ?_
    exact k_iret_w (wf := (fun u => wX aG aM aW aS aI q u)) (post := Q) (u := (uM, uW, sh, im)) (v := (-1)) hx hb hr hlocks hK hP hD hS hf dX6_get_11
  · have hf := hf.2 i hi hs
    have hP := z_osP hi hP
    have hD := z_osD hi hD
    change W p l e rmX6_get s m args below meth c H locs 0 0 _ (F0 m 5 ls (.ref ((aS i) 0) :: []))
    refine lv_astore_n (lv' := [(3, .ref ((aS i) 0)), (0, .ref (aG 0)), (1, .int x1), (2, .int x2)]) hx hb dX6_get_5 rfl hl (by decide) rfl (fun ls hl => ?_)
    refine lv_aload_n hx hb dX6_get_6 rfl (lv_at hl 0 rfl) ?_
    refine lv_ifnonnull (tgt := 12) hx hb dX6_get_7 (by decide) ?_
    refine lv_aload_n hx hb dX6_get_12 rfl (lv_at hl 0 rfl) ?_
    refine va_get (D := D) (ci := 2) (v := .int (gS_there (sh i))) (C := RX4) (T := TX4) (N := 3) hx hb hts inX6_get_X4 hown hK (kp_r (kp_r (kp_r hP))) 0 rfl rfl 1 (by decide) (hts (.fieldLink RX6 64 "GrowingText$Sheet" "there" "Z") (List.mem_of_getElem? (i := 1) rfl)) (fun _ h9 => h9) rfl dX6_get_13 ?_
    refine lv_if_ne (tgt := 22) hx hb dX6_get_16 (by decide) (fun c1 => ?_) (fun c1 => ?_)
    · have hf := hf.2 (c1)
      refine lv_aload_n hx hb dX6_get_22 rfl (lv_at hl 0 rfl) ?_
      refine lv_iload_n hx hb dX6_get_23 rfl (lv_at hl 3 rfl) ?_
      refine k_si (k_runV (As := [.int x2]) (rest := []) ⟨hx, hb, hml, hown, hts⟩ (cF_X4_hasPlace l D q (aS i) (sh i) x2) (cwV 1 hts gX6_get_X4_hasPlace rfl rfl rfl cdX4_hasPlace ⟨Nat.le_of_ble_eq_true rfl, Nat.le_of_ble_eq_true rfl⟩) hK (kp_r (kp_r (kp_r hP))) (kd_r (kd_r (kd_r hD))) 0 rfl rfl rfl hl.1 rfl (Nat.le_of_ble_eq_true rfl) dX6_get_24 ⟨Nat.le_of_ble_eq_true rfl, Nat.le_of_ble_eq_true rfl⟩) (fun r hr => ?_)
      subst hr
      refine lv_if_eq (tgt := 38) hx hb dX6_get_27 (by decide) (fun c2 => ?_) (fun c2 => ?_)
      · have hf := hf.1 (c2)
        refine lv_bipush (v := (-12)) hx hb dX6_get_38 (by decide) ?_
        have hP := z_cs0P hi hP
        have hD := z_cs0D hi hD
        exact k_iret_w (wf := (fun u => wX aG aM aW aS aI q u)) (post := Q) (u := (uM, uW, sh, im)) (v := (-12)) hx hb hr hlocks hK hP hD hS hf dX6_get_40
      · have hf := hf.2 (c2)
        refine lv_aload_n hx hb dX6_get_30 rfl (lv_at hl 0 rfl) ?_
        refine lv_iload_n hx hb dX6_get_31 rfl (lv_at hl 3 rfl) ?_
        refine k_si (k_runV (As := [.int x2]) (rest := []) ⟨hx, hb, hml, hown, hts⟩ (cF_X4_signAt l D q (aS i) (sh i) x2) (cwV 1 hts gX6_get_X4_signAt rfl rfl rfl cdX4_signAt ⟨Nat.le_of_ble_eq_true rfl, Nat.le_of_ble_eq_true rfl⟩) hK (kp_r (kp_r (kp_r hP))) (kd_r (kd_r (kd_r hD))) 0 rfl rfl rfl hl.1 rfl (Nat.le_of_ble_eq_true rfl) dX6_get_32 ⟨Nat.le_of_ble_eq_true rfl, Nat.le_of_ble_eq_true rfl⟩) (fun r hr => ?_)
        subst hr
        refine lv_goto (tgt := 40) hx hb dX6_get_35 (by decide) ?_
        have hP := z_cs0P hi hP
        have hD := z_cs0D hi hD
        exact k_iret_w (wf := (fun u => wX aG aM aW aS aI q u)) (post := Q) (u := (uM, uW, sh, im)) (v := (fX4_signAt (sh i) x2)) hx hb hr hlocks hK hP hD hS hf dX6_get_40
    · have hf := hf.1 (c1)
      refine lv_bipush (v := (-11)) hx hb dX6_get_19 (by decide) ?_
      have hP := z_cs0P hi hP
      have hD := z_cs0D hi hD
      exact k_iret_w (wf := (fun u => wX aG aM aW aS aI q u)) (post := Q) (u := (uM, uW, sh, im)) (v := (-11)) hx hb hr hlocks hK hP hD hS hf dX6_get_21
def wpX6_size (uM : MSt) (uW : WSt) (sh : Nat → SSt) (im : Nat → ISt) (x1 : Int32) (Q : Int32 → CSt → Prop) : Prop :=
  (((x1 < 0 ∨ 4 ≤ x1) →
    Q (-1) (uM, uW, sh, im)) ∧
  (∀ i : Nat, i < 4 → x1 = nI i →
    ((gS_there (sh i)) = 0 →
      Q (-11) (uM, uW, sh, im)) ∧
    (¬ ((gS_there (sh i)) = 0) →
      Q (gS_length (sh i)) (uM, uW, sh, im))))
def rmX6_size : Room := { frames := 1, cells := 0, slots := 0, locals := 21 }
theorem inX6_size_X4 : ∀ w ∈ wsX40, w ∈ wsX6_size := fun w h => List.mem_cons_of_mem _ (List.mem_append_left _ (List.mem_append_right _ h))
set_option maxRecDepth 100000 in
set_option maxHeartbeats 4000000 in
theorem c_X6_size (l : Launch) (D : va_G) (q : Nat → ClassId) (aG aM aW : Nat → Nat) (aS aI : Nat → Nat → Nat) (uM : MSt) (uW : WSt) (sh : Nat → SSt) (im : Nat → ISt) (x1 : Int32) (Q : Int32 → CSt → Prop) (hf : wpX6_size uM uW sh im x1 Q) : Met l yX6_size wsX6_size rmX6_size (va_Pc [.ref (aG 0), .int x1] (kP D q (wX aG aM aW aS aI q (uM, uW, sh, im)))) (va_Qi Q (fun u t => kP D q (wX aG aM aW aS aI q u) t) (kIn (wX aG aM aW aS aI q (uM, uW, sh, im)))) 0 0 (kIn (wX aG aM aW aS aI q (uM, uW, sh, im))) := by
  refine Met.ofW (cc := cX6_size) (maxL := 3) (ret := (some .int)) (by decide) rfl ?_
  intro p e s m args below meth c s₁ B hml hv
  obtain ⟨hargs, hP, hK, hD⟩ := hv
  have hx := B.exec
  have hb := B.bytes
  have hr := B.returns
  have hts := atoms_spec (ws := wsX6_size) B.pre
  have hown : s.vm.findClass RX6 = some m.cls := findClass_of_methodNamed B.named
  have hlocks := B.notSynchronized
  have hD := kd_self hD
  generalize kIn (wX aG aM aW aS aI q (uM, uW, sh, im)) = A at hD ⊢
  have hS : va_S A s.heap s.heap [] := va_S.rf
  refine k_entry hargs (Nat.le_of_ble_eq_true rfl) (fun ls hl => ?_)
  have hl : lv_has ls 3 [(0, .ref (aG 0)), (1, .int x1)] := hl
  change W p l e rmX6_size s m args below meth c s.heap [] 0 0 (MQ below (va_Qi Q (fun u t => kP D q (wX aG aM aW aS aI q u) t) A) args s 0 0 A) _
  unfold wpX6_size at hf
  obtain ⟨H, hH⟩ : ∃ H, H = s.heap := ⟨_, rfl⟩
  obtain ⟨locs, hlocs⟩ : ∃ x : List Loc, x = [] := ⟨_, rfl⟩
  rw [← hH] at hP
  have hS : va_S A s.heap H locs := by rw [hH, hlocs]; exact hS
  rw [show W p l e rmX6_size s m args below meth c s.heap [] 0 0 (MQ below (va_Qi Q (fun u t => kP D q (wX aG aM aW aS aI q u) t) A) args s 0 0 A) (F0 m 0 ls []) = W p l e rmX6_size s m args below meth c H locs 0 0 (MQ below (va_Qi Q (fun u t => kP D q (wX aG aM aW aS aI q u) t) A) args s 0 0 A) (F0 m 0 ls []) by rw [hH, hlocs]]
  clear hH hlocs
  have hP : va_P D vwCl (wZ aG aM aW aS aI q sh im ++ (wW aW aM q uW ++ wM aM q uM)) H := hP
  have hD : va_D A (wZ aG aM aW aS aI q sh im ++ (wW aW aM q uW ++ wM aM q uM)) := hD
  refine lv_aload_n hx hb dX6_size_0 rfl (lv_at hl 0 rfl) ?_
  refine lv_iload_n hx hb dX6_size_1 rfl (lv_at hl 1 rfl) ?_
  refine k_sq (k_runV (As := [.int x1]) (rest := []) ⟨hx, hb, hml, hown, hts⟩ (c_X6_pageAt l D q aG aM aW aS aI x1) (cwV 1 hts gX6_size_X6_pageAt rfl rfl rfl cdX6_pageAt ⟨Nat.le_of_ble_eq_true rfl, Nat.le_of_ble_eq_true rfl⟩) hK (kp_l (kp_l hP)) (kd_l (kd_l hD)) 0 rfl rfl rfl hl.1 rfl (Nat.le_of_ble_eq_true rfl) dX6_size_2 ⟨Nat.le_of_ble_eq_true rfl, Nat.le_of_ble_eq_true rfl⟩) (fun r hr => ?_)
  rcases hr with ⟨hc, rfl⟩ | ⟨i, hi, hs, rfl⟩
  · have hf := hf.1 hc
    change W p l e rmX6_size s m args below meth c H locs 0 0 _ (F0 m 5 ls (.null :: []))
    refine lv_astore_nN (lv' := [(2, .null), (0, .ref (aG 0)), (1, .int x1)]) hx hb dX6_size_5 rfl hl (by decide) rfl (fun ls hl => ?_)
    refine lv_aload_nN hx hb dX6_size_6 rfl (lv_at hl 0 rfl) ?_
    refine lv_ifnonnullN hx hb dX6_size_7 ?_
    refine lv_iconst (v := (-1)) hx hb dX6_size_10 (by decide) ?_
    exact k_iret_w (wf := (fun u => wX aG aM aW aS aI q u)) (post := Q) (u := (uM, uW, sh, im)) (v := (-1)) hx hb hr hlocks hK hP hD hS hf dX6_size_11
  · have hf := hf.2 i hi hs
    have hP := z_osP hi hP
    have hD := z_osD hi hD
    change W p l e rmX6_size s m args below meth c H locs 0 0 _ (F0 m 5 ls (.ref ((aS i) 0) :: []))
    refine lv_astore_n (lv' := [(2, .ref ((aS i) 0)), (0, .ref (aG 0)), (1, .int x1)]) hx hb dX6_size_5 rfl hl (by decide) rfl (fun ls hl => ?_)
    refine lv_aload_n hx hb dX6_size_6 rfl (lv_at hl 0 rfl) ?_
    refine lv_ifnonnull (tgt := 12) hx hb dX6_size_7 (by decide) ?_
    refine lv_aload_n hx hb dX6_size_12 rfl (lv_at hl 0 rfl) ?_
    refine va_get (D := D) (ci := 2) (v := .int (gS_there (sh i))) (C := RX4) (T := TX4) (N := 3) hx hb hts inX6_size_X4 hown hK (kp_r (kp_r (kp_r hP))) 0 rfl rfl 1 (by decide) (hts (.fieldLink RX6 64 "GrowingText$Sheet" "there" "Z") (List.mem_of_getElem? (i := 1) rfl)) (fun _ h9 => h9) rfl dX6_size_13 ?_
    refine lv_if_eq (tgt := 26) hx hb dX6_size_16 (by decide) (fun c1 => ?_) (fun c1 => ?_)
    · have hf := hf.1 (c1)
      refine lv_bipush (v := (-11)) hx hb dX6_size_26 (by decide) ?_
      have hP := z_cs0P hi hP
      have hD := z_cs0D hi hD
      exact k_iret_w (wf := (fun u => wX aG aM aW aS aI q u)) (post := Q) (u := (uM, uW, sh, im)) (v := (-11)) hx hb hr hlocks hK hP hD hS hf dX6_size_28
    · have hf := hf.2 (c1)
      refine lv_aload_n hx hb dX6_size_19 rfl (lv_at hl 0 rfl) ?_
      refine va_get (D := D) (ci := 2) (v := .int (gS_length (sh i))) (C := RX4) (T := TX4) (N := 3) hx hb hts inX6_size_X4 hown hK (kp_r (kp_r (kp_r hP))) 0 rfl rfl 2 (by decide) (hts (.fieldLink RX6 72 "GrowingText$Sheet" "length" "I") (List.mem_of_getElem? (i := 2) rfl)) (fun _ h9 => h9) rfl dX6_size_20 ?_
      refine lv_goto (tgt := 28) hx hb dX6_size_23 (by decide) ?_
      have hP := z_cs0P hi hP
      have hD := z_cs0D hi hD
      exact k_iret_w (wf := (fun u => wX aG aM aW aS aI q u)) (post := Q) (u := (uM, uW, sh, im)) (v := (gS_length (sh i))) hx hb hr hlocks hK hP hD hS hf dX6_size_28
def wpX6_drop (uM : MSt) (uW : WSt) (sh : Nat → SSt) (im : Nat → ISt) (x1 : Int32) (Q : Int32 → CSt → Prop) : Prop :=
  (((x1 < 0 ∨ 4 ≤ x1) →
    Q (-1) (uM, uW, sh, im)) ∧
  (∀ i : Nat, i < 4 → x1 = nI i →
    ((gS_there (sh i)) = 0 →
      Q (-11) (uM, uW, sh, im)) ∧
    (¬ ((gS_there (sh i)) = 0) →
      Q (gS_length (sh i)) (uM, uW, (va_up sh i (fX4_takeAway (sh i))), im))))
def rmX6_drop : Room := { frames := 1, cells := 0, slots := 0, locals := 21 }
theorem inX6_drop_X4 : ∀ w ∈ wsX40, w ∈ wsX6_drop := fun w h => List.mem_cons_of_mem _ (List.mem_append_left _ (List.mem_append_right _ h))
set_option maxRecDepth 100000 in
set_option maxHeartbeats 4000000 in
theorem c_X6_drop (l : Launch) (D : va_G) (q : Nat → ClassId) (aG aM aW : Nat → Nat) (aS aI : Nat → Nat → Nat) (uM : MSt) (uW : WSt) (sh : Nat → SSt) (im : Nat → ISt) (x1 : Int32) (Q : Int32 → CSt → Prop) (hf : wpX6_drop uM uW sh im x1 Q) : Met l yX6_drop wsX6_drop rmX6_drop (va_Pc [.ref (aG 0), .int x1] (kP D q (wX aG aM aW aS aI q (uM, uW, sh, im)))) (va_Qi Q (fun u t => kP D q (wX aG aM aW aS aI q u) t) (kIn (wX aG aM aW aS aI q (uM, uW, sh, im)))) 0 0 (kIn (wX aG aM aW aS aI q (uM, uW, sh, im))) := by
  refine Met.ofW (cc := cX6_drop) (maxL := 4) (ret := (some .int)) (by decide) rfl ?_
  intro p e s m args below meth c s₁ B hml hv
  obtain ⟨hargs, hP, hK, hD⟩ := hv
  have hx := B.exec
  have hb := B.bytes
  have hr := B.returns
  have hts := atoms_spec (ws := wsX6_drop) B.pre
  have hown : s.vm.findClass RX6 = some m.cls := findClass_of_methodNamed B.named
  have hlocks := B.notSynchronized
  have hD := kd_self hD
  generalize kIn (wX aG aM aW aS aI q (uM, uW, sh, im)) = A at hD ⊢
  have hS : va_S A s.heap s.heap [] := va_S.rf
  refine k_entry hargs (Nat.le_of_ble_eq_true rfl) (fun ls hl => ?_)
  have hl : lv_has ls 4 [(0, .ref (aG 0)), (1, .int x1)] := hl
  change W p l e rmX6_drop s m args below meth c s.heap [] 0 0 (MQ below (va_Qi Q (fun u t => kP D q (wX aG aM aW aS aI q u) t) A) args s 0 0 A) _
  unfold wpX6_drop at hf
  obtain ⟨H, hH⟩ : ∃ H, H = s.heap := ⟨_, rfl⟩
  obtain ⟨locs, hlocs⟩ : ∃ x : List Loc, x = [] := ⟨_, rfl⟩
  rw [← hH] at hP
  have hS : va_S A s.heap H locs := by rw [hH, hlocs]; exact hS
  rw [show W p l e rmX6_drop s m args below meth c s.heap [] 0 0 (MQ below (va_Qi Q (fun u t => kP D q (wX aG aM aW aS aI q u) t) A) args s 0 0 A) (F0 m 0 ls []) = W p l e rmX6_drop s m args below meth c H locs 0 0 (MQ below (va_Qi Q (fun u t => kP D q (wX aG aM aW aS aI q u) t) A) args s 0 0 A) (F0 m 0 ls []) by rw [hH, hlocs]]
  clear hH hlocs
  have hP : va_P D vwCl (wZ aG aM aW aS aI q sh im ++ (wW aW aM q uW ++ wM aM q uM)) H := hP
  have hD : va_D A (wZ aG aM aW aS aI q sh im ++ (wW aW aM q uW ++ wM aM q uM)) := hD
  refine lv_aload_n hx hb dX6_drop_0 rfl (lv_at hl 0 rfl) ?_
  refine lv_iload_n hx hb dX6_drop_1 rfl (lv_at hl 1 rfl) ?_
  refine k_sq (k_runV (As := [.int x1]) (rest := []) ⟨hx, hb, hml, hown, hts⟩ (c_X6_pageAt l D q aG aM aW aS aI x1) (cwV 1 hts gX6_drop_X6_pageAt rfl rfl rfl cdX6_pageAt ⟨Nat.le_of_ble_eq_true rfl, Nat.le_of_ble_eq_true rfl⟩) hK (kp_l (kp_l hP)) (kd_l (kd_l hD)) 0 rfl rfl rfl hl.1 rfl (Nat.le_of_ble_eq_true rfl) dX6_drop_2 ⟨Nat.le_of_ble_eq_true rfl, Nat.le_of_ble_eq_true rfl⟩) (fun r hr => ?_)
  rcases hr with ⟨hc, rfl⟩ | ⟨i, hi, hs, rfl⟩
  · have hf := hf.1 hc
    change W p l e rmX6_drop s m args below meth c H locs 0 0 _ (F0 m 5 ls (.null :: []))
    refine lv_astore_nN (lv' := [(2, .null), (0, .ref (aG 0)), (1, .int x1)]) hx hb dX6_drop_5 rfl hl (by decide) rfl (fun ls hl => ?_)
    refine lv_aload_nN hx hb dX6_drop_6 rfl (lv_at hl 0 rfl) ?_
    refine lv_ifnonnullN hx hb dX6_drop_7 ?_
    refine lv_iconst (v := (-1)) hx hb dX6_drop_10 (by decide) ?_
    exact k_iret_w (wf := (fun u => wX aG aM aW aS aI q u)) (post := Q) (u := (uM, uW, sh, im)) (v := (-1)) hx hb hr hlocks hK hP hD hS hf dX6_drop_11
  · have hf := hf.2 i hi hs
    have hP := z_osP hi hP
    have hD := z_osD hi hD
    change W p l e rmX6_drop s m args below meth c H locs 0 0 _ (F0 m 5 ls (.ref ((aS i) 0) :: []))
    refine lv_astore_n (lv' := [(2, .ref ((aS i) 0)), (0, .ref (aG 0)), (1, .int x1)]) hx hb dX6_drop_5 rfl hl (by decide) rfl (fun ls hl => ?_)
    refine lv_aload_n hx hb dX6_drop_6 rfl (lv_at hl 0 rfl) ?_
    refine lv_ifnonnull (tgt := 12) hx hb dX6_drop_7 (by decide) ?_
    refine lv_aload_n hx hb dX6_drop_12 rfl (lv_at hl 0 rfl) ?_
    refine va_get (D := D) (ci := 2) (v := .int (gS_there (sh i))) (C := RX4) (T := TX4) (N := 3) hx hb hts inX6_drop_X4 hown hK (kp_r (kp_r (kp_r hP))) 0 rfl rfl 1 (by decide) (hts (.fieldLink RX6 64 "GrowingText$Sheet" "there" "Z") (List.mem_of_getElem? (i := 1) rfl)) (fun _ h9 => h9) rfl dX6_drop_13 ?_
    refine lv_if_ne (tgt := 22) hx hb dX6_drop_16 (by decide) (fun c1 => ?_) (fun c1 => ?_)
    · have hf := hf.2 (c1)
      refine lv_aload_n hx hb dX6_drop_22 rfl (lv_at hl 0 rfl) ?_
      refine va_get (D := D) (ci := 2) (v := .int (gS_length (sh i))) (C := RX4) (T := TX4) (N := 3) hx hb hts inX6_drop_X4 hown hK (kp_r (kp_r (kp_r hP))) 0 rfl rfl 2 (by decide) (hts (.fieldLink RX6 72 "GrowingText$Sheet" "length" "I") (List.mem_of_getElem? (i := 2) rfl)) (fun _ h9 => h9) rfl dX6_drop_23 ?_
      refine lv_istore_n (lv' := [(3, .int (gS_length (sh i))), (2, .ref ((aS i) 0)), (0, .ref (aG 0)), (1, .int x1)]) hx hb dX6_drop_26 rfl hl (by decide) rfl (fun ls hl => ?_)
      refine lv_aload_n hx hb dX6_drop_27 rfl (lv_at hl 1 rfl) ?_
      refine k_wv (wf := fun u => wS (aS i) q u) (u0 := (sh i)) (k_runV (As := []) (rest := []) ⟨hx, hb, hml, hown, hts⟩ (cF_X4_takeAway l D q (aS i) (sh i)) (cwV 0 hts gX6_drop_X4_takeAway rfl rfl rfl cdX4_takeAway ⟨Nat.le_of_ble_eq_true rfl, Nat.le_of_ble_eq_true rfl⟩) hK (kp_r (kp_r (kp_r hP))) (kd_r (kd_r (kd_r hD))) 0 rfl rfl rfl hl.1 rfl (Nat.le_of_ble_eq_true rfl) dX6_drop_28 ⟨Nat.le_of_ble_eq_true rfl, Nat.le_of_ble_eq_true rfl⟩) (wY i aG aM aW aS aI q sh im ++ (wW aW aM q uW ++ wM aM q uM)) ([]) (fun _ => rfl) (kp_as (a := wY i aG aM aW aS aI q sh im) (b := wW aW aM q uW ++ wM aM q uM) (c := (wS (aS i) q (sh i)) ++ ([])) hP) (kd_as (a := wY i aG aM aW aS aI q sh im) (b := wW aW aM q uW ++ wM aM q uM) (c := (wS (aS i) q (sh i)) ++ ([])) hD) hS (fun u H locs hu hP hD hS => ?_)
      subst hu
      have hP := kp_sa hP
      have hD := kd_sa hD
      have hP : va_P D vwCl (wY i aG aM aW aS aI q sh im ++ (wW aW aM q uW ++ (wM aM q uM ++ wS (aS i) q (fX4_takeAway (sh i))))) H := hP
      have hD : va_D A (wY i aG aM aW aS aI q sh im ++ (wW aW aM q uW ++ (wM aM q uM ++ wS (aS i) q (fX4_takeAway (sh i))))) := hD
      refine lv_iload_n hx hb dX6_drop_31 rfl (lv_at hl 0 rfl) ?_
      have hP := z_csP hi hP
      have hD := z_csD hi hD
      exact k_iret_w (wf := (fun u => wX aG aM aW aS aI q u)) (post := Q) (u := (uM, uW, (va_up sh i (fX4_takeAway (sh i))), im)) (v := (gS_length (sh i))) hx hb hr hlocks hK hP hD hS hf dX6_drop_32
    · have hf := hf.1 (c1)
      refine lv_bipush (v := (-11)) hx hb dX6_drop_19 (by decide) ?_
      have hP := z_cs0P hi hP
      have hD := z_cs0D hi hD
      exact k_iret_w (wf := (fun u => wX aG aM aW aS aI q u)) (post := Q) (u := (uM, uW, sh, im)) (v := (-11)) hx hb hr hlocks hK hP hD hS hf dX6_drop_21
def wpX6_walk (uM : MSt) (uW : WSt) (sh : Nat → SSt) (im : Nat → ISt) (x1 : Int32) (Q : Int32 → CSt → Prop) : Prop :=
  (((x1 < 0 ∨ 4 ≤ x1) →
    Q (-1) (uM, uW, sh, im)) ∧
  (∀ i : Nat, i < 4 → x1 = nI i →
    ((gS_there (sh i)) = 0 →
      Q (-11) (uM, uW, sh, im)) ∧
    (¬ ((gS_there (sh i)) = 0) →
      wpX5_stateOf uW uM (sh i) (fun r2 =>
        Q r2 (uM, uW, sh, im)))))
def rmX6_walk : Room := { frames := 4, cells := 0, slots := 0, locals := 86 }
theorem inX6_walk_X4 : ∀ w ∈ wsX40, w ∈ wsX6_walk := fun w h => List.mem_cons_of_mem _ (List.mem_append_left _ (List.mem_append_left _ (List.mem_append_left _ (List.mem_append_right _ h))))
theorem inX6_walk_X6 : ∀ w ∈ wsX60, w ∈ wsX6_walk := fun w h => List.mem_cons_of_mem _ (List.mem_append_left _ (List.mem_append_left _ (List.mem_append_right _ h)))
set_option maxRecDepth 100000 in
set_option maxHeartbeats 4000000 in
theorem c_X6_walk (l : Launch) (D : va_G) (q : Nat → ClassId) (aG aM aW : Nat → Nat) (aS aI : Nat → Nat → Nat) (uM : MSt) (uW : WSt) (sh : Nat → SSt) (im : Nat → ISt) (x1 : Int32) (Q : Int32 → CSt → Prop) (hf : wpX6_walk uM uW sh im x1 Q) : Met l yX6_walk wsX6_walk rmX6_walk (va_Pc [.ref (aG 0), .int x1] (kP D q (wX aG aM aW aS aI q (uM, uW, sh, im)))) (va_Qi Q (fun u t => kP D q (wX aG aM aW aS aI q u) t) (kIn (wX aG aM aW aS aI q (uM, uW, sh, im)))) 0 0 (kIn (wX aG aM aW aS aI q (uM, uW, sh, im))) := by
  refine Met.ofW (cc := cX6_walk) (maxL := 3) (ret := (some .int)) (by decide) rfl ?_
  intro p e s m args below meth c s₁ B hml hv
  obtain ⟨hargs, hP, hK, hD⟩ := hv
  have hx := B.exec
  have hb := B.bytes
  have hr := B.returns
  have hts := atoms_spec (ws := wsX6_walk) B.pre
  have hown : s.vm.findClass RX6 = some m.cls := findClass_of_methodNamed B.named
  have hlocks := B.notSynchronized
  have hD := kd_self hD
  generalize kIn (wX aG aM aW aS aI q (uM, uW, sh, im)) = A at hD ⊢
  have hS : va_S A s.heap s.heap [] := va_S.rf
  refine k_entry hargs (Nat.le_of_ble_eq_true rfl) (fun ls hl => ?_)
  have hl : lv_has ls 3 [(0, .ref (aG 0)), (1, .int x1)] := hl
  change W p l e rmX6_walk s m args below meth c s.heap [] 0 0 (MQ below (va_Qi Q (fun u t => kP D q (wX aG aM aW aS aI q u) t) A) args s 0 0 A) _
  unfold wpX6_walk at hf
  obtain ⟨H, hH⟩ : ∃ H, H = s.heap := ⟨_, rfl⟩
  obtain ⟨locs, hlocs⟩ : ∃ x : List Loc, x = [] := ⟨_, rfl⟩
  rw [← hH] at hP
  have hS : va_S A s.heap H locs := by rw [hH, hlocs]; exact hS
  rw [show W p l e rmX6_walk s m args below meth c s.heap [] 0 0 (MQ below (va_Qi Q (fun u t => kP D q (wX aG aM aW aS aI q u) t) A) args s 0 0 A) (F0 m 0 ls []) = W p l e rmX6_walk s m args below meth c H locs 0 0 (MQ below (va_Qi Q (fun u t => kP D q (wX aG aM aW aS aI q u) t) A) args s 0 0 A) (F0 m 0 ls []) by rw [hH, hlocs]]
  clear hH hlocs
  have hP : va_P D vwCl (wZ aG aM aW aS aI q sh im ++ (wW aW aM q uW ++ wM aM q uM)) H := hP
  have hD : va_D A (wZ aG aM aW aS aI q sh im ++ (wW aW aM q uW ++ wM aM q uM)) := hD
  refine lv_aload_n hx hb dX6_walk_0 rfl (lv_at hl 0 rfl) ?_
  refine lv_iload_n hx hb dX6_walk_1 rfl (lv_at hl 1 rfl) ?_
  refine k_sq (k_runV (As := [.int x1]) (rest := []) ⟨hx, hb, hml, hown, hts⟩ (c_X6_pageAt l D q aG aM aW aS aI x1) (cwV 1 hts gX6_walk_X6_pageAt rfl rfl rfl cdX6_pageAt ⟨Nat.le_of_ble_eq_true rfl, Nat.le_of_ble_eq_true rfl⟩) hK (kp_l (kp_l hP)) (kd_l (kd_l hD)) 0 rfl rfl rfl hl.1 rfl (Nat.le_of_ble_eq_true rfl) dX6_walk_2 ⟨Nat.le_of_ble_eq_true rfl, Nat.le_of_ble_eq_true rfl⟩) (fun r hr => ?_)
  rcases hr with ⟨hc, rfl⟩ | ⟨i, hi, hs, rfl⟩
  · have hf := hf.1 hc
    change W p l e rmX6_walk s m args below meth c H locs 0 0 _ (F0 m 5 ls (.null :: []))
    refine lv_astore_nN (lv' := [(2, .null), (0, .ref (aG 0)), (1, .int x1)]) hx hb dX6_walk_5 rfl hl (by decide) rfl (fun ls hl => ?_)
    refine lv_aload_nN hx hb dX6_walk_6 rfl (lv_at hl 0 rfl) ?_
    refine lv_ifnonnullN hx hb dX6_walk_7 ?_
    refine lv_iconst (v := (-1)) hx hb dX6_walk_10 (by decide) ?_
    exact k_iret_w (wf := (fun u => wX aG aM aW aS aI q u)) (post := Q) (u := (uM, uW, sh, im)) (v := (-1)) hx hb hr hlocks hK hP hD hS hf dX6_walk_11
  · have hf := hf.2 i hi hs
    have hP := z_osP hi hP
    have hD := z_osD hi hD
    change W p l e rmX6_walk s m args below meth c H locs 0 0 _ (F0 m 5 ls (.ref ((aS i) 0) :: []))
    refine lv_astore_n (lv' := [(2, .ref ((aS i) 0)), (0, .ref (aG 0)), (1, .int x1)]) hx hb dX6_walk_5 rfl hl (by decide) rfl (fun ls hl => ?_)
    refine lv_aload_n hx hb dX6_walk_6 rfl (lv_at hl 0 rfl) ?_
    refine lv_ifnonnull (tgt := 12) hx hb dX6_walk_7 (by decide) ?_
    refine lv_aload_n hx hb dX6_walk_12 rfl (lv_at hl 0 rfl) ?_
    refine va_get (D := D) (ci := 2) (v := .int (gS_there (sh i))) (C := RX4) (T := TX4) (N := 3) hx hb hts inX6_walk_X4 hown hK (kp_r (kp_r (kp_r hP))) 0 rfl rfl 1 (by decide) (hts (.fieldLink RX6 64 "GrowingText$Sheet" "there" "Z") (List.mem_of_getElem? (i := 1) rfl)) (fun _ h9 => h9) rfl dX6_walk_13 ?_
    refine lv_if_eq (tgt := 30) hx hb dX6_walk_16 (by decide) (fun c1 => ?_) (fun c1 => ?_)
    · have hf := hf.1 (c1)
      refine lv_bipush (v := (-11)) hx hb dX6_walk_30 (by decide) ?_
      have hP := z_cs0P hi hP
      have hD := z_cs0D hi hD
      exact k_iret_w (wf := (fun u => wX aG aM aW aS aI q u)) (post := Q) (u := (uM, uW, sh, im)) (v := (-11)) hx hb hr hlocks hK hP hD hS hf dX6_walk_32
    · have hf := hf.2 (c1)
      refine lv_aload_n hx hb dX6_walk_19 rfl (lv_at hl 1 rfl) ?_
      refine va_get (D := D) (ci := 4) (v := .ref (aW 0)) (C := RX6) (T := TX6) (N := 4) hx hb hts inX6_walk_X6 hown hK hP 0 rfl rfl 1 (by decide) (hts (.fieldLink RX6 21 "GrowingText" "words" "LGrowingText$Words;") (List.mem_of_getElem? (i := 2) rfl)) (fun _ h9 => h9) rfl dX6_walk_20 ?_
      refine lv_aload_n hx hb dX6_walk_23 rfl (lv_at hl 0 rfl) ?_
      refine k_si (k_runV (As := [.ref ((aS i) 0)]) (rest := []) ⟨hx, hb, hml, hown, hts⟩ (c_X5_stateOf l D q aW aM (aS i) uW uM (sh i) _ hf) (cwV 1 hts gX6_walk_X5_stateOf rfl rfl rfl cdX5_stateOf ⟨Nat.le_of_ble_eq_true rfl, Nat.le_of_ble_eq_true rfl⟩) hK (kp_r hP) (kd_r hD) 0 rfl rfl rfl hl.1 rfl (Nat.le_of_ble_eq_true rfl) dX6_walk_24 ⟨Nat.le_of_ble_eq_true rfl, Nat.le_of_ble_eq_true rfl⟩) (fun r2 hf => ?_)
      refine lv_goto (tgt := 32) hx hb dX6_walk_27 (by decide) ?_
      have hP := z_cs0P hi hP
      have hD := z_cs0D hi hD
      exact k_iret_w (wf := (fun u => wX aG aM aW aS aI q u)) (post := Q) (u := (uM, uW, sh, im)) (v := r2) hx hb hr hlocks hK hP hD hS hf dX6_walk_32
def wpX6_times (uM : MSt) (uW : WSt) (sh : Nat → SSt) (im : Nat → ISt) (x1 : Int32) (x2 : Int32) (Q : Int32 → CSt → Prop) : Prop :=
  ∀ (X77 : Nat → Int32 → Int64 → Prop),
  (∀ (i : Nat) (z0 : Int32) (z1 : Int64),
    (wpX0_kthOf z1 z0 (fun r7 =>
      Q r7 (uM, uW, sh, im))) → X77 i z0 z1) →
  (((x1 < 0 ∨ 4 ≤ x1) →
    Q (-1) (uM, uW, sh, im)) ∧
  (∀ i : Nat, i < 4 → x1 = nI i →
    (x2 < 0 →
      Q (-1) (uM, uW, sh, im)) ∧
    (¬ (x2 < 0) →
      (x2 ≤ 2 →
        ((gS_there (sh i)) = 0 →
          Q (-11) (uM, uW, sh, im)) ∧
        (¬ ((gS_there (sh i)) = 0) →
          wpX5_stateOf uW uM (sh i) (fun r4 =>
            (x2 = 0 →
              Q (fJ13_bitCount_95d88 (fX2_endsOf uM r4)) (uM, uW, sh, im)) ∧
            (¬ (x2 = 0) →
              (x2 = 1 →
                X77 i 0 (fX2_endsOf uM r4)) ∧
              (¬ (x2 = 1) →
                X77 i ((fJ13_bitCount_95d88 (fX2_endsOf uM r4)) - 1) (fX2_endsOf uM r4)))))) ∧
      (¬ (x2 ≤ 2) →
        Q (-1) (uM, uW, sh, im)))))
def rmX6_times : Room := { frames := 4, cells := 0, slots := 0, locals := 86 }
theorem inX6_times_X4 : ∀ w ∈ wsX40, w ∈ wsX6_times := fun w h => List.mem_cons_of_mem _ (List.mem_append_left _ (List.mem_append_left _ (List.mem_append_left _ (List.mem_append_right _ h))))
theorem inX6_times_X6 : ∀ w ∈ wsX60, w ∈ wsX6_times := fun w h => List.mem_cons_of_mem _ (List.mem_append_left _ (List.mem_append_left _ (List.mem_append_right _ h)))
set_option maxRecDepth 100000 in
set_option maxHeartbeats 4000000 in
theorem c_X6_times (l : Launch) (D : va_G) (q : Nat → ClassId) (aG aM aW : Nat → Nat) (aS aI : Nat → Nat → Nat) (uM : MSt) (uW : WSt) (sh : Nat → SSt) (im : Nat → ISt) (x1 : Int32) (x2 : Int32) (Q : Int32 → CSt → Prop) (hf : wpX6_times uM uW sh im x1 x2 Q) : Met l yX6_times wsX6_times rmX6_times (va_Pc [.ref (aG 0), .int x1, .int x2] (kP D q (wX aG aM aW aS aI q (uM, uW, sh, im)))) (va_Qi Q (fun u t => kP D q (wX aG aM aW aS aI q u) t) (kIn (wX aG aM aW aS aI q (uM, uW, sh, im)))) 0 0 (kIn (wX aG aM aW aS aI q (uM, uW, sh, im))) := by
  refine Met.ofW (cc := cX6_times) (maxL := 7) (ret := (some .int)) (by decide) rfl ?_
  intro p e s m args below meth c s₁ B hml hv
  obtain ⟨hargs, hP, hK, hD⟩ := hv
  have hx := B.exec
  have hb := B.bytes
  have hr := B.returns
  have hts := atoms_spec (ws := wsX6_times) B.pre
  have hown : s.vm.findClass RX6 = some m.cls := findClass_of_methodNamed B.named
  have hlocks := B.notSynchronized
  have hD := kd_self hD
  generalize kIn (wX aG aM aW aS aI q (uM, uW, sh, im)) = A at hD ⊢
  have hS : va_S A s.heap s.heap [] := va_S.rf
  refine k_entry hargs (Nat.le_of_ble_eq_true rfl) (fun ls hl => ?_)
  have hl : lv_has ls 7 [(0, .ref (aG 0)), (1, .int x1), (2, .int x2)] := hl
  change W p l e rmX6_times s m args below meth c s.heap [] 0 0 (MQ below (va_Qi Q (fun u t => kP D q (wX aG aM aW aS aI q u) t) A) args s 0 0 A) _
  unfold wpX6_times at hf
  obtain ⟨H, hH⟩ : ∃ H, H = s.heap := ⟨_, rfl⟩
  obtain ⟨locs, hlocs⟩ : ∃ x : List Loc, x = [] := ⟨_, rfl⟩
  rw [← hH] at hP
  have hS : va_S A s.heap H locs := by rw [hH, hlocs]; exact hS
  rw [show W p l e rmX6_times s m args below meth c s.heap [] 0 0 (MQ below (va_Qi Q (fun u t => kP D q (wX aG aM aW aS aI q u) t) A) args s 0 0 A) (F0 m 0 ls []) = W p l e rmX6_times s m args below meth c H locs 0 0 (MQ below (va_Qi Q (fun u t => kP D q (wX aG aM aW aS aI q u) t) A) args s 0 0 A) (F0 m 0 ls []) by rw [hH, hlocs]]
  clear hH hlocs
  have hP : va_P D vwCl (wZ aG aM aW aS aI q sh im ++ (wW aW aM q uW ++ wM aM q uM)) H := hP
  have hD : va_D A (wZ aG aM aW aS aI q sh im ++ (wW aW aM q uW ++ wM aM q uM)) := hD
  have hf := hf
    (fun (i : Nat) (z0 : Int32) (z1 : Int64) => i < 4 → ∀ (H : Heap) (locs : List Loc) (ls : Array Slot), va_P D vwCl (wY i aG aM aW aS aI q sh im ++ (wW aW aM q uW ++ (wM aM q uM ++ wS (aS i) q (sh i)))) H → va_D A (wY i aG aM aW aS aI q sh im ++ (wW aW aM q uW ++ (wM aM q uM ++ wS (aS i) q (sh i)))) → va_S A s.heap H locs → lv_has ls 7 [] → W p l e rmX6_times s m args below meth c H locs 0 0 (MQ below (va_Qi Q (fun u t => kP D q (wX aG aM aW aS aI q u) t) A) args s 0 0 A) (F0 m 77 ls [.int z0, .long z1]))
    (by
      intro i z0 z1 hf hi H locs ls hP hD hS hl
      refine k_si (k_runS (As := [.long z1, .int z0]) (rest := []) ⟨hx, hb, hml, hown, hts⟩ (c_X0_kthOf l D q z1 z0 _ hf) (va_cwS 2 hts gX6_times_X0_kthOf rfl rfl rfl cdX0_kthOf ⟨Nat.le_of_ble_eq_true rfl, Nat.le_of_ble_eq_true rfl⟩) hK k_nilP k_nilD rfl hl.1 rfl (Nat.le_of_ble_eq_true rfl) dX6_times_77 ⟨Nat.le_of_ble_eq_true rfl, Nat.le_of_ble_eq_true rfl⟩) (fun r7 hf => ?_)
      have hP := z_cs0P hi hP
      have hD := z_cs0D hi hD
      exact k_iret_w (wf := (fun u => wX aG aM aW aS aI q u)) (post := Q) (u := (uM, uW, sh, im)) (v := r7) hx hb hr hlocks hK hP hD hS hf dX6_times_80)
  refine lv_aload_n hx hb dX6_times_0 rfl (lv_at hl 0 rfl) ?_
  refine lv_iload_n hx hb dX6_times_1 rfl (lv_at hl 1 rfl) ?_
  refine k_sq (k_runV (As := [.int x1]) (rest := []) ⟨hx, hb, hml, hown, hts⟩ (c_X6_pageAt l D q aG aM aW aS aI x1) (cwV 1 hts gX6_times_X6_pageAt rfl rfl rfl cdX6_pageAt ⟨Nat.le_of_ble_eq_true rfl, Nat.le_of_ble_eq_true rfl⟩) hK (kp_l (kp_l hP)) (kd_l (kd_l hD)) 0 rfl rfl rfl hl.1 rfl (Nat.le_of_ble_eq_true rfl) dX6_times_2 ⟨Nat.le_of_ble_eq_true rfl, Nat.le_of_ble_eq_true rfl⟩) (fun r hr => ?_)
  rcases hr with ⟨hc, rfl⟩ | ⟨i, hi, hs, rfl⟩
  · have hf := hf.1 hc
    change W p l e rmX6_times s m args below meth c H locs 0 0 _ (F0 m 5 ls (.null :: []))
    refine lv_astore_nN (lv' := [(3, .null), (0, .ref (aG 0)), (1, .int x1), (2, .int x2)]) hx hb dX6_times_5 rfl hl (by decide) rfl (fun ls hl => ?_)
    refine lv_aload_nN hx hb dX6_times_6 rfl (lv_at hl 0 rfl) ?_
    refine lv_ifnullN (tgt := 19) hx hb dX6_times_7 (by decide) ?_
    refine lv_iconst (v := (-1)) hx hb dX6_times_19 (by decide) ?_
    exact k_iret_w (wf := (fun u => wX aG aM aW aS aI q u)) (post := Q) (u := (uM, uW, sh, im)) (v := (-1)) hx hb hr hlocks hK hP hD hS hf dX6_times_20
  · have hf := hf.2 i hi hs
    have hP := z_osP hi hP
    have hD := z_osD hi hD
    change W p l e rmX6_times s m args below meth c H locs 0 0 _ (F0 m 5 ls (.ref ((aS i) 0) :: []))
    refine lv_astore_n (lv' := [(3, .ref ((aS i) 0)), (0, .ref (aG 0)), (1, .int x1), (2, .int x2)]) hx hb dX6_times_5 rfl hl (by decide) rfl (fun ls hl => ?_)
    refine lv_aload_n hx hb dX6_times_6 rfl (lv_at hl 0 rfl) ?_
    refine lv_ifnull hx hb dX6_times_7 ?_
    refine lv_iload_n hx hb dX6_times_10 rfl (lv_at hl 3 rfl) ?_
    refine lv_if_lt (tgt := 19) hx hb dX6_times_11 (by decide) (fun c1 => ?_) (fun c1 => ?_)
    · have hf := hf.1 (c1)
      refine lv_iconst (v := (-1)) hx hb dX6_times_19 (by decide) ?_
      have hP := z_cs0P hi hP
      have hD := z_cs0D hi hD
      exact k_iret_w (wf := (fun u => wX aG aM aW aS aI q u)) (post := Q) (u := (uM, uW, sh, im)) (v := (-1)) hx hb hr hlocks hK hP hD hS hf dX6_times_20
    · have hf := hf.2 (c1)
      refine lv_iload_n hx hb dX6_times_14 rfl (lv_at hl 3 rfl) ?_
      refine lv_iconst (v := 2) hx hb dX6_times_15 (by decide) ?_
      refine lv_icmp_le (tgt := 21) hx hb dX6_times_16 (by decide) (fun c2 => ?_) (fun c2 => ?_)
      · have hf := hf.1 (c2)
        refine lv_aload_n hx hb dX6_times_21 rfl (lv_at hl 0 rfl) ?_
        refine va_get (D := D) (ci := 2) (v := .int (gS_there (sh i))) (C := RX4) (T := TX4) (N := 3) hx hb hts inX6_times_X4 hown hK (kp_r (kp_r (kp_r hP))) 0 rfl rfl 1 (by decide) (hts (.fieldLink RX6 64 "GrowingText$Sheet" "there" "Z") (List.mem_of_getElem? (i := 1) rfl)) (fun _ h9 => h9) rfl dX6_times_22 ?_
        refine lv_if_ne (tgt := 31) hx hb dX6_times_25 (by decide) (fun c3 => ?_) (fun c3 => ?_)
        · have hf := hf.2 (c3)
          refine lv_aload_n hx hb dX6_times_31 rfl (lv_at hl 1 rfl) ?_
          refine va_get (D := D) (ci := 4) (v := .ref (aM 0)) (C := RX6) (T := TX6) (N := 4) hx hb hts inX6_times_X6 hown hK hP 0 rfl rfl 0 (by decide) (hts (.fieldLink RX6 12 "GrowingText" "machine" "LGrowingText$Machine;") (List.mem_of_getElem? (i := 2) rfl)) (fun _ h9 => h9) rfl dX6_times_32 ?_
          refine lv_aload_n hx hb dX6_times_35 rfl (lv_at hl 1 rfl) ?_
          refine va_get (D := D) (ci := 4) (v := .ref (aW 0)) (C := RX6) (T := TX6) (N := 4) hx hb hts inX6_times_X6 hown hK hP 0 rfl rfl 1 (by decide) (hts (.fieldLink RX6 21 "GrowingText" "words" "LGrowingText$Words;") (List.mem_of_getElem? (i := 3) rfl)) (fun _ h9 => h9) rfl dX6_times_36 ?_
          refine lv_aload_n hx hb dX6_times_39 rfl (lv_at hl 0 rfl) ?_
          refine k_si (k_runV (As := [.ref ((aS i) 0)]) (rest := [.ref (aM 0)]) ⟨hx, hb, hml, hown, hts⟩ (c_X5_stateOf l D q aW aM (aS i) uW uM (sh i) _ hf) (cwV 1 hts gX6_times_X5_stateOf rfl rfl rfl cdX5_stateOf ⟨Nat.le_of_ble_eq_true rfl, Nat.le_of_ble_eq_true rfl⟩) hK (kp_r hP) (kd_r hD) 0 rfl rfl rfl hl.1 rfl (Nat.le_of_ble_eq_true rfl) dX6_times_40 ⟨Nat.le_of_ble_eq_true rfl, Nat.le_of_ble_eq_true rfl⟩) (fun r4 hf => ?_)
          refine k_sl (k_runV (As := [.int r4]) (rest := []) ⟨hx, hb, hml, hown, hts⟩ (cF_X2_endsOf l D q aM uM r4) (cwV 1 hts gX6_times_X2_endsOf rfl rfl rfl cdX2_endsOf ⟨Nat.le_of_ble_eq_true rfl, Nat.le_of_ble_eq_true rfl⟩) hK (kp_l (a := wM aM q uM) (b := wS (aS i) q (sh i)) (kp_r (kp_r hP))) (kd_l (a := wM aM q uM) (b := wS (aS i) q (sh i)) (kd_r (kd_r hD))) 0 rfl rfl rfl hl.1 rfl (Nat.le_of_ble_eq_true rfl) dX6_times_43 ⟨Nat.le_of_ble_eq_true rfl, Nat.le_of_ble_eq_true rfl⟩) (fun r hr => ?_)
          subst hr
          refine lv_lstore (lv' := [(4, .long (fX2_endsOf uM r4)), (3, .ref ((aS i) 0)), (0, .ref (aG 0)), (1, .int x1), (2, .int x2)]) hx hb dX6_times_46 hl (by decide) rfl (fun ls hl => ?_)
          refine lv_lload hx hb dX6_times_48 (lv_at hl 0 rfl) ?_
          refine k_si (k_runS (As := [.long (fX2_endsOf uM r4)]) (rest := []) ⟨hx, hb, hml, hown, hts⟩ (cF_J13_bitCount_95d88 l D q (fX2_endsOf uM r4)) (va_cwS 1 hts gX6_times_J13_bitCount_95d88 rfl rfl rfl cdJ13_bitCount_95d88 ⟨Nat.le_of_ble_eq_true rfl, Nat.le_of_ble_eq_true rfl⟩) hK k_nilP k_nilD rfl hl.1 rfl (Nat.le_of_ble_eq_true rfl) dX6_times_50 ⟨Nat.le_of_ble_eq_true rfl, Nat.le_of_ble_eq_true rfl⟩) (fun r hr => ?_)
          subst hr
          refine lv_istore (lv' := [(6, .int (fJ13_bitCount_95d88 (fX2_endsOf uM r4))), (4, .long (fX2_endsOf uM r4)), (3, .ref ((aS i) 0)), (0, .ref (aG 0)), (1, .int x1), (2, .int x2)]) hx hb dX6_times_53 hl (by decide) rfl (fun ls hl => ?_)
          refine lv_iload_n hx hb dX6_times_55 rfl (lv_at hl 5 rfl) ?_
          refine lv_if_ne (tgt := 62) hx hb dX6_times_56 (by decide) (fun c5 => ?_) (fun c5 => ?_)
          · have hf := hf.2 (c5)
            refine lv_lload hx hb dX6_times_62 (lv_at hl 1 rfl) ?_
            refine lv_iload_n hx hb dX6_times_64 rfl (lv_at hl 5 rfl) ?_
            refine lv_iconst (v := 1) hx hb dX6_times_65 (by decide) ?_
            refine lv_icmp_ne (tgt := 73) hx hb dX6_times_66 (by decide) (fun c6 => ?_) (fun c6 => ?_)
            · have hf := hf.2 (c6)
              refine lv_iload hx hb dX6_times_73 (lv_at hl 0 rfl) ?_
              refine lv_iconst (v := 1) hx hb dX6_times_75 (by decide) ?_
              refine lv_isub hx hb dX6_times_76 ?_
              exact hf hi H locs ls hP hD hS (lv_sub hl [] rfl)
            · have hf := hf.1 (c6)
              refine lv_iconst (v := 0) hx hb dX6_times_69 (by decide) ?_
              refine lv_goto (tgt := 77) hx hb dX6_times_70 (by decide) ?_
              exact hf hi H locs ls hP hD hS (lv_sub hl [] rfl)
          · have hf := hf.1 (c5)
            refine lv_iload hx hb dX6_times_59 (lv_at hl 0 rfl) ?_
            have hP := z_cs0P hi hP
            have hD := z_cs0D hi hD
            exact k_iret_w (wf := (fun u => wX aG aM aW aS aI q u)) (post := Q) (u := (uM, uW, sh, im)) (v := (fJ13_bitCount_95d88 (fX2_endsOf uM r4))) hx hb hr hlocks hK hP hD hS hf dX6_times_61
        · have hf := hf.1 (c3)
          refine lv_bipush (v := (-11)) hx hb dX6_times_28 (by decide) ?_
          have hP := z_cs0P hi hP
          have hD := z_cs0D hi hD
          exact k_iret_w (wf := (fun u => wX aG aM aW aS aI q u)) (post := Q) (u := (uM, uW, sh, im)) (v := (-11)) hx hb hr hlocks hK hP hD hS hf dX6_times_30
      · have hf := hf.2 (c2)
        refine lv_iconst (v := (-1)) hx hb dX6_times_19 (by decide) ?_
        have hP := z_cs0P hi hP
        have hD := z_cs0D hi hD
        exact k_iret_w (wf := (fun u => wX aG aM aW aS aI q u)) (post := Q) (u := (uM, uW, sh, im)) (v := (-1)) hx hb hr hlocks hK hP hD hS hf dX6_times_20
