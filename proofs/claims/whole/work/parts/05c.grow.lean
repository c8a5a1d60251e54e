def wpX6_kth (uM : MSt) (uW : WSt) (sh : Nat → SSt) (im : Nat → ISt) (x1 : Int32) (x2 : Int32) (Q : Int32 → CSt → Prop) : Prop :=
  (((x2 < 0 ∨ 4 ≤ x2) →
    (x1 < 0 →
      Q (-1) (uM, uW, sh, im)) ∧
    (¬ (x1 < 0) →
      Q (-1) (uM, uW, sh, im))) ∧
  (∀ i : Nat, i < 4 → x2 = nI i →
    (x1 < 0 →
      Q (-1) (uM, uW, sh, im)) ∧
    (¬ (x1 < 0) →
      wpX5_unlikeUpTo uW uM (gM_length uM) (fun r3 =>
        (x1 < r3 →
          wpX5_writeKth uW uM (sh i) x1 (fun uW5 uS6 =>
            Q (gS_length uS6) (uM, uW5, (va_up sh i uS6), im))) ∧
        (¬ (x1 < r3) →
          Q (-4) (uM, uW, sh, im))))))
def rmX6_kth : Room := { frames := 5, cells := 0, slots := 0, locals := 116 }
theorem inX6_kth_X2 : ∀ w ∈ wsX20, w ∈ wsX6_kth := fun w h => List.mem_cons_of_mem _ (List.mem_append_left _ (List.mem_append_left _ (List.mem_append_right _ h)))
theorem inX6_kth_X4 : ∀ w ∈ wsX40, w ∈ wsX6_kth := fun w h => List.mem_cons_of_mem _ (List.mem_append_left _ (List.mem_append_right _ h))
theorem inX6_kth_X6 : ∀ w ∈ wsX60, w ∈ wsX6_kth := fun w h => List.mem_cons_of_mem _ (List.mem_append_left _ (List.mem_append_left _ (List.mem_append_left _ (List.mem_append_right _ h))))
set_option maxRecDepth 100000 in
set_option maxHeartbeats 4000000 in
theorem c_X6_kth (l : Launch) (D : va_G) (q : Nat → ClassId) (aG aM aW : Nat → Nat) (aS aI : Nat → Nat → Nat) (uM : MSt) (uW : WSt) (sh : Nat → SSt) (im : Nat → ISt) (x1 : Int32) (x2 : Int32) (Q : Int32 → CSt → Prop) (hf : wpX6_kth uM uW sh im x1 x2 Q) : Met l yX6_kth wsX6_kth rmX6_kth (va_Pc [.ref (aG 0), .int x1, .int x2] (kP D q (wX aG aM aW aS aI q (uM, uW, sh, im)))) (va_Qi Q (fun u t => kP D q (wX aG aM aW aS aI q u) t) (kIn (wX aG aM aW aS aI q (uM, uW, sh, im)))) 0 0 (kIn (wX aG aM aW aS aI q (uM, uW, sh, im))) := by
  refine Met.ofW (cc := cX6_kth) (maxL := 4) (ret := (some .int)) (by decide) rfl ?_
  intro p e s m args below meth c s₁ B hml hv
  obtain ⟨hargs, hP, hK, hD⟩ := hv
  have hx := B.exec
  have hb := B.bytes
  have hr := B.returns
  have hts := atoms_spec (ws := wsX6_kth) B.pre
  have hown : s.vm.findClass RX6 = some m.cls := findClass_of_methodNamed B.named
  have hlocks := B.notSynchronized
  have hD := kd_self hD
  generalize kIn (wX aG aM aW aS aI q (uM, uW, sh, im)) = A at hD ⊢
  have hS : va_S A s.heap s.heap [] := va_S.rf
  refine k_entry hargs (Nat.le_of_ble_eq_true rfl) (fun ls hl => ?_)
  have hl : lv_has ls 4 [(0, .ref (aG 0)), (1, .int x1), (2, .int x2)] := hl
  change W p l e rmX6_kth s m args below meth c s.heap [] 0 0 (MQ below (va_Qi Q (fun u t => kP D q (wX aG aM aW aS aI q u) t) A) args s 0 0 A) _
  unfold wpX6_kth at hf
  obtain ⟨H, hH⟩ : ∃ H, H = s.heap := ⟨_, rfl⟩
  obtain ⟨locs, hlocs⟩ : ∃ x : List Loc, x = [] := ⟨_, rfl⟩
  rw [← hH] at hP
  have hS : va_S A s.heap H locs := by rw [hH, hlocs]; exact hS
  rw [show W p l e rmX6_kth s m args below meth c s.heap [] 0 0 (MQ below (va_Qi Q (fun u t => kP D q (wX aG aM aW aS aI q u) t) A) args s 0 0 A) (F0 m 0 ls []) = W p l e rmX6_kth s m args below meth c H locs 0 0 (MQ below (va_Qi Q (fun u t => kP D q (wX aG aM aW aS aI q u) t) A) args s 0 0 A) (F0 m 0 ls []) by rw [hH, hlocs]]
  clear hH hlocs
  have hP : va_P D vwCl (wZ aG aM aW aS aI q sh im ++ (wW aW aM q uW ++ wM aM q uM)) H := hP
  have hD : va_D A (wZ aG aM aW aS aI q sh im ++ (wW aW aM q uW ++ wM aM q uM)) := hD
  refine lv_aload_n hx hb dX6_kth_0 rfl (lv_at hl 0 rfl) ?_
  refine lv_iload_n hx hb dX6_kth_1 rfl (lv_at hl 2 rfl) ?_
  refine k_sq (k_runV (As := [.int x2]) (rest := []) ⟨hx, hb, hml, hown, hts⟩ (c_X6_pageAt l D q aG aM aW aS aI x2) (cwV 1 hts gX6_kth_X6_pageAt rfl rfl rfl cdX6_pageAt ⟨Nat.le_of_ble_eq_true rfl, Nat.le_of_ble_eq_true rfl⟩) hK (kp_l (kp_l hP)) (kd_l (kd_l hD)) 0 rfl rfl rfl hl.1 rfl (Nat.le_of_ble_eq_true rfl) dX6_kth_2 ⟨Nat.le_of_ble_eq_true rfl, Nat.le_of_ble_eq_true rfl⟩) (fun r hr => ?_)
  rcases hr with ⟨hc, rfl⟩ | ⟨i, hi, hs, rfl⟩
  · have hf := hf.1 hc
    change W p l e rmX6_kth s m args below meth c H locs 0 0 _ (F0 m 5 ls (.null :: []))
    refine lv_astore_nN (lv' := [(3, .null), (0, .ref (aG 0)), (1, .int x1), (2, .int x2)]) hx hb dX6_kth_5 rfl hl (by decide) rfl (fun ls hl => ?_)
    refine lv_iload_n hx hb dX6_kth_6 rfl (lv_at hl 2 rfl) ?_
    refine lv_if_lt (tgt := 14) hx hb dX6_kth_7 (by decide) (fun c1 => ?_) (fun c1 => ?_)
    · have hf := hf.1 (c1)
      refine lv_iconst (v := (-1)) hx hb dX6_kth_14 (by decide) ?_
      exact k_iret_w (wf := (fun u => wX aG aM aW aS aI q u)) (post := Q) (u := (uM, uW, sh, im)) (v := (-1)) hx hb hr hlocks hK hP hD hS hf dX6_kth_15
    · have hf := hf.2 (c1)
      refine lv_aload_nN hx hb dX6_kth_10 rfl (lv_at hl 0 rfl) ?_
      refine lv_ifnonnullN hx hb dX6_kth_11 ?_
      refine lv_iconst (v := (-1)) hx hb dX6_kth_14 (by decide) ?_
      exact k_iret_w (wf := (fun u => wX aG aM aW aS aI q u)) (post := Q) (u := (uM, uW, sh, im)) (v := (-1)) hx hb hr hlocks hK hP hD hS hf dX6_kth_15
  · have hf := hf.2 i hi hs
    have hP := z_osP hi hP
    have hD := z_osD hi hD
    change W p l e rmX6_kth s m args below meth c H locs 0 0 _ (F0 m 5 ls (.ref ((aS i) 0) :: []))
    refine lv_astore_n (lv' := [(3, .ref ((aS i) 0)), (0, .ref (aG 0)), (1, .int x1), (2, .int x2)]) hx hb dX6_kth_5 rfl hl (by decide) rfl (fun ls hl => ?_)
    refine lv_iload_n hx hb dX6_kth_6 rfl (lv_at hl 2 rfl) ?_
    refine lv_if_lt (tgt := 14) hx hb dX6_kth_7 (by decide) (fun c2 => ?_) (fun c2 => ?_)
    · have hf := hf.1 (c2)
      refine lv_iconst (v := (-1)) hx hb dX6_kth_14 (by decide) ?_
      have hP := z_cs0P hi hP
      have hD := z_cs0D hi hD
      exact k_iret_w (wf := (fun u => wX aG aM aW aS aI q u)) (post := Q) (u := (uM, uW, sh, im)) (v := (-1)) hx hb hr hlocks hK hP hD hS hf dX6_kth_15
    · have hf := hf.2 (c2)
      refine lv_aload_n hx hb dX6_kth_10 rfl (lv_at hl 0 rfl) ?_
      refine lv_ifnonnull (tgt := 16) hx hb dX6_kth_11 (by decide) ?_
      refine lv_iload_n hx hb dX6_kth_16 rfl (lv_at hl 2 rfl) ?_
      refine lv_aload_n hx hb dX6_kth_17 rfl (lv_at hl 1 rfl) ?_
      refine va_get (D := D) (ci := 4) (v := .ref (aW 0)) (C := RX6) (T := TX6) (N := 4) hx hb hts inX6_kth_X6 hown hK hP 0 rfl rfl 1 (by decide) (hts (.fieldLink RX6 21 "GrowingText" "words" "LGrowingText$Words;") (List.mem_of_getElem? (i := 1) rfl)) (fun _ h9 => h9) rfl dX6_kth_18 ?_
      refine lv_aload_n hx hb dX6_kth_21 rfl (lv_at hl 1 rfl) ?_
      refine va_get (D := D) (ci := 4) (v := .ref (aM 0)) (C := RX6) (T := TX6) (N := 4) hx hb hts inX6_kth_X6 hown hK hP 0 rfl rfl 0 (by decide) (hts (.fieldLink RX6 12 "GrowingText" "machine" "LGrowingText$Machine;") (List.mem_of_getElem? (i := 2) rfl)) (fun _ h9 => h9) rfl dX6_kth_22 ?_
      refine va_get (D := D) (ci := 1) (v := .int (gM_length uM)) (C := RX2) (T := TX2) (N := 12) hx hb hts inX6_kth_X2 hown hK (kp_r (kp_r hP)) 0 rfl rfl 1 (by decide) (hts (.fieldLink RX6 39 "GrowingText$Machine" "length" "I") (List.mem_of_getElem? (i := 3) rfl)) (fun _ h9 => h9) rfl dX6_kth_25 ?_
      refine k_si (k_runV (As := [.int (gM_length uM)]) (rest := [.int x1]) ⟨hx, hb, hml, hown, hts⟩ (c_X5_unlikeUpTo l D q aW aM uW uM (gM_length uM) _ hf) (cwV 1 hts gX6_kth_X5_unlikeUpTo rfl rfl rfl cdX5_unlikeUpTo ⟨Nat.le_of_ble_eq_true rfl, Nat.le_of_ble_eq_true rfl⟩) hK (kp_l (a := wW aW aM q uW ++ wM aM q uM) (b := wS (aS i) q (sh i)) (kp_r hP)) (kd_l (a := wW aW aM q uW ++ wM aM q uM) (b := wS (aS i) q (sh i)) (kd_r hD)) 0 rfl rfl rfl hl.1 rfl (Nat.le_of_ble_eq_true rfl) dX6_kth_28 ⟨Nat.le_of_ble_eq_true rfl, Nat.le_of_ble_eq_true rfl⟩) (fun r3 hf => ?_)
      refine lv_icmp_lt (tgt := 37) hx hb dX6_kth_31 (by decide) (fun c4 => ?_) (fun c4 => ?_)
      · have hf := hf.1 (c4)
        refine lv_aload_n hx hb dX6_kth_37 rfl (lv_at hl 1 rfl) ?_
        refine va_get (D := D) (ci := 4) (v := .ref (aW 0)) (C := RX6) (T := TX6) (N := 4) hx hb hts inX6_kth_X6 hown hK hP 0 rfl rfl 1 (by decide) (hts (.fieldLink RX6 21 "GrowingText" "words" "LGrowingText$Words;") (List.mem_of_getElem? (i := 1) rfl)) (fun _ h9 => h9) rfl dX6_kth_38 ?_
        refine lv_iload_n hx hb dX6_kth_41 rfl (lv_at hl 2 rfl) ?_
        refine lv_aload_n hx hb dX6_kth_42 rfl (lv_at hl 0 rfl) ?_
        refine k_wv (wf := fun u => wW aW aM q u.1 ++ (wM aM q uM ++ wS (aS i) q u.2)) (u0 := (uW, (sh i))) (k_runV (As := [.int x1, .ref ((aS i) 0)]) (rest := []) ⟨hx, hb, hml, hown, hts⟩ (c_X5_writeKth l D q aW aM (aS i) uW uM (sh i) x1 _ hf) (cwV 2 hts gX6_kth_X5_writeKth rfl rfl rfl cdX5_writeKth ⟨Nat.le_of_ble_eq_true rfl, Nat.le_of_ble_eq_true rfl⟩) hK (kp_r hP) (kd_r hD) 0 rfl rfl rfl hl.1 rfl (Nat.le_of_ble_eq_true rfl) dX6_kth_43 ⟨Nat.le_of_ble_eq_true rfl, Nat.le_of_ble_eq_true rfl⟩) (wY i aG aM aW aS aI q sh im) ([]) (fun _ => rfl) hP hD hS (fun u H locs hf hP hD hS => ?_)
        obtain ⟨uW5, uS6⟩ := u
        have hP : va_P D vwCl (wY i aG aM aW aS aI q sh im ++ (wW aW aM q uW5 ++ (wM aM q uM ++ wS (aS i) q uS6))) H := hP
        have hD : va_D A (wY i aG aM aW aS aI q sh im ++ (wW aW aM q uW5 ++ (wM aM q uM ++ wS (aS i) q uS6))) := hD
        refine lv_aload_n hx hb dX6_kth_46 rfl (lv_at hl 0 rfl) ?_
        refine va_get (D := D) (ci := 2) (v := .int (gS_length uS6)) (C := RX4) (T := TX4) (N := 3) hx hb hts inX6_kth_X4 hown hK (kp_r (kp_r (kp_r hP))) 0 rfl rfl 2 (by decide) (hts (.fieldLink RX6 72 "GrowingText$Sheet" "length" "I") (List.mem_of_getElem? (i := 4) rfl)) (fun _ h9 => h9) rfl dX6_kth_47 ?_
        have hP := z_csP hi hP
        have hD := z_csD hi hD
        exact k_iret_w (wf := (fun u => wX aG aM aW aS aI q u)) (post := Q) (u := (uM, uW5, (va_up sh i uS6), im)) (v := (gS_length uS6)) hx hb hr hlocks hK hP hD hS hf dX6_kth_50
      · have hf := hf.2 (c4)
        refine lv_bipush (v := (-4)) hx hb dX6_kth_34 (by decide) ?_
        have hP := z_cs0P hi hP
        have hD := z_cs0D hi hD
        exact k_iret_w (wf := (fun u => wX aG aM aW aS aI q u)) (post := Q) (u := (uM, uW, sh, im)) (v := (-4)) hx hb hr hlocks hK hP hD hS hf dX6_kth_36
def wpX6_rank (uM : MSt) (uW : WSt) (sh : Nat → SSt) (im : Nat → ISt) (x1 : Int32) (Q : Int32 → CSt → Prop) : Prop :=
  (((x1 < 0 ∨ 4 ≤ x1) →
    Q (-1) (uM, uW, sh, im)) ∧
  (∀ i : Nat, i < 4 → x1 = nI i →
    ((gS_there (sh i)) = 0 →
      Q (-11) (uM, uW, sh, im)) ∧
    (¬ ((gS_there (sh i)) = 0) →
      ((gS_length (sh i)) = 0 →
        Q (-4) (uM, uW, sh, im)) ∧
      (¬ ((gS_length (sh i)) = 0) →
        wpX5_stateOf uW uM (sh i) (fun r3 =>
          (r3 = (-4) →
            Q (-4) (uM, uW, sh, im)) ∧
          (¬ (r3 = (-4)) →
            wpX5_wordsAheadOf uW uM (sh i) (fun r6 uW5 =>
              Q r6 (uM, uW5, sh, im))))))))
def rmX6_rank : Room := { frames := 5, cells := 0, slots := 0, locals := 116 }
theorem inX6_rank_X4 : ∀ w ∈ wsX40, w ∈ wsX6_rank := fun w h => List.mem_cons_of_mem _ (List.mem_append_left _ (List.mem_append_left _ (List.mem_append_left _ (List.mem_append_right _ h))))
theorem inX6_rank_X6 : ∀ w ∈ wsX60, w ∈ wsX6_rank := fun w h => List.mem_cons_of_mem _ (List.mem_append_left _ (List.mem_append_left _ (List.mem_append_right _ h)))
set_option maxRecDepth 100000 in
set_option maxHeartbeats 4000000 in
theorem c_X6_rank (l : Launch) (D : va_G) (q : Nat → ClassId) (aG aM aW : Nat → Nat) (aS aI : Nat → Nat → Nat) (uM : MSt) (uW : WSt) (sh : Nat → SSt) (im : Nat → ISt) (x1 : Int32) (Q : Int32 → CSt → Prop) (hf : wpX6_rank uM uW sh im x1 Q) : Met l yX6_rank wsX6_rank rmX6_rank (va_Pc [.ref (aG 0), .int x1] (kP D q (wX aG aM aW aS aI q (uM, uW, sh, im)))) (va_Qi Q (fun u t => kP D q (wX aG aM aW aS aI q u) t) (kIn (wX aG aM aW aS aI q (uM, uW, sh, im)))) 0 0 (kIn (wX aG aM aW aS aI q (uM, uW, sh, im))) := by
  refine Met.ofW (cc := cX6_rank) (maxL := 3) (ret := (some .int)) (by decide) rfl ?_
  intro p e s m args below meth c s₁ B hml hv
  obtain ⟨hargs, hP, hK, hD⟩ := hv
  have hx := B.exec
  have hb := B.bytes
  have hr := B.returns
  have hts := atoms_spec (ws := wsX6_rank) B.pre
  have hown : s.vm.findClass RX6 = some m.cls := findClass_of_methodNamed B.named
  have hlocks := B.notSynchronized
  have hD := kd_self hD
  generalize kIn (wX aG aM aW aS aI q (uM, uW, sh, im)) = A at hD ⊢
  have hS : va_S A s.heap s.heap [] := va_S.rf
  refine k_entry hargs (Nat.le_of_ble_eq_true rfl) (fun ls hl => ?_)
  have hl : lv_has ls 3 [(0, .ref (aG 0)), (1, .int x1)] := hl
  change W p l e rmX6_rank s m args below meth c s.heap [] 0 0 (MQ below (va_Qi Q (fun u t => kP D q (wX aG aM aW aS aI q u) t) A) args s 0 0 A) _
  unfold wpX6_rank at hf
  obtain ⟨H, hH⟩ : ∃ H, H = s.heap := ⟨_, rfl⟩
  obtain ⟨locs, hlocs⟩ : ∃ x : List Loc, x = [] := ⟨_, rfl⟩
  rw [← hH] at hP
  have hS : va_S A s.heap H locs := by rw [hH, hlocs]; exact hS
  rw [show W p l e rmX6_rank s m args below meth c s.heap [] 0 0 (MQ below (va_Qi Q (fun u t => kP D q (wX aG aM aW aS aI q u) t) A) args s 0 0 A) (F0 m 0 ls []) = W p l e rmX6_rank s m args below meth c H locs 0 0 (MQ below (va_Qi Q (fun u t => kP D q (wX aG aM aW aS aI q u) t) A) args s 0 0 A) (F0 m 0 ls []) by rw [hH, hlocs]]
  clear hH hlocs
  have hP : va_P D vwCl (wZ aG aM aW aS aI q sh im ++ (wW aW aM q uW ++ wM aM q uM)) H := hP
  have hD : va_D A (wZ aG aM aW aS aI q sh im ++ (wW aW aM q uW ++ wM aM q uM)) := hD
  refine lv_aload_n hx hb dX6_rank_0 rfl (lv_at hl 0 rfl) ?_
  refine lv_iload_n hx hb dX6_rank_1 rfl (lv_at hl 1 rfl) ?_
  refine k_sq (k_runV (As := [.int x1]) (rest := []) ⟨hx, hb, hml, hown, hts⟩ (c_X6_pageAt l D q aG aM aW aS aI x1) (cwV 1 hts gX6_rank_X6_pageAt rfl rfl rfl cdX6_pageAt ⟨Nat.le_of_ble_eq_true rfl, Nat.le_of_ble_eq_true rfl⟩) hK (kp_l (kp_l hP)) (kd_l (kd_l hD)) 0 rfl rfl rfl hl.1 rfl (Nat.le_of_ble_eq_true rfl) dX6_rank_2 ⟨Nat.le_of_ble_eq_true rfl, Nat.le_of_ble_eq_true rfl⟩) (fun r hr => ?_)
  rcases hr with ⟨hc, rfl⟩ | ⟨i, hi, hs, rfl⟩
  · have hf := hf.1 hc
    change W p l e rmX6_rank s m args below meth c H locs 0 0 _ (F0 m 5 ls (.null :: []))
    refine lv_astore_nN (lv' := [(2, .null), (0, .ref (aG 0)), (1, .int x1)]) hx hb dX6_rank_5 rfl hl (by decide) rfl (fun ls hl => ?_)
    refine lv_aload_nN hx hb dX6_rank_6 rfl (lv_at hl 0 rfl) ?_
    refine lv_ifnonnullN hx hb dX6_rank_7 ?_
    refine lv_iconst (v := (-1)) hx hb dX6_rank_10 (by decide) ?_
    exact k_iret_w (wf := (fun u => wX aG aM aW aS aI q u)) (post := Q) (u := (uM, uW, sh, im)) (v := (-1)) hx hb hr hlocks hK hP hD hS hf dX6_rank_11
  · have hf := hf.2 i hi hs
    have hP := z_osP hi hP
    have hD := z_osD hi hD
    change W p l e rmX6_rank s m args below meth c H locs 0 0 _ (F0 m 5 ls (.ref ((aS i) 0) :: []))
    refine lv_astore_n (lv' := [(2, .ref ((aS i) 0)), (0, .ref (aG 0)), (1, .int x1)]) hx hb dX6_rank_5 rfl hl (by decide) rfl (fun ls hl => ?_)
    refine lv_aload_n hx hb dX6_rank_6 rfl (lv_at hl 0 rfl) ?_
    refine lv_ifnonnull (tgt := 12) hx hb dX6_rank_7 (by decide) ?_
    refine lv_aload_n hx hb dX6_rank_12 rfl (lv_at hl 0 rfl) ?_
    refine va_get (D := D) (ci := 2) (v := .int (gS_there (sh i))) (C := RX4) (T := TX4) (N := 3) hx hb hts inX6_rank_X4 hown hK (kp_r (kp_r (kp_r hP))) 0 rfl rfl 1 (by decide) (hts (.fieldLink RX6 64 "GrowingText$Sheet" "there" "Z") (List.mem_of_getElem? (i := 1) rfl)) (fun _ h9 => h9) rfl dX6_rank_13 ?_
    refine lv_if_ne (tgt := 22) hx hb dX6_rank_16 (by decide) (fun c1 => ?_) (fun c1 => ?_)
    · have hf := hf.2 (c1)
      refine lv_aload_n hx hb dX6_rank_22 rfl (lv_at hl 0 rfl) ?_
      refine va_get (D := D) (ci := 2) (v := .int (gS_length (sh i))) (C := RX4) (T := TX4) (N := 3) hx hb hts inX6_rank_X4 hown hK (kp_r (kp_r (kp_r hP))) 0 rfl rfl 2 (by decide) (hts (.fieldLink RX6 72 "GrowingText$Sheet" "length" "I") (List.mem_of_getElem? (i := 2) rfl)) (fun _ h9 => h9) rfl dX6_rank_23 ?_
      refine lv_if_eq (tgt := 42) hx hb dX6_rank_26 (by decide) (fun c2 => ?_) (fun c2 => ?_)
      · have hf := hf.1 (c2)
        refine lv_bipush (v := (-4)) hx hb dX6_rank_42 (by decide) ?_
        have hP := z_cs0P hi hP
        have hD := z_cs0D hi hD
        exact k_iret_w (wf := (fun u => wX aG aM aW aS aI q u)) (post := Q) (u := (uM, uW, sh, im)) (v := (-4)) hx hb hr hlocks hK hP hD hS hf dX6_rank_44
      · have hf := hf.2 (c2)
        refine lv_aload_n hx hb dX6_rank_29 rfl (lv_at hl 1 rfl) ?_
        refine va_get (D := D) (ci := 4) (v := .ref (aW 0)) (C := RX6) (T := TX6) (N := 4) hx hb hts inX6_rank_X6 hown hK hP 0 rfl rfl 1 (by decide) (hts (.fieldLink RX6 21 "GrowingText" "words" "LGrowingText$Words;") (List.mem_of_getElem? (i := 3) rfl)) (fun _ h9 => h9) rfl dX6_rank_30 ?_
        refine lv_aload_n hx hb dX6_rank_33 rfl (lv_at hl 0 rfl) ?_
        refine k_si (k_runV (As := [.ref ((aS i) 0)]) (rest := []) ⟨hx, hb, hml, hown, hts⟩ (c_X5_stateOf l D q aW aM (aS i) uW uM (sh i) _ hf) (cwV 1 hts gX6_rank_X5_stateOf rfl rfl rfl cdX5_stateOf ⟨Nat.le_of_ble_eq_true rfl, Nat.le_of_ble_eq_true rfl⟩) hK (kp_r hP) (kd_r hD) 0 rfl rfl rfl hl.1 rfl (Nat.le_of_ble_eq_true rfl) dX6_rank_34 ⟨Nat.le_of_ble_eq_true rfl, Nat.le_of_ble_eq_true rfl⟩) (fun r3 hf => ?_)
        refine lv_bipush (v := (-4)) hx hb dX6_rank_37 (by decide) ?_
        refine lv_icmp_ne (tgt := 45) hx hb dX6_rank_39 (by decide) (fun c4 => ?_) (fun c4 => ?_)
        · have hf := hf.2 (c4)
          refine lv_aload_n hx hb dX6_rank_45 rfl (lv_at hl 1 rfl) ?_
          refine va_get (D := D) (ci := 4) (v := .ref (aW 0)) (C := RX6) (T := TX6) (N := 4) hx hb hts inX6_rank_X6 hown hK hP 0 rfl rfl 1 (by decide) (hts (.fieldLink RX6 21 "GrowingText" "words" "LGrowingText$Words;") (List.mem_of_getElem? (i := 3) rfl)) (fun _ h9 => h9) rfl dX6_rank_46 ?_
          refine lv_aload_n hx hb dX6_rank_49 rfl (lv_at hl 0 rfl) ?_
          refine k_wi (wf := fun u => wW aW aM q u ++ (wM aM q uM ++ wS (aS i) q (sh i))) (u0 := uW) (k_runV (As := [.ref ((aS i) 0)]) (rest := []) ⟨hx, hb, hml, hown, hts⟩ (c_X5_wordsAheadOf l D q aW aM (aS i) uW uM (sh i) _ hf) (cwV 1 hts gX6_rank_X5_wordsAheadOf rfl rfl rfl cdX5_wordsAheadOf ⟨Nat.le_of_ble_eq_true rfl, Nat.le_of_ble_eq_true rfl⟩) hK (kp_r hP) (kd_r hD) 0 rfl rfl rfl hl.1 rfl (Nat.le_of_ble_eq_true rfl) dX6_rank_50 ⟨Nat.le_of_ble_eq_true rfl, Nat.le_of_ble_eq_true rfl⟩) (wY i aG aM aW aS aI q sh im) ([]) (fun _ => rfl) hP hD hS (fun r6 uW5 H locs hf hP hD hS => ?_)
          have hP : va_P D vwCl (wY i aG aM aW aS aI q sh im ++ (wW aW aM q uW5 ++ (wM aM q uM ++ wS (aS i) q (sh i)))) H := hP
          have hD : va_D A (wY i aG aM aW aS aI q sh im ++ (wW aW aM q uW5 ++ (wM aM q uM ++ wS (aS i) q (sh i)))) := hD
          have hP := z_cs0P hi hP
          have hD := z_cs0D hi hD
          exact k_iret_w (wf := (fun u => wX aG aM aW aS aI q u)) (post := Q) (u := (uM, uW5, sh, im)) (v := r6) hx hb hr hlocks hK hP hD hS hf dX6_rank_53
        · have hf := hf.1 (c4)
          refine lv_bipush (v := (-4)) hx hb dX6_rank_42 (by decide) ?_
          have hP := z_cs0P hi hP
          have hD := z_cs0D hi hD
          exact k_iret_w (wf := (fun u => wX aG aM aW aS aI q u)) (post := Q) (u := (uM, uW, sh, im)) (v := (-4)) hx hb hr hlocks hK hP hD hS hf dX6_rank_44
    · have hf := hf.1 (c1)
      refine lv_bipush (v := (-11)) hx hb dX6_rank_19 (by decide) ?_
      have hP := z_cs0P hi hP
      have hD := z_cs0D hi hD
      exact k_iret_w (wf := (fun u => wX aG aM aW aS aI q u)) (post := Q) (u := (uM, uW, sh, im)) (v := (-11)) hx hb hr hlocks hK hP hD hS hf dX6_rank_21
def wpX6_absent (uM : MSt) (uW : WSt) (sh : Nat → SSt) (im : Nat → ISt) (x1 : Int32) (Q : Int32 → CSt → Prop) : Prop :=
  (((x1 < 0 ∨ 4 ≤ x1) →
    Q (-1) (uM, uW, sh, im)) ∧
  (∀ i : Nat, i < 4 → x1 = nI i →
    wpX5_writeAbsent uW uM (sh i) (fun uW1 uS2 =>
      Q (gS_length uS2) (uM, uW1, (va_up sh i uS2), im))))
def rmX6_absent : Room := { frames := 5, cells := 0, slots := 0, locals := 114 }
theorem inX6_absent_X4 : ∀ w ∈ wsX40, w ∈ wsX6_absent := fun w h => List.mem_cons_of_mem _ (List.mem_append_left _ (List.mem_append_left _ (List.mem_append_right _ h)))
theorem inX6_absent_X6 : ∀ w ∈ wsX60, w ∈ wsX6_absent := fun w h => List.mem_cons_of_mem _ (List.mem_append_left _ (List.mem_append_left _ (List.mem_append_left _ (List.mem_append_right _ h))))
set_option maxRecDepth 100000 in
set_option maxHeartbeats 4000000 in
theorem c_X6_absent (l : Launch) (D : va_G) (q : Nat → ClassId) (aG aM aW : Nat → Nat) (aS aI : Nat → Nat → Nat) (uM : MSt) (uW : WSt) (sh : Nat → SSt) (im : Nat → ISt) (x1 : Int32) (Q : Int32 → CSt → Prop) (hf : wpX6_absent uM uW sh im x1 Q) : Met l yX6_absent wsX6_absent rmX6_absent (va_Pc [.ref (aG 0), .int x1] (kP D q (wX aG aM aW aS aI q (uM, uW, sh, im)))) (va_Qi Q (fun u t => kP D q (wX aG aM aW aS aI q u) t) (kIn (wX aG aM aW aS aI q (uM, uW, sh, im)))) 0 0 (kIn (wX aG aM aW aS aI q (uM, uW, sh, im))) := by
  refine Met.ofW (cc := cX6_absent) (maxL := 3) (ret := (some .int)) (by decide) rfl ?_
  intro p e s m args below meth c s₁ B hml hv
  obtain ⟨hargs, hP, hK, hD⟩ := hv
  have hx := B.exec
  have hb := B.bytes
  have hr := B.returns
  have hts := atoms_spec (ws := wsX6_absent) B.pre
  have hown : s.vm.findClass RX6 = some m.cls := findClass_of_methodNamed B.named
  have hlocks := B.notSynchronized
  have hD := kd_self hD
  generalize kIn (wX aG aM aW aS aI q (uM, uW, sh, im)) = A at hD ⊢
  have hS : va_S A s.heap s.heap [] := va_S.rf
  refine k_entry hargs (Nat.le_of_ble_eq_true rfl) (fun ls hl => ?_)
  have hl : lv_has ls 3 [(0, .ref (aG 0)), (1, .int x1)] := hl
  change W p l e rmX6_absent s m args below meth c s.heap [] 0 0 (MQ below (va_Qi Q (fun u t => kP D q (wX aG aM aW aS aI q u) t) A) args s 0 0 A) _
  unfold wpX6_absent at hf
  obtain ⟨H, hH⟩ : ∃ H, H = s.heap := ⟨_, rfl⟩
  obtain ⟨locs, hlocs⟩ : ∃ x : List Loc, x = [] := ⟨_, rfl⟩
  rw [← hH] at hP
  have hS : va_S A s.heap H locs := by rw [hH, hlocs]; exact hS
  rw [show W p l e rmX6_absent s m args below meth c s.heap [] 0 0 (MQ below (va_Qi Q (fun u t => kP D q (wX aG aM aW aS aI q u) t) A) args s 0 0 A) (F0 m 0 ls []) = W p l e rmX6_absent s m args below meth c H locs 0 0 (MQ below (va_Qi Q (fun u t => kP D q (wX aG aM aW aS aI q u) t) A) args s 0 0 A) (F0 m 0 ls []) by rw [hH, hlocs]]
  clear hH hlocs
  have hP : va_P D vwCl (wZ aG aM aW aS aI q sh im ++ (wW aW aM q uW ++ wM aM q uM)) H := hP
  have hD : va_D A (wZ aG aM aW aS aI q sh im ++ (wW aW aM q uW ++ wM aM q uM)) := hD
  refine lv_aload_n hx hb dX6_absent_0 rfl (lv_at hl 0 rfl) ?_
  refine lv_iload_n hx hb dX6_absent_1 rfl (lv_at hl 1 rfl) ?_
  refine k_sq (k_runV (As := [.int x1]) (rest := []) ⟨hx, hb, hml, hown, hts⟩ (c_X6_pageAt l D q aG aM aW aS aI x1) (cwV 1 hts gX6_absent_X6_pageAt rfl rfl rfl cdX6_pageAt ⟨Nat.le_of_ble_eq_true rfl, Nat.le_of_ble_eq_true rfl⟩) hK (kp_l (kp_l hP)) (kd_l (kd_l hD)) 0 rfl rfl rfl hl.1 rfl (Nat.le_of_ble_eq_true rfl) dX6_absent_2 ⟨Nat.le_of_ble_eq_true rfl, Nat.le_of_ble_eq_true rfl⟩) (fun r hr => ?_)
  rcases hr with ⟨hc, rfl⟩ | ⟨i, hi, hs, rfl⟩
  · have hf := hf.1 hc
    change W p l e rmX6_absent s m args below meth c H locs 0 0 _ (F0 m 5 ls (.null :: []))
    refine lv_astore_nN (lv' := [(2, .null), (0, .ref (aG 0)), (1, .int x1)]) hx hb dX6_absent_5 rfl hl (by decide) rfl (fun ls hl => ?_)
    refine lv_aload_nN hx hb dX6_absent_6 rfl (lv_at hl 0 rfl) ?_
    refine lv_ifnonnullN hx hb dX6_absent_7 ?_
    refine lv_iconst (v := (-1)) hx hb dX6_absent_10 (by decide) ?_
    exact k_iret_w (wf := (fun u => wX aG aM aW aS aI q u)) (post := Q) (u := (uM, uW, sh, im)) (v := (-1)) hx hb hr hlocks hK hP hD hS hf dX6_absent_11
  · have hf := hf.2 i hi hs
    have hP := z_osP hi hP
    have hD := z_osD hi hD
    change W p l e rmX6_absent s m args below meth c H locs 0 0 _ (F0 m 5 ls (.ref ((aS i) 0) :: []))
    refine lv_astore_n (lv' := [(2, .ref ((aS i) 0)), (0, .ref (aG 0)), (1, .int x1)]) hx hb dX6_absent_5 rfl hl (by decide) rfl (fun ls hl => ?_)
    refine lv_aload_n hx hb dX6_absent_6 rfl (lv_at hl 0 rfl) ?_
    refine lv_ifnonnull (tgt := 12) hx hb dX6_absent_7 (by decide) ?_
    refine lv_aload_n hx hb dX6_absent_12 rfl (lv_at hl 1 rfl) ?_
    refine va_get (D := D) (ci := 4) (v := .ref (aW 0)) (C := RX6) (T := TX6) (N := 4) hx hb hts inX6_absent_X6 hown hK hP 0 rfl rfl 1 (by decide) (hts (.fieldLink RX6 21 "GrowingText" "words" "LGrowingText$Words;") (List.mem_of_getElem? (i := 1) rfl)) (fun _ h9 => h9) rfl dX6_absent_13 ?_
    refine lv_aload_n hx hb dX6_absent_16 rfl (lv_at hl 0 rfl) ?_
    refine k_wv (wf := fun u => wW aW aM q u.1 ++ (wM aM q uM ++ wS (aS i) q u.2)) (u0 := (uW, (sh i))) (k_runV (As := [.ref ((aS i) 0)]) (rest := []) ⟨hx, hb, hml, hown, hts⟩ (c_X5_writeAbsent l D q aW aM (aS i) uW uM (sh i) _ hf) (cwV 1 hts gX6_absent_X5_writeAbsent rfl rfl rfl cdX5_writeAbsent ⟨Nat.le_of_ble_eq_true rfl, Nat.le_of_ble_eq_true rfl⟩) hK (kp_r hP) (kd_r hD) 0 rfl rfl rfl hl.1 rfl (Nat.le_of_ble_eq_true rfl) dX6_absent_17 ⟨Nat.le_of_ble_eq_true rfl, Nat.le_of_ble_eq_true rfl⟩) (wY i aG aM aW aS aI q sh im) ([]) (fun _ => rfl) hP hD hS (fun u H locs hf hP hD hS => ?_)
    obtain ⟨uW1, uS2⟩ := u
    have hP : va_P D vwCl (wY i aG aM aW aS aI q sh im ++ (wW aW aM q uW1 ++ (wM aM q uM ++ wS (aS i) q uS2))) H := hP
    have hD : va_D A (wY i aG aM aW aS aI q sh im ++ (wW aW aM q uW1 ++ (wM aM q uM ++ wS (aS i) q uS2))) := hD
    refine lv_aload_n hx hb dX6_absent_20 rfl (lv_at hl 0 rfl) ?_
    refine va_get (D := D) (ci := 2) (v := .int (gS_length uS2)) (C := RX4) (T := TX4) (N := 3) hx hb hts inX6_absent_X4 hown hK (kp_r (kp_r (kp_r hP))) 0 rfl rfl 2 (by decide) (hts (.fieldLink RX6 72 "GrowingText$Sheet" "length" "I") (List.mem_of_getElem? (i := 2) rfl)) (fun _ h9 => h9) rfl dX6_absent_21 ?_
    have hP := z_csP hi hP
    have hD := z_csD hi hD
    exact k_iret_w (wf := (fun u => wX aG aM aW aS aI q u)) (post := Q) (u := (uM, uW1, (va_up sh i uS2), im)) (v := (gS_length uS2)) hx hb hr hlocks hK hP hD hS hf dX6_absent_24
def wpX6_missing (uM : MSt) (uW : WSt) (sh : Nat → SSt) (im : Nat → ISt) (x1 : Int32) (Q : Int32 → CSt → Prop) : Prop :=
  ∀ (X17 : Int64 → Int32 → Prop),
  (∀ (y2 : Int64) (y4 : Int32),
    ((x1 ≤ y4 →
      wpX5_wordsOfLength uW uM x1 (fun r4 =>
        Q ((y2 - ((r4).toInt64)).toInt32) (uM, uW, sh, im))) ∧
    (¬ (x1 ≤ y4) →
      (((y2 * ((gM_alphabet uM).toInt64)) : Int64) ≤ 2147483647 →
        X17 (y2 * ((gM_alphabet uM).toInt64)) (y4 + 1)) ∧
      (¬ (((y2 * ((gM_alphabet uM).toInt64)) : Int64) ≤ 2147483647) →
        Q (-13) (uM, uW, sh, im)))) → X17 y2 y4) →
  ((x1 < 0 →
    Q (-1) (uM, uW, sh, im)) ∧
  (¬ (x1 < 0) →
    (x1 ≤ 60 →
      X17 1 0) ∧
    (¬ (x1 ≤ 60) →
      Q (-1) (uM, uW, sh, im))))
def rmX6_missing : Room := { frames := 3, cells := 0, slots := 0, locals := 65 }
theorem inX6_missing_X2 : ∀ w ∈ wsX20, w ∈ wsX6_missing := fun w h => List.mem_cons_of_mem _ (List.mem_append_left _ (List.mem_append_right _ h))
theorem inX6_missing_X6 : ∀ w ∈ wsX60, w ∈ wsX6_missing := fun w h => List.mem_cons_of_mem _ (List.mem_append_left _ (List.mem_append_left _ (List.mem_append_right _ h)))
set_option maxRecDepth 100000 in
set_option maxHeartbeats 4000000 in
theorem c_X6_missing (l : Launch) (D : va_G) (q : Nat → ClassId) (aG aM aW : Nat → Nat) (aS aI : Nat → Nat → Nat) (uM : MSt) (uW : WSt) (sh : Nat → SSt) (im : Nat → ISt) (x1 : Int32) (Q : Int32 → CSt → Prop) (hf : wpX6_missing uM uW sh im x1 Q) : Met l yX6_missing wsX6_missing rmX6_missing (va_Pc [.ref (aG 0), .int x1] (kP D q (wX aG aM aW aS aI q (uM, uW, sh, im)))) (va_Qi Q (fun u t => kP D q (wX aG aM aW aS aI q u) t) (kIn (wX aG aM aW aS aI q (uM, uW, sh, im)))) 0 0 (kIn (wX aG aM aW aS aI q (uM, uW, sh, im))) := by
  refine Met.ofW (cc := cX6_missing) (maxL := 5) (ret := (some .int)) (by decide) rfl ?_
  intro p e s m args below meth c s₁ B hml hv
  obtain ⟨hargs, hP, hK, hD⟩ := hv
  have hx := B.exec
  have hb := B.bytes
  have hr := B.returns
  have hts := atoms_spec (ws := wsX6_missing) B.pre
  have hown : s.vm.findClass RX6 = some m.cls := findClass_of_methodNamed B.named
  have hlocks := B.notSynchronized
  have hD := kd_self hD
  generalize kIn (wX aG aM aW aS aI q (uM, uW, sh, im)) = A at hD ⊢
  have hS : va_S A s.heap s.heap [] := va_S.rf
  refine k_entry hargs (Nat.le_of_ble_eq_true rfl) (fun ls hl => ?_)
  have hl : lv_has ls 5 [(0, .ref (aG 0)), (1, .int x1)] := hl
  change W p l e rmX6_missing s m args below meth c s.heap [] 0 0 (MQ below (va_Qi Q (fun u t => kP D q (wX aG aM aW aS aI q u) t) A) args s 0 0 A) _
  unfold wpX6_missing at hf
  obtain ⟨H, hH⟩ : ∃ H, H = s.heap := ⟨_, rfl⟩
  obtain ⟨locs, hlocs⟩ : ∃ x : List Loc, x = [] := ⟨_, rfl⟩
  rw [← hH] at hP
  have hS : va_S A s.heap H locs := by rw [hH, hlocs]; exact hS
  rw [show W p l e rmX6_missing s m args below meth c s.heap [] 0 0 (MQ below (va_Qi Q (fun u t => kP D q (wX aG aM aW aS aI q u) t) A) args s 0 0 A) (F0 m 0 ls []) = W p l e rmX6_missing s m args below meth c H locs 0 0 (MQ below (va_Qi Q (fun u t => kP D q (wX aG aM aW aS aI q u) t) A) args s 0 0 A) (F0 m 0 ls []) by rw [hH, hlocs]]
  clear hH hlocs
  have hP : va_P D vwCl (wZ aG aM aW aS aI q sh im ++ (wW aW aM q uW ++ wM aM q uM)) H := hP
  have hD : va_D A (wZ aG aM aW aS aI q sh im ++ (wW aW aM q uW ++ wM aM q uM)) := hD
  have hf := hf
    (fun (y2 : Int64) (y4 : Int32) => ∀ (H : Heap) (locs : List Loc) (ls : Array Slot), va_P D vwCl (wZ aG aM aW aS aI q sh im ++ (wW aW aM q uW ++ wM aM q uM)) H → va_D A (wZ aG aM aW aS aI q sh im ++ (wW aW aM q uW ++ wM aM q uM)) → va_S A s.heap H locs → lv_has ls 5 [(0, .ref (aG 0)), (1, .int x1), (2, .long y2), (4, .int y4)] → W p l e rmX6_missing s m args below meth c H locs 0 0 (MQ below (va_Qi Q (fun u t => kP D q (wX aG aM aW aS aI q u) t) A) args s 0 0 A) (F0 m 17 ls []))
    (by
      intro y2 y4 hf H locs ls hP hD hS hl
      refine lv_iload hx hb dX6_missing_17 (lv_at hl 3 rfl) ?_
      refine lv_iload_n hx hb dX6_missing_19 rfl (lv_at hl 1 rfl) ?_
      refine lv_icmp_ge (tgt := 51) hx hb dX6_missing_20 (by decide) (fun c3 => ?_) (fun c3 => ?_)
      · have hf := hf.1 (c3)
        refine lv_lload_n hx hb dX6_missing_51 rfl (lv_at hl 2 rfl) ?_
        refine lv_aload_n hx hb dX6_missing_52 rfl (lv_at hl 0 rfl) ?_
        refine va_get (D := D) (ci := 4) (v := .ref (aW 0)) (C := RX6) (T := TX6) (N := 4) hx hb hts inX6_missing_X6 hown hK hP 0 rfl rfl 1 (by decide) (hts (.fieldLink RX6 21 "GrowingText" "words" "LGrowingText$Words;") (List.mem_of_getElem? (i := 4) rfl)) (fun _ h9 => h9) rfl dX6_missing_53 ?_
        refine lv_iload_n hx hb dX6_missing_56 rfl (lv_at hl 1 rfl) ?_
        refine k_si (k_runV (As := [.int x1]) (rest := [.long y2]) ⟨hx, hb, hml, hown, hts⟩ (c_X5_wordsOfLength l D q aW aM uW uM x1 _ hf) (cwV 1 hts gX6_missing_X5_wordsOfLength rfl rfl rfl cdX5_wordsOfLength ⟨Nat.le_of_ble_eq_true rfl, Nat.le_of_ble_eq_true rfl⟩) hK (kp_r hP) (kd_r hD) 0 rfl rfl rfl hl.1 rfl (Nat.le_of_ble_eq_true rfl) dX6_missing_57 ⟨Nat.le_of_ble_eq_true rfl, Nat.le_of_ble_eq_true rfl⟩) (fun r4 hf => ?_)
        refine lv_i2l (v := (r4).toInt64) hx hb dX6_missing_60 rfl ?_
        refine lv_lsub hx hb dX6_missing_61 ?_
        refine lv_l2i (v := (y2 - ((r4).toInt64)).toInt32) hx hb dX6_missing_62 rfl ?_
        exact k_iret_w (wf := (fun u => wX aG aM aW aS aI q u)) (post := Q) (u := (uM, uW, sh, im)) (v := ((y2 - ((r4).toInt64)).toInt32)) hx hb hr hlocks hK hP hD hS hf dX6_missing_63
      · have hf := hf.2 (c3)
        refine lv_lload_n hx hb dX6_missing_23 rfl (lv_at hl 2 rfl) ?_
        refine lv_aload_n hx hb dX6_missing_24 rfl (lv_at hl 0 rfl) ?_
        refine va_get (D := D) (ci := 4) (v := .ref (aM 0)) (C := RX6) (T := TX6) (N := 4) hx hb hts inX6_missing_X6 hown hK hP 0 rfl rfl 0 (by decide) (hts (.fieldLink RX6 12 "GrowingText" "machine" "LGrowingText$Machine;") (List.mem_of_getElem? (i := 1) rfl)) (fun _ h9 => h9) rfl dX6_missing_25 ?_
        refine va_get (D := D) (ci := 1) (v := .int (gM_alphabet uM)) (C := RX2) (T := TX2) (N := 12) hx hb hts inX6_missing_X2 hown hK (kp_r (kp_r hP)) 0 rfl rfl 0 (by decide) (hts (.fieldLink RX6 90 "GrowingText$Machine" "alphabet" "I") (List.mem_of_getElem? (i := 2) rfl)) (fun _ h9 => h9) rfl dX6_missing_28 ?_
        refine lv_i2l (v := (gM_alphabet uM).toInt64) hx hb dX6_missing_31 rfl ?_
        refine lv_lmul hx hb dX6_missing_32 ?_
        refine lv_lstore_n (lv' := [(2, .long (y2 * ((gM_alphabet uM).toInt64))), (0, .ref (aG 0)), (1, .int x1), (4, .int y4)]) hx hb dX6_missing_33 rfl hl (by decide) rfl (fun ls hl => ?_)
        refine lv_lload_n hx hb dX6_missing_34 rfl (lv_at hl 0 rfl) ?_
        refine lv_ldc2 (v := 2147483647) hx hb hown (hts (.constantLong RX6 83 (2147483647)) (List.mem_of_getElem? (i := 3) rfl)) dX6_missing_35 ?_
        refine W.lcmp hx hb dX6_missing_38 ?_
        refine lv_if_le (tgt := 45) hx hb dX6_missing_39 (by decide) (fun c5 => ?_) (fun c5 => ?_)
        · have hf := hf.1 ((k_cmp_le (y2 * ((gM_alphabet uM).toInt64)) 2147483647).mp c5)
          refine lv_iinc (v := (y4 + 1)) (lv' := [(4, .int (y4 + 1)), (2, .long (y2 * ((gM_alphabet uM).toInt64))), (0, .ref (aG 0)), (1, .int x1)]) hx hb dX6_missing_45 hl (k := 3) rfl rfl (by decide) rfl (fun ls hl => ?_)
          refine lv_goto (tgt := 17) hx hb dX6_missing_48 (by decide) ?_
          exact hf H locs ls hP hD hS (lv_sub hl [2, 3, 1, 0] rfl)
        · have hf := hf.2 ((fun h => c5 ((k_cmp_le (y2 * ((gM_alphabet uM).toInt64)) 2147483647).mpr h)))
          refine lv_bipush (v := (-13)) hx hb dX6_missing_42 (by decide) ?_
          exact k_iret_w (wf := (fun u => wX aG aM aW aS aI q u)) (post := Q) (u := (uM, uW, sh, im)) (v := (-13)) hx hb hr hlocks hK hP hD hS hf dX6_missing_44)
  refine lv_iload_n hx hb dX6_missing_0 rfl (lv_at hl 1 rfl) ?_
  refine lv_if_lt (tgt := 10) hx hb dX6_missing_1 (by decide) (fun c1 => ?_) (fun c1 => ?_)
  · have hf := hf.1 (c1)
    refine lv_iconst (v := (-1)) hx hb dX6_missing_10 (by decide) ?_
    exact k_iret_w (wf := (fun u => wX aG aM aW aS aI q u)) (post := Q) (u := (uM, uW, sh, im)) (v := (-1)) hx hb hr hlocks hK hP hD hS hf dX6_missing_11
  · have hf := hf.2 (c1)
    refine lv_iload_n hx hb dX6_missing_4 rfl (lv_at hl 1 rfl) ?_
    refine lv_bipush (v := 60) hx hb dX6_missing_5 (by decide) ?_
    refine lv_icmp_le (tgt := 12) hx hb dX6_missing_7 (by decide) (fun c2 => ?_) (fun c2 => ?_)
    · have hf := hf.1 (c2)
      refine lv_lconst (v := 1) hx hb dX6_missing_12 (by decide) ?_
      refine lv_lstore_n (lv' := [(2, .long 1), (0, .ref (aG 0)), (1, .int x1)]) hx hb dX6_missing_13 rfl hl (by decide) rfl (fun ls hl => ?_)
      refine lv_iconst (v := 0) hx hb dX6_missing_14 (by decide) ?_
      refine lv_istore (lv' := [(4, .int 0), (2, .long 1), (0, .ref (aG 0)), (1, .int x1)]) hx hb dX6_missing_15 hl (by decide) rfl (fun ls hl => ?_)
      exact hf H locs ls hP hD hS (lv_sub hl [2, 3, 1, 0] rfl)
    · have hf := hf.2 (c2)
      refine lv_iconst (v := (-1)) hx hb dX6_missing_10 (by decide) ?_
      exact k_iret_w (wf := (fun u => wX aG aM aW aS aI q u)) (post := Q) (u := (uM, uW, sh, im)) (v := (-1)) hx hb hr hlocks hK hP hD hS hf dX6_missing_11
def wpX6_often (uM : MSt) (uW : WSt) (sh : Nat → SSt) (im : Nat → ISt) (x1 : Int32) (x2 : Int32) (Q : Int32 → CSt → Prop) : Prop :=
  (((x2 < 0 ∨ 4 ≤ x2) →
    (x1 < 1 →
      Q (-1) (uM, uW, sh, im)) ∧
    (¬ (x1 < 1) →
      Q (-1) (uM, uW, sh, im))) ∧
  (∀ i : Nat, i < 4 → x2 = nI i →
    (x1 < 1 →
      Q (-1) (uM, uW, sh, im)) ∧
    (¬ (x1 < 1) →
      (x1 ≤ (fJ13_bitCount_95d88 (fX2_endsOf uM 0)) →
        wpX5_longestStateWith uW uM x1 (fun r4 =>
          wpX4_copyWord uM (sh i) (fX2_firstEndOf uM r4) (fX2_longestOf uM r4) (fun uS5 =>
            Q (gS_length uS5) (uM, uW, (va_up sh i uS5), im)))) ∧
      (¬ (x1 ≤ (fJ13_bitCount_95d88 (fX2_endsOf uM 0))) →
        Q (-4) (uM, uW, sh, im)))))
def rmX6_often : Room := { frames := 5, cells := 0, slots := 0, locals := 119 }
theorem inX6_often_X4 : ∀ w ∈ wsX40, w ∈ wsX6_often := fun w h => List.mem_cons_of_mem _ (List.mem_append_left _ (List.mem_append_left _ (List.mem_append_right _ h)))
theorem inX6_often_X6 : ∀ w ∈ wsX60, w ∈ wsX6_often := fun w h => List.mem_cons_of_mem _ (List.mem_append_left _ (List.mem_append_left _ (List.mem_append_left _ (List.mem_append_right _ h))))
set_option maxRecDepth 100000 in
set_option maxHeartbeats 4000000 in
theorem c_X6_often (l : Launch) (D : va_G) (q : Nat → ClassId) (aG aM aW : Nat → Nat) (aS aI : Nat → Nat → Nat) (uM : MSt) (uW : WSt) (sh : Nat → SSt) (im : Nat → ISt) (x1 : Int32) (x2 : Int32) (Q : Int32 → CSt → Prop) (hf : wpX6_often uM uW sh im x1 x2 Q) : Met l yX6_often wsX6_often rmX6_often (va_Pc [.ref (aG 0), .int x1, .int x2] (kP D q (wX aG aM aW aS aI q (uM, uW, sh, im)))) (va_Qi Q (fun u t => kP D q (wX aG aM aW aS aI q u) t) (kIn (wX aG aM aW aS aI q (uM, uW, sh, im)))) 0 0 (kIn (wX aG aM aW aS aI q (uM, uW, sh, im))) := by
  refine Met.ofW (cc := cX6_often) (maxL := 5) (ret := (some .int)) (by decide) rfl ?_
  intro p e s m args below meth c s₁ B hml hv
  obtain ⟨hargs, hP, hK, hD⟩ := hv
  have hx := B.exec
  have hb := B.bytes
  have hr := B.returns
  have hts := atoms_spec (ws := wsX6_often) B.pre
  have hown : s.vm.findClass RX6 = some m.cls := findClass_of_methodNamed B.named
  have hlocks := B.notSynchronized
  have hD := kd_self hD
  generalize kIn (wX aG aM aW aS aI q (uM, uW, sh, im)) = A at hD ⊢
  have hS : va_S A s.heap s.heap [] := va_S.rf
  refine k_entry hargs (Nat.le_of_ble_eq_true rfl) (fun ls hl => ?_)
  have hl : lv_has ls 5 [(0, .ref (aG 0)), (1, .int x1), (2, .int x2)] := hl
  change W p l e rmX6_often s m args below meth c s.heap [] 0 0 (MQ below (va_Qi Q (fun u t => kP D q (wX aG aM aW aS aI q u) t) A) args s 0 0 A) _
  unfold wpX6_often at hf
  obtain ⟨H, hH⟩ : ∃ H, H = s.heap := ⟨_, rfl⟩
  obtain ⟨locs, hlocs⟩ : ∃ x : List Loc, x = [] := ⟨_, rfl⟩
  rw [← hH] at hP
  have hS : va_S A s.heap H locs := by rw [hH, hlocs]; exact hS
  rw [show W p l e rmX6_often s m args below meth c s.heap [] 0 0 (MQ below (va_Qi Q (fun u t => kP D q (wX aG aM aW aS aI q u) t) A) args s 0 0 A) (F0 m 0 ls []) = W p l e rmX6_often s m args below meth c H locs 0 0 (MQ below (va_Qi Q (fun u t => kP D q (wX aG aM aW aS aI q u) t) A) args s 0 0 A) (F0 m 0 ls []) by rw [hH, hlocs]]
  clear hH hlocs
  have hP : va_P D vwCl (wZ aG aM aW aS aI q sh im ++ (wW aW aM q uW ++ wM aM q uM)) H := hP
  have hD : va_D A (wZ aG aM aW aS aI q sh im ++ (wW aW aM q uW ++ wM aM q uM)) := hD
  refine lv_aload_n hx hb dX6_often_0 rfl (lv_at hl 0 rfl) ?_
  refine lv_iload_n hx hb dX6_often_1 rfl (lv_at hl 2 rfl) ?_
  refine k_sq (k_runV (As := [.int x2]) (rest := []) ⟨hx, hb, hml, hown, hts⟩ (c_X6_pageAt l D q aG aM aW aS aI x2) (cwV 1 hts gX6_often_X6_pageAt rfl rfl rfl cdX6_pageAt ⟨Nat.le_of_ble_eq_true rfl, Nat.le_of_ble_eq_true rfl⟩) hK (kp_l (kp_l hP)) (kd_l (kd_l hD)) 0 rfl rfl rfl hl.1 rfl (Nat.le_of_ble_eq_true rfl) dX6_often_2 ⟨Nat.le_of_ble_eq_true rfl, Nat.le_of_ble_eq_true rfl⟩) (fun r hr => ?_)
  rcases hr with ⟨hc, rfl⟩ | ⟨i, hi, hs, rfl⟩
  · have hf := hf.1 hc
    change W p l e rmX6_often s m args below meth c H locs 0 0 _ (F0 m 5 ls (.null :: []))
    refine lv_astore_nN (lv' := [(3, .null), (0, .ref (aG 0)), (1, .int x1), (2, .int x2)]) hx hb dX6_often_5 rfl hl (by decide) rfl (fun ls hl => ?_)
    refine lv_iload_n hx hb dX6_often_6 rfl (lv_at hl 2 rfl) ?_
    refine lv_iconst (v := 1) hx hb dX6_often_7 (by decide) ?_
    refine lv_icmp_lt (tgt := 15) hx hb dX6_often_8 (by decide) (fun c1 => ?_) (fun c1 => ?_)
    · have hf := hf.1 (c1)
      refine lv_iconst (v := (-1)) hx hb dX6_often_15 (by decide) ?_
      exact k_iret_w (wf := (fun u => wX aG aM aW aS aI q u)) (post := Q) (u := (uM, uW, sh, im)) (v := (-1)) hx hb hr hlocks hK hP hD hS hf dX6_often_16
    · have hf := hf.2 (c1)
      refine lv_aload_nN hx hb dX6_often_11 rfl (lv_at hl 0 rfl) ?_
      refine lv_ifnonnullN hx hb dX6_often_12 ?_
      refine lv_iconst (v := (-1)) hx hb dX6_often_15 (by decide) ?_
      exact k_iret_w (wf := (fun u => wX aG aM aW aS aI q u)) (post := Q) (u := (uM, uW, sh, im)) (v := (-1)) hx hb hr hlocks hK hP hD hS hf dX6_often_16
  · have hf := hf.2 i hi hs
    have hP := z_osP hi hP
    have hD := z_osD hi hD
    change W p l e rmX6_often s m args below meth c H locs 0 0 _ (F0 m 5 ls (.ref ((aS i) 0) :: []))
    refine lv_astore_n (lv' := [(3, .ref ((aS i) 0)), (0, .ref (aG 0)), (1, .int x1), (2, .int x2)]) hx hb dX6_often_5 rfl hl (by decide) rfl (fun ls hl => ?_)
    refine lv_iload_n hx hb dX6_often_6 rfl (lv_at hl 2 rfl) ?_
    refine lv_iconst (v := 1) hx hb dX6_often_7 (by decide) ?_
    refine lv_icmp_lt (tgt := 15) hx hb dX6_often_8 (by decide) (fun c2 => ?_) (fun c2 => ?_)
    · have hf := hf.1 (c2)
      refine lv_iconst (v := (-1)) hx hb dX6_often_15 (by decide) ?_
      have hP := z_cs0P hi hP
      have hD := z_cs0D hi hD
      exact k_iret_w (wf := (fun u => wX aG aM aW aS aI q u)) (post := Q) (u := (uM, uW, sh, im)) (v := (-1)) hx hb hr hlocks hK hP hD hS hf dX6_often_16
    · have hf := hf.2 (c2)
      refine lv_aload_n hx hb dX6_often_11 rfl (lv_at hl 0 rfl) ?_
      refine lv_ifnonnull (tgt := 17) hx hb dX6_often_12 (by decide) ?_
      refine lv_iload_n hx hb dX6_often_17 rfl (lv_at hl 2 rfl) ?_
      refine lv_aload_n hx hb dX6_often_18 rfl (lv_at hl 1 rfl) ?_
      refine va_get (D := D) (ci := 4) (v := .ref (aM 0)) (C := RX6) (T := TX6) (N := 4) hx hb hts inX6_often_X6 hown hK hP 0 rfl rfl 0 (by decide) (hts (.fieldLink RX6 12 "GrowingText" "machine" "LGrowingText$Machine;") (List.mem_of_getElem? (i := 1) rfl)) (fun _ h9 => h9) rfl dX6_often_19 ?_
      refine lv_iconst (v := 0) hx hb dX6_often_22 (by decide) ?_
      refine k_sl (k_runV (As := [.int 0]) (rest := [.int x1]) ⟨hx, hb, hml, hown, hts⟩ (cF_X2_endsOf l D q aM uM 0) (cwV 1 hts gX6_often_X2_endsOf rfl rfl rfl cdX2_endsOf ⟨Nat.le_of_ble_eq_true rfl, Nat.le_of_ble_eq_true rfl⟩) hK (kp_l (a := wM aM q uM) (b := wS (aS i) q (sh i)) (kp_r (kp_r hP))) (kd_l (a := wM aM q uM) (b := wS (aS i) q (sh i)) (kd_r (kd_r hD))) 0 rfl rfl rfl hl.1 rfl (Nat.le_of_ble_eq_true rfl) dX6_often_23 ⟨Nat.le_of_ble_eq_true rfl, Nat.le_of_ble_eq_true rfl⟩) (fun r hr => ?_)
      subst hr
      refine k_si (k_runS (As := [.long (fX2_endsOf uM 0)]) (rest := [.int x1]) ⟨hx, hb, hml, hown, hts⟩ (cF_J13_bitCount_95d88 l D q (fX2_endsOf uM 0)) (va_cwS 1 hts gX6_often_J13_bitCount_95d88 rfl rfl rfl cdJ13_bitCount_95d88 ⟨Nat.le_of_ble_eq_true rfl, Nat.le_of_ble_eq_true rfl⟩) hK k_nilP k_nilD rfl hl.1 rfl (Nat.le_of_ble_eq_true rfl) dX6_often_26 ⟨Nat.le_of_ble_eq_true rfl, Nat.le_of_ble_eq_true rfl⟩) (fun r hr => ?_)
      subst hr
      refine lv_icmp_le (tgt := 35) hx hb dX6_often_29 (by decide) (fun c3 => ?_) (fun c3 => ?_)
      · have hf := hf.1 (c3)
        refine lv_aload_n hx hb dX6_often_35 rfl (lv_at hl 1 rfl) ?_
        refine va_get (D := D) (ci := 4) (v := .ref (aW 0)) (C := RX6) (T := TX6) (N := 4) hx hb hts inX6_often_X6 hown hK hP 0 rfl rfl 1 (by decide) (hts (.fieldLink RX6 21 "GrowingText" "words" "LGrowingText$Words;") (List.mem_of_getElem? (i := 2) rfl)) (fun _ h9 => h9) rfl dX6_often_36 ?_
        refine lv_iload_n hx hb dX6_often_39 rfl (lv_at hl 2 rfl) ?_
        refine k_si (k_runV (As := [.int x1]) (rest := []) ⟨hx, hb, hml, hown, hts⟩ (c_X5_longestStateWith l D q aW aM uW uM x1 _ hf) (cwV 1 hts gX6_often_X5_longestStateWith rfl rfl rfl cdX5_longestStateWith ⟨Nat.le_of_ble_eq_true rfl, Nat.le_of_ble_eq_true rfl⟩) hK (kp_l (a := wW aW aM q uW ++ wM aM q uM) (b := wS (aS i) q (sh i)) (kp_r hP)) (kd_l (a := wW aW aM q uW ++ wM aM q uM) (b := wS (aS i) q (sh i)) (kd_r hD)) 0 rfl rfl rfl hl.1 rfl (Nat.le_of_ble_eq_true rfl) dX6_often_40 ⟨Nat.le_of_ble_eq_true rfl, Nat.le_of_ble_eq_true rfl⟩) (fun r4 hf => ?_)
        refine lv_istore (lv' := [(4, .int r4), (3, .ref ((aS i) 0)), (0, .ref (aG 0)), (1, .int x1), (2, .int x2)]) hx hb dX6_often_43 hl (by decide) rfl (fun ls hl => ?_)
        refine lv_aload_n hx hb dX6_often_45 rfl (lv_at hl 1 rfl) ?_
        refine lv_aload_n hx hb dX6_often_46 rfl (lv_at hl 2 rfl) ?_
        refine va_get (D := D) (ci := 4) (v := .ref (aM 0)) (C := RX6) (T := TX6) (N := 4) hx hb hts inX6_often_X6 hown hK hP 0 rfl rfl 0 (by decide) (hts (.fieldLink RX6 12 "GrowingText" "machine" "LGrowingText$Machine;") (List.mem_of_getElem? (i := 1) rfl)) (fun _ h9 => h9) rfl dX6_often_47 ?_
        refine lv_aload_n hx hb dX6_often_50 rfl (lv_at hl 2 rfl) ?_
        refine va_get (D := D) (ci := 4) (v := .ref (aM 0)) (C := RX6) (T := TX6) (N := 4) hx hb hts inX6_often_X6 hown hK hP 0 rfl rfl 0 (by decide) (hts (.fieldLink RX6 12 "GrowingText" "machine" "LGrowingText$Machine;") (List.mem_of_getElem? (i := 1) rfl)) (fun _ h9 => h9) rfl dX6_often_51 ?_
        refine lv_iload hx hb dX6_often_54 (lv_at hl 0 rfl) ?_
        refine k_si (k_runV (As := [.int r4]) (rest := [.ref (aM 0), .ref ((aS i) 0)]) ⟨hx, hb, hml, hown, hts⟩ (cF_X2_firstEndOf l D q aM uM r4) (cwV 1 hts gX6_often_X2_firstEndOf rfl rfl rfl cdX2_firstEndOf ⟨Nat.le_of_ble_eq_true rfl, Nat.le_of_ble_eq_true rfl⟩) hK (kp_l (a := wM aM q uM) (b := wS (aS i) q (sh i)) (kp_r (kp_r hP))) (kd_l (a := wM aM q uM) (b := wS (aS i) q (sh i)) (kd_r (kd_r hD))) 0 rfl rfl rfl hl.1 rfl (Nat.le_of_ble_eq_true rfl) dX6_often_56 ⟨Nat.le_of_ble_eq_true rfl, Nat.le_of_ble_eq_true rfl⟩) (fun r hr => ?_)
        subst hr
        refine lv_aload_n hx hb dX6_often_59 rfl (lv_at hl 2 rfl) ?_
        refine va_get (D := D) (ci := 4) (v := .ref (aM 0)) (C := RX6) (T := TX6) (N := 4) hx hb hts inX6_often_X6 hown hK hP 0 rfl rfl 0 (by decide) (hts (.fieldLink RX6 12 "GrowingText" "machine" "LGrowingText$Machine;") (List.mem_of_getElem? (i := 1) rfl)) (fun _ h9 => h9) rfl dX6_often_60 ?_
        refine lv_iload hx hb dX6_often_63 (lv_at hl 0 rfl) ?_
        refine k_si (k_runV (As := [.int r4]) (rest := [.int (fX2_firstEndOf uM r4), .ref (aM 0), .ref ((aS i) 0)]) ⟨hx, hb, hml, hown, hts⟩ (cF_X2_longestOf l D q aM uM r4) (cwV 1 hts gX6_often_X2_longestOf rfl rfl rfl cdX2_longestOf ⟨Nat.le_of_ble_eq_true rfl, Nat.le_of_ble_eq_true rfl⟩) hK (kp_l (a := wM aM q uM) (b := wS (aS i) q (sh i)) (kp_r (kp_r hP))) (kd_l (a := wM aM q uM) (b := wS (aS i) q (sh i)) (kd_r (kd_r hD))) 0 rfl rfl rfl hl.1 rfl (Nat.le_of_ble_eq_true rfl) dX6_often_65 ⟨Nat.le_of_ble_eq_true rfl, Nat.le_of_ble_eq_true rfl⟩) (fun r hr => ?_)
        subst hr
        refine k_wv (wf := fun u => wM aM q uM ++ wS (aS i) q u) (u0 := (sh i)) (k_runV (As := [.ref (aM 0), .int (fX2_firstEndOf uM r4), .int (fX2_longestOf uM r4)]) (rest := []) ⟨hx, hb, hml, hown, hts⟩ (c_X4_copyWord l D q aM (aS i) uM (sh i) (fX2_firstEndOf uM r4) (fX2_longestOf uM r4) _ hf) (cwV 3 hts gX6_often_X4_copyWord rfl rfl rfl cdX4_copyWord ⟨Nat.le_of_ble_eq_true rfl, Nat.le_of_ble_eq_true rfl⟩) hK (kp_r (kp_r hP)) (kd_r (kd_r hD)) 9 rfl rfl rfl hl.1 rfl (Nat.le_of_ble_eq_true rfl) dX6_often_68 ⟨Nat.le_of_ble_eq_true rfl, Nat.le_of_ble_eq_true rfl⟩) (wY i aG aM aW aS aI q sh im ++ wW aW aM q uW) ([]) (fun _ => rfl) (kp_as (a := wY i aG aM aW aS aI q sh im) (b := wW aW aM q uW) (c := (wM aM q uM ++ wS (aS i) q (sh i)) ++ ([])) hP) (kd_as (a := wY i aG aM aW aS aI q sh im) (b := wW aW aM q uW) (c := (wM aM q uM ++ wS (aS i) q (sh i)) ++ ([])) hD) hS (fun uS5 H locs hf hP hD hS => ?_)
        have hP := kp_sa hP
        have hD := kd_sa hD
        have hP : va_P D vwCl (wY i aG aM aW aS aI q sh im ++ (wW aW aM q uW ++ (wM aM q uM ++ wS (aS i) q uS5))) H := hP
        have hD : va_D A (wY i aG aM aW aS aI q sh im ++ (wW aW aM q uW ++ (wM aM q uM ++ wS (aS i) q uS5))) := hD
        refine lv_aload_n hx hb dX6_often_71 rfl (lv_at hl 1 rfl) ?_
        refine va_get (D := D) (ci := 2) (v := .int (gS_length uS5)) (C := RX4) (T := TX4) (N := 3) hx hb hts inX6_often_X4 hown hK (kp_r (kp_r (kp_r hP))) 0 rfl rfl 2 (by decide) (hts (.fieldLink RX6 72 "GrowingText$Sheet" "length" "I") (List.mem_of_getElem? (i := 3) rfl)) (fun _ h9 => h9) rfl dX6_often_72 ?_
        have hP := z_csP hi hP
        have hD := z_csD hi hD
        exact k_iret_w (wf := (fun u => wX aG aM aW aS aI q u)) (post := Q) (u := (uM, uW, (va_up sh i uS5), im)) (v := (gS_length uS5)) hx hb hr hlocks hK hP hD hS hf dX6_often_75
      · have hf := hf.2 (c3)
        refine lv_bipush (v := (-4)) hx hb dX6_often_32 (by decide) ?_
        have hP := z_cs0P hi hP
        have hD := z_cs0D hi hD
        exact k_iret_w (wf := (fun u => wX aG aM aW aS aI q u)) (post := Q) (u := (uM, uW, sh, im)) (v := (-4)) hx hb hr hlocks hK hP hD hS hf dX6_often_34
def wpX6_twice (uM : MSt) (uW : WSt) (sh : Nat → SSt) (im : Nat → ISt) (x1 : Int32) (Q : Int32 → CSt → Prop) : Prop :=
  ((x1 < 1 →
    Q (-1) (uM, uW, sh, im)) ∧
  (¬ (x1 < 1) →
    (x1 ≤ 60 →
      wpX5_firstTwice uW uM x1 (fun r3 =>
        Q r3 (uM, uW, sh, im))) ∧
    (¬ (x1 ≤ 60) →
      Q (-1) (uM, uW, sh, im))))
def rmX6_twice : Room := { frames := 3, cells := 0, slots := 0, locals := 64 }
theorem inX6_twice_X6 : ∀ w ∈ wsX60, w ∈ wsX6_twice := fun w h => List.mem_cons_of_mem _ (List.mem_append_left _ (List.mem_append_left _ (List.mem_append_right _ h)))
set_option maxRecDepth 100000 in
set_option maxHeartbeats 4000000 in
theorem c_X6_twice (l : Launch) (D : va_G) (q : Nat → ClassId) (aG aM aW : Nat → Nat) (aS aI : Nat → Nat → Nat) (uM : MSt) (uW : WSt) (sh : Nat → SSt) (im : Nat → ISt) (x1 : Int32) (Q : Int32 → CSt → Prop) (hf : wpX6_twice uM uW sh im x1 Q) : Met l yX6_twice wsX6_twice rmX6_twice (va_Pc [.ref (aG 0), .int x1] (kP D q (wX aG aM aW aS aI q (uM, uW, sh, im)))) (va_Qi Q (fun u t => kP D q (wX aG aM aW aS aI q u) t) (kIn (wX aG aM aW aS aI q (uM, uW, sh, im)))) 0 0 (kIn (wX aG aM aW aS aI q (uM, uW, sh, im))) := by
  refine Met.ofW (cc := cX6_twice) (maxL := 2) (ret := (some .int)) (by decide) rfl ?_
  intro p e s m args below meth c s₁ B hml hv
  obtain ⟨hargs, hP, hK, hD⟩ := hv
  have hx := B.exec
  have hb := B.bytes
  have hr := B.returns
  have hts := atoms_spec (ws := wsX6_twice) B.pre
  have hown : s.vm.findClass RX6 = some m.cls := findClass_of_methodNamed B.named
  have hlocks := B.notSynchronized
  have hD := kd_self hD
  generalize kIn (wX aG aM aW aS aI q (uM, uW, sh, im)) = A at hD ⊢
  have hS : va_S A s.heap s.heap [] := va_S.rf
  refine k_entry hargs (Nat.le_of_ble_eq_true rfl) (fun ls hl => ?_)
  have hl : lv_has ls 2 [(0, .ref (aG 0)), (1, .int x1)] := hl
  change W p l e rmX6_twice s m args below meth c s.heap [] 0 0 (MQ below (va_Qi Q (fun u t => kP D q (wX aG aM aW aS aI q u) t) A) args s 0 0 A) _
  unfold wpX6_twice at hf
  obtain ⟨H, hH⟩ : ∃ H, H = s.heap := ⟨_, rfl⟩
  obtain ⟨locs, hlocs⟩ : ∃ x : List Loc, x = [] := ⟨_, rfl⟩
  rw [← hH] at hP
  have hS : va_S A s.heap H locs := by rw [hH, hlocs]; exact hS
  rw [show W p l e rmX6_twice s m args below meth c s.heap [] 0 0 (MQ below (va_Qi Q (fun u t => kP D q (wX aG aM aW aS aI q u) t) A) args s 0 0 A) (F0 m 0 ls []) = W p l e rmX6_twice s m args below meth c H locs 0 0 (MQ below (va_Qi Q (fun u t => kP D q (wX aG aM aW aS aI q u) t) A) args s 0 0 A) (F0 m 0 ls []) by rw [hH, hlocs]]
  clear hH hlocs
  have hP : va_P D vwCl (wZ aG aM aW aS aI q sh im ++ (wW aW aM q uW ++ wM aM q uM)) H := hP
  have hD : va_D A (wZ aG aM aW aS aI q sh im ++ (wW aW aM q uW ++ wM aM q uM)) := hD
  refine lv_iload_n hx hb dX6_twice_0 rfl (lv_at hl 1 rfl) ?_
  refine lv_iconst (v := 1) hx hb dX6_twice_1 (by decide) ?_
  refine lv_icmp_lt (tgt := 11) hx hb dX6_twice_2 (by decide) (fun c1 => ?_) (fun c1 => ?_)
  · have hf := hf.1 (c1)
    refine lv_iconst (v := (-1)) hx hb dX6_twice_11 (by decide) ?_
    exact k_iret_w (wf := (fun u => wX aG aM aW aS aI q u)) (post := Q) (u := (uM, uW, sh, im)) (v := (-1)) hx hb hr hlocks hK hP hD hS hf dX6_twice_12
  · have hf := hf.2 (c1)
    refine lv_iload_n hx hb dX6_twice_5 rfl (lv_at hl 1 rfl) ?_
    refine lv_bipush (v := 60) hx hb dX6_twice_6 (by decide) ?_
    refine lv_icmp_le (tgt := 13) hx hb dX6_twice_8 (by decide) (fun c2 => ?_) (fun c2 => ?_)
    · have hf := hf.1 (c2)
      refine lv_aload_n hx hb dX6_twice_13 rfl (lv_at hl 0 rfl) ?_
      refine va_get (D := D) (ci := 4) (v := .ref (aW 0)) (C := RX6) (T := TX6) (N := 4) hx hb hts inX6_twice_X6 hown hK hP 0 rfl rfl 1 (by decide) (hts (.fieldLink RX6 21 "GrowingText" "words" "LGrowingText$Words;") (List.mem_of_getElem? (i := 1) rfl)) (fun _ h9 => h9) rfl dX6_twice_14 ?_
      refine lv_iload_n hx hb dX6_twice_17 rfl (lv_at hl 1 rfl) ?_
      refine k_si (k_runV (As := [.int x1]) (rest := []) ⟨hx, hb, hml, hown, hts⟩ (c_X5_firstTwice l D q aW aM uW uM x1 _ hf) (cwV 1 hts gX6_twice_X5_firstTwice rfl rfl rfl cdX5_firstTwice ⟨Nat.le_of_ble_eq_true rfl, Nat.le_of_ble_eq_true rfl⟩) hK (kp_r hP) (kd_r hD) 0 rfl rfl rfl hl.1 rfl (Nat.le_of_ble_eq_true rfl) dX6_twice_18 ⟨Nat.le_of_ble_eq_true rfl, Nat.le_of_ble_eq_true rfl⟩) (fun r3 hf => ?_)
      exact k_iret_w (wf := (fun u => wX aG aM aW aS aI q u)) (post := Q) (u := (uM, uW, sh, im)) (v := r3) hx hb hr hlocks hK hP hD hS hf dX6_twice_21
    · have hf := hf.2 (c2)
      refine lv_iconst (v := (-1)) hx hb dX6_twice_11 (by decide) ?_
      exact k_iret_w (wf := (fun u => wX aG aM aW aS aI q u)) (post := Q) (u := (uM, uW, sh, im)) (v := (-1)) hx hb hr hlocks hK hP hD hS hf dX6_twice_12
def wpX6_unlike (uM : MSt) (uW : WSt) (sh : Nat → SSt) (im : Nat → ISt) (x1 : Int32) (Q : Int32 → CSt → Prop) : Prop :=
  ((x1 < 0 →
    Q (-1) (uM, uW, sh, im)) ∧
  (¬ (x1 < 0) →
    (x1 ≤ (gM_length uM) →
      wpX5_unlikeUpTo uW uM x1 (fun r3 =>
        Q r3 (uM, uW, sh, im))) ∧
    (¬ (x1 ≤ (gM_length uM)) →
      Q (-1) (uM, uW, sh, im))))
def rmX6_unlike : Room := { frames := 3, cells := 0, slots := 0, locals := 65 }
theorem inX6_unlike_X2 : ∀ w ∈ wsX20, w ∈ wsX6_unlike := fun w h => List.mem_cons_of_mem _ (List.mem_append_left _ (List.mem_append_right _ h))
theorem inX6_unlike_X6 : ∀ w ∈ wsX60, w ∈ wsX6_unlike := fun w h => List.mem_cons_of_mem _ (List.mem_append_left _ (List.mem_append_left _ (List.mem_append_right _ h)))
set_option maxRecDepth 100000 in
set_option maxHeartbeats 4000000 in
theorem c_X6_unlike (l : Launch) (D : va_G) (q : Nat → ClassId) (aG aM aW : Nat → Nat) (aS aI : Nat → Nat → Nat) (uM : MSt) (uW : WSt) (sh : Nat → SSt) (im : Nat → ISt) (x1 : Int32) (Q : Int32 → CSt → Prop) (hf : wpX6_unlike uM uW sh im x1 Q) : Met l yX6_unlike wsX6_unlike rmX6_unlike (va_Pc [.ref (aG 0), .int x1] (kP D q (wX aG aM aW aS aI q (uM, uW, sh, im)))) (va_Qi Q (fun u t => kP D q (wX aG aM aW aS aI q u) t) (kIn (wX aG aM aW aS aI q (uM, uW, sh, im)))) 0 0 (kIn (wX aG aM aW aS aI q (uM, uW, sh, im))) := by
  refine Met.ofW (cc := cX6_unlike) (maxL := 2) (ret := (some .int)) (by decide) rfl ?_
  intro p e s m args below meth c s₁ B hml hv
  obtain ⟨hargs, hP, hK, hD⟩ := hv
  have hx := B.exec
  have hb := B.bytes
  have hr := B.returns
  have hts := atoms_spec (ws := wsX6_unlike) B.pre
  have hown : s.vm.findClass RX6 = some m.cls := findClass_of_methodNamed B.named
  have hlocks := B.notSynchronized
  have hD := kd_self hD
  generalize kIn (wX aG aM aW aS aI q (uM, uW, sh, im)) = A at hD ⊢
  have hS : va_S A s.heap s.heap [] := va_S.rf
  refine k_entry hargs (Nat.le_of_ble_eq_true rfl) (fun ls hl => ?_)
  have hl : lv_has ls 2 [(0, .ref (aG 0)), (1, .int x1)] := hl
  change W p l e rmX6_unlike s m args below meth c s.heap [] 0 0 (MQ below (va_Qi Q (fun u t => kP D q (wX aG aM aW aS aI q u) t) A) args s 0 0 A) _
  unfold wpX6_unlike at hf
  obtain ⟨H, hH⟩ : ∃ H, H = s.heap := ⟨_, rfl⟩
  obtain ⟨locs, hlocs⟩ : ∃ x : List Loc, x = [] := ⟨_, rfl⟩
  rw [← hH] at hP
  have hS : va_S A s.heap H locs := by rw [hH, hlocs]; exact hS
  rw [show W p l e rmX6_unlike s m args below meth c s.heap [] 0 0 (MQ below (va_Qi Q (fun u t => kP D q (wX aG aM aW aS aI q u) t) A) args s 0 0 A) (F0 m 0 ls []) = W p l e rmX6_unlike s m args below meth c H locs 0 0 (MQ below (va_Qi Q (fun u t => kP D q (wX aG aM aW aS aI q u) t) A) args s 0 0 A) (F0 m 0 ls []) by rw [hH, hlocs]]
  clear hH hlocs
  have hP : va_P D vwCl (wZ aG aM aW aS aI q sh im ++ (wW aW aM q uW ++ wM aM q uM)) H := hP
  have hD : va_D A (wZ aG aM aW aS aI q sh im ++ (wW aW aM q uW ++ wM aM q uM)) := hD
  refine lv_iload_n hx hb dX6_unlike_0 rfl (lv_at hl 1 rfl) ?_
  refine lv_if_lt (tgt := 15) hx hb dX6_unlike_1 (by decide) (fun c1 => ?_) (fun c1 => ?_)
  · have hf := hf.1 (c1)
    refine lv_iconst (v := (-1)) hx hb dX6_unlike_15 (by decide) ?_
    exact k_iret_w (wf := (fun u => wX aG aM aW aS aI q u)) (post := Q) (u := (uM, uW, sh, im)) (v := (-1)) hx hb hr hlocks hK hP hD hS hf dX6_unlike_16
  · have hf := hf.2 (c1)
    refine lv_iload_n hx hb dX6_unlike_4 rfl (lv_at hl 1 rfl) ?_
    refine lv_aload_n hx hb dX6_unlike_5 rfl (lv_at hl 0 rfl) ?_
    refine va_get (D := D) (ci := 4) (v := .ref (aM 0)) (C := RX6) (T := TX6) (N := 4) hx hb hts inX6_unlike_X6 hown hK hP 0 rfl rfl 0 (by decide) (hts (.fieldLink RX6 12 "GrowingText" "machine" "LGrowingText$Machine;") (List.mem_of_getElem? (i := 1) rfl)) (fun _ h9 => h9) rfl dX6_unlike_6 ?_
    refine va_get (D := D) (ci := 1) (v := .int (gM_length uM)) (C := RX2) (T := TX2) (N := 12) hx hb hts inX6_unlike_X2 hown hK (kp_r (kp_r hP)) 0 rfl rfl 1 (by decide) (hts (.fieldLink RX6 39 "GrowingText$Machine" "length" "I") (List.mem_of_getElem? (i := 2) rfl)) (fun _ h9 => h9) rfl dX6_unlike_9 ?_
    refine lv_icmp_le (tgt := 17) hx hb dX6_unlike_12 (by decide) (fun c2 => ?_) (fun c2 => ?_)
    · have hf := hf.1 (c2)
      refine lv_aload_n hx hb dX6_unlike_17 rfl (lv_at hl 0 rfl) ?_
      refine va_get (D := D) (ci := 4) (v := .ref (aW 0)) (C := RX6) (T := TX6) (N := 4) hx hb hts inX6_unlike_X6 hown hK hP 0 rfl rfl 1 (by decide) (hts (.fieldLink RX6 21 "GrowingText" "words" "LGrowingText$Words;") (List.mem_of_getElem? (i := 3) rfl)) (fun _ h9 => h9) rfl dX6_unlike_18 ?_
      refine lv_iload_n hx hb dX6_unlike_21 rfl (lv_at hl 1 rfl) ?_
      refine k_si (k_runV (As := [.int x1]) (rest := []) ⟨hx, hb, hml, hown, hts⟩ (c_X5_unlikeUpTo l D q aW aM uW uM x1 _ hf) (cwV 1 hts gX6_unlike_X5_unlikeUpTo rfl rfl rfl cdX5_unlikeUpTo ⟨Nat.le_of_ble_eq_true rfl, Nat.le_of_ble_eq_true rfl⟩) hK (kp_r hP) (kd_r hD) 0 rfl rfl rfl hl.1 rfl (Nat.le_of_ble_eq_true rfl) dX6_unlike_22 ⟨Nat.le_of_ble_eq_true rfl, Nat.le_of_ble_eq_true rfl⟩) (fun r3 hf => ?_)
      exact k_iret_w (wf := (fun u => wX aG aM aW aS aI q u)) (post := Q) (u := (uM, uW, sh, im)) (v := r3) hx hb hr hlocks hK hP hD hS hf dX6_unlike_25
    · have hf := hf.2 (c2)
      refine lv_iconst (v := (-1)) hx hb dX6_unlike_15 (by decide) ?_
      exact k_iret_w (wf := (fun u => wX aG aM aW aS aI q u)) (post := Q) (u := (uM, uW, sh, im)) (v := (-1)) hx hb hr hlocks hK hP hD hS hf dX6_unlike_16
def wpX6_single (uM : MSt) (uW : WSt) (sh : Nat → SSt) (im : Nat → ISt) (x1 : Int32) (Q : Int32 → CSt → Prop) : Prop :=
  (((x1 < 0 ∨ 4 ≤ x1) →
    Q (-1) (uM, uW, sh, im)) ∧
  (∀ i : Nat, i < 4 → x1 = nI i →
    wpX5_shortestStateAlone uW uM (fun r1 =>
      wpX4_copyWord uM (sh i) (fX2_firstEndOf uM r1) (fX2_shortestOf uM r1) (fun uS2 =>
        Q (gS_length uS2) (uM, uW, (va_up sh i uS2), im)))))
def rmX6_single : Room := { frames := 5, cells := 0, slots := 0, locals := 118 }
theorem inX6_single_X4 : ∀ w ∈ wsX40, w ∈ wsX6_single := fun w h => List.mem_cons_of_mem _ (List.mem_append_left _ (List.mem_append_left _ (List.mem_append_right _ h)))
theorem inX6_single_X6 : ∀ w ∈ wsX60, w ∈ wsX6_single := fun w h => List.mem_cons_of_mem _ (List.mem_append_left _ (List.mem_append_left _ (List.mem_append_left _ (List.mem_append_right _ h))))
set_option maxRecDepth 100000 in
set_option maxHeartbeats 4000000 in
theorem c_X6_single (l : Launch) (D : va_G) (q : Nat → ClassId) (aG aM aW : Nat → Nat) (aS aI : Nat → Nat → Nat) (uM : MSt) (uW : WSt) (sh : Nat → SSt) (im : Nat → ISt) (x1 : Int32) (Q : Int32 → CSt → Prop) (hf : wpX6_single uM uW sh im x1 Q) : Met l yX6_single wsX6_single rmX6_single (va_Pc [.ref (aG 0), .int x1] (kP D q (wX aG aM aW aS aI q (uM, uW, sh, im)))) (va_Qi Q (fun u t => kP D q (wX aG aM aW aS aI q u) t) (kIn (wX aG aM aW aS aI q (uM, uW, sh, im)))) 0 0 (kIn (wX aG aM aW aS aI q (uM, uW, sh, im))) := by
  refine Met.ofW (cc := cX6_single) (maxL := 4) (ret := (some .int)) (by decide) rfl ?_
  intro p e s m args below meth c s₁ B hml hv
  obtain ⟨hargs, hP, hK, hD⟩ := hv
  have hx := B.exec
  have hb := B.bytes
  have hr := B.returns
  have hts := atoms_spec (ws := wsX6_single) B.pre
  have hown : s.vm.findClass RX6 = some m.cls := findClass_of_methodNamed B.named
  have hlocks := B.notSynchronized
  have hD := kd_self hD
  generalize kIn (wX aG aM aW aS aI q (uM, uW, sh, im)) = A at hD ⊢
  have hS : va_S A s.heap s.heap [] := va_S.rf
  refine k_entry hargs (Nat.le_of_ble_eq_true rfl) (fun ls hl => ?_)
  have hl : lv_has ls 4 [(0, .ref (aG 0)), (1, .int x1)] := hl
  change W p l e rmX6_single s m args below meth c s.heap [] 0 0 (MQ below (va_Qi Q (fun u t => kP D q (wX aG aM aW aS aI q u) t) A) args s 0 0 A) _
  unfold wpX6_single at hf
  obtain ⟨H, hH⟩ : ∃ H, H = s.heap := ⟨_, rfl⟩
  obtain ⟨locs, hlocs⟩ : ∃ x : List Loc, x = [] := ⟨_, rfl⟩
  rw [← hH] at hP
  have hS : va_S A s.heap H locs := by rw [hH, hlocs]; exact hS
  rw [show W p l e rmX6_single s m args below meth c s.heap [] 0 0 (MQ below (va_Qi Q (fun u t => kP D q (wX aG aM aW aS aI q u) t) A) args s 0 0 A) (F0 m 0 ls []) = W p l e rmX6_single s m args below meth c H locs 0 0 (MQ below (va_Qi Q (fun u t => kP D q (wX aG aM aW aS aI q u) t) A) args s 0 0 A) (F0 m 0 ls []) by rw [hH, hlocs]]
  clear hH hlocs
  have hP : va_P D vwCl (wZ aG aM aW aS aI q sh im ++ (wW aW aM q uW ++ wM aM q uM)) H := hP
  have hD : va_D A (wZ aG aM aW aS aI q sh im ++ (wW aW aM q uW ++ wM aM q uM)) := hD
  refine lv_aload_n hx hb dX6_single_0 rfl (lv_at hl 0 rfl) ?_
  refine lv_iload_n hx hb dX6_single_1 rfl (lv_at hl 1 rfl) ?_
  refine k_sq (k_runV (As := [.int x1]) (rest := []) ⟨hx, hb, hml, hown, hts⟩ (c_X6_pageAt l D q aG aM aW aS aI x1) (cwV 1 hts gX6_single_X6_pageAt rfl rfl rfl cdX6_pageAt ⟨Nat.le_of_ble_eq_true rfl, Nat.le_of_ble_eq_true rfl⟩) hK (kp_l (kp_l hP)) (kd_l (kd_l hD)) 0 rfl rfl rfl hl.1 rfl (Nat.le_of_ble_eq_true rfl) dX6_single_2 ⟨Nat.le_of_ble_eq_true rfl, Nat.le_of_ble_eq_true rfl⟩) (fun r hr => ?_)
  rcases hr with ⟨hc, rfl⟩ | ⟨i, hi, hs, rfl⟩
  · have hf := hf.1 hc
    change W p l e rmX6_single s m args below meth c H locs 0 0 _ (F0 m 5 ls (.null :: []))
    refine lv_astore_nN (lv' := [(2, .null), (0, .ref (aG 0)), (1, .int x1)]) hx hb dX6_single_5 rfl hl (by decide) rfl (fun ls hl => ?_)
    refine lv_aload_nN hx hb dX6_single_6 rfl (lv_at hl 0 rfl) ?_
    refine lv_ifnonnullN hx hb dX6_single_7 ?_
    refine lv_iconst (v := (-1)) hx hb dX6_single_10 (by decide) ?_
    exact k_iret_w (wf := (fun u => wX aG aM aW aS aI q u)) (post := Q) (u := (uM, uW, sh, im)) (v := (-1)) hx hb hr hlocks hK hP hD hS hf dX6_single_11
  · have hf := hf.2 i hi hs
    have hP := z_osP hi hP
    have hD := z_osD hi hD
    change W p l e rmX6_single s m args below meth c H locs 0 0 _ (F0 m 5 ls (.ref ((aS i) 0) :: []))
    refine lv_astore_n (lv' := [(2, .ref ((aS i) 0)), (0, .ref (aG 0)), (1, .int x1)]) hx hb dX6_single_5 rfl hl (by decide) rfl (fun ls hl => ?_)
    refine lv_aload_n hx hb dX6_single_6 rfl (lv_at hl 0 rfl) ?_
    refine lv_ifnonnull (tgt := 12) hx hb dX6_single_7 (by decide) ?_
    refine lv_aload_n hx hb dX6_single_12 rfl (lv_at hl 1 rfl) ?_
    refine va_get (D := D) (ci := 4) (v := .ref (aW 0)) (C := RX6) (T := TX6) (N := 4) hx hb hts inX6_single_X6 hown hK hP 0 rfl rfl 1 (by decide) (hts (.fieldLink RX6 21 "GrowingText" "words" "LGrowingText$Words;") (List.mem_of_getElem? (i := 1) rfl)) (fun _ h9 => h9) rfl dX6_single_13 ?_
    refine k_si (k_runV (As := []) (rest := []) ⟨hx, hb, hml, hown, hts⟩ (c_X5_shortestStateAlone l D q aW aM uW uM _ hf) (cwV 0 hts gX6_single_X5_shortestStateAlone rfl rfl rfl cdX5_shortestStateAlone ⟨Nat.le_of_ble_eq_true rfl, Nat.le_of_ble_eq_true rfl⟩) hK (kp_l (a := wW aW aM q uW ++ wM aM q uM) (b := wS (aS i) q (sh i)) (kp_r hP)) (kd_l (a := wW aW aM q uW ++ wM aM q uM) (b := wS (aS i) q (sh i)) (kd_r hD)) 0 rfl rfl rfl hl.1 rfl (Nat.le_of_ble_eq_true rfl) dX6_single_16 ⟨Nat.le_of_ble_eq_true rfl, Nat.le_of_ble_eq_true rfl⟩) (fun r1 hf => ?_)
    refine lv_istore_n (lv' := [(3, .int r1), (2, .ref ((aS i) 0)), (0, .ref (aG 0)), (1, .int x1)]) hx hb dX6_single_19 rfl hl (by decide) rfl (fun ls hl => ?_)
    refine lv_aload_n hx hb dX6_single_20 rfl (lv_at hl 1 rfl) ?_
    refine lv_aload_n hx hb dX6_single_21 rfl (lv_at hl 2 rfl) ?_
    refine va_get (D := D) (ci := 4) (v := .ref (aM 0)) (C := RX6) (T := TX6) (N := 4) hx hb hts inX6_single_X6 hown hK hP 0 rfl rfl 0 (by decide) (hts (.fieldLink RX6 12 "GrowingText" "machine" "LGrowingText$Machine;") (List.mem_of_getElem? (i := 2) rfl)) (fun _ h9 => h9) rfl dX6_single_22 ?_
    refine lv_aload_n hx hb dX6_single_25 rfl (lv_at hl 2 rfl) ?_
    refine va_get (D := D) (ci := 4) (v := .ref (aM 0)) (C := RX6) (T := TX6) (N := 4) hx hb hts inX6_single_X6 hown hK hP 0 rfl rfl 0 (by decide) (hts (.fieldLink RX6 12 "GrowingText" "machine" "LGrowingText$Machine;") (List.mem_of_getElem? (i := 2) rfl)) (fun _ h9 => h9) rfl dX6_single_26 ?_
    refine lv_iload_n hx hb dX6_single_29 rfl (lv_at hl 0 rfl) ?_
    refine k_si (k_runV (As := [.int r1]) (rest := [.ref (aM 0), .ref ((aS i) 0)]) ⟨hx, hb, hml, hown, hts⟩ (cF_X2_firstEndOf l D q aM uM r1) (cwV 1 hts gX6_single_X2_firstEndOf rfl rfl rfl cdX2_firstEndOf ⟨Nat.le_of_ble_eq_true rfl, Nat.le_of_ble_eq_true rfl⟩) hK (kp_l (a := wM aM q uM) (b := wS (aS i) q (sh i)) (kp_r (kp_r hP))) (kd_l (a := wM aM q uM) (b := wS (aS i) q (sh i)) (kd_r (kd_r hD))) 0 rfl rfl rfl hl.1 rfl (Nat.le_of_ble_eq_true rfl) dX6_single_30 ⟨Nat.le_of_ble_eq_true rfl, Nat.le_of_ble_eq_true rfl⟩) (fun r hr => ?_)
    subst hr
    refine lv_aload_n hx hb dX6_single_33 rfl (lv_at hl 2 rfl) ?_
    refine va_get (D := D) (ci := 4) (v := .ref (aM 0)) (C := RX6) (T := TX6) (N := 4) hx hb hts inX6_single_X6 hown hK hP 0 rfl rfl 0 (by decide) (hts (.fieldLink RX6 12 "GrowingText" "machine" "LGrowingText$Machine;") (List.mem_of_getElem? (i := 2) rfl)) (fun _ h9 => h9) rfl dX6_single_34 ?_
    refine lv_iload_n hx hb dX6_single_37 rfl (lv_at hl 0 rfl) ?_
    refine k_si (k_runV (As := [.int r1]) (rest := [.int (fX2_firstEndOf uM r1), .ref (aM 0), .ref ((aS i) 0)]) ⟨hx, hb, hml, hown, hts⟩ (cF_X2_shortestOf l D q aM uM r1) (cwV 1 hts gX6_single_X2_shortestOf rfl rfl rfl cdX2_shortestOf ⟨Nat.le_of_ble_eq_true rfl, Nat.le_of_ble_eq_true rfl⟩) hK (kp_l (a := wM aM q uM) (b := wS (aS i) q (sh i)) (kp_r (kp_r hP))) (kd_l (a := wM aM q uM) (b := wS (aS i) q (sh i)) (kd_r (kd_r hD))) 0 rfl rfl rfl hl.1 rfl (Nat.le_of_ble_eq_true rfl) dX6_single_38 ⟨Nat.le_of_ble_eq_true rfl, Nat.le_of_ble_eq_true rfl⟩) (fun r hr => ?_)
    subst hr
    refine k_wv (wf := fun u => wM aM q uM ++ wS (aS i) q u) (u0 := (sh i)) (k_runV (As := [.ref (aM 0), .int (fX2_firstEndOf uM r1), .int (fX2_shortestOf uM r1)]) (rest := []) ⟨hx, hb, hml, hown, hts⟩ (c_X4_copyWord l D q aM (aS i) uM (sh i) (fX2_firstEndOf uM r1) (fX2_shortestOf uM r1) _ hf) (cwV 3 hts gX6_single_X4_copyWord rfl rfl rfl cdX4_copyWord ⟨Nat.le_of_ble_eq_true rfl, Nat.le_of_ble_eq_true rfl⟩) hK (kp_r (kp_r hP)) (kd_r (kd_r hD)) 9 rfl rfl rfl hl.1 rfl (Nat.le_of_ble_eq_true rfl) dX6_single_41 ⟨Nat.le_of_ble_eq_true rfl, Nat.le_of_ble_eq_true rfl⟩) (wY i aG aM aW aS aI q sh im ++ wW aW aM q uW) ([]) (fun _ => rfl) (kp_as (a := wY i aG aM aW aS aI q sh im) (b := wW aW aM q uW) (c := (wM aM q uM ++ wS (aS i) q (sh i)) ++ ([])) hP) (kd_as (a := wY i aG aM aW aS aI q sh im) (b := wW aW aM q uW) (c := (wM aM q uM ++ wS (aS i) q (sh i)) ++ ([])) hD) hS (fun uS2 H locs hf hP hD hS => ?_)
    have hP := kp_sa hP
    have hD := kd_sa hD
    have hP : va_P D vwCl (wY i aG aM aW aS aI q sh im ++ (wW aW aM q uW ++ (wM aM q uM ++ wS (aS i) q uS2))) H := hP
    have hD : va_D A (wY i aG aM aW aS aI q sh im ++ (wW aW aM q uW ++ (wM aM q uM ++ wS (aS i) q uS2))) := hD
    refine lv_aload_n hx hb dX6_single_44 rfl (lv_at hl 1 rfl) ?_
    refine va_get (D := D) (ci := 2) (v := .int (gS_length uS2)) (C := RX4) (T := TX4) (N := 3) hx hb hts inX6_single_X4 hown hK (kp_r (kp_r (kp_r hP))) 0 rfl rfl 2 (by decide) (hts (.fieldLink RX6 72 "GrowingText$Sheet" "length" "I") (List.mem_of_getElem? (i := 3) rfl)) (fun _ h9 => h9) rfl dX6_single_45 ?_
    have hP := z_csP hi hP
    have hD := z_csD hi hD
    exact k_iret_w (wf := (fun u => wX aG aM aW aS aI q u)) (post := Q) (u := (uM, uW, (va_up sh i uS2), im)) (v := (gS_length uS2)) hx hb hr hlocks hK hP hD hS hf dX6_single_48
def wpX6_gap (uM : MSt) (uW : WSt) (sh : Nat → SSt) (im : Nat → ISt) (x1 : Int32) (Q : Int32 → CSt → Prop) : Prop :=
  (((x1 < 0 ∨ 4 ≤ x1) →
    Q (-1) (uM, uW, sh, im)) ∧
  (∀ i : Nat, i < 4 → x1 = nI i →
    ((gS_there (sh i)) = 0 →
      Q (-11) (uM, uW, sh, im)) ∧
    (¬ ((gS_there (sh i)) = 0) →
      wpX5_stateOf uW uM (sh i) (fun r2 =>
        wpX0_widestGap (fX2_endsOf uM r2) (fun r3 =>
          (r3 ≤ 0 →
            Q (-4) (uM, uW, sh, im)) ∧
          (¬ (r3 ≤ 0) →
            Q r3 (uM, uW, sh, im)))))))
def rmX6_gap : Room := { frames := 4, cells := 0, slots := 0, locals := 86 }
theorem inX6_gap_X4 : ∀ w ∈ wsX40, w ∈ wsX6_gap := fun w h => List.mem_cons_of_mem _ (List.mem_append_left _ (List.mem_append_left _ (List.mem_append_left _ (List.mem_append_right _ h))))
theorem inX6_gap_X6 : ∀ w ∈ wsX60, w ∈ wsX6_gap := fun w h => List.mem_cons_of_mem _ (List.mem_append_left _ (List.mem_append_left _ (List.mem_append_right _ h)))
set_option maxRecDepth 100000 in
set_option maxHeartbeats 4000000 in
theorem c_X6_gap (l : Launch) (D : va_G) (q : Nat → ClassId) (aG aM aW : Nat → Nat) (aS aI : Nat → Nat → Nat) (uM : MSt) (uW : WSt) (sh : Nat → SSt) (im : Nat → ISt) (x1 : Int32) (Q : Int32 → CSt → Prop) (hf : wpX6_gap uM uW sh im x1 Q) : Met l yX6_gap wsX6_gap rmX6_gap (va_Pc [.ref (aG 0), .int x1] (kP D q (wX aG aM aW aS aI q (uM, uW, sh, im)))) (va_Qi Q (fun u t => kP D q (wX aG aM aW aS aI q u) t) (kIn (wX aG aM aW aS aI q (uM, uW, sh, im)))) 0 0 (kIn (wX aG aM aW aS aI q (uM, uW, sh, im))) := by
  refine Met.ofW (cc := cX6_gap) (maxL := 4) (ret := (some .int)) (by decide) rfl ?_
  intro p e s m args below meth c s₁ B hml hv
  obtain ⟨hargs, hP, hK, hD⟩ := hv
  have hx := B.exec
  have hb := B.bytes
  have hr := B.returns
  have hts := atoms_spec (ws := wsX6_gap) B.pre
  have hown : s.vm.findClass RX6 = some m.cls := findClass_of_methodNamed B.named
  have hlocks := B.notSynchronized
  have hD := kd_self hD
  generalize kIn (wX aG aM aW aS aI q (uM, uW, sh, im)) = A at hD ⊢
  have hS : va_S A s.heap s.heap [] := va_S.rf
  refine k_entry hargs (Nat.le_of_ble_eq_true rfl) (fun ls hl => ?_)
  have hl : lv_has ls 4 [(0, .ref (aG 0)), (1, .int x1)] := hl
  change W p l e rmX6_gap s m args below meth c s.heap [] 0 0 (MQ below (va_Qi Q (fun u t => kP D q (wX aG aM aW aS aI q u) t) A) args s 0 0 A) _
  unfold wpX6_gap at hf
  obtain ⟨H, hH⟩ : ∃ H, H = s.heap := ⟨_, rfl⟩
  obtain ⟨locs, hlocs⟩ : ∃ x : List Loc, x = [] := ⟨_, rfl⟩
  rw [← hH] at hP
  have hS : va_S A s.heap H locs := by rw [hH, hlocs]; exact hS
  rw [show W p l e rmX6_gap s m args below meth c s.heap [] 0 0 (MQ below (va_Qi Q (fun u t => kP D q (wX aG aM aW aS aI q u) t) A) args s 0 0 A) (F0 m 0 ls []) = W p l e rmX6_gap s m args below meth c H locs 0 0 (MQ below (va_Qi Q (fun u t => kP D q (wX aG aM aW aS aI q u) t) A) args s 0 0 A) (F0 m 0 ls []) by rw [hH, hlocs]]
  clear hH hlocs
  have hP : va_P D vwCl (wZ aG aM aW aS aI q sh im ++ (wW aW aM q uW ++ wM aM q uM)) H := hP
  have hD : va_D A (wZ aG aM aW aS aI q sh im ++ (wW aW aM q uW ++ wM aM q uM)) := hD
  refine lv_aload_n hx hb dX6_gap_0 rfl (lv_at hl 0 rfl) ?_
  refine lv_iload_n hx hb dX6_gap_1 rfl (lv_at hl 1 rfl) ?_
  refine k_sq (k_runV (As := [.int x1]) (rest := []) ⟨hx, hb, hml, hown, hts⟩ (c_X6_pageAt l D q aG aM aW aS aI x1) (cwV 1 hts gX6_gap_X6_pageAt rfl rfl rfl cdX6_pageAt ⟨Nat.le_of_ble_eq_true rfl, Nat.le_of_ble_eq_true rfl⟩) hK (kp_l (kp_l hP)) (kd_l (kd_l hD)) 0 rfl rfl rfl hl.1 rfl (Nat.le_of_ble_eq_true rfl) dX6_gap_2 ⟨Nat.le_of_ble_eq_true rfl, Nat.le_of_ble_eq_true rfl⟩) (fun r hr => ?_)
  rcases hr with ⟨hc, rfl⟩ | ⟨i, hi, hs, rfl⟩
  · have hf := hf.1 hc
    change W p l e rmX6_gap s m args below meth c H locs 0 0 _ (F0 m 5 ls (.null :: []))
    refine lv_astore_nN (lv' := [(2, .null), (0, .ref (aG 0)), (1, .int x1)]) hx hb dX6_gap_5 rfl hl (by decide) rfl (fun ls hl => ?_)
    refine lv_aload_nN hx hb dX6_gap_6 rfl (lv_at hl 0 rfl) ?_
    refine lv_ifnonnullN hx hb dX6_gap_7 ?_
    refine lv_iconst (v := (-1)) hx hb dX6_gap_10 (by decide) ?_
    exact k_iret_w (wf := (fun u => wX aG aM aW aS aI q u)) (post := Q) (u := (uM, uW, sh, im)) (v := (-1)) hx hb hr hlocks hK hP hD hS hf dX6_gap_11
  · have hf := hf.2 i hi hs
    have hP := z_osP hi hP
    have hD := z_osD hi hD
    change W p l e rmX6_gap s m args below meth c H locs 0 0 _ (F0 m 5 ls (.ref ((aS i) 0) :: []))
    refine lv_astore_n (lv' := [(2, .ref ((aS i) 0)), (0, .ref (aG 0)), (1, .int x1)]) hx hb dX6_gap_5 rfl hl (by decide) rfl (fun ls hl => ?_)
    refine lv_aload_n hx hb dX6_gap_6 rfl (lv_at hl 0 rfl) ?_
    refine lv_ifnonnull (tgt := 12) hx hb dX6_gap_7 (by decide) ?_
    refine lv_aload_n hx hb dX6_gap_12 rfl (lv_at hl 0 rfl) ?_
    refine va_get (D := D) (ci := 2) (v := .int (gS_there (sh i))) (C := RX4) (T := TX4) (N := 3) hx hb hts inX6_gap_X4 hown hK (kp_r (kp_r (kp_r hP))) 0 rfl rfl 1 (by decide) (hts (.fieldLink RX6 64 "GrowingText$Sheet" "there" "Z") (List.mem_of_getElem? (i := 1) rfl)) (fun _ h9 => h9) rfl dX6_gap_13 ?_
    refine lv_if_ne (tgt := 22) hx hb dX6_gap_16 (by decide) (fun c1 => ?_) (fun c1 => ?_)
    · have hf := hf.2 (c1)
      refine lv_aload_n hx hb dX6_gap_22 rfl (lv_at hl 1 rfl) ?_
      refine va_get (D := D) (ci := 4) (v := .ref (aM 0)) (C := RX6) (T := TX6) (N := 4) hx hb hts inX6_gap_X6 hown hK hP 0 rfl rfl 0 (by decide) (hts (.fieldLink RX6 12 "GrowingText" "machine" "LGrowingText$Machine;") (List.mem_of_getElem? (i := 2) rfl)) (fun _ h9 => h9) rfl dX6_gap_23 ?_
      refine lv_aload_n hx hb dX6_gap_26 rfl (lv_at hl 1 rfl) ?_
      refine va_get (D := D) (ci := 4) (v := .ref (aW 0)) (C := RX6) (T := TX6) (N := 4) hx hb hts inX6_gap_X6 hown hK hP 0 rfl rfl 1 (by decide) (hts (.fieldLink RX6 21 "GrowingText" "words" "LGrowingText$Words;") (List.mem_of_getElem? (i := 3) rfl)) (fun _ h9 => h9) rfl dX6_gap_27 ?_
      refine lv_aload_n hx hb dX6_gap_30 rfl (lv_at hl 0 rfl) ?_
      refine k_si (k_runV (As := [.ref ((aS i) 0)]) (rest := [.ref (aM 0)]) ⟨hx, hb, hml, hown, hts⟩ (c_X5_stateOf l D q aW aM (aS i) uW uM (sh i) _ hf) (cwV 1 hts gX6_gap_X5_stateOf rfl rfl rfl cdX5_stateOf ⟨Nat.le_of_ble_eq_true rfl, Nat.le_of_ble_eq_true rfl⟩) hK (kp_r hP) (kd_r hD) 0 rfl rfl rfl hl.1 rfl (Nat.le_of_ble_eq_true rfl) dX6_gap_31 ⟨Nat.le_of_ble_eq_true rfl, Nat.le_of_ble_eq_true rfl⟩) (fun r2 hf => ?_)
      refine k_sl (k_runV (As := [.int r2]) (rest := []) ⟨hx, hb, hml, hown, hts⟩ (cF_X2_endsOf l D q aM uM r2) (cwV 1 hts gX6_gap_X2_endsOf rfl rfl rfl cdX2_endsOf ⟨Nat.le_of_ble_eq_true rfl, Nat.le_of_ble_eq_true rfl⟩) hK (kp_l (a := wM aM q uM) (b := wS (aS i) q (sh i)) (kp_r (kp_r hP))) (kd_l (a := wM aM q uM) (b := wS (aS i) q (sh i)) (kd_r (kd_r hD))) 0 rfl rfl rfl hl.1 rfl (Nat.le_of_ble_eq_true rfl) dX6_gap_34 ⟨Nat.le_of_ble_eq_true rfl, Nat.le_of_ble_eq_true rfl⟩) (fun r hr => ?_)
      subst hr
      refine k_si (k_runS (As := [.long (fX2_endsOf uM r2)]) (rest := []) ⟨hx, hb, hml, hown, hts⟩ (c_X0_widestGap l D q (fX2_endsOf uM r2) _ hf) (va_cwS 1 hts gX6_gap_X0_widestGap rfl rfl rfl cdX0_widestGap ⟨Nat.le_of_ble_eq_true rfl, Nat.le_of_ble_eq_true rfl⟩) hK k_nilP k_nilD rfl hl.1 rfl (Nat.le_of_ble_eq_true rfl) dX6_gap_37 ⟨Nat.le_of_ble_eq_true rfl, Nat.le_of_ble_eq_true rfl⟩) (fun r3 hf => ?_)
      refine lv_istore_n (lv' := [(3, .int r3), (2, .ref ((aS i) 0)), (0, .ref (aG 0)), (1, .int x1)]) hx hb dX6_gap_40 rfl hl (by decide) rfl (fun ls hl => ?_)
      refine lv_iload_n hx hb dX6_gap_41 rfl (lv_at hl 0 rfl) ?_
      refine lv_if_le (tgt := 49) hx hb dX6_gap_42 (by decide) (fun c4 => ?_) (fun c4 => ?_)
      · have hf := hf.1 (c4)
        refine lv_bipush (v := (-4)) hx hb dX6_gap_49 (by decide) ?_
        have hP := z_cs0P hi hP
        have hD := z_cs0D hi hD
        exact k_iret_w (wf := (fun u => wX aG aM aW aS aI q u)) (post := Q) (u := (uM, uW, sh, im)) (v := (-4)) hx hb hr hlocks hK hP hD hS hf dX6_gap_51
      · have hf := hf.2 (c4)
        refine lv_iload_n hx hb dX6_gap_45 rfl (lv_at hl 0 rfl) ?_
        refine lv_goto (tgt := 51) hx hb dX6_gap_46 (by decide) ?_
        have hP := z_cs0P hi hP
        have hD := z_cs0D hi hD
        exact k_iret_w (wf := (fun u => wX aG aM aW aS aI q u)) (post := Q) (u := (uM, uW, sh, im)) (v := r3) hx hb hr hlocks hK hP hD hS hf dX6_gap_51
    · have hf := hf.1 (c1)
      refine lv_bipush (v := (-11)) hx hb dX6_gap_19 (by decide) ?_
      have hP := z_cs0P hi hP
      have hD := z_cs0D hi hD
      exact k_iret_w (wf := (fun u => wX aG aM aW aS aI q u)) (post := Q) (u := (uM, uW, sh, im)) (v := (-11)) hx hb hr hlocks hK hP hD hS hf dX6_gap_21
def wpX6_cover (uM : MSt) (uW : WSt) (sh : Nat → SSt) (im : Nat → ISt) (Q : Int32 → CSt → Prop) : Prop :=
  (wpX5_leastCover uW uM (fun r1 =>
    Q r1 (uM, uW, sh, im)))
def rmX6_cover : Room := { frames := 5, cells := 0, slots := 0, locals := 110 }
theorem inX6_cover_X6 : ∀ w ∈ wsX60, w ∈ wsX6_cover := fun w h => List.mem_cons_of_mem _ (List.mem_append_left _ (List.mem_append_left _ (List.mem_append_right _ h)))
set_option maxRecDepth 100000 in
set_option maxHeartbeats 4000000 in
theorem c_X6_cover (l : Launch) (D : va_G) (q : Nat → ClassId) (aG aM aW : Nat → Nat) (aS aI : Nat → Nat → Nat) (uM : MSt) (uW : WSt) (sh : Nat → SSt) (im : Nat → ISt) (Q : Int32 → CSt → Prop) (hf : wpX6_cover uM uW sh im Q) : Met l yX6_cover wsX6_cover rmX6_cover (va_Pc [.ref (aG 0)] (kP D q (wX aG aM aW aS aI q (uM, uW, sh, im)))) (va_Qi Q (fun u t => kP D q (wX aG aM aW aS aI q u) t) (kIn (wX aG aM aW aS aI q (uM, uW, sh, im)))) 0 0 (kIn (wX aG aM aW aS aI q (uM, uW, sh, im))) := by
  refine Met.ofW (cc := cX6_cover) (maxL := 1) (ret := (some .int)) (by decide) rfl ?_
  intro p e s m args below meth c s₁ B hml hv
  obtain ⟨hargs, hP, hK, hD⟩ := hv
  have hx := B.exec
  have hb := B.bytes
  have hr := B.returns
  have hts := atoms_spec (ws := wsX6_cover) B.pre
  have hown : s.vm.findClass RX6 = some m.cls := findClass_of_methodNamed B.named
  have hlocks := B.notSynchronized
  have hD := kd_self hD
  generalize kIn (wX aG aM aW aS aI q (uM, uW, sh, im)) = A at hD ⊢
  have hS : va_S A s.heap s.heap [] := va_S.rf
  refine k_entry hargs (Nat.le_of_ble_eq_true rfl) (fun ls hl => ?_)
  have hl : lv_has ls 1 [(0, .ref (aG 0))] := hl
  change W p l e rmX6_cover s m args below meth c s.heap [] 0 0 (MQ below (va_Qi Q (fun u t => kP D q (wX aG aM aW aS aI q u) t) A) args s 0 0 A) _
  unfold wpX6_cover at hf
  obtain ⟨H, hH⟩ : ∃ H, H = s.heap := ⟨_, rfl⟩
  obtain ⟨locs, hlocs⟩ : ∃ x : List Loc, x = [] := ⟨_, rfl⟩
  rw [← hH] at hP
  have hS : va_S A s.heap H locs := by rw [hH, hlocs]; exact hS
  rw [show W p l e rmX6_cover s m args below meth c s.heap [] 0 0 (MQ below (va_Qi Q (fun u t => kP D q (wX aG aM aW aS aI q u) t) A) args s 0 0 A) (F0 m 0 ls []) = W p l e rmX6_cover s m args below meth c H locs 0 0 (MQ below (va_Qi Q (fun u t => kP D q (wX aG aM aW aS aI q u) t) A) args s 0 0 A) (F0 m 0 ls []) by rw [hH, hlocs]]
  clear hH hlocs
  have hP : va_P D vwCl (wZ aG aM aW aS aI q sh im ++ (wW aW aM q uW ++ wM aM q uM)) H := hP
  have hD : va_D A (wZ aG aM aW aS aI q sh im ++ (wW aW aM q uW ++ wM aM q uM)) := hD
  refine lv_aload_n hx hb dX6_cover_0 rfl (lv_at hl 0 rfl) ?_
  refine va_get (D := D) (ci := 4) (v := .ref (aW 0)) (C := RX6) (T := TX6) (N := 4) hx hb hts inX6_cover_X6 hown hK hP 0 rfl rfl 1 (by decide) (hts (.fieldLink RX6 21 "GrowingText" "words" "LGrowingText$Words;") (List.mem_of_getElem? (i := 1) rfl)) (fun _ h9 => h9) rfl dX6_cover_1 ?_
  refine k_si (k_runV (As := []) (rest := []) ⟨hx, hb, hml, hown, hts⟩ (c_X5_leastCover l D q aW aM uW uM _ hf) (cwV 0 hts gX6_cover_X5_leastCover rfl rfl rfl cdX5_leastCover ⟨Nat.le_of_ble_eq_true rfl, Nat.le_of_ble_eq_true rfl⟩) hK (kp_r hP) (kd_r hD) 0 rfl rfl rfl hl.1 rfl (Nat.le_of_ble_eq_true rfl) dX6_cover_4 ⟨Nat.le_of_ble_eq_true rfl, Nat.le_of_ble_eq_true rfl⟩) (fun r1 hf => ?_)
  exact k_iret_w (wf := (fun u => wX aG aM aW aS aI q u)) (post := Q) (u := (uM, uW, sh, im)) (v := r1) hx hb hr hlocks hK hP hD hS hf dX6_cover_7
def wpX6_part (uM : MSt) (uW : WSt) (sh : Nat → SSt) (im : Nat → ISt) (x1 : Int32) (Q : Int32 → CSt → Prop) : Prop :=
  (((0 : Int32) ≤ x1 →
    wpX5_beginOfPart uW uM x1 (fun r2 =>
      Q r2 (uM, uW, sh, im))) ∧
  (¬ ((0 : Int32) ≤ x1) →
    Q (-1) (uM, uW, sh, im)))
def rmX6_part : Room := { frames := 5, cells := 0, slots := 0, locals := 112 }
theorem inX6_part_X6 : ∀ w ∈ wsX60, w ∈ wsX6_part := fun w h => List.mem_cons_of_mem _ (List.mem_append_left _ (List.mem_append_left _ (List.mem_append_right _ h)))
set_option maxRecDepth 100000 in
set_option maxHeartbeats 4000000 in
theorem c_X6_part (l : Launch) (D : va_G) (q : Nat → ClassId) (aG aM aW : Nat → Nat) (aS aI : Nat → Nat → Nat) (uM : MSt) (uW : WSt) (sh : Nat → SSt) (im : Nat → ISt) (x1 : Int32) (Q : Int32 → CSt → Prop) (hf : wpX6_part uM uW sh im x1 Q) : Met l yX6_part wsX6_part rmX6_part (va_Pc [.ref (aG 0), .int x1] (kP D q (wX aG aM aW aS aI q (uM, uW, sh, im)))) (va_Qi Q (fun u t => kP D q (wX aG aM aW aS aI q u) t) (kIn (wX aG aM aW aS aI q (uM, uW, sh, im)))) 0 0 (kIn (wX aG aM aW aS aI q (uM, uW, sh, im))) := by
  refine Met.ofW (cc := cX6_part) (maxL := 2) (ret := (some .int)) (by decide) rfl ?_
  intro p e s m args below meth c s₁ B hml hv
  obtain ⟨hargs, hP, hK, hD⟩ := hv
  have hx := B.exec
  have hb := B.bytes
  have hr := B.returns
  have hts := atoms_spec (ws := wsX6_part) B.pre
  have hown : s.vm.findClass RX6 = some m.cls := findClass_of_methodNamed B.named
  have hlocks := B.notSynchronized
  have hD := kd_self hD
  generalize kIn (wX aG aM aW aS aI q (uM, uW, sh, im)) = A at hD ⊢
  have hS : va_S A s.heap s.heap [] := va_S.rf
  refine k_entry hargs (Nat.le_of_ble_eq_true rfl) (fun ls hl => ?_)
  have hl : lv_has ls 2 [(0, .ref (aG 0)), (1, .int x1)] := hl
  change W p l e rmX6_part s m args below meth c s.heap [] 0 0 (MQ below (va_Qi Q (fun u t => kP D q (wX aG aM aW aS aI q u) t) A) args s 0 0 A) _
  unfold wpX6_part at hf
  obtain ⟨H, hH⟩ : ∃ H, H = s.heap := ⟨_, rfl⟩
  obtain ⟨locs, hlocs⟩ : ∃ x : List Loc, x = [] := ⟨_, rfl⟩
  rw [← hH] at hP
  have hS : va_S A s.heap H locs := by rw [hH, hlocs]; exact hS
  rw [show W p l e rmX6_part s m args below meth c s.heap [] 0 0 (MQ below (va_Qi Q (fun u t => kP D q (wX aG aM aW aS aI q u) t) A) args s 0 0 A) (F0 m 0 ls []) = W p l e rmX6_part s m args below meth c H locs 0 0 (MQ below (va_Qi Q (fun u t => kP D q (wX aG aM aW aS aI q u) t) A) args s 0 0 A) (F0 m 0 ls []) by rw [hH, hlocs]]
  clear hH hlocs
  have hP : va_P D vwCl (wZ aG aM aW aS aI q sh im ++ (wW aW aM q uW ++ wM aM q uM)) H := hP
  have hD : va_D A (wZ aG aM aW aS aI q sh im ++ (wW aW aM q uW ++ wM aM q uM)) := hD
  refine lv_iload_n hx hb dX6_part_0 rfl (lv_at hl 1 rfl) ?_
  refine lv_if_ge (tgt := 8) hx hb dX6_part_1 (by decide) (fun c1 => ?_) (fun c1 => ?_)
  · have hf := hf.1 (c1)
    refine lv_aload_n hx hb dX6_part_8 rfl (lv_at hl 0 rfl) ?_
    refine va_get (D := D) (ci := 4) (v := .ref (aW 0)) (C := RX6) (T := TX6) (N := 4) hx hb hts inX6_part_X6 hown hK hP 0 rfl rfl 1 (by decide) (hts (.fieldLink RX6 21 "GrowingText" "words" "LGrowingText$Words;") (List.mem_of_getElem? (i := 1) rfl)) (fun _ h9 => h9) rfl dX6_part_9 ?_
    refine lv_iload_n hx hb dX6_part_12 rfl (lv_at hl 1 rfl) ?_
    refine k_si (k_runV (As := [.int x1]) (rest := []) ⟨hx, hb, hml, hown, hts⟩ (c_X5_beginOfPart l D q aW aM uW uM x1 _ hf) (cwV 1 hts gX6_part_X5_beginOfPart rfl rfl rfl cdX5_beginOfPart ⟨Nat.le_of_ble_eq_true rfl, Nat.le_of_ble_eq_true rfl⟩) hK (kp_r hP) (kd_r hD) 0 rfl rfl rfl hl.1 rfl (Nat.le_of_ble_eq_true rfl) dX6_part_13 ⟨Nat.le_of_ble_eq_true rfl, Nat.le_of_ble_eq_true rfl⟩) (fun r2 hf => ?_)
    exact k_iret_w (wf := (fun u => wX aG aM aW aS aI q u)) (post := Q) (u := (uM, uW, sh, im)) (v := r2) hx hb hr hlocks hK hP hD hS hf dX6_part_16
  · have hf := hf.2 (c1)
    refine lv_iconst (v := (-1)) hx hb dX6_part_4 (by decide) ?_
    refine lv_goto (tgt := 16) hx hb dX6_part_5 (by decide) ?_
    exact k_iret_w (wf := (fun u => wX aG aM aW aS aI q u)) (post := Q) (u := (uM, uW, sh, im)) (v := (-1)) hx hb hr hlocks hK hP hD hS hf dX6_part_16
def wpX6_common (uM : MSt) (uW : WSt) (sh : Nat → SSt) (im : Nat → ISt) (x1 : Int32) (x2 : Int32) (Q : Int32 → CSt → Prop) : Prop :=
  ∀ (X46 : Nat → Int32 → Prop),
  (∀ (i : Nat) (z0 : Int32),
    (wpX5_longestCommon uW uM (sh i) z0 (fun r5 =>
      Q r5 (uM, uW, sh, im))) → X46 i z0) →
  (((x1 < 0 ∨ 4 ≤ x1) →
    Q (-1) (uM, uW, sh, im)) ∧
  (∀ i : Nat, i < 4 → x1 = nI i →
    (x2 < 0 →
      Q (-1) (uM, uW, sh, im)) ∧
    (¬ (x2 < 0) →
      (x2 ≤ 1 →
        ((gS_there (sh i)) = 0 →
          Q (-11) (uM, uW, sh, im)) ∧
        (¬ ((gS_there (sh i)) = 0) →
          (x2 = 1 →
            X46 i 1) ∧
          (¬ (x2 = 1) →
            X46 i 0))) ∧
      (¬ (x2 ≤ 1) →
        Q (-1) (uM, uW, sh, im)))))
def rmX6_common : Room := { frames := 4, cells := 0, slots := 0, locals := 92 }
theorem inX6_common_X4 : ∀ w ∈ wsX40, w ∈ wsX6_common := fun w h => List.mem_cons_of_mem _ (List.mem_append_left _ (List.mem_append_left _ (List.mem_append_left _ (List.mem_append_right _ h))))
theorem inX6_common_X6 : ∀ w ∈ wsX60, w ∈ wsX6_common := fun w h => List.mem_cons_of_mem _ (List.mem_append_left _ (List.mem_append_left _ (List.mem_append_right _ h)))
set_option maxRecDepth 100000 in
set_option maxHeartbeats 4000000 in
theorem c_X6_common (l : Launch) (D : va_G) (q : Nat → ClassId) (aG aM aW : Nat → Nat) (aS aI : Nat → Nat → Nat) (uM : MSt) (uW : WSt) (sh : Nat → SSt) (im : Nat → ISt) (x1 : Int32) (x2 : Int32) (Q : Int32 → CSt → Prop) (hf : wpX6_common uM uW sh im x1 x2 Q) : Met l yX6_common wsX6_common rmX6_common (va_Pc [.ref (aG 0), .int x1, .int x2] (kP D q (wX aG aM aW aS aI q (uM, uW, sh, im)))) (va_Qi Q (fun u t => kP D q (wX aG aM aW aS aI q u) t) (kIn (wX aG aM aW aS aI q (uM, uW, sh, im)))) 0 0 (kIn (wX aG aM aW aS aI q (uM, uW, sh, im))) := by
  refine Met.ofW (cc := cX6_common) (maxL := 4) (ret := (some .int)) (by decide) rfl ?_
  intro p e s m args below meth c s₁ B hml hv
  obtain ⟨hargs, hP, hK, hD⟩ := hv
  have hx := B.exec
  have hb := B.bytes
  have hr := B.returns
  have hts := atoms_spec (ws := wsX6_common) B.pre
  have hown : s.vm.findClass RX6 = some m.cls := findClass_of_methodNamed B.named
  have hlocks := B.notSynchronized
  have hD := kd_self hD
  generalize kIn (wX aG aM aW aS aI q (uM, uW, sh, im)) = A at hD ⊢
  have hS : va_S A s.heap s.heap [] := va_S.rf
  refine k_entry hargs (Nat.le_of_ble_eq_true rfl) (fun ls hl => ?_)
  have hl : lv_has ls 4 [(0, .ref (aG 0)), (1, .int x1), (2, .int x2)] := hl
  change W p l e rmX6_common s m args below meth c s.heap [] 0 0 (MQ below (va_Qi Q (fun u t => kP D q (wX aG aM aW aS aI q u) t) A) args s 0 0 A) _
  unfold wpX6_common at hf
  obtain ⟨H, hH⟩ : ∃ H, H = s.heap := ⟨_, rfl⟩
  obtain ⟨locs, hlocs⟩ : ∃ x : List Loc, x = [] := ⟨_, rfl⟩
  rw [← hH] at hP
  have hS : va_S A s.heap H locs := by rw [hH, hlocs]; exact hS
  rw [show W p l e rmX6_common s m args below meth c s.heap [] 0 0 (MQ below (va_Qi Q (fun u t => kP D q (wX aG aM aW aS aI q u) t) A) args s 0 0 A) (F0 m 0 ls []) = W p l e rmX6_common s m args below meth c H locs 0 0 (MQ below (va_Qi Q (fun u t => kP D q (wX aG aM aW aS aI q u) t) A) args s 0 0 A) (F0 m 0 ls []) by rw [hH, hlocs]]
  clear hH hlocs
  have hP : va_P D vwCl (wZ aG aM aW aS aI q sh im ++ (wW aW aM q uW ++ wM aM q uM)) H := hP
  have hD : va_D A (wZ aG aM aW aS aI q sh im ++ (wW aW aM q uW ++ wM aM q uM)) := hD
  have hf := hf
    (fun (i : Nat) (z0 : Int32) => i < 4 → ∀ (H : Heap) (locs : List Loc) (ls : Array Slot), va_P D vwCl (wY i aG aM aW aS aI q sh im ++ (wW aW aM q uW ++ (wM aM q uM ++ wS (aS i) q (sh i)))) H → va_D A (wY i aG aM aW aS aI q sh im ++ (wW aW aM q uW ++ (wM aM q uM ++ wS (aS i) q (sh i)))) → va_S A s.heap H locs → lv_has ls 4 [] → W p l e rmX6_common s m args below meth c H locs 0 0 (MQ below (va_Qi Q (fun u t => kP D q (wX aG aM aW aS aI q u) t) A) args s 0 0 A) (F0 m 46 ls [.int z0, .ref ((aS i) 0), .ref (aW 0)]))
    (by
      intro i z0 hf hi H locs ls hP hD hS hl
      refine k_si (k_runV (As := [.ref ((aS i) 0), .int z0]) (rest := []) ⟨hx, hb, hml, hown, hts⟩ (c_X5_longestCommon l D q aW aM (aS i) uW uM (sh i) z0 _ hf) (cwV 2 hts gX6_common_X5_longestCommon rfl rfl rfl cdX5_longestCommon ⟨Nat.le_of_ble_eq_true rfl, Nat.le_of_ble_eq_true rfl⟩) hK (kp_r hP) (kd_r hD) 0 rfl rfl rfl hl.1 rfl (Nat.le_of_ble_eq_true rfl) dX6_common_46 ⟨Nat.le_of_ble_eq_true rfl, Nat.le_of_ble_eq_true rfl⟩) (fun r5 hf => ?_)
      have hP := z_cs0P hi hP
      have hD := z_cs0D hi hD
      exact k_iret_w (wf := (fun u => wX aG aM aW aS aI q u)) (post := Q) (u := (uM, uW, sh, im)) (v := r5) hx hb hr hlocks hK hP hD hS hf dX6_common_49)
  refine lv_aload_n hx hb dX6_common_0 rfl (lv_at hl 0 rfl) ?_
  refine lv_iload_n hx hb dX6_common_1 rfl (lv_at hl 1 rfl) ?_
  refine k_sq (k_runV (As := [.int x1]) (rest := []) ⟨hx, hb, hml, hown, hts⟩ (c_X6_pageAt l D q aG aM aW aS aI x1) (cwV 1 hts gX6_common_X6_pageAt rfl rfl rfl cdX6_pageAt ⟨Nat.le_of_ble_eq_true rfl, Nat.le_of_ble_eq_true rfl⟩) hK (kp_l (kp_l hP)) (kd_l (kd_l hD)) 0 rfl rfl rfl hl.1 rfl (Nat.le_of_ble_eq_true rfl) dX6_common_2 ⟨Nat.le_of_ble_eq_true rfl, Nat.le_of_ble_eq_true rfl⟩) (fun r hr => ?_)
  rcases hr with ⟨hc, rfl⟩ | ⟨i, hi, hs, rfl⟩
  · have hf := hf.1 hc
    change W p l e rmX6_common s m args below meth c H locs 0 0 _ (F0 m 5 ls (.null :: []))
    refine lv_astore_nN (lv' := [(3, .null), (0, .ref (aG 0)), (1, .int x1), (2, .int x2)]) hx hb dX6_common_5 rfl hl (by decide) rfl (fun ls hl => ?_)
    refine lv_aload_nN hx hb dX6_common_6 rfl (lv_at hl 0 rfl) ?_
    refine lv_ifnullN (tgt := 19) hx hb dX6_common_7 (by decide) ?_
    refine lv_iconst (v := (-1)) hx hb dX6_common_19 (by decide) ?_
    exact k_iret_w (wf := (fun u => wX aG aM aW aS aI q u)) (post := Q) (u := (uM, uW, sh, im)) (v := (-1)) hx hb hr hlocks hK hP hD hS hf dX6_common_20
  · have hf := hf.2 i hi hs
    have hP := z_osP hi hP
    have hD := z_osD hi hD
    change W p l e rmX6_common s m args below meth c H locs 0 0 _ (F0 m 5 ls (.ref ((aS i) 0) :: []))
    refine lv_astore_n (lv' := [(3, .ref ((aS i) 0)), (0, .ref (aG 0)), (1, .int x1), (2, .int x2)]) hx hb dX6_common_5 rfl hl (by decide) rfl (fun ls hl => ?_)
    refine lv_aload_n hx hb dX6_common_6 rfl (lv_at hl 0 rfl) ?_
    refine lv_ifnull hx hb dX6_common_7 ?_
    refine lv_iload_n hx hb dX6_common_10 rfl (lv_at hl 3 rfl) ?_
    refine lv_if_lt (tgt := 19) hx hb dX6_common_11 (by decide) (fun c1 => ?_) (fun c1 => ?_)
    · have hf := hf.1 (c1)
      refine lv_iconst (v := (-1)) hx hb dX6_common_19 (by decide) ?_
      have hP := z_cs0P hi hP
      have hD := z_cs0D hi hD
      exact k_iret_w (wf := (fun u => wX aG aM aW aS aI q u)) (post := Q) (u := (uM, uW, sh, im)) (v := (-1)) hx hb hr hlocks hK hP hD hS hf dX6_common_20
    · have hf := hf.2 (c1)
      refine lv_iload_n hx hb dX6_common_14 rfl (lv_at hl 3 rfl) ?_
      refine lv_iconst (v := 1) hx hb dX6_common_15 (by decide) ?_
      refine lv_icmp_le (tgt := 21) hx hb dX6_common_16 (by decide) (fun c2 => ?_) (fun c2 => ?_)
      · have hf := hf.1 (c2)
        refine lv_aload_n hx hb dX6_common_21 rfl (lv_at hl 0 rfl) ?_
        refine va_get (D := D) (ci := 2) (v := .int (gS_there (sh i))) (C := RX4) (T := TX4) (N := 3) hx hb hts inX6_common_X4 hown hK (kp_r (kp_r (kp_r hP))) 0 rfl rfl 1 (by decide) (hts (.fieldLink RX6 64 "GrowingText$Sheet" "there" "Z") (List.mem_of_getElem? (i := 1) rfl)) (fun _ h9 => h9) rfl dX6_common_22 ?_
        refine lv_if_ne (tgt := 31) hx hb dX6_common_25 (by decide) (fun c3 => ?_) (fun c3 => ?_)
        · have hf := hf.2 (c3)
          refine lv_aload_n hx hb dX6_common_31 rfl (lv_at hl 1 rfl) ?_
          refine va_get (D := D) (ci := 4) (v := .ref (aW 0)) (C := RX6) (T := TX6) (N := 4) hx hb hts inX6_common_X6 hown hK hP 0 rfl rfl 1 (by decide) (hts (.fieldLink RX6 21 "GrowingText" "words" "LGrowingText$Words;") (List.mem_of_getElem? (i := 2) rfl)) (fun _ h9 => h9) rfl dX6_common_32 ?_
          refine lv_aload_n hx hb dX6_common_35 rfl (lv_at hl 0 rfl) ?_
          refine lv_iload_n hx hb dX6_common_36 rfl (lv_at hl 3 rfl) ?_
          refine lv_iconst (v := 1) hx hb dX6_common_37 (by decide) ?_
          refine lv_icmp_ne (tgt := 45) hx hb dX6_common_38 (by decide) (fun c4 => ?_) (fun c4 => ?_)
          · have hf := hf.2 (c4)
            refine lv_iconst (v := 0) hx hb dX6_common_45 (by decide) ?_
            exact hf hi H locs ls hP hD hS (lv_sub hl [] rfl)
          · have hf := hf.1 (c4)
            refine lv_iconst (v := 1) hx hb dX6_common_41 (by decide) ?_
            refine lv_goto (tgt := 46) hx hb dX6_common_42 (by decide) ?_
            exact hf hi H locs ls hP hD hS (lv_sub hl [] rfl)
        · have hf := hf.1 (c3)
          refine lv_bipush (v := (-11)) hx hb dX6_common_28 (by decide) ?_
          have hP := z_cs0P hi hP
          have hD := z_cs0D hi hD
          exact k_iret_w (wf := (fun u => wX aG aM aW aS aI q u)) (post := Q) (u := (uM, uW, sh, im)) (v := (-11)) hx hb hr hlocks hK hP hD hS hf dX6_common_30
      · have hf := hf.2 (c2)
        refine lv_iconst (v := (-1)) hx hb dX6_common_19 (by decide) ?_
        have hP := z_cs0P hi hP
        have hD := z_cs0D hi hD
        exact k_iret_w (wf := (fun u => wX aG aM aW aS aI q u)) (post := Q) (u := (uM, uW, sh, im)) (v := (-1)) hx hb hr hlocks hK hP hD hS hf dX6_common_20
def wpX6_border (uM : MSt) (uW : WSt) (sh : Nat → SSt) (im : Nat → ISt) (x1 : Int32) (Q : Int32 → CSt → Prop) : Prop :=
  (((0 : Int32) ≤ x1 →
    wpX5_kthBorder uW uM x1 (fun r2 =>
      Q r2 (uM, uW, sh, im))) ∧
  (¬ ((0 : Int32) ≤ x1) →
    Q (-1) (uM, uW, sh, im)))
def rmX6_border : Room := { frames := 5, cells := 0, slots := 0, locals := 110 }
theorem inX6_border_X6 : ∀ w ∈ wsX60, w ∈ wsX6_border := fun w h => List.mem_cons_of_mem _ (List.mem_append_left _ (List.mem_append_left _ (List.mem_append_right _ h)))
set_option maxRecDepth 100000 in
set_option maxHeartbeats 4000000 in
theorem c_X6_border (l : Launch) (D : va_G) (q : Nat → ClassId) (aG aM aW : Nat → Nat) (aS aI : Nat → Nat → Nat) (uM : MSt) (uW : WSt) (sh : Nat → SSt) (im : Nat → ISt) (x1 : Int32) (Q : Int32 → CSt → Prop) (hf : wpX6_border uM uW sh im x1 Q) : Met l yX6_border wsX6_border rmX6_border (va_Pc [.ref (aG 0), .int x1] (kP D q (wX aG aM aW aS aI q (uM, uW, sh, im)))) (va_Qi Q (fun u t => kP D q (wX aG aM aW aS aI q u) t) (kIn (wX aG aM aW aS aI q (uM, uW, sh, im)))) 0 0 (kIn (wX aG aM aW aS aI q (uM, uW, sh, im))) := by
  refine Met.ofW (cc := cX6_border) (maxL := 2) (ret := (some .int)) (by decide) rfl ?_
  intro p e s m args below meth c s₁ B hml hv
  obtain ⟨hargs, hP, hK, hD⟩ := hv
  have hx := B.exec
  have hb := B.bytes
  have hr := B.returns
  have hts := atoms_spec (ws := wsX6_border) B.pre
  have hown : s.vm.findClass RX6 = some m.cls := findClass_of_methodNamed B.named
  have hlocks := B.notSynchronized
  have hD := kd_self hD
  generalize kIn (wX aG aM aW aS aI q (uM, uW, sh, im)) = A at hD ⊢
  have hS : va_S A s.heap s.heap [] := va_S.rf
  refine k_entry hargs (Nat.le_of_ble_eq_true rfl) (fun ls hl => ?_)
  have hl : lv_has ls 2 [(0, .ref (aG 0)), (1, .int x1)] := hl
  change W p l e rmX6_border s m args below meth c s.heap [] 0 0 (MQ below (va_Qi Q (fun u t => kP D q (wX aG aM aW aS aI q u) t) A) args s 0 0 A) _
  unfold wpX6_border at hf
  obtain ⟨H, hH⟩ : ∃ H, H = s.heap := ⟨_, rfl⟩
  obtain ⟨locs, hlocs⟩ : ∃ x : List Loc, x = [] := ⟨_, rfl⟩
  rw [← hH] at hP
  have hS : va_S A s.heap H locs := by rw [hH, hlocs]; exact hS
  rw [show W p l e rmX6_border s m args below meth c s.heap [] 0 0 (MQ below (va_Qi Q (fun u t => kP D q (wX aG aM aW aS aI q u) t) A) args s 0 0 A) (F0 m 0 ls []) = W p l e rmX6_border s m args below meth c H locs 0 0 (MQ below (va_Qi Q (fun u t => kP D q (wX aG aM aW aS aI q u) t) A) args s 0 0 A) (F0 m 0 ls []) by rw [hH, hlocs]]
  clear hH hlocs
  have hP : va_P D vwCl (wZ aG aM aW aS aI q sh im ++ (wW aW aM q uW ++ wM aM q uM)) H := hP
  have hD : va_D A (wZ aG aM aW aS aI q sh im ++ (wW aW aM q uW ++ wM aM q uM)) := hD
  refine lv_iload_n hx hb dX6_border_0 rfl (lv_at hl 1 rfl) ?_
  refine lv_if_ge (tgt := 8) hx hb dX6_border_1 (by decide) (fun c1 => ?_) (fun c1 => ?_)
  · have hf := hf.1 (c1)
    refine lv_aload_n hx hb dX6_border_8 rfl (lv_at hl 0 rfl) ?_
    refine va_get (D := D) (ci := 4) (v := .ref (aW 0)) (C := RX6) (T := TX6) (N := 4) hx hb hts inX6_border_X6 hown hK hP 0 rfl rfl 1 (by decide) (hts (.fieldLink RX6 21 "GrowingText" "words" "LGrowingText$Words;") (List.mem_of_getElem? (i := 1) rfl)) (fun _ h9 => h9) rfl dX6_border_9 ?_
    refine lv_iload_n hx hb dX6_border_12 rfl (lv_at hl 1 rfl) ?_
    refine k_si (k_runV (As := [.int x1]) (rest := []) ⟨hx, hb, hml, hown, hts⟩ (c_X5_kthBorder l D q aW aM uW uM x1 _ hf) (cwV 1 hts gX6_border_X5_kthBorder rfl rfl rfl cdX5_kthBorder ⟨Nat.le_of_ble_eq_true rfl, Nat.le_of_ble_eq_true rfl⟩) hK (kp_r hP) (kd_r hD) 0 rfl rfl rfl hl.1 rfl (Nat.le_of_ble_eq_true rfl) dX6_border_13 ⟨Nat.le_of_ble_eq_true rfl, Nat.le_of_ble_eq_true rfl⟩) (fun r2 hf => ?_)
    exact k_iret_w (wf := (fun u => wX aG aM aW aS aI q u)) (post := Q) (u := (uM, uW, sh, im)) (v := r2) hx hb hr hlocks hK hP hD hS hf dX6_border_16
  · have hf := hf.2 (c1)
    refine lv_iconst (v := (-1)) hx hb dX6_border_4 (by decide) ?_
    refine lv_goto (tgt := 16) hx hb dX6_border_5 (by decide) ?_
    exact k_iret_w (wf := (fun u => wX aG aM aW aS aI q u)) (post := Q) (u := (uM, uW, sh, im)) (v := (-1)) hx hb hr hlocks hK hP hD hS hf dX6_border_16
def wpX6_next (uM : MSt) (uW : WSt) (sh : Nat → SSt) (im : Nat → ISt) (x1 : Int32) (Q : Int32 → CSt → Prop) : Prop :=
  ((x1 < 0 →
    Q (-1) (uM, uW, sh, im)) ∧
  (¬ (x1 < 0) →
    (x1 ≤ (gM_length uM) →
      wpX5_stateOfLast uW uM x1 (fun r3 =>
        wpX5_likeliestBehind uW uM r3 (fun r4 =>
          Q r4 (uM, uW, sh, im)))) ∧
    (¬ (x1 ≤ (gM_length uM)) →
      Q (-1) (uM, uW, sh, im))))
def rmX6_next : Room := { frames := 4, cells := 0, slots := 0, locals := 86 }
theorem inX6_next_X2 : ∀ w ∈ wsX20, w ∈ wsX6_next := fun w h => List.mem_cons_of_mem _ (List.mem_append_left _ (List.mem_append_right _ h))
theorem inX6_next_X6 : ∀ w ∈ wsX60, w ∈ wsX6_next := fun w h => List.mem_cons_of_mem _ (List.mem_append_left _ (List.mem_append_left _ (List.mem_append_right _ h)))
set_option maxRecDepth 100000 in
set_option maxHeartbeats 4000000 in
theorem c_X6_next (l : Launch) (D : va_G) (q : Nat → ClassId) (aG aM aW : Nat → Nat) (aS aI : Nat → Nat → Nat) (uM : MSt) (uW : WSt) (sh : Nat → SSt) (im : Nat → ISt) (x1 : Int32) (Q : Int32 → CSt → Prop) (hf : wpX6_next uM uW sh im x1 Q) : Met l yX6_next wsX6_next rmX6_next (va_Pc [.ref (aG 0), .int x1] (kP D q (wX aG aM aW aS aI q (uM, uW, sh, im)))) (va_Qi Q (fun u t => kP D q (wX aG aM aW aS aI q u) t) (kIn (wX aG aM aW aS aI q (uM, uW, sh, im)))) 0 0 (kIn (wX aG aM aW aS aI q (uM, uW, sh, im))) := by
  refine Met.ofW (cc := cX6_next) (maxL := 2) (ret := (some .int)) (by decide) rfl ?_
  intro p e s m args below meth c s₁ B hml hv
  obtain ⟨hargs, hP, hK, hD⟩ := hv
  have hx := B.exec
  have hb := B.bytes
  have hr := B.returns
  have hts := atoms_spec (ws := wsX6_next) B.pre
  have hown : s.vm.findClass RX6 = some m.cls := findClass_of_methodNamed B.named
  have hlocks := B.notSynchronized
  have hD := kd_self hD
  generalize kIn (wX aG aM aW aS aI q (uM, uW, sh, im)) = A at hD ⊢
  have hS : va_S A s.heap s.heap [] := va_S.rf
  refine k_entry hargs (Nat.le_of_ble_eq_true rfl) (fun ls hl => ?_)
  have hl : lv_has ls 2 [(0, .ref (aG 0)), (1, .int x1)] := hl
  change W p l e rmX6_next s m args below meth c s.heap [] 0 0 (MQ below (va_Qi Q (fun u t => kP D q (wX aG aM aW aS aI q u) t) A) args s 0 0 A) _
  unfold wpX6_next at hf
  obtain ⟨H, hH⟩ : ∃ H, H = s.heap := ⟨_, rfl⟩
  obtain ⟨locs, hlocs⟩ : ∃ x : List Loc, x = [] := ⟨_, rfl⟩
  rw [← hH] at hP
  have hS : va_S A s.heap H locs := by rw [hH, hlocs]; exact hS
  rw [show W p l e rmX6_next s m args below meth c s.heap [] 0 0 (MQ below (va_Qi Q (fun u t => kP D q (wX aG aM aW aS aI q u) t) A) args s 0 0 A) (F0 m 0 ls []) = W p l e rmX6_next s m args below meth c H locs 0 0 (MQ below (va_Qi Q (fun u t => kP D q (wX aG aM aW aS aI q u) t) A) args s 0 0 A) (F0 m 0 ls []) by rw [hH, hlocs]]
  clear hH hlocs
  have hP : va_P D vwCl (wZ aG aM aW aS aI q sh im ++ (wW aW aM q uW ++ wM aM q uM)) H := hP
  have hD : va_D A (wZ aG aM aW aS aI q sh im ++ (wW aW aM q uW ++ wM aM q uM)) := hD
  refine lv_iload_n hx hb dX6_next_0 rfl (lv_at hl 1 rfl) ?_
  refine lv_if_lt (tgt := 15) hx hb dX6_next_1 (by decide) (fun c1 => ?_) (fun c1 => ?_)
  · have hf := hf.1 (c1)
    refine lv_iconst (v := (-1)) hx hb dX6_next_15 (by decide) ?_
    exact k_iret_w (wf := (fun u => wX aG aM aW aS aI q u)) (post := Q) (u := (uM, uW, sh, im)) (v := (-1)) hx hb hr hlocks hK hP hD hS hf dX6_next_16
  · have hf := hf.2 (c1)
    refine lv_iload_n hx hb dX6_next_4 rfl (lv_at hl 1 rfl) ?_
    refine lv_aload_n hx hb dX6_next_5 rfl (lv_at hl 0 rfl) ?_
    refine va_get (D := D) (ci := 4) (v := .ref (aM 0)) (C := RX6) (T := TX6) (N := 4) hx hb hts inX6_next_X6 hown hK hP 0 rfl rfl 0 (by decide) (hts (.fieldLink RX6 12 "GrowingText" "machine" "LGrowingText$Machine;") (List.mem_of_getElem? (i := 1) rfl)) (fun _ h9 => h9) rfl dX6_next_6 ?_
    refine va_get (D := D) (ci := 1) (v := .int (gM_length uM)) (C := RX2) (T := TX2) (N := 12) hx hb hts inX6_next_X2 hown hK (kp_r (kp_r hP)) 0 rfl rfl 1 (by decide) (hts (.fieldLink RX6 39 "GrowingText$Machine" "length" "I") (List.mem_of_getElem? (i := 2) rfl)) (fun _ h9 => h9) rfl dX6_next_9 ?_
    refine lv_icmp_le (tgt := 17) hx hb dX6_next_12 (by decide) (fun c2 => ?_) (fun c2 => ?_)
    · have hf := hf.1 (c2)
      refine lv_aload_n hx hb dX6_next_17 rfl (lv_at hl 0 rfl) ?_
      refine va_get (D := D) (ci := 4) (v := .ref (aW 0)) (C := RX6) (T := TX6) (N := 4) hx hb hts inX6_next_X6 hown hK hP 0 rfl rfl 1 (by decide) (hts (.fieldLink RX6 21 "GrowingText" "words" "LGrowingText$Words;") (List.mem_of_getElem? (i := 3) rfl)) (fun _ h9 => h9) rfl dX6_next_18 ?_
      refine lv_aload_n hx hb dX6_next_21 rfl (lv_at hl 0 rfl) ?_
      refine va_get (D := D) (ci := 4) (v := .ref (aW 0)) (C := RX6) (T := TX6) (N := 4) hx hb hts inX6_next_X6 hown hK hP 0 rfl rfl 1 (by decide) (hts (.fieldLink RX6 21 "GrowingText" "words" "LGrowingText$Words;") (List.mem_of_getElem? (i := 3) rfl)) (fun _ h9 => h9) rfl dX6_next_22 ?_
      refine lv_iload_n hx hb dX6_next_25 rfl (lv_at hl 1 rfl) ?_
      refine k_si (k_runV (As := [.int x1]) (rest := [.ref (aW 0)]) ⟨hx, hb, hml, hown, hts⟩ (c_X5_stateOfLast l D q aW aM uW uM x1 _ hf) (cwV 1 hts gX6_next_X5_stateOfLast rfl rfl rfl cdX5_stateOfLast ⟨Nat.le_of_ble_eq_true rfl, Nat.le_of_ble_eq_true rfl⟩) hK (kp_r hP) (kd_r hD) 0 rfl rfl rfl hl.1 rfl (Nat.le_of_ble_eq_true rfl) dX6_next_26 ⟨Nat.le_of_ble_eq_true rfl, Nat.le_of_ble_eq_true rfl⟩) (fun r3 hf => ?_)
      refine k_si (k_runV (As := [.int r3]) (rest := []) ⟨hx, hb, hml, hown, hts⟩ (c_X5_likeliestBehind l D q aW aM uW uM r3 _ hf) (cwV 1 hts gX6_next_X5_likeliestBehind rfl rfl rfl cdX5_likeliestBehind ⟨Nat.le_of_ble_eq_true rfl, Nat.le_of_ble_eq_true rfl⟩) hK (kp_r hP) (kd_r hD) 0 rfl rfl rfl hl.1 rfl (Nat.le_of_ble_eq_true rfl) dX6_next_29 ⟨Nat.le_of_ble_eq_true rfl, Nat.le_of_ble_eq_true rfl⟩) (fun r4 hf => ?_)
      exact k_iret_w (wf := (fun u => wX aG aM aW aS aI q u)) (post := Q) (u := (uM, uW, sh, im)) (v := r4) hx hb hr hlocks hK hP hD hS hf dX6_next_32
    · have hf := hf.2 (c2)
      refine lv_iconst (v := (-1)) hx hb dX6_next_15 (by decide) ?_
      exact k_iret_w (wf := (fun u => wX aG aM aW aS aI q u)) (post := Q) (u := (uM, uW, sh, im)) (v := (-1)) hx hb hr hlocks hK hP hD hS hf dX6_next_16
def wpX6_worth (uM : MSt) (uW : WSt) (sh : Nat → SSt) (im : Nat → ISt) (x1 : Int32) (Q : Int32 → CSt → Prop) : Prop :=
  ((x1 < 1 →
    Q (-1) (uM, uW, sh, im)) ∧
  (¬ (x1 < 1) →
    (x1 ≤ 9 →
      wpX5_worthTogether uW uM x1 (fun r4 uW3 =>
        Q r4 (uM, uW3, sh, im))) ∧
    (¬ (x1 ≤ 9) →
      Q (-1) (uM, uW, sh, im))))
def rmX6_worth : Room := { frames := 3, cells := 0, slots := 0, locals := 70 }
theorem inX6_worth_X6 : ∀ w ∈ wsX60, w ∈ wsX6_worth := fun w h => List.mem_cons_of_mem _ (List.mem_append_left _ (List.mem_append_left _ (List.mem_append_right _ h)))
set_option maxRecDepth 100000 in
set_option maxHeartbeats 4000000 in
theorem c_X6_worth (l : Launch) (D : va_G) (q : Nat → ClassId) (aG aM aW : Nat → Nat) (aS aI : Nat → Nat → Nat) (uM : MSt) (uW : WSt) (sh : Nat → SSt) (im : Nat → ISt) (x1 : Int32) (Q : Int32 → CSt → Prop) (hf : wpX6_worth uM uW sh im x1 Q) : Met l yX6_worth wsX6_worth rmX6_worth (va_Pc [.ref (aG 0), .int x1] (kP D q (wX aG aM aW aS aI q (uM, uW, sh, im)))) (va_Qi Q (fun u t => kP D q (wX aG aM aW aS aI q u) t) (kIn (wX aG aM aW aS aI q (uM, uW, sh, im)))) 0 0 (kIn (wX aG aM aW aS aI q (uM, uW, sh, im))) := by
  refine Met.ofW (cc := cX6_worth) (maxL := 2) (ret := (some .int)) (by decide) rfl ?_
  intro p e s m args below meth c s₁ B hml hv
  obtain ⟨hargs, hP, hK, hD⟩ := hv
  have hx := B.exec
  have hb := B.bytes
  have hr := B.returns
  have hts := atoms_spec (ws := wsX6_worth) B.pre
  have hown : s.vm.findClass RX6 = some m.cls := findClass_of_methodNamed B.named
  have hlocks := B.notSynchronized
  have hD := kd_self hD
  generalize kIn (wX aG aM aW aS aI q (uM, uW, sh, im)) = A at hD ⊢
  have hS : va_S A s.heap s.heap [] := va_S.rf
  refine k_entry hargs (Nat.le_of_ble_eq_true rfl) (fun ls hl => ?_)
  have hl : lv_has ls 2 [(0, .ref (aG 0)), (1, .int x1)] := hl
  change W p l e rmX6_worth s m args below meth c s.heap [] 0 0 (MQ below (va_Qi Q (fun u t => kP D q (wX aG aM aW aS aI q u) t) A) args s 0 0 A) _
  unfold wpX6_worth at hf
  obtain ⟨H, hH⟩ : ∃ H, H = s.heap := ⟨_, rfl⟩
  obtain ⟨locs, hlocs⟩ : ∃ x : List Loc, x = [] := ⟨_, rfl⟩
  rw [← hH] at hP
  have hS : va_S A s.heap H locs := by rw [hH, hlocs]; exact hS
  rw [show W p l e rmX6_worth s m args below meth c s.heap [] 0 0 (MQ below (va_Qi Q (fun u t => kP D q (wX aG aM aW aS aI q u) t) A) args s 0 0 A) (F0 m 0 ls []) = W p l e rmX6_worth s m args below meth c H locs 0 0 (MQ below (va_Qi Q (fun u t => kP D q (wX aG aM aW aS aI q u) t) A) args s 0 0 A) (F0 m 0 ls []) by rw [hH, hlocs]]
  clear hH hlocs
  have hP : va_P D vwCl (wZ aG aM aW aS aI q sh im ++ (wW aW aM q uW ++ wM aM q uM)) H := hP
  have hD : va_D A (wZ aG aM aW aS aI q sh im ++ (wW aW aM q uW ++ wM aM q uM)) := hD
  refine lv_iload_n hx hb dX6_worth_0 rfl (lv_at hl 1 rfl) ?_
  refine lv_iconst (v := 1) hx hb dX6_worth_1 (by decide) ?_
  refine lv_icmp_lt (tgt := 11) hx hb dX6_worth_2 (by decide) (fun c1 => ?_) (fun c1 => ?_)
  · have hf := hf.1 (c1)
    refine lv_iconst (v := (-1)) hx hb dX6_worth_11 (by decide) ?_
    exact k_iret_w (wf := (fun u => wX aG aM aW aS aI q u)) (post := Q) (u := (uM, uW, sh, im)) (v := (-1)) hx hb hr hlocks hK hP hD hS hf dX6_worth_12
  · have hf := hf.2 (c1)
    refine lv_iload_n hx hb dX6_worth_5 rfl (lv_at hl 1 rfl) ?_
    refine lv_bipush (v := 9) hx hb dX6_worth_6 (by decide) ?_
    refine lv_icmp_le (tgt := 13) hx hb dX6_worth_8 (by decide) (fun c2 => ?_) (fun c2 => ?_)
    · have hf := hf.1 (c2)
      refine lv_aload_n hx hb dX6_worth_13 rfl (lv_at hl 0 rfl) ?_
      refine va_get (D := D) (ci := 4) (v := .ref (aW 0)) (C := RX6) (T := TX6) (N := 4) hx hb hts inX6_worth_X6 hown hK hP 0 rfl rfl 1 (by decide) (hts (.fieldLink RX6 21 "GrowingText" "words" "LGrowingText$Words;") (List.mem_of_getElem? (i := 1) rfl)) (fun _ h9 => h9) rfl dX6_worth_14 ?_
      refine lv_iload_n hx hb dX6_worth_17 rfl (lv_at hl 1 rfl) ?_
      refine k_wi (wf := fun u => wW aW aM q u ++ wM aM q uM) (u0 := uW) (k_runV (As := [.int x1]) (rest := []) ⟨hx, hb, hml, hown, hts⟩ (c_X5_worthTogether l D q aW aM uW uM x1 _ hf) (cwV 1 hts gX6_worth_X5_worthTogether rfl rfl rfl cdX5_worthTogether ⟨Nat.le_of_ble_eq_true rfl, Nat.le_of_ble_eq_true rfl⟩) hK (kp_r hP) (kd_r hD) 0 rfl rfl rfl hl.1 rfl (Nat.le_of_ble_eq_true rfl) dX6_worth_18 ⟨Nat.le_of_ble_eq_true rfl, Nat.le_of_ble_eq_true rfl⟩) (wZ aG aM aW aS aI q sh im) ([]) (fun _ => rfl) hP hD hS (fun r4 uW3 H locs hf hP hD hS => ?_)
      have hP : va_P D vwCl (wZ aG aM aW aS aI q sh im ++ (wW aW aM q uW3 ++ wM aM q uM)) H := hP
      have hD : va_D A (wZ aG aM aW aS aI q sh im ++ (wW aW aM q uW3 ++ wM aM q uM)) := hD
      exact k_iret_w (wf := (fun u => wX aG aM aW aS aI q u)) (post := Q) (u := (uM, uW3, sh, im)) (v := r4) hx hb hr hlocks hK hP hD hS hf dX6_worth_21
    · have hf := hf.2 (c2)
      refine lv_iconst (v := (-1)) hx hb dX6_worth_11 (by decide) ?_
      exact k_iret_w (wf := (fun u => wX aG aM aW aS aI q u)) (post := Q) (u := (uM, uW, sh, im)) (v := (-1)) hx hb hr hlocks hK hP hD hS hf dX6_worth_12
def wpX6_keep (uM : MSt) (uW : WSt) (sh : Nat → SSt) (im : Nat → ISt) (x1 : Int32) (Q : Int32 → CSt → Prop) : Prop :=
  (((x1 < 0 ∨ 2 ≤ x1) →
    Q (-1) (uM, uW, sh, im)) ∧
  (∀ i : Nat, i < 2 → x1 = nI i →
    wpX1_take uM (im i) (fun uI1 =>
      Q (gM_length uM) (uM, uW, sh, (va_up im i uI1)))))
def rmX6_keep : Room := { frames := 3, cells := 0, slots := 0, locals := 64 }
theorem inX6_keep_X2 : ∀ w ∈ wsX20, w ∈ wsX6_keep := fun w h => List.mem_cons_of_mem _ (List.mem_append_left _ (List.mem_append_right _ h))
theorem inX6_keep_X6 : ∀ w ∈ wsX60, w ∈ wsX6_keep := fun w h => List.mem_cons_of_mem _ (List.mem_append_left _ (List.mem_append_left _ (List.mem_append_right _ h)))
set_option maxRecDepth 100000 in
set_option maxHeartbeats 4000000 in
theorem c_X6_keep (l : Launch) (D : va_G) (q : Nat → ClassId) (aG aM aW : Nat → Nat) (aS aI : Nat → Nat → Nat) (uM : MSt) (uW : WSt) (sh : Nat → SSt) (im : Nat → ISt) (x1 : Int32) (Q : Int32 → CSt → Prop) (hf : wpX6_keep uM uW sh im x1 Q) : Met l yX6_keep wsX6_keep rmX6_keep (va_Pc [.ref (aG 0), .int x1] (kP D q (wX aG aM aW aS aI q (uM, uW, sh, im)))) (va_Qi Q (fun u t => kP D q (wX aG aM aW aS aI q u) t) (kIn (wX aG aM aW aS aI q (uM, uW, sh, im)))) 0 0 (kIn (wX aG aM aW aS aI q (uM, uW, sh, im))) := by
  refine Met.ofW (cc := cX6_keep) (maxL := 3) (ret := (some .int)) (by decide) rfl ?_
  intro p e s m args below meth c s₁ B hml hv
  obtain ⟨hargs, hP, hK, hD⟩ := hv
  have hx := B.exec
  have hb := B.bytes
  have hr := B.returns
  have hts := atoms_spec (ws := wsX6_keep) B.pre
  have hown : s.vm.findClass RX6 = some m.cls := findClass_of_methodNamed B.named
  have hlocks := B.notSynchronized
  have hD := kd_self hD
  generalize kIn (wX aG aM aW aS aI q (uM, uW, sh, im)) = A at hD ⊢
  have hS : va_S A s.heap s.heap [] := va_S.rf
  refine k_entry hargs (Nat.le_of_ble_eq_true rfl) (fun ls hl => ?_)
  have hl : lv_has ls 3 [(0, .ref (aG 0)), (1, .int x1)] := hl
  change W p l e rmX6_keep s m args below meth c s.heap [] 0 0 (MQ below (va_Qi Q (fun u t => kP D q (wX aG aM aW aS aI q u) t) A) args s 0 0 A) _
  unfold wpX6_keep at hf
  obtain ⟨H, hH⟩ : ∃ H, H = s.heap := ⟨_, rfl⟩
  obtain ⟨locs, hlocs⟩ : ∃ x : List Loc, x = [] := ⟨_, rfl⟩
  rw [← hH] at hP
  have hS : va_S A s.heap H locs := by rw [hH, hlocs]; exact hS
  rw [show W p l e rmX6_keep s m args below meth c s.heap [] 0 0 (MQ below (va_Qi Q (fun u t => kP D q (wX aG aM aW aS aI q u) t) A) args s 0 0 A) (F0 m 0 ls []) = W p l e rmX6_keep s m args below meth c H locs 0 0 (MQ below (va_Qi Q (fun u t => kP D q (wX aG aM aW aS aI q u) t) A) args s 0 0 A) (F0 m 0 ls []) by rw [hH, hlocs]]
  clear hH hlocs
  have hP : va_P D vwCl (wZ aG aM aW aS aI q sh im ++ (wW aW aM q uW ++ wM aM q uM)) H := hP
  have hD : va_D A (wZ aG aM aW aS aI q sh im ++ (wW aW aM q uW ++ wM aM q uM)) := hD
  refine lv_aload_n hx hb dX6_keep_0 rfl (lv_at hl 0 rfl) ?_
  refine lv_iload_n hx hb dX6_keep_1 rfl (lv_at hl 1 rfl) ?_
  refine k_sq (k_runV (As := [.int x1]) (rest := []) ⟨hx, hb, hml, hown, hts⟩ (c_X6_imageAt l D q aG aM aW aS aI x1) (cwV 1 hts gX6_keep_X6_imageAt rfl rfl rfl cdX6_imageAt ⟨Nat.le_of_ble_eq_true rfl, Nat.le_of_ble_eq_true rfl⟩) hK (kp_l (kp_l hP)) (kd_l (kd_l hD)) 0 rfl rfl rfl hl.1 rfl (Nat.le_of_ble_eq_true rfl) dX6_keep_2 ⟨Nat.le_of_ble_eq_true rfl, Nat.le_of_ble_eq_true rfl⟩) (fun r hr => ?_)
  rcases hr with ⟨hc, rfl⟩ | ⟨i, hi, hs, rfl⟩
  · have hf := hf.1 hc
    change W p l e rmX6_keep s m args below meth c H locs 0 0 _ (F0 m 5 ls (.null :: []))
    refine lv_astore_nN (lv' := [(2, .null), (0, .ref (aG 0)), (1, .int x1)]) hx hb dX6_keep_5 rfl hl (by decide) rfl (fun ls hl => ?_)
    refine lv_aload_nN hx hb dX6_keep_6 rfl (lv_at hl 0 rfl) ?_
    refine lv_ifnonnullN hx hb dX6_keep_7 ?_
    refine lv_iconst (v := (-1)) hx hb dX6_keep_10 (by decide) ?_
    exact k_iret_w (wf := (fun u => wX aG aM aW aS aI q u)) (post := Q) (u := (uM, uW, sh, im)) (v := (-1)) hx hb hr hlocks hK hP hD hS hf dX6_keep_11
  · have hf := hf.2 i hi hs
    have hP := z_oiP hi hP
    have hD := z_oiD hi hD
    change W p l e rmX6_keep s m args below meth c H locs 0 0 _ (F0 m 5 ls (.ref ((aI i) 0) :: []))
    refine lv_astore_n (lv' := [(2, .ref ((aI i) 0)), (0, .ref (aG 0)), (1, .int x1)]) hx hb dX6_keep_5 rfl hl (by decide) rfl (fun ls hl => ?_)
    refine lv_aload_n hx hb dX6_keep_6 rfl (lv_at hl 0 rfl) ?_
    refine lv_ifnonnull (tgt := 12) hx hb dX6_keep_7 (by decide) ?_
    refine lv_aload_n hx hb dX6_keep_12 rfl (lv_at hl 0 rfl) ?_
    refine lv_aload_n hx hb dX6_keep_13 rfl (lv_at hl 1 rfl) ?_
    refine va_get (D := D) (ci := 4) (v := .ref (aM 0)) (C := RX6) (T := TX6) (N := 4) hx hb hts inX6_keep_X6 hown hK hP 0 rfl rfl 0 (by decide) (hts (.fieldLink RX6 12 "GrowingText" "machine" "LGrowingText$Machine;") (List.mem_of_getElem? (i := 1) rfl)) (fun _ h9 => h9) rfl dX6_keep_14 ?_
    refine k_wv (wf := fun u => wM aM q uM ++ wI (aI i) q u) (u0 := (im i)) (k_runV (As := [.ref (aM 0)]) (rest := []) ⟨hx, hb, hml, hown, hts⟩ (c_X1_take l D q aM (aI i) uM (im i) _ hf) (cwV 1 hts gX6_keep_X1_take rfl rfl rfl cdX1_take ⟨Nat.le_of_ble_eq_true rfl, Nat.le_of_ble_eq_true rfl⟩) hK (kp_r (kp_r hP)) (kd_r (kd_r hD)) 9 rfl rfl rfl hl.1 rfl (Nat.le_of_ble_eq_true rfl) dX6_keep_17 ⟨Nat.le_of_ble_eq_true rfl, Nat.le_of_ble_eq_true rfl⟩) (wV i aG aM aW aS aI q sh im ++ wW aW aM q uW) ([]) (fun _ => rfl) (kp_as (a := wV i aG aM aW aS aI q sh im) (b := wW aW aM q uW) (c := (wM aM q uM ++ wI (aI i) q (im i)) ++ ([])) hP) (kd_as (a := wV i aG aM aW aS aI q sh im) (b := wW aW aM q uW) (c := (wM aM q uM ++ wI (aI i) q (im i)) ++ ([])) hD) hS (fun uI1 H locs hf hP hD hS => ?_)
    have hP := kp_sa hP
    have hD := kd_sa hD
    have hP : va_P D vwCl (wV i aG aM aW aS aI q sh im ++ (wW aW aM q uW ++ (wM aM q uM ++ wI (aI i) q uI1))) H := hP
    have hD : va_D A (wV i aG aM aW aS aI q sh im ++ (wW aW aM q uW ++ (wM aM q uM ++ wI (aI i) q uI1))) := hD
    refine lv_aload_n hx hb dX6_keep_20 rfl (lv_at hl 1 rfl) ?_
    refine va_get (D := D) (ci := 4) (v := .ref (aM 0)) (C := RX6) (T := TX6) (N := 4) hx hb hts inX6_keep_X6 hown hK hP 0 rfl rfl 0 (by decide) (hts (.fieldLink RX6 12 "GrowingText" "machine" "LGrowingText$Machine;") (List.mem_of_getElem? (i := 1) rfl)) (fun _ h9 => h9) rfl dX6_keep_21 ?_
    refine va_get (D := D) (ci := 1) (v := .int (gM_length uM)) (C := RX2) (T := TX2) (N := 12) hx hb hts inX6_keep_X2 hown hK (kp_r (kp_r hP)) 0 rfl rfl 1 (by decide) (hts (.fieldLink RX6 39 "GrowingText$Machine" "length" "I") (List.mem_of_getElem? (i := 2) rfl)) (fun _ h9 => h9) rfl dX6_keep_24 ?_
    have hP := z_ciP hi hP
    have hD := z_ciD hi hD
    exact k_iret_w (wf := (fun u => wX aG aM aW aS aI q u)) (post := Q) (u := (uM, uW, sh, (va_up im i uI1))) (v := (gM_length uM)) hx hb hr hlocks hK hP hD hS hf dX6_keep_27
def wpX6_goBack (uM : MSt) (uW : WSt) (sh : Nat → SSt) (im : Nat → ISt) (x1 : Int32) (Q : Int32 → CSt → Prop) : Prop :=
  (((x1 < 0 ∨ 2 ≤ x1) →
    Q (-1) (uM, uW, sh, im)) ∧
  (∀ i : Nat, i < 2 → x1 = nI i →
    ((gI_kept (im i)) = 0 →
      Q (-2) (uM, uW, sh, im)) ∧
    (¬ ((gI_kept (im i)) = 0) →
      wpX1_giveBack uM (im i) (fun uM2 =>
        Q (gM_length uM2) (uM2, uW, sh, im)))))
def rmX6_goBack : Room := { frames := 6, cells := 0, slots := 0, locals := 142 }
theorem inX6_goBack_X1 : ∀ w ∈ wsX10, w ∈ wsX6_goBack := fun w h => List.mem_cons_of_mem _ (List.mem_append_left _ (List.mem_append_left _ (List.mem_append_right _ h)))
theorem inX6_goBack_X2 : ∀ w ∈ wsX20, w ∈ wsX6_goBack := fun w h => List.mem_cons_of_mem _ (List.mem_append_right _ h)
theorem inX6_goBack_X6 : ∀ w ∈ wsX60, w ∈ wsX6_goBack := fun w h => List.mem_cons_of_mem _ (List.mem_append_left _ (List.mem_append_right _ h))
set_option maxRecDepth 100000 in
set_option maxHeartbeats 4000000 in
theorem c_X6_goBack (l : Launch) (D : va_G) (q : Nat → ClassId) (aG aM aW : Nat → Nat) (aS aI : Nat → Nat → Nat) (uM : MSt) (uW : WSt) (sh : Nat → SSt) (im : Nat → ISt) (x1 : Int32) (Q : Int32 → CSt → Prop) (hf : wpX6_goBack uM uW sh im x1 Q) : Met l yX6_goBack wsX6_goBack rmX6_goBack (va_Pc [.ref (aG 0), .int x1] (kP D q (wX aG aM aW aS aI q (uM, uW, sh, im)))) (va_Qi Q (fun u t => kP D q (wX aG aM aW aS aI q u) t) (kIn (wX aG aM aW aS aI q (uM, uW, sh, im)))) 0 0 (kIn (wX aG aM aW aS aI q (uM, uW, sh, im))) := by
  refine Met.ofW (cc := cX6_goBack) (maxL := 3) (ret := (some .int)) (by decide) rfl ?_
  intro p e s m args below meth c s₁ B hml hv
  obtain ⟨hargs, hP, hK, hD⟩ := hv
  have hx := B.exec
  have hb := B.bytes
  have hr := B.returns
  have hts := atoms_spec (ws := wsX6_goBack) B.pre
  have hown : s.vm.findClass RX6 = some m.cls := findClass_of_methodNamed B.named
  have hlocks := B.notSynchronized
  have hD := kd_self hD
  generalize kIn (wX aG aM aW aS aI q (uM, uW, sh, im)) = A at hD ⊢
  have hS : va_S A s.heap s.heap [] := va_S.rf
  refine k_entry hargs (Nat.le_of_ble_eq_true rfl) (fun ls hl => ?_)
  have hl : lv_has ls 3 [(0, .ref (aG 0)), (1, .int x1)] := hl
  change W p l e rmX6_goBack s m args below meth c s.heap [] 0 0 (MQ below (va_Qi Q (fun u t => kP D q (wX aG aM aW aS aI q u) t) A) args s 0 0 A) _
  unfold wpX6_goBack at hf
  obtain ⟨H, hH⟩ : ∃ H, H = s.heap := ⟨_, rfl⟩
  obtain ⟨locs, hlocs⟩ : ∃ x : List Loc, x = [] := ⟨_, rfl⟩
  rw [← hH] at hP
  have hS : va_S A s.heap H locs := by rw [hH, hlocs]; exact hS
  rw [show W p l e rmX6_goBack s m args below meth c s.heap [] 0 0 (MQ below (va_Qi Q (fun u t => kP D q (wX aG aM aW aS aI q u) t) A) args s 0 0 A) (F0 m 0 ls []) = W p l e rmX6_goBack s m args below meth c H locs 0 0 (MQ below (va_Qi Q (fun u t => kP D q (wX aG aM aW aS aI q u) t) A) args s 0 0 A) (F0 m 0 ls []) by rw [hH, hlocs]]
  clear hH hlocs
  have hP : va_P D vwCl (wZ aG aM aW aS aI q sh im ++ (wW aW aM q uW ++ wM aM q uM)) H := hP
  have hD : va_D A (wZ aG aM aW aS aI q sh im ++ (wW aW aM q uW ++ wM aM q uM)) := hD
  refine lv_aload_n hx hb dX6_goBack_0 rfl (lv_at hl 0 rfl) ?_
  refine lv_iload_n hx hb dX6_goBack_1 rfl (lv_at hl 1 rfl) ?_
  refine k_sq (k_runV (As := [.int x1]) (rest := []) ⟨hx, hb, hml, hown, hts⟩ (c_X6_imageAt l D q aG aM aW aS aI x1) (cwV 1 hts gX6_goBack_X6_imageAt rfl rfl rfl cdX6_imageAt ⟨Nat.le_of_ble_eq_true rfl, Nat.le_of_ble_eq_true rfl⟩) hK (kp_l (kp_l hP)) (kd_l (kd_l hD)) 0 rfl rfl rfl hl.1 rfl (Nat.le_of_ble_eq_true rfl) dX6_goBack_2 ⟨Nat.le_of_ble_eq_true rfl, Nat.le_of_ble_eq_true rfl⟩) (fun r hr => ?_)
  rcases hr with ⟨hc, rfl⟩ | ⟨i, hi, hs, rfl⟩
  · have hf := hf.1 hc
    change W p l e rmX6_goBack s m args below meth c H locs 0 0 _ (F0 m 5 ls (.null :: []))
    refine lv_astore_nN (lv' := [(2, .null), (0, .ref (aG 0)), (1, .int x1)]) hx hb dX6_goBack_5 rfl hl (by decide) rfl (fun ls hl => ?_)
    refine lv_aload_nN hx hb dX6_goBack_6 rfl (lv_at hl 0 rfl) ?_
    refine lv_ifnonnullN hx hb dX6_goBack_7 ?_
    refine lv_iconst (v := (-1)) hx hb dX6_goBack_10 (by decide) ?_
    exact k_iret_w (wf := (fun u => wX aG aM aW aS aI q u)) (post := Q) (u := (uM, uW, sh, im)) (v := (-1)) hx hb hr hlocks hK hP hD hS hf dX6_goBack_11
  · have hf := hf.2 i hi hs
    have hP := z_oiP hi hP
    have hD := z_oiD hi hD
    change W p l e rmX6_goBack s m args below meth c H locs 0 0 _ (F0 m 5 ls (.ref ((aI i) 0) :: []))
    refine lv_astore_n (lv' := [(2, .ref ((aI i) 0)), (0, .ref (aG 0)), (1, .int x1)]) hx hb dX6_goBack_5 rfl hl (by decide) rfl (fun ls hl => ?_)
    refine lv_aload_n hx hb dX6_goBack_6 rfl (lv_at hl 0 rfl) ?_
    refine lv_ifnonnull (tgt := 12) hx hb dX6_goBack_7 (by decide) ?_
    refine lv_aload_n hx hb dX6_goBack_12 rfl (lv_at hl 0 rfl) ?_
    refine va_get (D := D) (ci := 0) (v := .int (gI_kept (im i))) (C := RX1) (T := TX1) (N := 4) hx hb hts inX6_goBack_X1 hown hK (kp_r (kp_r (kp_r hP))) 0 rfl rfl 3 (by decide) (hts (.fieldLink RX6 238 "GrowingText$Image" "kept" "Z") (List.mem_of_getElem? (i := 1) rfl)) (fun _ h9 => h9) rfl dX6_goBack_13 ?_
    refine lv_if_ne (tgt := 22) hx hb dX6_goBack_16 (by decide) (fun c1 => ?_) (fun c1 => ?_)
    · have hf := hf.2 (c1)
      refine lv_aload_n hx hb dX6_goBack_22 rfl (lv_at hl 0 rfl) ?_
      refine lv_aload_n hx hb dX6_goBack_23 rfl (lv_at hl 1 rfl) ?_
      refine va_get (D := D) (ci := 4) (v := .ref (aM 0)) (C := RX6) (T := TX6) (N := 4) hx hb hts inX6_goBack_X6 hown hK hP 0 rfl rfl 0 (by decide) (hts (.fieldLink RX6 12 "GrowingText" "machine" "LGrowingText$Machine;") (List.mem_of_getElem? (i := 2) rfl)) (fun _ h9 => h9) rfl dX6_goBack_24 ?_
      refine k_wv (wf := fun u => wM aM q u ++ wI (aI i) q (im i)) (u0 := uM) (k_runV (As := [.ref (aM 0)]) (rest := []) ⟨hx, hb, hml, hown, hts⟩ (c_X1_giveBack l D q aM (aI i) uM (im i) _ hf) (cwV 1 hts gX6_goBack_X1_giveBack rfl rfl rfl cdX1_giveBack ⟨Nat.le_of_ble_eq_true rfl, Nat.le_of_ble_eq_true rfl⟩) hK (kp_r (kp_r hP)) (kd_r (kd_r hD)) 9 rfl rfl rfl hl.1 rfl (Nat.le_of_ble_eq_true rfl) dX6_goBack_27 ⟨Nat.le_of_ble_eq_true rfl, Nat.le_of_ble_eq_true rfl⟩) (wV i aG aM aW aS aI q sh im ++ wW aW aM q uW) ([]) (fun _ => rfl) (kp_as (a := wV i aG aM aW aS aI q sh im) (b := wW aW aM q uW) (c := (wM aM q uM ++ wI (aI i) q (im i)) ++ ([])) hP) (kd_as (a := wV i aG aM aW aS aI q sh im) (b := wW aW aM q uW) (c := (wM aM q uM ++ wI (aI i) q (im i)) ++ ([])) hD) hS (fun uM2 H locs hf hP hD hS => ?_)
      have hP := kp_sa hP
      have hD := kd_sa hD
      have hP : va_P D vwCl (wV i aG aM aW aS aI q sh im ++ (wW aW aM q uW ++ (wM aM q uM2 ++ wI (aI i) q (im i)))) H := hP
      have hD : va_D A (wV i aG aM aW aS aI q sh im ++ (wW aW aM q uW ++ (wM aM q uM2 ++ wI (aI i) q (im i)))) := hD
      refine lv_aload_n hx hb dX6_goBack_30 rfl (lv_at hl 1 rfl) ?_
      refine va_get (D := D) (ci := 4) (v := .ref (aM 0)) (C := RX6) (T := TX6) (N := 4) hx hb hts inX6_goBack_X6 hown hK hP 0 rfl rfl 0 (by decide) (hts (.fieldLink RX6 12 "GrowingText" "machine" "LGrowingText$Machine;") (List.mem_of_getElem? (i := 2) rfl)) (fun _ h9 => h9) rfl dX6_goBack_31 ?_
      refine va_get (D := D) (ci := 1) (v := .int (gM_length uM2)) (C := RX2) (T := TX2) (N := 12) hx hb hts inX6_goBack_X2 hown hK (kp_r (kp_r hP)) 0 rfl rfl 1 (by decide) (hts (.fieldLink RX6 39 "GrowingText$Machine" "length" "I") (List.mem_of_getElem? (i := 3) rfl)) (fun _ h9 => h9) rfl dX6_goBack_34 ?_
      have hP := z_ci0P hi hP
      have hD := z_ci0D hi hD
      exact k_iret_w (wf := (fun u => wX aG aM aW aS aI q u)) (post := Q) (u := (uM2, uW, sh, im)) (v := (gM_length uM2)) hx hb hr hlocks hK hP hD hS hf dX6_goBack_37
    · have hf := hf.1 (c1)
      refine lv_bipush (v := (-2)) hx hb dX6_goBack_19 (by decide) ?_
      have hP := z_ci0P hi hP
      have hD := z_ci0D hi hD
      exact k_iret_w (wf := (fun u => wX aG aM aW aS aI q u)) (post := Q) (u := (uM, uW, sh, im)) (v := (-2)) hx hb hr hlocks hK hP hD hS hf dX6_goBack_21
