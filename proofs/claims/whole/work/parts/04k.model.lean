def wpX7_keep (uR : RSt) (x1 : Int32) (Q : Int32 → RSt → Prop) : Prop :=
  ∀ (X33 : Int32 → RSt → Prop),
  (∀ (y2 : Int32) (tR : RSt),
    (((gR_n tR) ≤ y2 →
      Q (gR_n tR) tR) ∧
    (¬ ((gR_n tR) ≤ y2) →
      ∀ i5 : Int32, i5 = ((60 * x1) + y2) →
      vp_in y2 60 ∧
      vp_in i5 120 ∧
      (∀ v6 : RSt, v6 = (gR_set_keptText tR (upd (gR_keptText tR) (i5 : Int32).toNatClampNeg ((gR_text tR) (y2 : Int32).toNatClampNeg))) →
      X33 (y2 + 1) v6))) → X33 y2 tR) →
  (((fX7_in x1 0 1) = 0 →
    Q (-1) uR) ∧
  (¬ ((fX7_in x1 0 1) = 0) →
    vp_in x1 2 ∧
    (∀ v2 : RSt, v2 = (gR_set_keptLetters uR (upd (gR_keptLetters uR) (x1 : Int32).toNatClampNeg (gR_letters uR))) →
    vp_in x1 2 ∧
    (∀ v3 : RSt, v3 = (gR_set_keptMany v2 (upd (gR_keptMany v2) (x1 : Int32).toNatClampNeg (gR_n v2))) →
    X33 0 v3))))
def rmX7_keep : Room := { frames := 1, cells := 0, slots := 0, locals := 22 }
theorem inX7_keep_X7 : ∀ w ∈ wsX70, w ∈ wsX7_keep := fun w h => List.mem_cons_of_mem _ (List.mem_append_right _ h)
set_option maxRecDepth 100000 in
set_option maxHeartbeats 4000000 in
theorem c_X7_keep (l : Launch) (D : va_G) (q : Nat → ClassId) (aR : Nat → Nat) (uR : RSt) (x1 : Int32) (Q : Int32 → RSt → Prop) (hf : wpX7_keep uR x1 Q) : Met l yX7_keep wsX7_keep rmX7_keep (va_Pc [.ref (aR 0), .int x1] (kP D q (wR aR q uR))) (va_Qi Q (fun u t => kP D q (wR aR q u) t) (kIn (wR aR q uR))) 0 0 (kIn (wR aR q uR)) := by
  refine Met.ofW (cc := cX7_keep) (maxL := 3) (ret := (some .int)) (by decide) rfl ?_
  intro p e s m args below meth c s₁ B hml hv
  obtain ⟨hargs, hP, hK, hD⟩ := hv
  have hx := B.exec
  have hb := B.bytes
  have hr := B.returns
  have hts := atoms_spec (ws := wsX7_keep) B.pre
  have hown : s.vm.findClass RX7 = some m.cls := findClass_of_methodNamed B.named
  have hlocks := B.notSynchronized
  have hD := kd_self hD
  generalize kIn (wR aR q uR) = A at hD ⊢
  have hS : va_S A s.heap s.heap [] := va_S.rf
  refine k_entry hargs (Nat.le_of_ble_eq_true rfl) (fun ls hl => ?_)
  have hl : lv_has ls 3 [(0, .ref (aR 0)), (1, .int x1)] := hl
  change W p l e rmX7_keep s m args below meth c s.heap [] 0 0 (MQ below (va_Qi Q (fun u t => kP D q (wR aR q u) t) A) args s 0 0 A) _
  unfold wpX7_keep at hf
  obtain ⟨H, hH⟩ : ∃ H, H = s.heap := ⟨_, rfl⟩
  obtain ⟨locs, hlocs⟩ : ∃ x : List Loc, x = [] := ⟨_, rfl⟩
  rw [← hH] at hP
  have hS : va_S A s.heap H locs := by rw [hH, hlocs]; exact hS
  rw [show W p l e rmX7_keep s m args below meth c s.heap [] 0 0 (MQ below (va_Qi Q (fun u t => kP D q (wR aR q u) t) A) args s 0 0 A) (F0 m 0 ls []) = W p l e rmX7_keep s m args below meth c H locs 0 0 (MQ below (va_Qi Q (fun u t => kP D q (wR aR q u) t) A) args s 0 0 A) (F0 m 0 ls []) by rw [hH, hlocs]]
  clear hH hlocs
  have hf := hf
    (fun (y2 : Int32) (tR : RSt) => ∀ (H : Heap) (locs : List Loc) (ls : Array Slot), va_P D vwCl (wR aR q tR) H → va_D A (wR aR q tR) → va_S A s.heap H locs → lv_has ls 3 [(0, .ref (aR 0)), (1, .int x1), (2, .int y2)] → W p l e rmX7_keep s m args below meth c H locs 0 0 (MQ below (va_Qi Q (fun u t => kP D q (wR aR q u) t) A) args s 0 0 A) (F0 m 33 ls []))
    (by
      intro y2 tR hf H locs ls hP hD hS hl
      refine lv_iload_n hx hb dX7_keep_33 rfl (lv_at hl 2 rfl) ?_
      refine lv_aload_n hx hb dX7_keep_34 rfl (lv_at hl 0 rfl) ?_
      refine va_get (D := D) (ci := 5) (v := .int (gR_n tR)) (C := RX7) (T := TX7) (N := 14) hx hb hts inX7_keep_X7 hown hK hP 0 rfl rfl 1 (by decide) (hts (.fieldLink RX7 56 "GrowingTextModel" "n" "I") (List.mem_of_getElem? (i := 4) rfl)) (fun _ h9 => h9) rfl dX7_keep_35 ?_
      refine lv_icmp_ge (tgt := 64) hx hb dX7_keep_38 (by decide) (fun c4 => ?_) (fun c4 => ?_)
      · have hf := hf.1 (c4)
        refine lv_aload_n hx hb dX7_keep_64 rfl (lv_at hl 0 rfl) ?_
        refine va_get (D := D) (ci := 5) (v := .int (gR_n tR)) (C := RX7) (T := TX7) (N := 14) hx hb hts inX7_keep_X7 hown hK hP 0 rfl rfl 1 (by decide) (hts (.fieldLink RX7 56 "GrowingTextModel" "n" "I") (List.mem_of_getElem? (i := 4) rfl)) (fun _ h9 => h9) rfl dX7_keep_65 ?_
        exact k_iret_w (wf := (fun u => wR aR q u)) (post := Q) (u := tR) (v := (gR_n tR)) hx hb hr hlocks hK hP hD hS hf dX7_keep_68
      · have hf := hf.2 (c4)
        refine lv_aload_n hx hb dX7_keep_41 rfl (lv_at hl 0 rfl) ?_
        refine va_get (D := D) (ci := 5) (v := .ref (aR 11)) (C := RX7) (T := TX7) (N := 14) hx hb hts inX7_keep_X7 hown hK hP 0 rfl rfl 13 (by decide) (hts (.fieldLink RX7 41 "GrowingTextModel" "keptText" "[I") (List.mem_of_getElem? (i := 5) rfl)) (fun _ h9 => h9) rfl dX7_keep_42 ?_
        refine lv_bipush (v := 60) hx hb dX7_keep_45 (by decide) ?_
        refine lv_iload_n hx hb dX7_keep_47 rfl (lv_at hl 1 rfl) ?_
        refine lv_imul hx hb dX7_keep_48 ?_
        refine lv_iload_n hx hb dX7_keep_49 rfl (lv_at hl 2 rfl) ?_
        refine lv_iadd hx hb dX7_keep_50 ?_
        refine lv_topi (fun i5 ei5 => ?_)
        have hf := hf i5 ei5
        refine lv_aload_n hx hb dX7_keep_51 rfl (lv_at hl 0 rfl) ?_
        refine va_get (D := D) (ci := 5) (v := .ref (aR 1)) (C := RX7) (T := TX7) (N := 14) hx hb hts inX7_keep_X7 hown hK hP 0 rfl rfl 2 (by decide) (hts (.fieldLink RX7 7 "GrowingTextModel" "text" "[I") (List.mem_of_getElem? (i := 6) rfl)) (fun _ h9 => h9) rfl dX7_keep_52 ?_
        refine lv_iload_n hx hb dX7_keep_55 rfl (lv_at hl 2 rfl) ?_
        refine va_iald hx hb hK hP 1 0 (f := (gR_text tR)) rfl rfl hf.1 dX7_keep_56 ?_
        have hf := hf.2
        refine va_iast hx hb hK hP hD hS 11 0 (f := (gR_keptText tR)) rfl rfl hf.1 dX7_keep_57 (fun H locs hP hD hS => ?_)
        have hf := hf.2
        obtain ⟨v6, ev6⟩ : ∃ v : RSt, v = (gR_set_keptText tR (upd (gR_keptText tR) (i5 : Int32).toNatClampNeg ((gR_text tR) (y2 : Int32).toNatClampNeg))) := ⟨_, rfl⟩
        have hf := hf v6 ev6
        have hP : va_P D vwCl (wR aR q v6) H := by rw [ev6]; exact hP
        have hD : va_D A (wR aR q v6) := by rw [ev6]; exact hD
        clear ev6
        refine lv_iinc (v := (y2 + 1)) (lv' := [(2, .int (y2 + 1)), (0, .ref (aR 0)), (1, .int x1)]) hx hb dX7_keep_58 hl (k := 2) rfl rfl (by decide) rfl (fun ls hl => ?_)
        refine lv_goto (tgt := 33) hx hb dX7_keep_61 (by decide) ?_
        exact hf H locs ls hP hD hS (lv_sub hl [1, 2, 0] rfl))
  refine lv_iload_n hx hb dX7_keep_0 rfl (lv_at hl 1 rfl) ?_
  refine lv_iconst (v := 0) hx hb dX7_keep_1 (by decide) ?_
  refine lv_iconst (v := 1) hx hb dX7_keep_2 (by decide) ?_
  refine k_si (k_runS (As := [.int x1, .int 0, .int 1]) (rest := []) ⟨hx, hb, hml, hown, hts⟩ (cF_X7_in l D q x1 0 1) (va_cwS 3 hts gX7_keep_X7_in rfl rfl rfl cdX7_in ⟨Nat.le_of_ble_eq_true rfl, Nat.le_of_ble_eq_true rfl⟩) hK k_nilP k_nilD rfl hl.1 rfl (Nat.le_of_ble_eq_true rfl) dX7_keep_3 ⟨Nat.le_of_ble_eq_true rfl, Nat.le_of_ble_eq_true rfl⟩) (fun r hr => ?_)
  subst hr
  refine lv_if_ne (tgt := 11) hx hb dX7_keep_6 (by decide) (fun c1 => ?_) (fun c1 => ?_)
  · have hf := hf.2 (c1)
    refine lv_aload_n hx hb dX7_keep_11 rfl (lv_at hl 0 rfl) ?_
    refine va_get (D := D) (ci := 5) (v := .ref (aR 9)) (C := RX7) (T := TX7) (N := 14) hx hb hts inX7_keep_X7 hown hK hP 0 rfl rfl 11 (by decide) (hts (.fieldLink RX7 35 "GrowingTextModel" "keptLetters" "[I") (List.mem_of_getElem? (i := 1) rfl)) (fun _ h9 => h9) rfl dX7_keep_12 ?_
    refine lv_iload_n hx hb dX7_keep_15 rfl (lv_at hl 1 rfl) ?_
    refine lv_aload_n hx hb dX7_keep_16 rfl (lv_at hl 0 rfl) ?_
    refine va_get (D := D) (ci := 5) (v := .int (gR_letters uR)) (C := RX7) (T := TX7) (N := 14) hx hb hts inX7_keep_X7 hown hK hP 0 rfl rfl 0 (by decide) (hts (.fieldLink RX7 52 "GrowingTextModel" "letters" "I") (List.mem_of_getElem? (i := 2) rfl)) (fun _ h9 => h9) rfl dX7_keep_17 ?_
    refine va_iast hx hb hK hP hD hS 9 0 (f := (gR_keptLetters uR)) rfl rfl hf.1 dX7_keep_20 (fun H locs hP hD hS => ?_)
    have hf := hf.2
    obtain ⟨v2, ev2⟩ : ∃ v : RSt, v = (gR_set_keptLetters uR (upd (gR_keptLetters uR) (x1 : Int32).toNatClampNeg (gR_letters uR))) := ⟨_, rfl⟩
    have hf := hf v2 ev2
    have hP : va_P D vwCl (wR aR q v2) H := by rw [ev2]; exact hP
    have hD : va_D A (wR aR q v2) := by rw [ev2]; exact hD
    clear ev2
    refine lv_aload_n hx hb dX7_keep_21 rfl (lv_at hl 0 rfl) ?_
    refine va_get (D := D) (ci := 5) (v := .ref (aR 10)) (C := RX7) (T := TX7) (N := 14) hx hb hts inX7_keep_X7 hown hK hP 0 rfl rfl 12 (by decide) (hts (.fieldLink RX7 38 "GrowingTextModel" "keptMany" "[I") (List.mem_of_getElem? (i := 3) rfl)) (fun _ h9 => h9) rfl dX7_keep_22 ?_
    refine lv_iload_n hx hb dX7_keep_25 rfl (lv_at hl 1 rfl) ?_
    refine lv_aload_n hx hb dX7_keep_26 rfl (lv_at hl 0 rfl) ?_
    refine va_get (D := D) (ci := 5) (v := .int (gR_n v2)) (C := RX7) (T := TX7) (N := 14) hx hb hts inX7_keep_X7 hown hK hP 0 rfl rfl 1 (by decide) (hts (.fieldLink RX7 56 "GrowingTextModel" "n" "I") (List.mem_of_getElem? (i := 4) rfl)) (fun _ h9 => h9) rfl dX7_keep_27 ?_
    refine va_iast hx hb hK hP hD hS 10 0 (f := (gR_keptMany v2)) rfl rfl hf.1 dX7_keep_30 (fun H locs hP hD hS => ?_)
    have hf := hf.2
    obtain ⟨v3, ev3⟩ : ∃ v : RSt, v = (gR_set_keptMany v2 (upd (gR_keptMany v2) (x1 : Int32).toNatClampNeg (gR_n v2))) := ⟨_, rfl⟩
    have hf := hf v3 ev3
    have hP : va_P D vwCl (wR aR q v3) H := by rw [ev3]; exact hP
    have hD : va_D A (wR aR q v3) := by rw [ev3]; exact hD
    clear ev3
    refine lv_iconst (v := 0) hx hb dX7_keep_31 (by decide) ?_
    refine lv_istore_n (lv' := [(2, .int 0), (0, .ref (aR 0)), (1, .int x1)]) hx hb dX7_keep_32 rfl hl (by decide) rfl (fun ls hl => ?_)
    exact hf H locs ls hP hD hS (lv_sub hl [1, 2, 0] rfl)
  · have hf := hf.1 (c1)
    refine lv_iconst (v := (-1)) hx hb dX7_keep_9 (by decide) ?_
    exact k_iret_w (wf := (fun u => wR aR q u)) (post := Q) (u := uR) (v := (-1)) hx hb hr hlocks hK hP hD hS hf dX7_keep_10
def wpX7_goBack (uR : RSt) (x1 : Int32) (Q : Int32 → RSt → Prop) : Prop :=
  ∀ (X35 : Int32 → RSt → Prop),
  (∀ (y2 : Int32) (tR : RSt),
    (vp_in x1 2 ∧
    ((((gR_keptMany tR) (x1 : Int32).toNatClampNeg) ≤ y2 →
      Q (gR_n tR) tR) ∧
    (¬ (((gR_keptMany tR) (x1 : Int32).toNatClampNeg) ≤ y2) →
      vp_in ((60 * x1) + y2) 120 ∧
      wpX7_grows tR ((gR_keptText tR) (((60 * x1) + y2) : Int32).toNatClampNeg) (fun uR5 =>
        X35 (y2 + 1) uR5)))) → X35 y2 tR) →
  (((fX7_in x1 0 1) = 0 →
    Q (-1) uR) ∧
  (¬ ((fX7_in x1 0 1) = 0) →
    vp_in x1 2 ∧
    ((((gR_keptLetters uR) (x1 : Int32).toNatClampNeg) = 0 →
      Q (-2) uR) ∧
    (¬ (((gR_keptLetters uR) (x1 : Int32).toNatClampNeg) = 0) →
      vp_in x1 2 ∧
      wpX7_begins uR ((gR_keptLetters uR) (x1 : Int32).toNatClampNeg) (fun uR3 =>
        X35 0 uR3)))))
def rmX7_goBack : Room := { frames := 3, cells := 0, slots := 0, locals := 77 }
theorem inX7_goBack_X7 : ∀ w ∈ wsX70, w ∈ wsX7_goBack := fun w h => List.mem_cons_of_mem _ (List.mem_append_right _ h)
set_option maxRecDepth 100000 in
set_option maxHeartbeats 4000000 in
theorem c_X7_goBack (l : Launch) (D : va_G) (q : Nat → ClassId) (aR : Nat → Nat) (uR : RSt) (x1 : Int32) (Q : Int32 → RSt → Prop) (hf : wpX7_goBack uR x1 Q) : Met l yX7_goBack wsX7_goBack rmX7_goBack (va_Pc [.ref (aR 0), .int x1] (kP D q (wR aR q uR))) (va_Qi Q (fun u t => kP D q (wR aR q u) t) (kIn (wR aR q uR))) 0 0 (kIn (wR aR q uR)) := by
  refine Met.ofW (cc := cX7_goBack) (maxL := 3) (ret := (some .int)) (by decide) rfl ?_
  intro p e s m args below meth c s₁ B hml hv
  obtain ⟨hargs, hP, hK, hD⟩ := hv
  have hx := B.exec
  have hb := B.bytes
  have hr := B.returns
  have hts := atoms_spec (ws := wsX7_goBack) B.pre
  have hown : s.vm.findClass RX7 = some m.cls := findClass_of_methodNamed B.named
  have hlocks := B.notSynchronized
  have hD := kd_self hD
  generalize kIn (wR aR q uR) = A at hD ⊢
  have hS : va_S A s.heap s.heap [] := va_S.rf
  refine k_entry hargs (Nat.le_of_ble_eq_true rfl) (fun ls hl => ?_)
  have hl : lv_has ls 3 [(0, .ref (aR 0)), (1, .int x1)] := hl
  change W p l e rmX7_goBack s m args below meth c s.heap [] 0 0 (MQ below (va_Qi Q (fun u t => kP D q (wR aR q u) t) A) args s 0 0 A) _
  unfold wpX7_goBack at hf
  obtain ⟨H, hH⟩ : ∃ H, H = s.heap := ⟨_, rfl⟩
  obtain ⟨locs, hlocs⟩ : ∃ x : List Loc, x = [] := ⟨_, rfl⟩
  rw [← hH] at hP
  have hS : va_S A s.heap H locs := by rw [hH, hlocs]; exact hS
  rw [show W p l e rmX7_goBack s m args below meth c s.heap [] 0 0 (MQ below (va_Qi Q (fun u t => kP D q (wR aR q u) t) A) args s 0 0 A) (F0 m 0 ls []) = W p l e rmX7_goBack s m args below meth c H locs 0 0 (MQ below (va_Qi Q (fun u t => kP D q (wR aR q u) t) A) args s 0 0 A) (F0 m 0 ls []) by rw [hH, hlocs]]
  clear hH hlocs
  have hf := hf
    (fun (y2 : Int32) (tR : RSt) => ∀ (H : Heap) (locs : List Loc) (ls : Array Slot), va_P D vwCl (wR aR q tR) H → va_D A (wR aR q tR) → va_S A s.heap H locs → lv_has ls 3 [(0, .ref (aR 0)), (1, .int x1), (2, .int y2)] → W p l e rmX7_goBack s m args below meth c H locs 0 0 (MQ below (va_Qi Q (fun u t => kP D q (wR aR q u) t) A) args s 0 0 A) (F0 m 35 ls []))
    (by
      intro y2 tR hf H locs ls hP hD hS hl
      refine lv_iload_n hx hb dX7_goBack_35 rfl (lv_at hl 2 rfl) ?_
      refine lv_aload_n hx hb dX7_goBack_36 rfl (lv_at hl 0 rfl) ?_
      refine va_get (D := D) (ci := 5) (v := .ref (aR 10)) (C := RX7) (T := TX7) (N := 14) hx hb hts inX7_goBack_X7 hown hK hP 0 rfl rfl 12 (by decide) (hts (.fieldLink RX7 38 "GrowingTextModel" "keptMany" "[I") (List.mem_of_getElem? (i := 2) rfl)) (fun _ h9 => h9) rfl dX7_goBack_37 ?_
      refine lv_iload_n hx hb dX7_goBack_40 rfl (lv_at hl 1 rfl) ?_
      refine va_iald hx hb hK hP 10 0 (f := (gR_keptMany tR)) rfl rfl hf.1 dX7_goBack_41 ?_
      have hf := hf.2
      refine lv_icmp_ge (tgt := 66) hx hb dX7_goBack_42 (by decide) (fun c4 => ?_) (fun c4 => ?_)
      · have hf := hf.1 (c4)
        refine lv_aload_n hx hb dX7_goBack_66 rfl (lv_at hl 0 rfl) ?_
        refine va_get (D := D) (ci := 5) (v := .int (gR_n tR)) (C := RX7) (T := TX7) (N := 14) hx hb hts inX7_goBack_X7 hown hK hP 0 rfl rfl 1 (by decide) (hts (.fieldLink RX7 56 "GrowingTextModel" "n" "I") (List.mem_of_getElem? (i := 4) rfl)) (fun _ h9 => h9) rfl dX7_goBack_67 ?_
        exact k_iret_w (wf := (fun u => wR aR q u)) (post := Q) (u := tR) (v := (gR_n tR)) hx hb hr hlocks hK hP hD hS hf dX7_goBack_70
      · have hf := hf.2 (c4)
        refine lv_aload_n hx hb dX7_goBack_45 rfl (lv_at hl 0 rfl) ?_
        refine lv_aload_n hx hb dX7_goBack_46 rfl (lv_at hl 0 rfl) ?_
        refine va_get (D := D) (ci := 5) (v := .ref (aR 11)) (C := RX7) (T := TX7) (N := 14) hx hb hts inX7_goBack_X7 hown hK hP 0 rfl rfl 13 (by decide) (hts (.fieldLink RX7 41 "GrowingTextModel" "keptText" "[I") (List.mem_of_getElem? (i := 3) rfl)) (fun _ h9 => h9) rfl dX7_goBack_47 ?_
        refine lv_bipush (v := 60) hx hb dX7_goBack_50 (by decide) ?_
        refine lv_iload_n hx hb dX7_goBack_52 rfl (lv_at hl 1 rfl) ?_
        refine lv_imul hx hb dX7_goBack_53 ?_
        refine lv_iload_n hx hb dX7_goBack_54 rfl (lv_at hl 2 rfl) ?_
        refine lv_iadd hx hb dX7_goBack_55 ?_
        refine va_iald hx hb hK hP 11 0 (f := (gR_keptText tR)) rfl rfl hf.1 dX7_goBack_56 ?_
        have hf := hf.2
        refine k_wv (wf := fun u => wR aR q u) (u0 := tR) (k_runV (As := [.int ((gR_keptText tR) (((60 * x1) + y2) : Int32).toNatClampNeg)]) (rest := []) ⟨hx, hb, hml, hown, hts⟩ (c_X7_grows l D q aR tR ((gR_keptText tR) (((60 * x1) + y2) : Int32).toNatClampNeg) _ hf) (cwV 1 hts gX7_goBack_X7_grows rfl rfl rfl cdX7_grows ⟨Nat.le_of_ble_eq_true rfl, Nat.le_of_ble_eq_true rfl⟩) hK hP hD 0 rfl rfl rfl hl.1 rfl (Nat.le_of_ble_eq_true rfl) dX7_goBack_57 ⟨Nat.le_of_ble_eq_true rfl, Nat.le_of_ble_eq_true rfl⟩) ([]) ([]) (fun _ => rfl) hP hD hS (fun uR5 H locs hf hP hD hS => ?_)
        have hP : va_P D vwCl (wR aR q uR5) H := hP
        have hD : va_D A (wR aR q uR5) := hD
        refine lv_iinc (v := (y2 + 1)) (lv' := [(2, .int (y2 + 1)), (0, .ref (aR 0)), (1, .int x1)]) hx hb dX7_goBack_60 hl (k := 2) rfl rfl (by decide) rfl (fun ls hl => ?_)
        refine lv_goto (tgt := 35) hx hb dX7_goBack_63 (by decide) ?_
        exact hf H locs ls hP hD hS (lv_sub hl [1, 2, 0] rfl))
  refine lv_iload_n hx hb dX7_goBack_0 rfl (lv_at hl 1 rfl) ?_
  refine lv_iconst (v := 0) hx hb dX7_goBack_1 (by decide) ?_
  refine lv_iconst (v := 1) hx hb dX7_goBack_2 (by decide) ?_
  refine k_si (k_runS (As := [.int x1, .int 0, .int 1]) (rest := []) ⟨hx, hb, hml, hown, hts⟩ (cF_X7_in l D q x1 0 1) (va_cwS 3 hts gX7_goBack_X7_in rfl rfl rfl cdX7_in ⟨Nat.le_of_ble_eq_true rfl, Nat.le_of_ble_eq_true rfl⟩) hK k_nilP k_nilD rfl hl.1 rfl (Nat.le_of_ble_eq_true rfl) dX7_goBack_3 ⟨Nat.le_of_ble_eq_true rfl, Nat.le_of_ble_eq_true rfl⟩) (fun r hr => ?_)
  subst hr
  refine lv_if_ne (tgt := 11) hx hb dX7_goBack_6 (by decide) (fun c1 => ?_) (fun c1 => ?_)
  · have hf := hf.2 (c1)
    refine lv_aload_n hx hb dX7_goBack_11 rfl (lv_at hl 0 rfl) ?_
    refine va_get (D := D) (ci := 5) (v := .ref (aR 9)) (C := RX7) (T := TX7) (N := 14) hx hb hts inX7_goBack_X7 hown hK hP 0 rfl rfl 11 (by decide) (hts (.fieldLink RX7 35 "GrowingTextModel" "keptLetters" "[I") (List.mem_of_getElem? (i := 1) rfl)) (fun _ h9 => h9) rfl dX7_goBack_12 ?_
    refine lv_iload_n hx hb dX7_goBack_15 rfl (lv_at hl 1 rfl) ?_
    refine va_iald hx hb hK hP 9 0 (f := (gR_keptLetters uR)) rfl rfl hf.1 dX7_goBack_16 ?_
    have hf := hf.2
    refine lv_if_ne (tgt := 23) hx hb dX7_goBack_17 (by decide) (fun c2 => ?_) (fun c2 => ?_)
    · have hf := hf.2 (c2)
      refine lv_aload_n hx hb dX7_goBack_23 rfl (lv_at hl 0 rfl) ?_
      refine lv_aload_n hx hb dX7_goBack_24 rfl (lv_at hl 0 rfl) ?_
      refine va_get (D := D) (ci := 5) (v := .ref (aR 9)) (C := RX7) (T := TX7) (N := 14) hx hb hts inX7_goBack_X7 hown hK hP 0 rfl rfl 11 (by decide) (hts (.fieldLink RX7 35 "GrowingTextModel" "keptLetters" "[I") (List.mem_of_getElem? (i := 1) rfl)) (fun _ h9 => h9) rfl dX7_goBack_25 ?_
      refine lv_iload_n hx hb dX7_goBack_28 rfl (lv_at hl 1 rfl) ?_
      refine va_iald hx hb hK hP 9 0 (f := (gR_keptLetters uR)) rfl rfl hf.1 dX7_goBack_29 ?_
      have hf := hf.2
      refine k_wv (wf := fun u => wR aR q u) (u0 := uR) (k_runV (As := [.int ((gR_keptLetters uR) (x1 : Int32).toNatClampNeg)]) (rest := []) ⟨hx, hb, hml, hown, hts⟩ (c_X7_begins l D q aR uR ((gR_keptLetters uR) (x1 : Int32).toNatClampNeg) _ hf) (cwV 1 hts gX7_goBack_X7_begins rfl rfl rfl cdX7_begins ⟨Nat.le_of_ble_eq_true rfl, Nat.le_of_ble_eq_true rfl⟩) hK hP hD 0 rfl rfl rfl hl.1 rfl (Nat.le_of_ble_eq_true rfl) dX7_goBack_30 ⟨Nat.le_of_ble_eq_true rfl, Nat.le_of_ble_eq_true rfl⟩) ([]) ([]) (fun _ => rfl) hP hD hS (fun uR3 H locs hf hP hD hS => ?_)
      have hP : va_P D vwCl (wR aR q uR3) H := hP
      have hD : va_D A (wR aR q uR3) := hD
      refine lv_iconst (v := 0) hx hb dX7_goBack_33 (by decide) ?_
      refine lv_istore_n (lv' := [(2, .int 0), (0, .ref (aR 0)), (1, .int x1)]) hx hb dX7_goBack_34 rfl hl (by decide) rfl (fun ls hl => ?_)
      exact hf H locs ls hP hD hS (lv_sub hl [1, 2, 0] rfl)
    · have hf := hf.1 (c2)
      refine lv_bipush (v := (-2)) hx hb dX7_goBack_20 (by decide) ?_
      exact k_iret_w (wf := (fun u => wR aR q u)) (post := Q) (u := uR) (v := (-2)) hx hb hr hlocks hK hP hD hS hf dX7_goBack_22
  · have hf := hf.1 (c1)
    refine lv_iconst (v := (-1)) hx hb dX7_goBack_9 (by decide) ?_
    exact k_iret_w (wf := (fun u => wR aR q u)) (post := Q) (u := uR) (v := (-1)) hx hb hr hlocks hK hP hD hS hf dX7_goBack_10
