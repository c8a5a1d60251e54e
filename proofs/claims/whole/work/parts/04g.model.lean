def wpX7_begins (uR : RSt) (x1 : Int32) (Q : RSt → Prop) : Prop :=
  (vp_in 0 121 ∧
  vp_in 0 121 ∧
  vp_in 0 121 ∧
  vp_in 0 121 ∧
  Q (gR_set_ends (gR_set_cloneOf (gR_set_made (gR_set_longest (gR_set_stateMany (gR_set_n (gR_set_letters uR x1) 0) 1) (upd (gR_longest uR) (0 : Int32).toNatClampNeg 0)) (upd (gR_made uR) (0 : Int32).toNatClampNeg 0)) (upd (gR_cloneOf uR) (0 : Int32).toNatClampNeg (-4))) (vp_updL (gR_ends uR) (0 : Int32).toNatClampNeg 1)))
def rmX7_begins : Room := { frames := 0, cells := 0, slots := 0, locals := 0 }
theorem inX7_begins_X7 : ∀ w ∈ wsX70, w ∈ wsX7_begins := fun w h => List.mem_cons_of_mem _ (List.mem_append_right _ h)
set_option maxRecDepth 100000 in
set_option maxHeartbeats 4000000 in
theorem c_X7_begins (l : Launch) (D : va_G) (q : Nat → ClassId) (aR : Nat → Nat) (uR : RSt) (x1 : Int32) (Q : RSt → Prop) (hf : wpX7_begins uR x1 Q) : Met l yX7_begins wsX7_begins rmX7_begins (va_Pc [.ref (aR 0), .int x1] (kP D q (wR aR q uR))) (va_Qv Q (fun u t => kP D q (wR aR q u) t) (kIn (wR aR q uR))) 0 0 (kIn (wR aR q uR)) := by
  refine Met.ofW (cc := cX7_begins) (maxL := 2) (ret := none) (by decide) rfl ?_
  intro p e s m args below meth c s₁ B hml hv
  obtain ⟨hargs, hP, hK, hD⟩ := hv
  have hx := B.exec
  have hb := B.bytes
  have hr := B.returns
  have hts := atoms_spec (ws := wsX7_begins) B.pre
  have hown : s.vm.findClass RX7 = some m.cls := findClass_of_methodNamed B.named
  have hlocks := B.notSynchronized
  have hD := kd_self hD
  generalize kIn (wR aR q uR) = A at hD ⊢
  have hS : va_S A s.heap s.heap [] := va_S.rf
  refine k_entry hargs (Nat.le_of_ble_eq_true rfl) (fun ls hl => ?_)
  have hl : lv_has ls 2 [(0, .ref (aR 0)), (1, .int x1)] := hl
  change W p l e rmX7_begins s m args below meth c s.heap [] 0 0 (MQ below (va_Qv Q (fun u t => kP D q (wR aR q u) t) A) args s 0 0 A) _
  unfold wpX7_begins at hf
  obtain ⟨H, hH⟩ : ∃ H, H = s.heap := ⟨_, rfl⟩
  obtain ⟨locs, hlocs⟩ : ∃ x : List Loc, x = [] := ⟨_, rfl⟩
  rw [← hH] at hP
  have hS : va_S A s.heap H locs := by rw [hH, hlocs]; exact hS
  rw [show W p l e rmX7_begins s m args below meth c s.heap [] 0 0 (MQ below (va_Qv Q (fun u t => kP D q (wR aR q u) t) A) args s 0 0 A) (F0 m 0 ls []) = W p l e rmX7_begins s m args below meth c H locs 0 0 (MQ below (va_Qv Q (fun u t => kP D q (wR aR q u) t) A) args s 0 0 A) (F0 m 0 ls []) by rw [hH, hlocs]]
  clear hH hlocs
  refine lv_aload_n hx hb dX7_begins_0 rfl (lv_at hl 0 rfl) ?_
  refine lv_iload_n hx hb dX7_begins_1 rfl (lv_at hl 1 rfl) ?_
  refine va_put (D := D) (ci := 5) (v := .int x1) (ty := .int) (C := RX7) (T := TX7) (N := 14) hx hb hts inX7_begins_X7 tyX7 tyX7_ok nmX7 hown hK hP hD hS 0 rfl rfl 0 (by decide) (hts (.fieldLink RX7 52 "GrowingTextModel" "letters" "I") (List.mem_of_getElem? (i := 1) rfl)) (fun _ h9 => h9) rfl (by decide +kernel) rfl rfl (Nat.le_of_ble_eq_true rfl) dX7_begins_2 (fun H locs hP hD hS => ?_)
  have hP : va_P D vwCl (wR aR q (gR_set_letters uR x1)) H := hP
  have hD : va_D A (wR aR q (gR_set_letters uR x1)) := hD
  refine lv_aload_n hx hb dX7_begins_5 rfl (lv_at hl 0 rfl) ?_
  refine lv_iconst (v := 0) hx hb dX7_begins_6 (by decide) ?_
  refine va_put (D := D) (ci := 5) (v := .int 0) (ty := .int) (C := RX7) (T := TX7) (N := 14) hx hb hts inX7_begins_X7 tyX7 tyX7_ok nmX7 hown hK hP hD hS 0 rfl rfl 1 (by decide) (hts (.fieldLink RX7 56 "GrowingTextModel" "n" "I") (List.mem_of_getElem? (i := 2) rfl)) (fun _ h9 => h9) rfl (by decide +kernel) rfl rfl (Nat.le_of_ble_eq_true rfl) dX7_begins_7 (fun H locs hP hD hS => ?_)
  have hP : va_P D vwCl (wR aR q (gR_set_n (gR_set_letters uR x1) 0)) H := hP
  have hD : va_D A (wR aR q (gR_set_n (gR_set_letters uR x1) 0)) := hD
  refine lv_aload_n hx hb dX7_begins_10 rfl (lv_at hl 0 rfl) ?_
  refine lv_iconst (v := 1) hx hb dX7_begins_11 (by decide) ?_
  refine va_put (D := D) (ci := 5) (v := .int 1) (ty := .int) (C := RX7) (T := TX7) (N := 14) hx hb hts inX7_begins_X7 tyX7 tyX7_ok nmX7 hown hK hP hD hS 0 rfl rfl 3 (by decide) (hts (.fieldLink RX7 59 "GrowingTextModel" "stateMany" "I") (List.mem_of_getElem? (i := 3) rfl)) (fun _ h9 => h9) rfl (by decide +kernel) rfl rfl (Nat.le_of_ble_eq_true rfl) dX7_begins_12 (fun H locs hP hD hS => ?_)
  have hP : va_P D vwCl (wR aR q (gR_set_stateMany (gR_set_n (gR_set_letters uR x1) 0) 1)) H := hP
  have hD : va_D A (wR aR q (gR_set_stateMany (gR_set_n (gR_set_letters uR x1) 0) 1)) := hD
  refine lv_aload_n hx hb dX7_begins_15 rfl (lv_at hl 0 rfl) ?_
  refine va_get (D := D) (ci := 5) (v := .ref (aR 2)) (C := RX7) (T := TX7) (N := 14) hx hb hts inX7_begins_X7 hown hK hP 0 rfl rfl 4 (by decide) (hts (.fieldLink RX7 13 "GrowingTextModel" "longest" "[I") (List.mem_of_getElem? (i := 4) rfl)) (fun _ h9 => h9) rfl dX7_begins_16 ?_
  refine lv_iconst (v := 0) hx hb dX7_begins_19 (by decide) ?_
  refine lv_iconst (v := 0) hx hb dX7_begins_20 (by decide) ?_
  refine va_iast hx hb hK hP hD hS 2 0 (f := (gR_longest uR)) rfl rfl hf.1 dX7_begins_21 (fun H locs hP hD hS => ?_)
  have hf := hf.2
  have hP : va_P D vwCl (wR aR q (gR_set_longest (gR_set_stateMany (gR_set_n (gR_set_letters uR x1) 0) 1) (upd (gR_longest uR) (0 : Int32).toNatClampNeg 0))) H := hP
  have hD : va_D A (wR aR q (gR_set_longest (gR_set_stateMany (gR_set_n (gR_set_letters uR x1) 0) 1) (upd (gR_longest uR) (0 : Int32).toNatClampNeg 0))) := hD
  refine lv_aload_n hx hb dX7_begins_22 rfl (lv_at hl 0 rfl) ?_
  refine va_get (D := D) (ci := 5) (v := .ref (aR 3)) (C := RX7) (T := TX7) (N := 14) hx hb hts inX7_begins_X7 hown hK hP 0 rfl rfl 5 (by decide) (hts (.fieldLink RX7 16 "GrowingTextModel" "made" "[I") (List.mem_of_getElem? (i := 5) rfl)) (fun _ h9 => h9) rfl dX7_begins_23 ?_
  refine lv_iconst (v := 0) hx hb dX7_begins_26 (by decide) ?_
  refine lv_iconst (v := 0) hx hb dX7_begins_27 (by decide) ?_
  refine va_iast hx hb hK hP hD hS 3 0 (f := (gR_made uR)) rfl rfl hf.1 dX7_begins_28 (fun H locs hP hD hS => ?_)
  have hf := hf.2
  have hP : va_P D vwCl (wR aR q (gR_set_made (gR_set_longest (gR_set_stateMany (gR_set_n (gR_set_letters uR x1) 0) 1) (upd (gR_longest uR) (0 : Int32).toNatClampNeg 0)) (upd (gR_made uR) (0 : Int32).toNatClampNeg 0))) H := hP
  have hD : va_D A (wR aR q (gR_set_made (gR_set_longest (gR_set_stateMany (gR_set_n (gR_set_letters uR x1) 0) 1) (upd (gR_longest uR) (0 : Int32).toNatClampNeg 0)) (upd (gR_made uR) (0 : Int32).toNatClampNeg 0))) := hD
  refine lv_aload_n hx hb dX7_begins_29 rfl (lv_at hl 0 rfl) ?_
  refine va_get (D := D) (ci := 5) (v := .ref (aR 4)) (C := RX7) (T := TX7) (N := 14) hx hb hts inX7_begins_X7 hown hK hP 0 rfl rfl 6 (by decide) (hts (.fieldLink RX7 19 "GrowingTextModel" "cloneOf" "[I") (List.mem_of_getElem? (i := 6) rfl)) (fun _ h9 => h9) rfl dX7_begins_30 ?_
  refine lv_iconst (v := 0) hx hb dX7_begins_33 (by decide) ?_
  refine lv_bipush (v := (-4)) hx hb dX7_begins_34 (by decide) ?_
  refine va_iast hx hb hK hP hD hS 4 0 (f := (gR_cloneOf uR)) rfl rfl hf.1 dX7_begins_36 (fun H locs hP hD hS => ?_)
  have hf := hf.2
  have hP : va_P D vwCl (wR aR q (gR_set_cloneOf (gR_set_made (gR_set_longest (gR_set_stateMany (gR_set_n (gR_set_letters uR x1) 0) 1) (upd (gR_longest uR) (0 : Int32).toNatClampNeg 0)) (upd (gR_made uR) (0 : Int32).toNatClampNeg 0)) (upd (gR_cloneOf uR) (0 : Int32).toNatClampNeg (-4)))) H := hP
  have hD : va_D A (wR aR q (gR_set_cloneOf (gR_set_made (gR_set_longest (gR_set_stateMany (gR_set_n (gR_set_letters uR x1) 0) 1) (upd (gR_longest uR) (0 : Int32).toNatClampNeg 0)) (upd (gR_made uR) (0 : Int32).toNatClampNeg 0)) (upd (gR_cloneOf uR) (0 : Int32).toNatClampNeg (-4)))) := hD
  refine lv_aload_n hx hb dX7_begins_37 rfl (lv_at hl 0 rfl) ?_
  refine va_get (D := D) (ci := 5) (v := .ref (aR 5)) (C := RX7) (T := TX7) (N := 14) hx hb hts inX7_begins_X7 hown hK hP 0 rfl rfl 7 (by decide) (hts (.fieldLink RX7 22 "GrowingTextModel" "ends" "[J") (List.mem_of_getElem? (i := 7) rfl)) (fun _ h9 => h9) rfl dX7_begins_38 ?_
  refine lv_iconst (v := 0) hx hb dX7_begins_41 (by decide) ?_
  refine lv_lconst (v := 1) hx hb dX7_begins_42 (by decide) ?_
  refine va_last hx hb hK hP hD hS 5 1 (f := (gR_ends uR)) rfl rfl hf.1 dX7_begins_43 (fun H locs hP hD hS => ?_)
  have hf := hf.2
  have hP : va_P D vwCl (wR aR q (gR_set_ends (gR_set_cloneOf (gR_set_made (gR_set_longest (gR_set_stateMany (gR_set_n (gR_set_letters uR x1) 0) 1) (upd (gR_longest uR) (0 : Int32).toNatClampNeg 0)) (upd (gR_made uR) (0 : Int32).toNatClampNeg 0)) (upd (gR_cloneOf uR) (0 : Int32).toNatClampNeg (-4))) (vp_updL (gR_ends uR) (0 : Int32).toNatClampNeg 1))) H := hP
  have hD : va_D A (wR aR q (gR_set_ends (gR_set_cloneOf (gR_set_made (gR_set_longest (gR_set_stateMany (gR_set_n (gR_set_letters uR x1) 0) 1) (upd (gR_longest uR) (0 : Int32).toNatClampNeg 0)) (upd (gR_made uR) (0 : Int32).toNatClampNeg 0)) (upd (gR_cloneOf uR) (0 : Int32).toNatClampNeg (-4))) (vp_updL (gR_ends uR) (0 : Int32).toNatClampNeg 1))) := hD
  exact k_vret_w (wf := (fun u => wR aR q u)) (post := Q) (u := (gR_set_ends (gR_set_cloneOf (gR_set_made (gR_set_longest (gR_set_stateMany (gR_set_n (gR_set_letters uR x1) 0) 1) (upd (gR_longest uR) (0 : Int32).toNatClampNeg 0)) (upd (gR_made uR) (0 : Int32).toNatClampNeg 0)) (upd (gR_cloneOf uR) (0 : Int32).toNatClampNeg (-4))) (vp_updL (gR_ends uR) (0 : Int32).toNatClampNeg 1))) hx hb hr hlocks hK hP hD hS hf dX7_begins_44
def wpX7_in (x0 : Int32) (x1 : Int32) (x2 : Int32) (Q : Int32 → Prop) : Prop :=
  ((x0 < x1 →
    Q 0) ∧
  (¬ (x0 < x1) →
    (x2 < x0 →
      Q 0) ∧
    (¬ (x2 < x0) →
      Q 1)))
def rmX7_in : Room := { frames := 0, cells := 0, slots := 0, locals := 0 }
set_option maxRecDepth 100000 in
set_option maxHeartbeats 4000000 in
theorem c_X7_in (l : Launch) (D : va_G) (q : Nat → ClassId) (x0 : Int32) (x1 : Int32) (x2 : Int32) (Q : Int32 → Prop) (hf : wpX7_in x0 x1 x2 Q) : Met l yX7_in wsX7_in rmX7_in (va_Pc [.int x0, .int x1, .int x2] (kP D q ([]))) (vp_Si Q) 0 0 (fun _ => False) := by
  refine Met.ofW (cc := cX7_in) (maxL := 3) (ret := (some .boolean)) (by decide) rfl ?_
  intro p e s m args below meth c s₁ B hml hv
  obtain ⟨hargs, hP, hK, hD⟩ := hv
  have hx := B.exec
  have hb := B.bytes
  have hr := B.returns
  have hts := atoms_spec (ws := wsX7_in) B.pre
  have hown : s.vm.findClass RX7 = some m.cls := findClass_of_methodNamed B.named
  have hlocks := B.notSynchronized
  refine k_entry hargs (Nat.le_of_ble_eq_true rfl) (fun ls hl => ?_)
  have hl : lv_has ls 3 [(0, .int x0), (1, .int x1), (2, .int x2)] := hl
  change W p l e rmX7_in s m args below meth c s.heap [] 0 0 (MQ below (vp_Si Q) args s 0 0 (fun _ => False)) _
  unfold wpX7_in at hf
  refine lv_iload_n hx hb dX7_in_0 rfl (lv_at hl 0 rfl) ?_
  refine lv_iload_n hx hb dX7_in_1 rfl (lv_at hl 1 rfl) ?_
  refine lv_icmp_lt (tgt := 14) hx hb dX7_in_2 (by decide) (fun c1 => ?_) (fun c1 => ?_)
  · have hf := hf.1 (c1)
    refine lv_iconst (v := 0) hx hb dX7_in_14 (by decide) ?_
    exact k_zret_r (v := 0) hx hb hr rfl hlocks hf dX7_in_15
  · have hf := hf.2 (c1)
    refine lv_iload_n hx hb dX7_in_5 rfl (lv_at hl 0 rfl) ?_
    refine lv_iload_n hx hb dX7_in_6 rfl (lv_at hl 2 rfl) ?_
    refine lv_icmp_gt (tgt := 14) hx hb dX7_in_7 (by decide) (fun c2 => ?_) (fun c2 => ?_)
    · have hf := hf.1 (c2)
      refine lv_iconst (v := 0) hx hb dX7_in_14 (by decide) ?_
      exact k_zret_r (v := 0) hx hb hr rfl hlocks hf dX7_in_15
    · have hf := hf.2 (c2)
      refine lv_iconst (v := 1) hx hb dX7_in_10 (by decide) ?_
      refine lv_goto (tgt := 15) hx hb dX7_in_11 (by decide) ?_
      exact k_zret_r (v := 1) hx hb hr rfl hlocks hf dX7_in_15
def fX7_in (x0 : Int32) (x1 : Int32) (x2 : Int32) : Int32 := (if x0 < x1 then 0 else (if x2 < x0 then 0 else 1))
theorem pF_X7_in (x0 : Int32) (x1 : Int32) (x2 : Int32) (Q : Int32 → Prop) (hq : Q (fX7_in x0 x1 x2)) : wpX7_in x0 x1 x2 Q := by
  unfold fX7_in at hq; unfold wpX7_in; exact k_ite hq (fun hq => hq) (fun hq => k_ite hq (fun hq => hq) (fun hq => hq))
theorem cF_X7_in (l : Launch) (D : va_G) (q : Nat → ClassId) (x0 : Int32) (x1 : Int32) (x2 : Int32) : Met l yX7_in wsX7_in rmX7_in (va_Pc [.int x0, .int x1, .int x2] (kP D q ([]))) (vp_Si (fun r => r = fX7_in x0 x1 x2)) 0 0 (fun _ => False) := c_X7_in l D q x0 x1 x2 _ (pF_X7_in x0 x1 x2 _ rfl)
def wpX7_has (x0 : Int64) (x2 : Int32) (Q : Int32 → Prop) : Prop :=
  ((((((x0 : Int64) >>> ((x2 : Int32).toInt64 &&& 63)) &&& 1) : Int64) = 1 →
    Q 1) ∧
  (¬ (((((x0 : Int64) >>> ((x2 : Int32).toInt64 &&& 63)) &&& 1) : Int64) = 1) →
    Q 0))
def rmX7_has : Room := { frames := 0, cells := 0, slots := 0, locals := 0 }
set_option maxRecDepth 100000 in
set_option maxHeartbeats 4000000 in
theorem c_X7_has (l : Launch) (D : va_G) (q : Nat → ClassId) (x0 : Int64) (x2 : Int32) (Q : Int32 → Prop) (hf : wpX7_has x0 x2 Q) : Met l yX7_has wsX7_has rmX7_has (va_Pc [.long x0, .int x2] (kP D q ([]))) (vp_Si Q) 0 0 (fun _ => False) := by
  refine Met.ofW (cc := cX7_has) (maxL := 3) (ret := (some .boolean)) (by decide) rfl ?_
  intro p e s m args below meth c s₁ B hml hv
  obtain ⟨hargs, hP, hK, hD⟩ := hv
  have hx := B.exec
  have hb := B.bytes
  have hr := B.returns
  have hts := atoms_spec (ws := wsX7_has) B.pre
  have hown : s.vm.findClass RX7 = some m.cls := findClass_of_methodNamed B.named
  have hlocks := B.notSynchronized
  refine k_entry hargs (Nat.le_of_ble_eq_true rfl) (fun ls hl => ?_)
  have hl : lv_has ls 3 [(0, .long x0), (2, .int x2)] := hl
  change W p l e rmX7_has s m args below meth c s.heap [] 0 0 (MQ below (vp_Si Q) args s 0 0 (fun _ => False)) _
  unfold wpX7_has at hf
  refine lv_lload_n hx hb dX7_has_0 rfl (lv_at hl 0 rfl) ?_
  refine lv_iload_n hx hb dX7_has_1 rfl (lv_at hl 1 rfl) ?_
  refine lv_lshr (v := ((x0 : Int64) >>> ((x2 : Int32).toInt64 &&& 63))) hx hb dX7_has_2 rfl ?_
  refine lv_lconst (v := 1) hx hb dX7_has_3 (by decide) ?_
  refine lv_land hx hb dX7_has_4 ?_
  refine lv_lconst (v := 1) hx hb dX7_has_5 (by decide) ?_
  refine W.lcmp hx hb dX7_has_6 ?_
  refine lv_if_ne (tgt := 14) hx hb dX7_has_7 (by decide) (fun c1 => ?_) (fun c1 => ?_)
  · have hf := hf.2 ((fun h => c1 ((k_cmp_eq (((x0 : Int64) >>> ((x2 : Int32).toInt64 &&& 63)) &&& 1) 1).mpr h)))
    refine lv_iconst (v := 0) hx hb dX7_has_14 (by decide) ?_
    exact k_zret_r (v := 0) hx hb hr rfl hlocks hf dX7_has_15
  · have hf := hf.1 ((k_cmp_eq (((x0 : Int64) >>> ((x2 : Int32).toInt64 &&& 63)) &&& 1) 1).mp c1)
    refine lv_iconst (v := 1) hx hb dX7_has_10 (by decide) ?_
    refine lv_goto (tgt := 15) hx hb dX7_has_11 (by decide) ?_
    exact k_zret_r (v := 1) hx hb hr rfl hlocks hf dX7_has_15
def fX7_has (x0 : Int64) (x2 : Int32) : Int32 := (if ((((x0 : Int64) >>> ((x2 : Int32).toInt64 &&& 63)) &&& 1) : Int64) = 1 then 1 else 0)
theorem pF_X7_has (x0 : Int64) (x2 : Int32) (Q : Int32 → Prop) (hq : Q (fX7_has x0 x2)) : wpX7_has x0 x2 Q := by
  unfold fX7_has at hq; unfold wpX7_has; exact k_ite hq (fun hq => hq) (fun hq => hq)
theorem cF_X7_has (l : Launch) (D : va_G) (q : Nat → ClassId) (x0 : Int64) (x2 : Int32) : Met l yX7_has wsX7_has rmX7_has (va_Pc [.long x0, .int x2] (kP D q ([]))) (vp_Si (fun r => r = fX7_has x0 x2)) 0 0 (fun _ => False) := c_X7_has l D q x0 x2 _ (pF_X7_has x0 x2 _ rfl)
def wpX7_bits (x0 : Int64) (Q : Int32 → Prop) : Prop :=
  ∀ (X4 : Int32 → Int64 → Prop),
  (∀ (y2 : Int32) (y3 : Int64),
    (((y3 : Int64) = 0 →
      Q y2) ∧
    (¬ ((y3 : Int64) = 0) →
      X4 (y2 + 1) (y3 &&& (y3 - 1)))) → X4 y2 y3) →
  X4 0 x0
def rmX7_bits : Room := { frames := 0, cells := 0, slots := 0, locals := 0 }
set_option maxRecDepth 100000 in
set_option maxHeartbeats 4000000 in
theorem c_X7_bits (l : Launch) (D : va_G) (q : Nat → ClassId) (x0 : Int64) (Q : Int32 → Prop) (hf : wpX7_bits x0 Q) : Met l yX7_bits wsX7_bits rmX7_bits (va_Pc [.long x0] (kP D q ([]))) (vp_Si Q) 0 0 (fun _ => False) := by
  refine Met.ofW (cc := cX7_bits) (maxL := 5) (ret := (some .int)) (by decide) rfl ?_
  intro p e s m args below meth c s₁ B hml hv
  obtain ⟨hargs, hP, hK, hD⟩ := hv
  have hx := B.exec
  have hb := B.bytes
  have hr := B.returns
  have hts := atoms_spec (ws := wsX7_bits) B.pre
  have hown : s.vm.findClass RX7 = some m.cls := findClass_of_methodNamed B.named
  have hlocks := B.notSynchronized
  refine k_entry hargs (Nat.le_of_ble_eq_true rfl) (fun ls hl => ?_)
  have hl : lv_has ls 5 [(0, .long x0)] := hl
  change W p l e rmX7_bits s m args below meth c s.heap [] 0 0 (MQ below (vp_Si Q) args s 0 0 (fun _ => False)) _
  unfold wpX7_bits at hf
  have hf := hf
    (fun (y2 : Int32) (y3 : Int64) => ∀ (ls : Array Slot), lv_has ls 5 [(2, .int y2), (3, .long y3)] → W p l e rmX7_bits s m args below meth c s.heap [] 0 0 (MQ below (vp_Si Q) args s 0 0 (fun _ => False)) (F0 m 4 ls []))
    (by
      intro y2 y3 hf ls hl
      refine lv_lload_n hx hb dX7_bits_4 rfl (lv_at hl 1 rfl) ?_
      refine lv_lconst (v := 0) hx hb dX7_bits_5 (by decide) ?_
      refine W.lcmp hx hb dX7_bits_6 ?_
      refine lv_if_eq (tgt := 22) hx hb dX7_bits_7 (by decide) (fun c1 => ?_) (fun c1 => ?_)
      · have hf := hf.1 ((k_cmp_eq y3 0).mp c1)
        refine lv_iload_n hx hb dX7_bits_22 rfl (lv_at hl 0 rfl) ?_
        exact k_iret_r (v := y2) hx hb hr hlocks hf dX7_bits_23
      · have hf := hf.2 ((fun h => c1 ((k_cmp_eq y3 0).mpr h)))
        refine lv_iinc (v := (y2 + 1)) (lv' := [(2, .int (y2 + 1)), (3, .long y3)]) hx hb dX7_bits_10 hl (k := 0) rfl rfl (by decide) rfl (fun ls hl => ?_)
        refine lv_lload_n hx hb dX7_bits_13 rfl (lv_at hl 1 rfl) ?_
        refine lv_lload_n hx hb dX7_bits_14 rfl (lv_at hl 1 rfl) ?_
        refine lv_lconst (v := 1) hx hb dX7_bits_15 (by decide) ?_
        refine lv_lsub hx hb dX7_bits_16 ?_
        refine lv_land hx hb dX7_bits_17 ?_
        refine lv_lstore_n (lv' := [(3, .long (y3 &&& (y3 - 1))), (2, .int (y2 + 1))]) hx hb dX7_bits_18 rfl hl (by decide) rfl (fun ls hl => ?_)
        refine lv_goto (tgt := 4) hx hb dX7_bits_19 (by decide) ?_
        exact hf ls (lv_sub hl [1, 0] rfl))
  refine lv_iconst (v := 0) hx hb dX7_bits_0 (by decide) ?_
  refine lv_istore_n (lv' := [(2, .int 0), (0, .long x0)]) hx hb dX7_bits_1 rfl hl (by decide) rfl (fun ls hl => ?_)
  refine lv_lload_n hx hb dX7_bits_2 rfl (lv_at hl 1 rfl) ?_
  refine lv_lstore_n (lv' := [(3, .long x0), (2, .int 0), (0, .long x0)]) hx hb dX7_bits_3 rfl hl (by decide) rfl (fun ls hl => ?_)
  exact hf ls (lv_sub hl [1, 0] rfl)
def wpX7_least (x0 : Int64) (Q : Int32 → Prop) : Prop :=
  ∀ (X2 : Int32 → Prop),
  (∀ (y2 : Int32),
    (((fX7_has x0 y2) = 0 →
      X2 (y2 + 1)) ∧
    (¬ ((fX7_has x0 y2) = 0) →
      Q y2)) → X2 y2) →
  X2 0
def rmX7_least : Room := { frames := 1, cells := 0, slots := 0, locals := 22 }
set_option maxRecDepth 100000 in
set_option maxHeartbeats 4000000 in
theorem c_X7_least (l : Launch) (D : va_G) (q : Nat → ClassId) (x0 : Int64) (Q : Int32 → Prop) (hf : wpX7_least x0 Q) : Met l yX7_least wsX7_least rmX7_least (va_Pc [.long x0] (kP D q ([]))) (vp_Si Q) 0 0 (fun _ => False) := by
  refine Met.ofW (cc := cX7_least) (maxL := 3) (ret := (some .int)) (by decide) rfl ?_
  intro p e s m args below meth c s₁ B hml hv
  obtain ⟨hargs, hP, hK, hD⟩ := hv
  have hx := B.exec
  have hb := B.bytes
  have hr := B.returns
  have hts := atoms_spec (ws := wsX7_least) B.pre
  have hown : s.vm.findClass RX7 = some m.cls := findClass_of_methodNamed B.named
  have hlocks := B.notSynchronized
  refine k_entry hargs (Nat.le_of_ble_eq_true rfl) (fun ls hl => ?_)
  have hl : lv_has ls 3 [(0, .long x0)] := hl
  change W p l e rmX7_least s m args below meth c s.heap [] 0 0 (MQ below (vp_Si Q) args s 0 0 (fun _ => False)) _
  unfold wpX7_least at hf
  have hf := hf
    (fun (y2 : Int32) => ∀ (ls : Array Slot), lv_has ls 3 [(0, .long x0), (2, .int y2)] → W p l e rmX7_least s m args below meth c s.heap [] 0 0 (MQ below (vp_Si Q) args s 0 0 (fun _ => False)) (F0 m 2 ls []))
    (by
      intro y2 hf ls hl
      refine lv_lload_n hx hb dX7_least_2 rfl (lv_at hl 0 rfl) ?_
      refine lv_iload_n hx hb dX7_least_3 rfl (lv_at hl 1 rfl) ?_
      refine k_si (k_runS (As := [.long x0, .int y2]) (rest := []) ⟨hx, hb, hml, hown, hts⟩ (cF_X7_has l D q x0 y2) (va_cwS 2 hts gX7_least_X7_has rfl rfl rfl cdX7_has ⟨Nat.le_of_ble_eq_true rfl, Nat.le_of_ble_eq_true rfl⟩) hK k_nilP k_nilD rfl hl.1 rfl (Nat.le_of_ble_eq_true rfl) dX7_least_4 ⟨Nat.le_of_ble_eq_true rfl, Nat.le_of_ble_eq_true rfl⟩) (fun r hr => ?_)
      subst hr
      refine lv_if_ne (tgt := 16) hx hb dX7_least_7 (by decide) (fun c1 => ?_) (fun c1 => ?_)
      · have hf := hf.2 (c1)
        refine lv_iload_n hx hb dX7_least_16 rfl (lv_at hl 1 rfl) ?_
        exact k_iret_r (v := y2) hx hb hr hlocks hf dX7_least_17
      · have hf := hf.1 (c1)
        refine lv_iinc (v := (y2 + 1)) (lv' := [(2, .int (y2 + 1)), (0, .long x0)]) hx hb dX7_least_10 hl (k := 1) rfl rfl (by decide) rfl (fun ls hl => ?_)
        refine lv_goto (tgt := 2) hx hb dX7_least_13 (by decide) ?_
        exact hf ls (lv_sub hl [1, 0] rfl))
  refine lv_iconst (v := 0) hx hb dX7_least_0 (by decide) ?_
  refine lv_istore_n (lv' := [(2, .int 0), (0, .long x0)]) hx hb dX7_least_1 rfl hl (by decide) rfl (fun ls hl => ?_)
  exact hf ls (lv_sub hl [1, 0] rfl)
def wpX7_greatest (x0 : Int64) (Q : Int32 → Prop) : Prop :=
  ∀ (X3 : Int32 → Prop),
  (∀ (y2 : Int32),
    (((fX7_has x0 y2) = 0 →
      X3 (y2 + (-1))) ∧
    (¬ ((fX7_has x0 y2) = 0) →
      Q y2)) → X3 y2) →
  X3 60
def rmX7_greatest : Room := { frames := 1, cells := 0, slots := 0, locals := 22 }
set_option maxRecDepth 100000 in
set_option maxHeartbeats 4000000 in
theorem c_X7_greatest (l : Launch) (D : va_G) (q : Nat → ClassId) (x0 : Int64) (Q : Int32 → Prop) (hf : wpX7_greatest x0 Q) : Met l yX7_greatest wsX7_greatest rmX7_greatest (va_Pc [.long x0] (kP D q ([]))) (vp_Si Q) 0 0 (fun _ => False) := by
  refine Met.ofW (cc := cX7_greatest) (maxL := 3) (ret := (some .int)) (by decide) rfl ?_
  intro p e s m args below meth c s₁ B hml hv
  obtain ⟨hargs, hP, hK, hD⟩ := hv
  have hx := B.exec
  have hb := B.bytes
  have hr := B.returns
  have hts := atoms_spec (ws := wsX7_greatest) B.pre
  have hown : s.vm.findClass RX7 = some m.cls := findClass_of_methodNamed B.named
  have hlocks := B.notSynchronized
  refine k_entry hargs (Nat.le_of_ble_eq_true rfl) (fun ls hl => ?_)
  have hl : lv_has ls 3 [(0, .long x0)] := hl
  change W p l e rmX7_greatest s m args below meth c s.heap [] 0 0 (MQ below (vp_Si Q) args s 0 0 (fun _ => False)) _
  unfold wpX7_greatest at hf
  have hf := hf
    (fun (y2 : Int32) => ∀ (ls : Array Slot), lv_has ls 3 [(0, .long x0), (2, .int y2)] → W p l e rmX7_greatest s m args below meth c s.heap [] 0 0 (MQ below (vp_Si Q) args s 0 0 (fun _ => False)) (F0 m 3 ls []))
    (by
      intro y2 hf ls hl
      refine lv_lload_n hx hb dX7_greatest_3 rfl (lv_at hl 0 rfl) ?_
      refine lv_iload_n hx hb dX7_greatest_4 rfl (lv_at hl 1 rfl) ?_
      refine k_si (k_runS (As := [.long x0, .int y2]) (rest := []) ⟨hx, hb, hml, hown, hts⟩ (cF_X7_has l D q x0 y2) (va_cwS 2 hts gX7_greatest_X7_has rfl rfl rfl cdX7_has ⟨Nat.le_of_ble_eq_true rfl, Nat.le_of_ble_eq_true rfl⟩) hK k_nilP k_nilD rfl hl.1 rfl (Nat.le_of_ble_eq_true rfl) dX7_greatest_5 ⟨Nat.le_of_ble_eq_true rfl, Nat.le_of_ble_eq_true rfl⟩) (fun r hr => ?_)
      subst hr
      refine lv_if_ne (tgt := 17) hx hb dX7_greatest_8 (by decide) (fun c1 => ?_) (fun c1 => ?_)
      · have hf := hf.2 (c1)
        refine lv_iload_n hx hb dX7_greatest_17 rfl (lv_at hl 1 rfl) ?_
        exact k_iret_r (v := y2) hx hb hr hlocks hf dX7_greatest_18
      · have hf := hf.1 (c1)
        refine lv_iinc (v := (y2 + (-1))) (lv' := [(2, .int (y2 + (-1))), (0, .long x0)]) hx hb dX7_greatest_11 hl (k := 1) rfl rfl (by decide) rfl (fun ls hl => ?_)
        refine lv_goto (tgt := 3) hx hb dX7_greatest_14 (by decide) ?_
        exact hf ls (lv_sub hl [1, 0] rfl))
  refine lv_bipush (v := 60) hx hb dX7_greatest_0 (by decide) ?_
  refine lv_istore_n (lv' := [(2, .int 60), (0, .long x0)]) hx hb dX7_greatest_2 rfl hl (by decide) rfl (fun ls hl => ?_)
  exact hf ls (lv_sub hl [1, 0] rfl)
def wpX7_alikeAt (uR : RSt) (x1 : Int32) (x2 : Int32) (Q : Int32 → Prop) : Prop :=
  ∀ (X2 : Int32 → Prop),
  (∀ (y3 : Int32),
    ((x1 ≤ y3 →
      Q y3) ∧
    (¬ (x1 ≤ y3) →
      (x2 ≤ y3 →
        Q y3) ∧
      (¬ (x2 ≤ y3) →
        vp_in ((x1 - 1) - y3) 60 ∧
        vp_in ((x2 - 1) - y3) 60 ∧
        ((((gR_text uR) (((x1 - 1) - y3) : Int32).toNatClampNeg) = ((gR_text uR) (((x2 - 1) - y3) : Int32).toNatClampNeg) →
          X2 (y3 + 1)) ∧
        (¬ (((gR_text uR) (((x1 - 1) - y3) : Int32).toNatClampNeg) = ((gR_text uR) (((x2 - 1) - y3) : Int32).toNatClampNeg)) →
          Q y3))))) → X2 y3) →
  X2 0
def rmX7_alikeAt : Room := { frames := 0, cells := 0, slots := 0, locals := 0 }
theorem inX7_alikeAt_X7 : ∀ w ∈ wsX70, w ∈ wsX7_alikeAt := fun w h => List.mem_cons_of_mem _ (List.mem_append_right _ h)
set_option maxRecDepth 100000 in
set_option maxHeartbeats 4000000 in
theorem c_X7_alikeAt (l : Launch) (D : va_G) (q : Nat → ClassId) (aR : Nat → Nat) (uR : RSt) (x1 : Int32) (x2 : Int32) (Q : Int32 → Prop) (hf : wpX7_alikeAt uR x1 x2 Q) : Met l yX7_alikeAt wsX7_alikeAt rmX7_alikeAt (va_Pc [.ref (aR 0), .int x1, .int x2] (kP D q (wR aR q uR))) (vp_Si Q) 0 0 (fun _ => False) := by
  refine Met.ofW (cc := cX7_alikeAt) (maxL := 4) (ret := (some .int)) (by decide) rfl ?_
  intro p e s m args below meth c s₁ B hml hv
  obtain ⟨hargs, hP, hK, hD⟩ := hv
  have hx := B.exec
  have hb := B.bytes
  have hr := B.returns
  have hts := atoms_spec (ws := wsX7_alikeAt) B.pre
  have hown : s.vm.findClass RX7 = some m.cls := findClass_of_methodNamed B.named
  have hlocks := B.notSynchronized
  refine k_entry hargs (Nat.le_of_ble_eq_true rfl) (fun ls hl => ?_)
  have hl : lv_has ls 4 [(0, .ref (aR 0)), (1, .int x1), (2, .int x2)] := hl
  change W p l e rmX7_alikeAt s m args below meth c s.heap [] 0 0 (MQ below (vp_Si Q) args s 0 0 (fun _ => False)) _
  unfold wpX7_alikeAt at hf
  have hf := hf
    (fun (y3 : Int32) => ∀ (ls : Array Slot), lv_has ls 4 [(0, .ref (aR 0)), (1, .int x1), (2, .int x2), (3, .int y3)] → W p l e rmX7_alikeAt s m args below meth c s.heap [] 0 0 (MQ below (vp_Si Q) args s 0 0 (fun _ => False)) (F0 m 2 ls []))
    (by
      intro y3 hf ls hl
      refine lv_iload_n hx hb dX7_alikeAt_2 rfl (lv_at hl 3 rfl) ?_
      refine lv_iload_n hx hb dX7_alikeAt_3 rfl (lv_at hl 1 rfl) ?_
      refine lv_icmp_ge (tgt := 41) hx hb dX7_alikeAt_4 (by decide) (fun c1 => ?_) (fun c1 => ?_)
      · have hf := hf.1 (c1)
        refine lv_iload_n hx hb dX7_alikeAt_41 rfl (lv_at hl 3 rfl) ?_
        exact k_iret_r (v := y3) hx hb hr hlocks hf dX7_alikeAt_42
      · have hf := hf.2 (c1)
        refine lv_iload_n hx hb dX7_alikeAt_7 rfl (lv_at hl 3 rfl) ?_
        refine lv_iload_n hx hb dX7_alikeAt_8 rfl (lv_at hl 2 rfl) ?_
        refine lv_icmp_ge (tgt := 41) hx hb dX7_alikeAt_9 (by decide) (fun c2 => ?_) (fun c2 => ?_)
        · have hf := hf.1 (c2)
          refine lv_iload_n hx hb dX7_alikeAt_41 rfl (lv_at hl 3 rfl) ?_
          exact k_iret_r (v := y3) hx hb hr hlocks hf dX7_alikeAt_42
        · have hf := hf.2 (c2)
          refine lv_aload_n hx hb dX7_alikeAt_12 rfl (lv_at hl 0 rfl) ?_
          refine va_get (D := D) (ci := 5) (v := .ref (aR 1)) (C := RX7) (T := TX7) (N := 14) hx hb hts inX7_alikeAt_X7 hown hK hP 0 rfl rfl 2 (by decide) (hts (.fieldLink RX7 7 "GrowingTextModel" "text" "[I") (List.mem_of_getElem? (i := 1) rfl)) (fun _ h9 => h9) rfl dX7_alikeAt_13 ?_
          refine lv_iload_n hx hb dX7_alikeAt_16 rfl (lv_at hl 1 rfl) ?_
          refine lv_iconst (v := 1) hx hb dX7_alikeAt_17 (by decide) ?_
          refine lv_isub hx hb dX7_alikeAt_18 ?_
          refine lv_iload_n hx hb dX7_alikeAt_19 rfl (lv_at hl 3 rfl) ?_
          refine lv_isub hx hb dX7_alikeAt_20 ?_
          refine va_iald hx hb hK hP 1 0 (f := (gR_text uR)) rfl rfl hf.1 dX7_alikeAt_21 ?_
          have hf := hf.2
          refine lv_aload_n hx hb dX7_alikeAt_22 rfl (lv_at hl 0 rfl) ?_
          refine va_get (D := D) (ci := 5) (v := .ref (aR 1)) (C := RX7) (T := TX7) (N := 14) hx hb hts inX7_alikeAt_X7 hown hK hP 0 rfl rfl 2 (by decide) (hts (.fieldLink RX7 7 "GrowingTextModel" "text" "[I") (List.mem_of_getElem? (i := 1) rfl)) (fun _ h9 => h9) rfl dX7_alikeAt_23 ?_
          refine lv_iload_n hx hb dX7_alikeAt_26 rfl (lv_at hl 2 rfl) ?_
          refine lv_iconst (v := 1) hx hb dX7_alikeAt_27 (by decide) ?_
          refine lv_isub hx hb dX7_alikeAt_28 ?_
          refine lv_iload_n hx hb dX7_alikeAt_29 rfl (lv_at hl 3 rfl) ?_
          refine lv_isub hx hb dX7_alikeAt_30 ?_
          refine va_iald hx hb hK hP 1 0 (f := (gR_text uR)) rfl rfl hf.1 dX7_alikeAt_31 ?_
          have hf := hf.2
          refine lv_icmp_ne (tgt := 41) hx hb dX7_alikeAt_32 (by decide) (fun c3 => ?_) (fun c3 => ?_)
          · have hf := hf.2 (c3)
            refine lv_iload_n hx hb dX7_alikeAt_41 rfl (lv_at hl 3 rfl) ?_
            exact k_iret_r (v := y3) hx hb hr hlocks hf dX7_alikeAt_42
          · have hf := hf.1 (c3)
            refine lv_iinc (v := (y3 + 1)) (lv' := [(3, .int (y3 + 1)), (0, .ref (aR 0)), (1, .int x1), (2, .int x2)]) hx hb dX7_alikeAt_35 hl (k := 3) rfl rfl (by decide) rfl (fun ls hl => ?_)
            refine lv_goto (tgt := 2) hx hb dX7_alikeAt_38 (by decide) ?_
            exact hf ls (lv_sub hl [1, 2, 3, 0] rfl))
  refine lv_iconst (v := 0) hx hb dX7_alikeAt_0 (by decide) ?_
  refine lv_istore_n (lv' := [(3, .int 0), (0, .ref (aR 0)), (1, .int x1), (2, .int x2)]) hx hb dX7_alikeAt_1 rfl hl (by decide) rfl (fun ls hl => ?_)
  exact hf ls (lv_sub hl [1, 2, 3, 0] rfl)
def wpX7_againAt (uR : RSt) (x1 : Int32) (Q : Int32 → Prop) : Prop :=
  ∀ (X4 : Int32 → Int32 → Prop),
  (∀ (y2 : Int32) (y3 : Int32),
    ((x1 ≤ y3 →
      Q y2) ∧
    (¬ (x1 ≤ y3) →
      wpX7_alikeAt uR x1 y3 (fun r2 =>
        (r2 ≤ y2 →
          X4 y2 (y3 + 1)) ∧
        (¬ (r2 ≤ y2) →
          wpX7_alikeAt uR x1 y3 (fun r4 =>
            X4 r4 (y3 + 1)))))) → X4 y2 y3) →
  X4 0 0
def rmX7_againAt : Room := { frames := 1, cells := 0, slots := 0, locals := 23 }
set_option maxRecDepth 100000 in
set_option maxHeartbeats 4000000 in
theorem c_X7_againAt (l : Launch) (D : va_G) (q : Nat → ClassId) (aR : Nat → Nat) (uR : RSt) (x1 : Int32) (Q : Int32 → Prop) (hf : wpX7_againAt uR x1 Q) : Met l yX7_againAt wsX7_againAt rmX7_againAt (va_Pc [.ref (aR 0), .int x1] (kP D q (wR aR q uR))) (vp_Si Q) 0 0 (fun _ => False) := by
  refine Met.ofW (cc := cX7_againAt) (maxL := 4) (ret := (some .int)) (by decide) rfl ?_
  intro p e s m args below meth c s₁ B hml hv
  obtain ⟨hargs, hP, hK, hD⟩ := hv
  have hx := B.exec
  have hb := B.bytes
  have hr := B.returns
  have hts := atoms_spec (ws := wsX7_againAt) B.pre
  have hown : s.vm.findClass RX7 = some m.cls := findClass_of_methodNamed B.named
  have hlocks := B.notSynchronized
  refine k_entry hargs (Nat.le_of_ble_eq_true rfl) (fun ls hl => ?_)
  have hl : lv_has ls 4 [(0, .ref (aR 0)), (1, .int x1)] := hl
  change W p l e rmX7_againAt s m args below meth c s.heap [] 0 0 (MQ below (vp_Si Q) args s 0 0 (fun _ => False)) _
  unfold wpX7_againAt at hf
  have hf := hf
    (fun (y2 : Int32) (y3 : Int32) => ∀ (ls : Array Slot), lv_has ls 4 [(0, .ref (aR 0)), (1, .int x1), (2, .int y2), (3, .int y3)] → W p l e rmX7_againAt s m args below meth c s.heap [] 0 0 (MQ below (vp_Si Q) args s 0 0 (fun _ => False)) (F0 m 4 ls []))
    (by
      intro y2 y3 hf ls hl
      refine lv_iload_n hx hb dX7_againAt_4 rfl (lv_at hl 3 rfl) ?_
      refine lv_iload_n hx hb dX7_againAt_5 rfl (lv_at hl 1 rfl) ?_
      refine lv_icmp_ge (tgt := 36) hx hb dX7_againAt_6 (by decide) (fun c1 => ?_) (fun c1 => ?_)
      · have hf := hf.1 (c1)
        refine lv_iload_n hx hb dX7_againAt_36 rfl (lv_at hl 2 rfl) ?_
        exact k_iret_r (v := y2) hx hb hr hlocks hf dX7_againAt_37
      · have hf := hf.2 (c1)
        refine lv_aload_n hx hb dX7_againAt_9 rfl (lv_at hl 0 rfl) ?_
        refine lv_iload_n hx hb dX7_againAt_10 rfl (lv_at hl 1 rfl) ?_
        refine lv_iload_n hx hb dX7_againAt_11 rfl (lv_at hl 3 rfl) ?_
        refine k_si (k_runV (As := [.int x1, .int y3]) (rest := []) ⟨hx, hb, hml, hown, hts⟩ (c_X7_alikeAt l D q aR uR x1 y3 _ hf) (cwV 2 hts gX7_againAt_X7_alikeAt rfl rfl rfl cdX7_alikeAt ⟨Nat.le_of_ble_eq_true rfl, Nat.le_of_ble_eq_true rfl⟩) hK hP hD 0 rfl rfl rfl hl.1 rfl (Nat.le_of_ble_eq_true rfl) dX7_againAt_12 ⟨Nat.le_of_ble_eq_true rfl, Nat.le_of_ble_eq_true rfl⟩) (fun r2 hf => ?_)
        refine lv_iload_n hx hb dX7_againAt_15 rfl (lv_at hl 2 rfl) ?_
        refine lv_icmp_le (tgt := 28) hx hb dX7_againAt_16 (by decide) (fun c3 => ?_) (fun c3 => ?_)
        · have hf := hf.1 (c3)
          refine lv_iload_n hx hb dX7_againAt_28 rfl (lv_at hl 2 rfl) ?_
          refine lv_istore_n (lv' := [(2, .int y2), (0, .ref (aR 0)), (1, .int x1), (3, .int y3)]) hx hb dX7_againAt_29 rfl hl (by decide) rfl (fun ls hl => ?_)
          refine lv_iinc (v := (y3 + 1)) (lv' := [(3, .int (y3 + 1)), (2, .int y2), (0, .ref (aR 0)), (1, .int x1)]) hx hb dX7_againAt_30 hl (k := 3) rfl rfl (by decide) rfl (fun ls hl => ?_)
          refine lv_goto (tgt := 4) hx hb dX7_againAt_33 (by decide) ?_
          exact hf ls (lv_sub hl [2, 3, 1, 0] rfl)
        · have hf := hf.2 (c3)
          refine lv_aload_n hx hb dX7_againAt_19 rfl (lv_at hl 0 rfl) ?_
          refine lv_iload_n hx hb dX7_againAt_20 rfl (lv_at hl 1 rfl) ?_
          refine lv_iload_n hx hb dX7_againAt_21 rfl (lv_at hl 3 rfl) ?_
          refine k_si (k_runV (As := [.int x1, .int y3]) (rest := []) ⟨hx, hb, hml, hown, hts⟩ (c_X7_alikeAt l D q aR uR x1 y3 _ hf) (cwV 2 hts gX7_againAt_X7_alikeAt rfl rfl rfl cdX7_alikeAt ⟨Nat.le_of_ble_eq_true rfl, Nat.le_of_ble_eq_true rfl⟩) hK hP hD 0 rfl rfl rfl hl.1 rfl (Nat.le_of_ble_eq_true rfl) dX7_againAt_22 ⟨Nat.le_of_ble_eq_true rfl, Nat.le_of_ble_eq_true rfl⟩) (fun r4 hf => ?_)
          refine lv_goto (tgt := 29) hx hb dX7_againAt_25 (by decide) ?_
          refine lv_istore_n (lv' := [(2, .int r4), (0, .ref (aR 0)), (1, .int x1), (3, .int y3)]) hx hb dX7_againAt_29 rfl hl (by decide) rfl (fun ls hl => ?_)
          refine lv_iinc (v := (y3 + 1)) (lv' := [(3, .int (y3 + 1)), (2, .int r4), (0, .ref (aR 0)), (1, .int x1)]) hx hb dX7_againAt_30 hl (k := 3) rfl rfl (by decide) rfl (fun ls hl => ?_)
          refine lv_goto (tgt := 4) hx hb dX7_againAt_33 (by decide) ?_
          exact hf ls (lv_sub hl [2, 3, 1, 0] rfl))
  refine lv_iconst (v := 0) hx hb dX7_againAt_0 (by decide) ?_
  refine lv_istore_n (lv' := [(2, .int 0), (0, .ref (aR 0)), (1, .int x1)]) hx hb dX7_againAt_1 rfl hl (by decide) rfl (fun ls hl => ?_)
  refine lv_iconst (v := 0) hx hb dX7_againAt_2 (by decide) ?_
  refine lv_istore_n (lv' := [(3, .int 0), (2, .int 0), (0, .ref (aR 0)), (1, .int x1)]) hx hb dX7_againAt_3 rfl hl (by decide) rfl (fun ls hl => ?_)
  exact hf ls (lv_sub hl [2, 3, 1, 0] rfl)
def wpX7_endsOf (uR : RSt) (x1 : Int32) (x2 : Int32) (x3 : Int32) (Q : Int64 → Prop) : Prop :=
  ∀ (X6 : Int64 → Int32 → Prop) (X31 : Int32 → Int64 → Prop) (X39 : Int32 → Int64 → Int64 → Prop),
  (∀ (y4 : Int64) (y6 : Int32),
    ((x3 < y6 →
      Q y4) ∧
    (¬ (x3 < y6) →
      (y6 = x1 →
        X31 y6 y4) ∧
      (¬ (y6 = x1) →
        wpX7_alikeAt uR x1 y6 (fun r3 =>
          (r3 < x2 →
            X39 y6 0 y4) ∧
          (¬ (r3 < x2) →
            X31 y6 y4))))) → X6 y4 y6) →
  (∀ (y6 : Int32) (z0 : Int64),
    X39 y6 ((1 : Int64) <<< ((y6 : Int32).toInt64 &&& 63)) z0 → X31 y6 z0) →
  (∀ (y6 : Int32) (z0 : Int64) (z1 : Int64),
    X6 (z1 ||| z0) (y6 + 1) → X39 y6 z0 z1) →
  X6 0 x2
def rmX7_endsOf : Room := { frames := 1, cells := 0, slots := 0, locals := 23 }
set_option maxRecDepth 100000 in
set_option maxHeartbeats 4000000 in
theorem c_X7_endsOf (l : Launch) (D : va_G) (q : Nat → ClassId) (aR : Nat → Nat) (uR : RSt) (x1 : Int32) (x2 : Int32) (x3 : Int32) (Q : Int64 → Prop) (hf : wpX7_endsOf uR x1 x2 x3 Q) : Met l yX7_endsOf wsX7_endsOf rmX7_endsOf (va_Pc [.ref (aR 0), .int x1, .int x2, .int x3] (kP D q (wR aR q uR))) (vp_Sl Q) 0 0 (fun _ => False) := by
  refine Met.ofW (cc := cX7_endsOf) (maxL := 7) (ret := (some .long)) (by decide) rfl ?_
  intro p e s m args below meth c s₁ B hml hv
  obtain ⟨hargs, hP, hK, hD⟩ := hv
  have hx := B.exec
  have hb := B.bytes
  have hr := B.returns
  have hts := atoms_spec (ws := wsX7_endsOf) B.pre
  have hown : s.vm.findClass RX7 = some m.cls := findClass_of_methodNamed B.named
  have hlocks := B.notSynchronized
  refine k_entry hargs (Nat.le_of_ble_eq_true rfl) (fun ls hl => ?_)
  have hl : lv_has ls 7 [(0, .ref (aR 0)), (1, .int x1), (2, .int x2), (3, .int x3)] := hl
  change W p l e rmX7_endsOf s m args below meth c s.heap [] 0 0 (MQ below (vp_Sl Q) args s 0 0 (fun _ => False)) _
  unfold wpX7_endsOf at hf
  have hf := hf
    (fun (y4 : Int64) (y6 : Int32) => ∀ (ls : Array Slot), lv_has ls 7 [(0, .ref (aR 0)), (1, .int x1), (2, .int x2), (3, .int x3), (4, .long y4), (6, .int y6)] → W p l e rmX7_endsOf s m args below meth c s.heap [] 0 0 (MQ below (vp_Sl Q) args s 0 0 (fun _ => False)) (F0 m 6 ls []))
    (fun (y6 : Int32) (z0 : Int64) => ∀ (ls : Array Slot), lv_has ls 7 [(0, .ref (aR 0)), (1, .int x1), (2, .int x2), (3, .int x3), (6, .int y6)] → W p l e rmX7_endsOf s m args below meth c s.heap [] 0 0 (MQ below (vp_Sl Q) args s 0 0 (fun _ => False)) (F0 m 31 ls [.long z0]))
    (fun (y6 : Int32) (z0 : Int64) (z1 : Int64) => ∀ (ls : Array Slot), lv_has ls 7 [(0, .ref (aR 0)), (1, .int x1), (2, .int x2), (3, .int x3), (6, .int y6)] → W p l e rmX7_endsOf s m args below meth c s.heap [] 0 0 (MQ below (vp_Sl Q) args s 0 0 (fun _ => False)) (F0 m 39 ls [.long z0, .long z1]))
    (by
      intro y4 y6 hf ls hl
      refine lv_iload hx hb dX7_endsOf_6 (lv_at hl 5 rfl) ?_
      refine lv_iload_n hx hb dX7_endsOf_8 rfl (lv_at hl 3 rfl) ?_
      refine lv_icmp_gt (tgt := 48) hx hb dX7_endsOf_9 (by decide) (fun c1 => ?_) (fun c1 => ?_)
      · have hf := hf.1 (c1)
        refine lv_lload hx hb dX7_endsOf_48 (lv_at hl 4 rfl) ?_
        exact k_lret_r (v := y4) hx hb hr hlocks hf dX7_endsOf_50
      · have hf := hf.2 (c1)
        refine lv_lload hx hb dX7_endsOf_12 (lv_at hl 4 rfl) ?_
        refine lv_iload hx hb dX7_endsOf_14 (lv_at hl 5 rfl) ?_
        refine lv_iload_n hx hb dX7_endsOf_16 rfl (lv_at hl 1 rfl) ?_
        refine lv_icmp_eq (tgt := 31) hx hb dX7_endsOf_17 (by decide) (fun c2 => ?_) (fun c2 => ?_)
        · have hf := hf.1 (c2)
          exact hf ls (lv_sub hl [0, 1, 2, 3, 5] rfl)
        · have hf := hf.2 (c2)
          refine lv_aload_n hx hb dX7_endsOf_20 rfl (lv_at hl 0 rfl) ?_
          refine lv_iload_n hx hb dX7_endsOf_21 rfl (lv_at hl 1 rfl) ?_
          refine lv_iload hx hb dX7_endsOf_22 (lv_at hl 5 rfl) ?_
          refine k_si (k_runV (As := [.int x1, .int y6]) (rest := [.long y4]) ⟨hx, hb, hml, hown, hts⟩ (c_X7_alikeAt l D q aR uR x1 y6 _ hf) (cwV 2 hts gX7_endsOf_X7_alikeAt rfl rfl rfl cdX7_alikeAt ⟨Nat.le_of_ble_eq_true rfl, Nat.le_of_ble_eq_true rfl⟩) hK hP hD 0 rfl rfl rfl hl.1 rfl (Nat.le_of_ble_eq_true rfl) dX7_endsOf_24 ⟨Nat.le_of_ble_eq_true rfl, Nat.le_of_ble_eq_true rfl⟩) (fun r3 hf => ?_)
          refine lv_iload_n hx hb dX7_endsOf_27 rfl (lv_at hl 2 rfl) ?_
          refine lv_icmp_lt (tgt := 38) hx hb dX7_endsOf_28 (by decide) (fun c4 => ?_) (fun c4 => ?_)
          · have hf := hf.1 (c4)
            refine lv_lconst (v := 0) hx hb dX7_endsOf_38 (by decide) ?_
            exact hf ls (lv_sub hl [0, 1, 2, 3, 5] rfl)
          · have hf := hf.2 (c4)
            exact hf ls (lv_sub hl [0, 1, 2, 3, 5] rfl))
    (by
      intro y6 z0 hf ls hl
      refine lv_lconst (v := 1) hx hb dX7_endsOf_31 (by decide) ?_
      refine lv_iload hx hb dX7_endsOf_32 (lv_at hl 4 rfl) ?_
      refine lv_lshl (v := ((1 : Int64) <<< ((y6 : Int32).toInt64 &&& 63))) hx hb dX7_endsOf_34 rfl ?_
      refine lv_goto (tgt := 39) hx hb dX7_endsOf_35 (by decide) ?_
      exact hf ls (lv_sub hl [0, 1, 2, 3, 4] rfl))
    (by
      intro y6 z0 z1 hf ls hl
      refine lv_lor hx hb dX7_endsOf_39 ?_
      refine lv_lstore (lv' := [(4, .long (z1 ||| z0)), (0, .ref (aR 0)), (1, .int x1), (2, .int x2), (3, .int x3), (6, .int y6)]) hx hb dX7_endsOf_40 hl (by decide) rfl (fun ls hl => ?_)
      refine lv_iinc (v := (y6 + 1)) (lv' := [(6, .int (y6 + 1)), (4, .long (z1 ||| z0)), (0, .ref (aR 0)), (1, .int x1), (2, .int x2), (3, .int x3)]) hx hb dX7_endsOf_42 hl (k := 5) rfl rfl (by decide) rfl (fun ls hl => ?_)
      refine lv_goto (tgt := 6) hx hb dX7_endsOf_45 (by decide) ?_
      exact hf ls (lv_sub hl [2, 3, 4, 5, 1, 0] rfl))
  refine lv_lconst (v := 0) hx hb dX7_endsOf_0 (by decide) ?_
  refine lv_lstore (lv' := [(4, .long 0), (0, .ref (aR 0)), (1, .int x1), (2, .int x2), (3, .int x3)]) hx hb dX7_endsOf_1 hl (by decide) rfl (fun ls hl => ?_)
  refine lv_iload_n hx hb dX7_endsOf_3 rfl (lv_at hl 3 rfl) ?_
  refine lv_istore (lv' := [(6, .int x2), (4, .long 0), (0, .ref (aR 0)), (1, .int x1), (2, .int x2), (3, .int x3)]) hx hb dX7_endsOf_4 hl (by decide) rfl (fun ls hl => ?_)
  exact hf ls (lv_sub hl [2, 3, 4, 5, 1, 0] rfl)
def wpX7_stateOf (uR : RSt) (x1 : Int64) (Q : Int32 → Prop) : Prop :=
  ∀ (X6 : Int32 → Int32 → Prop),
  (∀ (y3 : Int32) (y4 : Int32),
    (((gR_stateMany uR) ≤ y4 →
      Q y3) ∧
    (¬ ((gR_stateMany uR) ≤ y4) →
      vp_in y4 121 ∧
      (((((gR_ends uR) (y4 : Int32).toNatClampNeg) : Int64) = x1 →
        X6 y4 (y4 + 1)) ∧
      (¬ ((((gR_ends uR) (y4 : Int32).toNatClampNeg) : Int64) = x1) →
        X6 y3 (y4 + 1))))) → X6 y3 y4) →
  X6 (-4) 0
def rmX7_stateOf : Room := { frames := 0, cells := 0, slots := 0, locals := 0 }
theorem inX7_stateOf_X7 : ∀ w ∈ wsX70, w ∈ wsX7_stateOf := fun w h => List.mem_cons_of_mem _ (List.mem_append_right _ h)
set_option maxRecDepth 100000 in
set_option maxHeartbeats 4000000 in
theorem c_X7_stateOf (l : Launch) (D : va_G) (q : Nat → ClassId) (aR : Nat → Nat) (uR : RSt) (x1 : Int64) (Q : Int32 → Prop) (hf : wpX7_stateOf uR x1 Q) : Met l yX7_stateOf wsX7_stateOf rmX7_stateOf (va_Pc [.ref (aR 0), .long x1] (kP D q (wR aR q uR))) (vp_Si Q) 0 0 (fun _ => False) := by
  refine Met.ofW (cc := cX7_stateOf) (maxL := 5) (ret := (some .int)) (by decide) rfl ?_
  intro p e s m args below meth c s₁ B hml hv
  obtain ⟨hargs, hP, hK, hD⟩ := hv
  have hx := B.exec
  have hb := B.bytes
  have hr := B.returns
  have hts := atoms_spec (ws := wsX7_stateOf) B.pre
  have hown : s.vm.findClass RX7 = some m.cls := findClass_of_methodNamed B.named
  have hlocks := B.notSynchronized
  refine k_entry hargs (Nat.le_of_ble_eq_true rfl) (fun ls hl => ?_)
  have hl : lv_has ls 5 [(0, .ref (aR 0)), (1, .long x1)] := hl
  change W p l e rmX7_stateOf s m args below meth c s.heap [] 0 0 (MQ below (vp_Si Q) args s 0 0 (fun _ => False)) _
  unfold wpX7_stateOf at hf
  have hf := hf
    (fun (y3 : Int32) (y4 : Int32) => ∀ (ls : Array Slot), lv_has ls 5 [(0, .ref (aR 0)), (1, .long x1), (3, .int y3), (4, .int y4)] → W p l e rmX7_stateOf s m args below meth c s.heap [] 0 0 (MQ below (vp_Si Q) args s 0 0 (fun _ => False)) (F0 m 6 ls []))
    (by
      intro y3 y4 hf ls hl
      refine lv_iload hx hb dX7_stateOf_6 (lv_at hl 3 rfl) ?_
      refine lv_aload_n hx hb dX7_stateOf_8 rfl (lv_at hl 0 rfl) ?_
      refine va_get (D := D) (ci := 5) (v := .int (gR_stateMany uR)) (C := RX7) (T := TX7) (N := 14) hx hb hts inX7_stateOf_X7 hown hK hP 0 rfl rfl 3 (by decide) (hts (.fieldLink RX7 59 "GrowingTextModel" "stateMany" "I") (List.mem_of_getElem? (i := 1) rfl)) (fun _ h9 => h9) rfl dX7_stateOf_9 ?_
      refine lv_icmp_ge (tgt := 40) hx hb dX7_stateOf_12 (by decide) (fun c1 => ?_) (fun c1 => ?_)
      · have hf := hf.1 (c1)
        refine lv_iload_n hx hb dX7_stateOf_40 rfl (lv_at hl 2 rfl) ?_
        exact k_iret_r (v := y3) hx hb hr hlocks hf dX7_stateOf_41
      · have hf := hf.2 (c1)
        refine lv_aload_n hx hb dX7_stateOf_15 rfl (lv_at hl 0 rfl) ?_
        refine va_get (D := D) (ci := 5) (v := .ref (aR 5)) (C := RX7) (T := TX7) (N := 14) hx hb hts inX7_stateOf_X7 hown hK hP 0 rfl rfl 7 (by decide) (hts (.fieldLink RX7 22 "GrowingTextModel" "ends" "[J") (List.mem_of_getElem? (i := 2) rfl)) (fun _ h9 => h9) rfl dX7_stateOf_16 ?_
        refine lv_iload hx hb dX7_stateOf_19 (lv_at hl 3 rfl) ?_
        refine va_lald hx hb hK hP 5 1 (f := (gR_ends uR)) rfl rfl hf.1 dX7_stateOf_21 ?_
        have hf := hf.2
        refine lv_lload_n hx hb dX7_stateOf_22 rfl (lv_at hl 1 rfl) ?_
        refine W.lcmp hx hb dX7_stateOf_23 ?_
        refine lv_if_ne (tgt := 32) hx hb dX7_stateOf_24 (by decide) (fun c2 => ?_) (fun c2 => ?_)
        · have hf := hf.2 ((fun h => c2 ((k_cmp_eq ((gR_ends uR) (y4 : Int32).toNatClampNeg) x1).mpr h)))
          refine lv_iload_n hx hb dX7_stateOf_32 rfl (lv_at hl 2 rfl) ?_
          refine lv_istore_n (lv' := [(3, .int y3), (0, .ref (aR 0)), (1, .long x1), (4, .int y4)]) hx hb dX7_stateOf_33 rfl hl (by decide) rfl (fun ls hl => ?_)
          refine lv_iinc (v := (y4 + 1)) (lv' := [(4, .int (y4 + 1)), (3, .int y3), (0, .ref (aR 0)), (1, .long x1)]) hx hb dX7_stateOf_34 hl (k := 3) rfl rfl (by decide) rfl (fun ls hl => ?_)
          refine lv_goto (tgt := 6) hx hb dX7_stateOf_37 (by decide) ?_
          exact hf ls (lv_sub hl [2, 3, 1, 0] rfl)
        · have hf := hf.1 ((k_cmp_eq ((gR_ends uR) (y4 : Int32).toNatClampNeg) x1).mp c2)
          refine lv_iload hx hb dX7_stateOf_27 (lv_at hl 3 rfl) ?_
          refine lv_goto (tgt := 33) hx hb dX7_stateOf_29 (by decide) ?_
          refine lv_istore_n (lv' := [(3, .int y4), (0, .ref (aR 0)), (1, .long x1), (4, .int y4)]) hx hb dX7_stateOf_33 rfl hl (by decide) rfl (fun ls hl => ?_)
          refine lv_iinc (v := (y4 + 1)) (lv' := [(4, .int (y4 + 1)), (3, .int y4), (0, .ref (aR 0)), (1, .long x1)]) hx hb dX7_stateOf_34 hl (k := 3) rfl rfl (by decide) rfl (fun ls hl => ?_)
          refine lv_goto (tgt := 6) hx hb dX7_stateOf_37 (by decide) ?_
          exact hf ls (lv_sub hl [2, 3, 1, 0] rfl))
  refine lv_bipush (v := (-4)) hx hb dX7_stateOf_0 (by decide) ?_
  refine lv_istore_n (lv' := [(3, .int (-4)), (0, .ref (aR 0)), (1, .long x1)]) hx hb dX7_stateOf_2 rfl hl (by decide) rfl (fun ls hl => ?_)
  refine lv_iconst (v := 0) hx hb dX7_stateOf_3 (by decide) ?_
  refine lv_istore (lv' := [(4, .int 0), (3, .int (-4)), (0, .ref (aR 0)), (1, .long x1)]) hx hb dX7_stateOf_4 hl (by decide) rfl (fun ls hl => ?_)
  exact hf ls (lv_sub hl [2, 3, 1, 0] rfl)
def wpX7_joins (uR : RSt) (x1 : Int32) (x2 : Int32) (x3 : Int64) (Q : RSt → Prop) : Prop :=
  (vp_in (gR_stateMany uR) 121 ∧
  vp_in (gR_stateMany uR) 121 ∧
  vp_in (gR_stateMany uR) 121 ∧
  vp_in (gR_stateMany uR) 121 ∧
  Q (gR_set_stateMany (gR_set_ends (gR_set_cloneOf (gR_set_made (gR_set_longest uR (upd (gR_longest uR) ((gR_stateMany uR) : Int32).toNatClampNeg x1)) (upd (gR_made uR) ((gR_stateMany uR) : Int32).toNatClampNeg (gR_n uR))) (upd (gR_cloneOf uR) ((gR_stateMany uR) : Int32).toNatClampNeg x2)) (vp_updL (gR_ends uR) ((gR_stateMany uR) : Int32).toNatClampNeg x3)) ((gR_stateMany uR) + 1)))
def rmX7_joins : Room := { frames := 0, cells := 0, slots := 0, locals := 0 }
theorem inX7_joins_X7 : ∀ w ∈ wsX70, w ∈ wsX7_joins := fun w h => List.mem_cons_of_mem _ (List.mem_append_right _ h)
set_option maxRecDepth 100000 in
set_option maxHeartbeats 4000000 in
theorem c_X7_joins (l : Launch) (D : va_G) (q : Nat → ClassId) (aR : Nat → Nat) (uR : RSt) (x1 : Int32) (x2 : Int32) (x3 : Int64) (Q : RSt → Prop) (hf : wpX7_joins uR x1 x2 x3 Q) : Met l yX7_joins wsX7_joins rmX7_joins (va_Pc [.ref (aR 0), .int x1, .int x2, .long x3] (kP D q (wR aR q uR))) (va_Qv Q (fun u t => kP D q (wR aR q u) t) (kIn (wR aR q uR))) 0 0 (kIn (wR aR q uR)) := by
  refine Met.ofW (cc := cX7_joins) (maxL := 5) (ret := none) (by decide) rfl ?_
  intro p e s m args below meth c s₁ B hml hv
  obtain ⟨hargs, hP, hK, hD⟩ := hv
  have hx := B.exec
  have hb := B.bytes
  have hr := B.returns
  have hts := atoms_spec (ws := wsX7_joins) B.pre
  have hown : s.vm.findClass RX7 = some m.cls := findClass_of_methodNamed B.named
  have hlocks := B.notSynchronized
  have hD := kd_self hD
  generalize kIn (wR aR q uR) = A at hD ⊢
  have hS : va_S A s.heap s.heap [] := va_S.rf
  refine k_entry hargs (Nat.le_of_ble_eq_true rfl) (fun ls hl => ?_)
  have hl : lv_has ls 5 [(0, .ref (aR 0)), (1, .int x1), (2, .int x2), (3, .long x3)] := hl
  change W p l e rmX7_joins s m args below meth c s.heap [] 0 0 (MQ below (va_Qv Q (fun u t => kP D q (wR aR q u) t) A) args s 0 0 A) _
  unfold wpX7_joins at hf
  obtain ⟨H, hH⟩ : ∃ H, H = s.heap := ⟨_, rfl⟩
  obtain ⟨locs, hlocs⟩ : ∃ x : List Loc, x = [] := ⟨_, rfl⟩
  rw [← hH] at hP
  have hS : va_S A s.heap H locs := by rw [hH, hlocs]; exact hS
  rw [show W p l e rmX7_joins s m args below meth c s.heap [] 0 0 (MQ below (va_Qv Q (fun u t => kP D q (wR aR q u) t) A) args s 0 0 A) (F0 m 0 ls []) = W p l e rmX7_joins s m args below meth c H locs 0 0 (MQ below (va_Qv Q (fun u t => kP D q (wR aR q u) t) A) args s 0 0 A) (F0 m 0 ls []) by rw [hH, hlocs]]
  clear hH hlocs
  refine lv_aload_n hx hb dX7_joins_0 rfl (lv_at hl 0 rfl) ?_
  refine va_get (D := D) (ci := 5) (v := .ref (aR 2)) (C := RX7) (T := TX7) (N := 14) hx hb hts inX7_joins_X7 hown hK hP 0 rfl rfl 4 (by decide) (hts (.fieldLink RX7 13 "GrowingTextModel" "longest" "[I") (List.mem_of_getElem? (i := 1) rfl)) (fun _ h9 => h9) rfl dX7_joins_1 ?_
  refine lv_aload_n hx hb dX7_joins_4 rfl (lv_at hl 0 rfl) ?_
  refine va_get (D := D) (ci := 5) (v := .int (gR_stateMany uR)) (C := RX7) (T := TX7) (N := 14) hx hb hts inX7_joins_X7 hown hK hP 0 rfl rfl 3 (by decide) (hts (.fieldLink RX7 59 "GrowingTextModel" "stateMany" "I") (List.mem_of_getElem? (i := 2) rfl)) (fun _ h9 => h9) rfl dX7_joins_5 ?_
  refine lv_iload_n hx hb dX7_joins_8 rfl (lv_at hl 1 rfl) ?_
  refine va_iast hx hb hK hP hD hS 2 0 (f := (gR_longest uR)) rfl rfl hf.1 dX7_joins_9 (fun H locs hP hD hS => ?_)
  have hf := hf.2
  have hP : va_P D vwCl (wR aR q (gR_set_longest uR (upd (gR_longest uR) ((gR_stateMany uR) : Int32).toNatClampNeg x1))) H := hP
  have hD : va_D A (wR aR q (gR_set_longest uR (upd (gR_longest uR) ((gR_stateMany uR) : Int32).toNatClampNeg x1))) := hD
  refine lv_aload_n hx hb dX7_joins_10 rfl (lv_at hl 0 rfl) ?_
  refine va_get (D := D) (ci := 5) (v := .ref (aR 3)) (C := RX7) (T := TX7) (N := 14) hx hb hts inX7_joins_X7 hown hK hP 0 rfl rfl 5 (by decide) (hts (.fieldLink RX7 16 "GrowingTextModel" "made" "[I") (List.mem_of_getElem? (i := 3) rfl)) (fun _ h9 => h9) rfl dX7_joins_11 ?_
  refine lv_aload_n hx hb dX7_joins_14 rfl (lv_at hl 0 rfl) ?_
  refine va_get (D := D) (ci := 5) (v := .int (gR_stateMany uR)) (C := RX7) (T := TX7) (N := 14) hx hb hts inX7_joins_X7 hown hK hP 0 rfl rfl 3 (by decide) (hts (.fieldLink RX7 59 "GrowingTextModel" "stateMany" "I") (List.mem_of_getElem? (i := 2) rfl)) (fun _ h9 => h9) rfl dX7_joins_15 ?_
  refine lv_aload_n hx hb dX7_joins_18 rfl (lv_at hl 0 rfl) ?_
  refine va_get (D := D) (ci := 5) (v := .int (gR_n uR)) (C := RX7) (T := TX7) (N := 14) hx hb hts inX7_joins_X7 hown hK hP 0 rfl rfl 1 (by decide) (hts (.fieldLink RX7 56 "GrowingTextModel" "n" "I") (List.mem_of_getElem? (i := 4) rfl)) (fun _ h9 => h9) rfl dX7_joins_19 ?_
  refine va_iast hx hb hK hP hD hS 3 0 (f := (gR_made uR)) rfl rfl hf.1 dX7_joins_22 (fun H locs hP hD hS => ?_)
  have hf := hf.2
  have hP : va_P D vwCl (wR aR q (gR_set_made (gR_set_longest uR (upd (gR_longest uR) ((gR_stateMany uR) : Int32).toNatClampNeg x1)) (upd (gR_made uR) ((gR_stateMany uR) : Int32).toNatClampNeg (gR_n uR)))) H := hP
  have hD : va_D A (wR aR q (gR_set_made (gR_set_longest uR (upd (gR_longest uR) ((gR_stateMany uR) : Int32).toNatClampNeg x1)) (upd (gR_made uR) ((gR_stateMany uR) : Int32).toNatClampNeg (gR_n uR)))) := hD
  refine lv_aload_n hx hb dX7_joins_23 rfl (lv_at hl 0 rfl) ?_
  refine va_get (D := D) (ci := 5) (v := .ref (aR 4)) (C := RX7) (T := TX7) (N := 14) hx hb hts inX7_joins_X7 hown hK hP 0 rfl rfl 6 (by decide) (hts (.fieldLink RX7 19 "GrowingTextModel" "cloneOf" "[I") (List.mem_of_getElem? (i := 5) rfl)) (fun _ h9 => h9) rfl dX7_joins_24 ?_
  refine lv_aload_n hx hb dX7_joins_27 rfl (lv_at hl 0 rfl) ?_
  refine va_get (D := D) (ci := 5) (v := .int (gR_stateMany uR)) (C := RX7) (T := TX7) (N := 14) hx hb hts inX7_joins_X7 hown hK hP 0 rfl rfl 3 (by decide) (hts (.fieldLink RX7 59 "GrowingTextModel" "stateMany" "I") (List.mem_of_getElem? (i := 2) rfl)) (fun _ h9 => h9) rfl dX7_joins_28 ?_
  refine lv_iload_n hx hb dX7_joins_31 rfl (lv_at hl 2 rfl) ?_
  refine va_iast hx hb hK hP hD hS 4 0 (f := (gR_cloneOf uR)) rfl rfl hf.1 dX7_joins_32 (fun H locs hP hD hS => ?_)
  have hf := hf.2
  have hP : va_P D vwCl (wR aR q (gR_set_cloneOf (gR_set_made (gR_set_longest uR (upd (gR_longest uR) ((gR_stateMany uR) : Int32).toNatClampNeg x1)) (upd (gR_made uR) ((gR_stateMany uR) : Int32).toNatClampNeg (gR_n uR))) (upd (gR_cloneOf uR) ((gR_stateMany uR) : Int32).toNatClampNeg x2))) H := hP
  have hD : va_D A (wR aR q (gR_set_cloneOf (gR_set_made (gR_set_longest uR (upd (gR_longest uR) ((gR_stateMany uR) : Int32).toNatClampNeg x1)) (upd (gR_made uR) ((gR_stateMany uR) : Int32).toNatClampNeg (gR_n uR))) (upd (gR_cloneOf uR) ((gR_stateMany uR) : Int32).toNatClampNeg x2))) := hD
  refine lv_aload_n hx hb dX7_joins_33 rfl (lv_at hl 0 rfl) ?_
  refine va_get (D := D) (ci := 5) (v := .ref (aR 5)) (C := RX7) (T := TX7) (N := 14) hx hb hts inX7_joins_X7 hown hK hP 0 rfl rfl 7 (by decide) (hts (.fieldLink RX7 22 "GrowingTextModel" "ends" "[J") (List.mem_of_getElem? (i := 6) rfl)) (fun _ h9 => h9) rfl dX7_joins_34 ?_
  refine lv_aload_n hx hb dX7_joins_37 rfl (lv_at hl 0 rfl) ?_
  refine va_get (D := D) (ci := 5) (v := .int (gR_stateMany uR)) (C := RX7) (T := TX7) (N := 14) hx hb hts inX7_joins_X7 hown hK hP 0 rfl rfl 3 (by decide) (hts (.fieldLink RX7 59 "GrowingTextModel" "stateMany" "I") (List.mem_of_getElem? (i := 2) rfl)) (fun _ h9 => h9) rfl dX7_joins_38 ?_
  refine lv_lload_n hx hb dX7_joins_41 rfl (lv_at hl 3 rfl) ?_
  refine va_last hx hb hK hP hD hS 5 1 (f := (gR_ends uR)) rfl rfl hf.1 dX7_joins_42 (fun H locs hP hD hS => ?_)
  have hf := hf.2
  have hP : va_P D vwCl (wR aR q (gR_set_ends (gR_set_cloneOf (gR_set_made (gR_set_longest uR (upd (gR_longest uR) ((gR_stateMany uR) : Int32).toNatClampNeg x1)) (upd (gR_made uR) ((gR_stateMany uR) : Int32).toNatClampNeg (gR_n uR))) (upd (gR_cloneOf uR) ((gR_stateMany uR) : Int32).toNatClampNeg x2)) (vp_updL (gR_ends uR) ((gR_stateMany uR) : Int32).toNatClampNeg x3))) H := hP
  have hD : va_D A (wR aR q (gR_set_ends (gR_set_cloneOf (gR_set_made (gR_set_longest uR (upd (gR_longest uR) ((gR_stateMany uR) : Int32).toNatClampNeg x1)) (upd (gR_made uR) ((gR_stateMany uR) : Int32).toNatClampNeg (gR_n uR))) (upd (gR_cloneOf uR) ((gR_stateMany uR) : Int32).toNatClampNeg x2)) (vp_updL (gR_ends uR) ((gR_stateMany uR) : Int32).toNatClampNeg x3))) := hD
  refine lv_aload_n hx hb dX7_joins_43 rfl (lv_at hl 0 rfl) ?_
  refine lv_dup hx hb dX7_joins_44 rfl ?_
  refine va_get (D := D) (ci := 5) (v := .int (gR_stateMany uR)) (C := RX7) (T := TX7) (N := 14) hx hb hts inX7_joins_X7 hown hK hP 0 rfl rfl 3 (by decide) (hts (.fieldLink RX7 59 "GrowingTextModel" "stateMany" "I") (List.mem_of_getElem? (i := 2) rfl)) (fun _ h9 => h9) rfl dX7_joins_45 ?_
  refine lv_iconst (v := 1) hx hb dX7_joins_48 (by decide) ?_
  refine lv_iadd hx hb dX7_joins_49 ?_
  refine va_put (D := D) (ci := 5) (v := .int ((gR_stateMany uR) + 1)) (ty := .int) (C := RX7) (T := TX7) (N := 14) hx hb hts inX7_joins_X7 tyX7 tyX7_ok nmX7 hown hK hP hD hS 0 rfl rfl 3 (by decide) (hts (.fieldLink RX7 59 "GrowingTextModel" "stateMany" "I") (List.mem_of_getElem? (i := 2) rfl)) (fun _ h9 => h9) rfl (by decide +kernel) rfl rfl (Nat.le_of_ble_eq_true rfl) dX7_joins_50 (fun H locs hP hD hS => ?_)
  have hP : va_P D vwCl (wR aR q (gR_set_stateMany (gR_set_ends (gR_set_cloneOf (gR_set_made (gR_set_longest uR (upd (gR_longest uR) ((gR_stateMany uR) : Int32).toNatClampNeg x1)) (upd (gR_made uR) ((gR_stateMany uR) : Int32).toNatClampNeg (gR_n uR))) (upd (gR_cloneOf uR) ((gR_stateMany uR) : Int32).toNatClampNeg x2)) (vp_updL (gR_ends uR) ((gR_stateMany uR) : Int32).toNatClampNeg x3)) ((gR_stateMany uR) + 1))) H := hP
  have hD : va_D A (wR aR q (gR_set_stateMany (gR_set_ends (gR_set_cloneOf (gR_set_made (gR_set_longest uR (upd (gR_longest uR) ((gR_stateMany uR) : Int32).toNatClampNeg x1)) (upd (gR_made uR) ((gR_stateMany uR) : Int32).toNatClampNeg (gR_n uR))) (upd (gR_cloneOf uR) ((gR_stateMany uR) : Int32).toNatClampNeg x2)) (vp_updL (gR_ends uR) ((gR_stateMany uR) : Int32).toNatClampNeg x3)) ((gR_stateMany uR) + 1))) := hD
  exact k_vret_w (wf := (fun u => wR aR q u)) (post := Q) (u := (gR_set_stateMany (gR_set_ends (gR_set_cloneOf (gR_set_made (gR_set_longest uR (upd (gR_longest uR) ((gR_stateMany uR) : Int32).toNatClampNeg x1)) (upd (gR_made uR) ((gR_stateMany uR) : Int32).toNatClampNeg (gR_n uR))) (upd (gR_cloneOf uR) ((gR_stateMany uR) : Int32).toNatClampNeg x2)) (vp_updL (gR_ends uR) ((gR_stateMany uR) : Int32).toNatClampNeg x3)) ((gR_stateMany uR) + 1))) hx hb hr hlocks hK hP hD hS hf dX7_joins_53
def wpX7_grows (uR : RSt) (x1 : Int32) (Q : RSt → Prop) : Prop :=
  ∀ (X55 : Int32 → Int64 → Int32 → Int32 → RSt → Prop) (X114 : Int32 → Int64 → Int32 → Int32 → RSt → Prop) (X115 : Int32 → Int64 → Int32 → Int32 → Int32 → RSt → Prop) (X140 : Int32 → Int64 → Int32 → Int32 → Int64 → Int64 → Int32 → RSt → Prop),
  (∀ (y2 : Int32) (y3 : Int64) (y5 : Int32) (y6 : Int32) (tR : RSt),
    (((gR_stateMany tR) ≤ y6 →
      wpX7_joins tR (gR_n tR) (-4) ((1 : Int64) <<< (((gR_n tR) : Int32).toInt64 &&& 63)) (fun uR5 =>
        vp_in y5 121 ∧
        ((((gR_longest uR5) (y5 : Int32).toNatClampNeg) ≤ y2 →
          Q uR5) ∧
        (¬ (((gR_longest uR5) (y5 : Int32).toNatClampNeg) ≤ y2) →
          wpX7_joins uR5 y2 y5 (y3 ||| ((1 : Int64) <<< (((gR_n uR5) : Int32).toInt64 &&& 63))) (fun uR7 =>
            Q uR7))))) ∧
    (¬ ((gR_stateMany tR) ≤ y6) →
      vp_in y6 121 ∧
      wpX7_least ((gR_ends tR) (y6 : Int32).toNatClampNeg) (fun r8 =>
        vp_in y6 121 ∧
        (((gR_n tR) < ((gR_longest tR) (y6 : Int32).toNatClampNeg) →
          X114 y2 y3 y5 y6 tR) ∧
        (¬ ((gR_n tR) < ((gR_longest tR) (y6 : Int32).toNatClampNeg)) →
          wpX7_alikeAt tR r8 (gR_n tR) (fun r10 =>
            vp_in y6 121 ∧
            ((r10 < ((gR_longest tR) (y6 : Int32).toNatClampNeg) →
              X114 y2 y3 y5 y6 tR) ∧
            (¬ (r10 < ((gR_longest tR) (y6 : Int32).toNatClampNeg)) →
              X115 y2 y3 y5 y6 1 tR)))))))) → X55 y2 y3 y5 y6 tR) →
  (∀ (y2 : Int32) (y3 : Int64) (y5 : Int32) (y6 : Int32) (tR : RSt),
    X115 y2 y3 y5 y6 0 tR → X114 y2 y3 y5 y6 tR) →
  (∀ (y2 : Int32) (y3 : Int64) (y5 : Int32) (y6 : Int32) (z0 : Int32) (tR : RSt),
    (vp_in y6 121 ∧
    ((z0 = 0 →
      X140 y2 y3 y5 y6 0 ((gR_ends tR) (y6 : Int32).toNatClampNeg) y6 tR) ∧
    (¬ (z0 = 0) →
      X140 y2 y3 y5 y6 ((1 : Int64) <<< (((gR_n tR) : Int32).toInt64 &&& 63)) ((gR_ends tR) (y6 : Int32).toNatClampNeg) y6 tR))) → X115 y2 y3 y5 y6 z0 tR) →
  (∀ (y2 : Int32) (y3 : Int64) (y5 : Int32) (y6 : Int32) (z0 : Int64) (z1 : Int64) (z2 : Int32) (tR : RSt),
    (vp_in z2 121 ∧
    X55 y2 y3 y5 (y6 + 1) (gR_set_ends tR (vp_updL (gR_ends tR) (z2 : Int32).toNatClampNeg (z1 ||| z0)))) → X140 y2 y3 y5 y6 z0 z1 z2 tR) →
  (vp_in (gR_n uR) 60 ∧
  wpX7_againAt (gR_set_n (gR_set_text uR (upd (gR_text uR) ((gR_n uR) : Int32).toNatClampNeg x1)) ((gR_n uR) + 1)) ((gR_n uR) + 1) (fun r1 =>
    wpX7_endsOf (gR_set_n (gR_set_text uR (upd (gR_text uR) ((gR_n uR) : Int32).toNatClampNeg x1)) ((gR_n uR) + 1)) ((gR_n uR) + 1) r1 (((gR_n uR) + 1) - 1) (fun r2 =>
      wpX7_stateOf (gR_set_n (gR_set_text uR (upd (gR_text uR) ((gR_n uR) : Int32).toNatClampNeg x1)) ((gR_n uR) + 1)) r2 (fun r3 =>
        X55 r1 r2 r3 0 (gR_set_n (gR_set_text uR (upd (gR_text uR) ((gR_n uR) : Int32).toNatClampNeg x1)) ((gR_n uR) + 1))))))
def rmX7_grows : Room := { frames := 2, cells := 0, slots := 0, locals := 49 }
theorem inX7_grows_X7 : ∀ w ∈ wsX70, w ∈ wsX7_grows := fun w h => List.mem_cons_of_mem _ (List.mem_append_right _ h)
set_option maxRecDepth 100000 in
set_option maxHeartbeats 4000000 in
theorem c_X7_grows (l : Launch) (D : va_G) (q : Nat → ClassId) (aR : Nat → Nat) (uR : RSt) (x1 : Int32) (Q : RSt → Prop) (hf : wpX7_grows uR x1 Q) : Met l yX7_grows wsX7_grows rmX7_grows (va_Pc [.ref (aR 0), .int x1] (kP D q (wR aR q uR))) (va_Qv Q (fun u t => kP D q (wR aR q u) t) (kIn (wR aR q uR))) 0 0 (kIn (wR aR q uR)) := by
  refine Met.ofW (cc := cX7_grows) (maxL := 9) (ret := none) (by decide) rfl ?_
  intro p e s m args below meth c s₁ B hml hv
  obtain ⟨hargs, hP, hK, hD⟩ := hv
  have hx := B.exec
  have hb := B.bytes
  have hr := B.returns
  have hts := atoms_spec (ws := wsX7_grows) B.pre
  have hown : s.vm.findClass RX7 = some m.cls := findClass_of_methodNamed B.named
  have hlocks := B.notSynchronized
  have hD := kd_self hD
  generalize kIn (wR aR q uR) = A at hD ⊢
  have hS : va_S A s.heap s.heap [] := va_S.rf
  refine k_entry hargs (Nat.le_of_ble_eq_true rfl) (fun ls hl => ?_)
  have hl : lv_has ls 9 [(0, .ref (aR 0)), (1, .int x1)] := hl
  change W p l e rmX7_grows s m args below meth c s.heap [] 0 0 (MQ below (va_Qv Q (fun u t => kP D q (wR aR q u) t) A) args s 0 0 A) _
  unfold wpX7_grows at hf
  obtain ⟨H, hH⟩ : ∃ H, H = s.heap := ⟨_, rfl⟩
  obtain ⟨locs, hlocs⟩ : ∃ x : List Loc, x = [] := ⟨_, rfl⟩
  rw [← hH] at hP
  have hS : va_S A s.heap H locs := by rw [hH, hlocs]; exact hS
  rw [show W p l e rmX7_grows s m args below meth c s.heap [] 0 0 (MQ below (va_Qv Q (fun u t => kP D q (wR aR q u) t) A) args s 0 0 A) (F0 m 0 ls []) = W p l e rmX7_grows s m args below meth c H locs 0 0 (MQ below (va_Qv Q (fun u t => kP D q (wR aR q u) t) A) args s 0 0 A) (F0 m 0 ls []) by rw [hH, hlocs]]
  clear hH hlocs
  have hf := hf
    (fun (y2 : Int32) (y3 : Int64) (y5 : Int32) (y6 : Int32) (tR : RSt) => ∀ (H : Heap) (locs : List Loc) (ls : Array Slot), va_P D vwCl (wR aR q tR) H → va_D A (wR aR q tR) → va_S A s.heap H locs → lv_has ls 9 [(0, .ref (aR 0)), (2, .int y2), (3, .long y3), (5, .int y5), (6, .int y6)] → W p l e rmX7_grows s m args below meth c H locs 0 0 (MQ below (va_Qv Q (fun u t => kP D q (wR aR q u) t) A) args s 0 0 A) (F0 m 55 ls []))
    (fun (y2 : Int32) (y3 : Int64) (y5 : Int32) (y6 : Int32) (tR : RSt) => ∀ (H : Heap) (locs : List Loc) (ls : Array Slot), va_P D vwCl (wR aR q tR) H → va_D A (wR aR q tR) → va_S A s.heap H locs → lv_has ls 9 [(0, .ref (aR 0)), (2, .int y2), (3, .long y3), (5, .int y5), (6, .int y6)] → W p l e rmX7_grows s m args below meth c H locs 0 0 (MQ below (va_Qv Q (fun u t => kP D q (wR aR q u) t) A) args s 0 0 A) (F0 m 114 ls []))
    (fun (y2 : Int32) (y3 : Int64) (y5 : Int32) (y6 : Int32) (z0 : Int32) (tR : RSt) => ∀ (H : Heap) (locs : List Loc) (ls : Array Slot), va_P D vwCl (wR aR q tR) H → va_D A (wR aR q tR) → va_S A s.heap H locs → lv_has ls 9 [(0, .ref (aR 0)), (2, .int y2), (3, .long y3), (5, .int y5), (6, .int y6)] → W p l e rmX7_grows s m args below meth c H locs 0 0 (MQ below (va_Qv Q (fun u t => kP D q (wR aR q u) t) A) args s 0 0 A) (F0 m 115 ls [.int z0]))
    (fun (y2 : Int32) (y3 : Int64) (y5 : Int32) (y6 : Int32) (z0 : Int64) (z1 : Int64) (z2 : Int32) (tR : RSt) => ∀ (H : Heap) (locs : List Loc) (ls : Array Slot), va_P D vwCl (wR aR q tR) H → va_D A (wR aR q tR) → va_S A s.heap H locs → lv_has ls 9 [(0, .ref (aR 0)), (2, .int y2), (3, .long y3), (5, .int y5), (6, .int y6)] → W p l e rmX7_grows s m args below meth c H locs 0 0 (MQ below (va_Qv Q (fun u t => kP D q (wR aR q u) t) A) args s 0 0 A) (F0 m 140 ls [.long z0, .long z1, .int z2, .ref (aR 5)]))
    (by
      intro y2 y3 y5 y6 tR hf H locs ls hP hD hS hl
      refine lv_iload hx hb dX7_grows_55 (lv_at hl 4 rfl) ?_
      refine lv_aload_n hx hb dX7_grows_57 rfl (lv_at hl 0 rfl) ?_
      refine va_get (D := D) (ci := 5) (v := .int (gR_stateMany tR)) (C := RX7) (T := TX7) (N := 14) hx hb hts inX7_grows_X7 hown hK hP 0 rfl rfl 3 (by decide) (hts (.fieldLink RX7 59 "GrowingTextModel" "stateMany" "I") (List.mem_of_getElem? (i := 3) rfl)) (fun _ h9 => h9) rfl dX7_grows_58 ?_
      refine lv_icmp_ge (tgt := 148) hx hb dX7_grows_61 (by decide) (fun c4 => ?_) (fun c4 => ?_)
      · have hf := hf.1 (c4)
        refine lv_aload_n hx hb dX7_grows_148 rfl (lv_at hl 0 rfl) ?_
        refine lv_aload_n hx hb dX7_grows_149 rfl (lv_at hl 0 rfl) ?_
        refine va_get (D := D) (ci := 5) (v := .int (gR_n tR)) (C := RX7) (T := TX7) (N := 14) hx hb hts inX7_grows_X7 hown hK hP 0 rfl rfl 1 (by decide) (hts (.fieldLink RX7 56 "GrowingTextModel" "n" "I") (List.mem_of_getElem? (i := 2) rfl)) (fun _ h9 => h9) rfl dX7_grows_150 ?_
        refine lv_bipush (v := (-4)) hx hb dX7_grows_153 (by decide) ?_
        refine lv_lconst (v := 1) hx hb dX7_grows_155 (by decide) ?_
        refine lv_aload_n hx hb dX7_grows_156 rfl (lv_at hl 0 rfl) ?_
        refine va_get (D := D) (ci := 5) (v := .int (gR_n tR)) (C := RX7) (T := TX7) (N := 14) hx hb hts inX7_grows_X7 hown hK hP 0 rfl rfl 1 (by decide) (hts (.fieldLink RX7 56 "GrowingTextModel" "n" "I") (List.mem_of_getElem? (i := 2) rfl)) (fun _ h9 => h9) rfl dX7_grows_157 ?_
        refine lv_lshl (v := ((1 : Int64) <<< (((gR_n tR) : Int32).toInt64 &&& 63))) hx hb dX7_grows_160 rfl ?_
        refine k_wv (wf := fun u => wR aR q u) (u0 := tR) (k_runV (As := [.int (gR_n tR), .int (-4), .long ((1 : Int64) <<< (((gR_n tR) : Int32).toInt64 &&& 63))]) (rest := []) ⟨hx, hb, hml, hown, hts⟩ (c_X7_joins l D q aR tR (gR_n tR) (-4) ((1 : Int64) <<< (((gR_n tR) : Int32).toInt64 &&& 63)) _ hf) (cwV 3 hts gX7_grows_X7_joins rfl rfl rfl cdX7_joins ⟨Nat.le_of_ble_eq_true rfl, Nat.le_of_ble_eq_true rfl⟩) hK hP hD 0 rfl rfl rfl hl.1 rfl (Nat.le_of_ble_eq_true rfl) dX7_grows_161 ⟨Nat.le_of_ble_eq_true rfl, Nat.le_of_ble_eq_true rfl⟩) ([]) ([]) (fun _ => rfl) hP hD hS (fun uR5 H locs hf hP hD hS => ?_)
        have hP : va_P D vwCl (wR aR q uR5) H := hP
        have hD : va_D A (wR aR q uR5) := hD
        refine lv_aload_n hx hb dX7_grows_164 rfl (lv_at hl 0 rfl) ?_
        refine va_get (D := D) (ci := 5) (v := .ref (aR 2)) (C := RX7) (T := TX7) (N := 14) hx hb hts inX7_grows_X7 hown hK hP 0 rfl rfl 4 (by decide) (hts (.fieldLink RX7 13 "GrowingTextModel" "longest" "[I") (List.mem_of_getElem? (i := 5) rfl)) (fun _ h9 => h9) rfl dX7_grows_165 ?_
        refine lv_iload hx hb dX7_grows_168 (lv_at hl 3 rfl) ?_
        refine va_iald hx hb hK hP 2 0 (f := (gR_longest uR5)) rfl rfl hf.1 dX7_grows_170 ?_
        have hf := hf.2
        refine lv_iload_n hx hb dX7_grows_171 rfl (lv_at hl 1 rfl) ?_
        refine lv_icmp_le (tgt := 190) hx hb dX7_grows_172 (by decide) (fun c6 => ?_) (fun c6 => ?_)
        · have hf := hf.1 (c6)
          exact k_vret_w (wf := (fun u => wR aR q u)) (post := Q) (u := uR5) hx hb hr hlocks hK hP hD hS hf dX7_grows_190
        · have hf := hf.2 (c6)
          refine lv_aload_n hx hb dX7_grows_175 rfl (lv_at hl 0 rfl) ?_
          refine lv_iload_n hx hb dX7_grows_176 rfl (lv_at hl 1 rfl) ?_
          refine lv_iload hx hb dX7_grows_177 (lv_at hl 3 rfl) ?_
          refine lv_lload_n hx hb dX7_grows_179 rfl (lv_at hl 2 rfl) ?_
          refine lv_lconst (v := 1) hx hb dX7_grows_180 (by decide) ?_
          refine lv_aload_n hx hb dX7_grows_181 rfl (lv_at hl 0 rfl) ?_
          refine va_get (D := D) (ci := 5) (v := .int (gR_n uR5)) (C := RX7) (T := TX7) (N := 14) hx hb hts inX7_grows_X7 hown hK hP 0 rfl rfl 1 (by decide) (hts (.fieldLink RX7 56 "GrowingTextModel" "n" "I") (List.mem_of_getElem? (i := 2) rfl)) (fun _ h9 => h9) rfl dX7_grows_182 ?_
          refine lv_lshl (v := ((1 : Int64) <<< (((gR_n uR5) : Int32).toInt64 &&& 63))) hx hb dX7_grows_185 rfl ?_
          refine lv_lor hx hb dX7_grows_186 ?_
          refine k_wv (wf := fun u => wR aR q u) (u0 := uR5) (k_runV (As := [.int y2, .int y5, .long (y3 ||| ((1 : Int64) <<< (((gR_n uR5) : Int32).toInt64 &&& 63)))]) (rest := []) ⟨hx, hb, hml, hown, hts⟩ (c_X7_joins l D q aR uR5 y2 y5 (y3 ||| ((1 : Int64) <<< (((gR_n uR5) : Int32).toInt64 &&& 63))) _ hf) (cwV 3 hts gX7_grows_X7_joins rfl rfl rfl cdX7_joins ⟨Nat.le_of_ble_eq_true rfl, Nat.le_of_ble_eq_true rfl⟩) hK hP hD 0 rfl rfl rfl hl.1 rfl (Nat.le_of_ble_eq_true rfl) dX7_grows_187 ⟨Nat.le_of_ble_eq_true rfl, Nat.le_of_ble_eq_true rfl⟩) ([]) ([]) (fun _ => rfl) hP hD hS (fun uR7 H locs hf hP hD hS => ?_)
          have hP : va_P D vwCl (wR aR q uR7) H := hP
          have hD : va_D A (wR aR q uR7) := hD
          exact k_vret_w (wf := (fun u => wR aR q u)) (post := Q) (u := uR7) hx hb hr hlocks hK hP hD hS hf dX7_grows_190
      · have hf := hf.2 (c4)
        refine lv_aload_n hx hb dX7_grows_64 rfl (lv_at hl 0 rfl) ?_
        refine va_get (D := D) (ci := 5) (v := .ref (aR 5)) (C := RX7) (T := TX7) (N := 14) hx hb hts inX7_grows_X7 hown hK hP 0 rfl rfl 7 (by decide) (hts (.fieldLink RX7 22 "GrowingTextModel" "ends" "[J") (List.mem_of_getElem? (i := 4) rfl)) (fun _ h9 => h9) rfl dX7_grows_65 ?_
        refine lv_iload hx hb dX7_grows_68 (lv_at hl 4 rfl) ?_
        refine va_lald hx hb hK hP 5 1 (f := (gR_ends tR)) rfl rfl hf.1 dX7_grows_70 ?_
        have hf := hf.2
        refine k_si (k_runS (As := [.long ((gR_ends tR) (y6 : Int32).toNatClampNeg)]) (rest := []) ⟨hx, hb, hml, hown, hts⟩ (c_X7_least l D q ((gR_ends tR) (y6 : Int32).toNatClampNeg) _ hf) (va_cwS 1 hts gX7_grows_X7_least rfl rfl rfl cdX7_least ⟨Nat.le_of_ble_eq_true rfl, Nat.le_of_ble_eq_true rfl⟩) hK k_nilP k_nilD rfl hl.1 rfl (Nat.le_of_ble_eq_true rfl) dX7_grows_71 ⟨Nat.le_of_ble_eq_true rfl, Nat.le_of_ble_eq_true rfl⟩) (fun r8 hf => ?_)
        refine lv_istore (lv' := [(7, .int r8), (0, .ref (aR 0)), (2, .int y2), (3, .long y3), (5, .int y5), (6, .int y6)]) hx hb dX7_grows_74 hl (by decide) rfl (fun ls hl => ?_)
        refine lv_aload_n hx hb dX7_grows_76 rfl (lv_at hl 1 rfl) ?_
        refine va_get (D := D) (ci := 5) (v := .ref (aR 2)) (C := RX7) (T := TX7) (N := 14) hx hb hts inX7_grows_X7 hown hK hP 0 rfl rfl 4 (by decide) (hts (.fieldLink RX7 13 "GrowingTextModel" "longest" "[I") (List.mem_of_getElem? (i := 5) rfl)) (fun _ h9 => h9) rfl dX7_grows_77 ?_
        refine lv_iload hx hb dX7_grows_80 (lv_at hl 5 rfl) ?_
        refine va_iald hx hb hK hP 2 0 (f := (gR_longest tR)) rfl rfl hf.1 dX7_grows_82 ?_
        have hf := hf.2
        refine lv_aload_n hx hb dX7_grows_83 rfl (lv_at hl 1 rfl) ?_
        refine va_get (D := D) (ci := 5) (v := .int (gR_n tR)) (C := RX7) (T := TX7) (N := 14) hx hb hts inX7_grows_X7 hown hK hP 0 rfl rfl 1 (by decide) (hts (.fieldLink RX7 56 "GrowingTextModel" "n" "I") (List.mem_of_getElem? (i := 2) rfl)) (fun _ h9 => h9) rfl dX7_grows_84 ?_
        refine lv_icmp_gt (tgt := 114) hx hb dX7_grows_87 (by decide) (fun c9 => ?_) (fun c9 => ?_)
        · have hf := hf.1 (c9)
          exact hf H locs ls hP hD hS (lv_sub hl [1, 2, 3, 4, 5] rfl)
        · have hf := hf.2 (c9)
          refine lv_aload_n hx hb dX7_grows_90 rfl (lv_at hl 1 rfl) ?_
          refine lv_iload hx hb dX7_grows_91 (lv_at hl 0 rfl) ?_
          refine lv_aload_n hx hb dX7_grows_93 rfl (lv_at hl 1 rfl) ?_
          refine va_get (D := D) (ci := 5) (v := .int (gR_n tR)) (C := RX7) (T := TX7) (N := 14) hx hb hts inX7_grows_X7 hown hK hP 0 rfl rfl 1 (by decide) (hts (.fieldLink RX7 56 "GrowingTextModel" "n" "I") (List.mem_of_getElem? (i := 2) rfl)) (fun _ h9 => h9) rfl dX7_grows_94 ?_
          refine k_si (k_runV (As := [.int r8, .int (gR_n tR)]) (rest := []) ⟨hx, hb, hml, hown, hts⟩ (c_X7_alikeAt l D q aR tR r8 (gR_n tR) _ hf) (cwV 2 hts gX7_grows_X7_alikeAt rfl rfl rfl cdX7_alikeAt ⟨Nat.le_of_ble_eq_true rfl, Nat.le_of_ble_eq_true rfl⟩) hK hP hD 0 rfl rfl rfl hl.1 rfl (Nat.le_of_ble_eq_true rfl) dX7_grows_97 ⟨Nat.le_of_ble_eq_true rfl, Nat.le_of_ble_eq_true rfl⟩) (fun r10 hf => ?_)
          refine lv_aload_n hx hb dX7_grows_100 rfl (lv_at hl 1 rfl) ?_
          refine va_get (D := D) (ci := 5) (v := .ref (aR 2)) (C := RX7) (T := TX7) (N := 14) hx hb hts inX7_grows_X7 hown hK hP 0 rfl rfl 4 (by decide) (hts (.fieldLink RX7 13 "GrowingTextModel" "longest" "[I") (List.mem_of_getElem? (i := 5) rfl)) (fun _ h9 => h9) rfl dX7_grows_101 ?_
          refine lv_iload hx hb dX7_grows_104 (lv_at hl 5 rfl) ?_
          refine va_iald hx hb hK hP 2 0 (f := (gR_longest tR)) rfl rfl hf.1 dX7_grows_106 ?_
          have hf := hf.2
          refine lv_icmp_lt (tgt := 114) hx hb dX7_grows_107 (by decide) (fun c11 => ?_) (fun c11 => ?_)
          · have hf := hf.1 (c11)
            exact hf H locs ls hP hD hS (lv_sub hl [1, 2, 3, 4, 5] rfl)
          · have hf := hf.2 (c11)
            refine lv_iconst (v := 1) hx hb dX7_grows_110 (by decide) ?_
            refine lv_goto (tgt := 115) hx hb dX7_grows_111 (by decide) ?_
            exact hf H locs ls hP hD hS (lv_sub hl [1, 2, 3, 4, 5] rfl))
    (by
      intro y2 y3 y5 y6 tR hf H locs ls hP hD hS hl
      refine lv_iconst (v := 0) hx hb dX7_grows_114 (by decide) ?_
      exact hf H locs ls hP hD hS (lv_sub hl [0, 1, 2, 3, 4] rfl))
    (by
      intro y2 y3 y5 y6 z0 tR hf H locs ls hP hD hS hl
      refine lv_istore (lv' := [(8, .int z0), (0, .ref (aR 0)), (2, .int y2), (3, .long y3), (5, .int y5), (6, .int y6)]) hx hb dX7_grows_115 hl (by decide) rfl (fun ls hl => ?_)
      refine lv_aload_n hx hb dX7_grows_117 rfl (lv_at hl 1 rfl) ?_
      refine va_get (D := D) (ci := 5) (v := .ref (aR 5)) (C := RX7) (T := TX7) (N := 14) hx hb hts inX7_grows_X7 hown hK hP 0 rfl rfl 7 (by decide) (hts (.fieldLink RX7 22 "GrowingTextModel" "ends" "[J") (List.mem_of_getElem? (i := 4) rfl)) (fun _ h9 => h9) rfl dX7_grows_118 ?_
      refine lv_iload hx hb dX7_grows_121 (lv_at hl 5 rfl) ?_
      refine lv_dup2_11 hx hb dX7_grows_123 rfl rfl ?_
      refine va_lald hx hb hK hP 5 1 (f := (gR_ends tR)) rfl rfl hf.1 dX7_grows_124 ?_
      have hf := hf.2
      refine lv_iload hx hb dX7_grows_125 (lv_at hl 0 rfl) ?_
      refine lv_if_eq (tgt := 139) hx hb dX7_grows_127 (by decide) (fun c12 => ?_) (fun c12 => ?_)
      · have hf := hf.1 (c12)
        refine lv_lconst (v := 0) hx hb dX7_grows_139 (by decide) ?_
        exact hf H locs ls hP hD hS (lv_sub hl [1, 2, 3, 4, 5] rfl)
      · have hf := hf.2 (c12)
        refine lv_lconst (v := 1) hx hb dX7_grows_130 (by decide) ?_
        refine lv_aload_n hx hb dX7_grows_131 rfl (lv_at hl 1 rfl) ?_
        refine va_get (D := D) (ci := 5) (v := .int (gR_n tR)) (C := RX7) (T := TX7) (N := 14) hx hb hts inX7_grows_X7 hown hK hP 0 rfl rfl 1 (by decide) (hts (.fieldLink RX7 56 "GrowingTextModel" "n" "I") (List.mem_of_getElem? (i := 2) rfl)) (fun _ h9 => h9) rfl dX7_grows_132 ?_
        refine lv_lshl (v := ((1 : Int64) <<< (((gR_n tR) : Int32).toInt64 &&& 63))) hx hb dX7_grows_135 rfl ?_
        refine lv_goto (tgt := 140) hx hb dX7_grows_136 (by decide) ?_
        exact hf H locs ls hP hD hS (lv_sub hl [1, 2, 3, 4, 5] rfl))
    (by
      intro y2 y3 y5 y6 z0 z1 z2 tR hf H locs ls hP hD hS hl
      refine lv_lor hx hb dX7_grows_140 ?_
      refine va_last hx hb hK hP hD hS 5 1 (f := (gR_ends tR)) rfl rfl hf.1 dX7_grows_141 (fun H locs hP hD hS => ?_)
      have hf := hf.2
      have hP : va_P D vwCl (wR aR q (gR_set_ends tR (vp_updL (gR_ends tR) (z2 : Int32).toNatClampNeg (z1 ||| z0)))) H := hP
      have hD : va_D A (wR aR q (gR_set_ends tR (vp_updL (gR_ends tR) (z2 : Int32).toNatClampNeg (z1 ||| z0)))) := hD
      refine lv_iinc (v := (y6 + 1)) (lv' := [(6, .int (y6 + 1)), (0, .ref (aR 0)), (2, .int y2), (3, .long y3), (5, .int y5)]) hx hb dX7_grows_142 hl (k := 4) rfl rfl (by decide) rfl (fun ls hl => ?_)
      refine lv_goto (tgt := 55) hx hb dX7_grows_145 (by decide) ?_
      exact hf H locs ls hP hD hS (lv_sub hl [1, 2, 3, 4, 0] rfl))
  refine lv_aload_n hx hb dX7_grows_0 rfl (lv_at hl 0 rfl) ?_
  refine va_get (D := D) (ci := 5) (v := .ref (aR 1)) (C := RX7) (T := TX7) (N := 14) hx hb hts inX7_grows_X7 hown hK hP 0 rfl rfl 2 (by decide) (hts (.fieldLink RX7 7 "GrowingTextModel" "text" "[I") (List.mem_of_getElem? (i := 1) rfl)) (fun _ h9 => h9) rfl dX7_grows_1 ?_
  refine lv_aload_n hx hb dX7_grows_4 rfl (lv_at hl 0 rfl) ?_
  refine va_get (D := D) (ci := 5) (v := .int (gR_n uR)) (C := RX7) (T := TX7) (N := 14) hx hb hts inX7_grows_X7 hown hK hP 0 rfl rfl 1 (by decide) (hts (.fieldLink RX7 56 "GrowingTextModel" "n" "I") (List.mem_of_getElem? (i := 2) rfl)) (fun _ h9 => h9) rfl dX7_grows_5 ?_
  refine lv_iload_n hx hb dX7_grows_8 rfl (lv_at hl 1 rfl) ?_
  refine va_iast hx hb hK hP hD hS 1 0 (f := (gR_text uR)) rfl rfl hf.1 dX7_grows_9 (fun H locs hP hD hS => ?_)
  have hf := hf.2
  have hP : va_P D vwCl (wR aR q (gR_set_text uR (upd (gR_text uR) ((gR_n uR) : Int32).toNatClampNeg x1))) H := hP
  have hD : va_D A (wR aR q (gR_set_text uR (upd (gR_text uR) ((gR_n uR) : Int32).toNatClampNeg x1))) := hD
  refine lv_aload_n hx hb dX7_grows_10 rfl (lv_at hl 0 rfl) ?_
  refine lv_dup hx hb dX7_grows_11 rfl ?_
  refine va_get (D := D) (ci := 5) (v := .int (gR_n uR)) (C := RX7) (T := TX7) (N := 14) hx hb hts inX7_grows_X7 hown hK hP 0 rfl rfl 1 (by decide) (hts (.fieldLink RX7 56 "GrowingTextModel" "n" "I") (List.mem_of_getElem? (i := 2) rfl)) (fun _ h9 => h9) rfl dX7_grows_12 ?_
  refine lv_iconst (v := 1) hx hb dX7_grows_15 (by decide) ?_
  refine lv_iadd hx hb dX7_grows_16 ?_
  refine va_put (D := D) (ci := 5) (v := .int ((gR_n uR) + 1)) (ty := .int) (C := RX7) (T := TX7) (N := 14) hx hb hts inX7_grows_X7 tyX7 tyX7_ok nmX7 hown hK hP hD hS 0 rfl rfl 1 (by decide) (hts (.fieldLink RX7 56 "GrowingTextModel" "n" "I") (List.mem_of_getElem? (i := 2) rfl)) (fun _ h9 => h9) rfl (by decide +kernel) rfl rfl (Nat.le_of_ble_eq_true rfl) dX7_grows_17 (fun H locs hP hD hS => ?_)
  have hP : va_P D vwCl (wR aR q (gR_set_n (gR_set_text uR (upd (gR_text uR) ((gR_n uR) : Int32).toNatClampNeg x1)) ((gR_n uR) + 1))) H := hP
  have hD : va_D A (wR aR q (gR_set_n (gR_set_text uR (upd (gR_text uR) ((gR_n uR) : Int32).toNatClampNeg x1)) ((gR_n uR) + 1))) := hD
  refine lv_aload_n hx hb dX7_grows_20 rfl (lv_at hl 0 rfl) ?_
  refine lv_aload_n hx hb dX7_grows_21 rfl (lv_at hl 0 rfl) ?_
  refine va_get (D := D) (ci := 5) (v := .int ((gR_n uR) + 1)) (C := RX7) (T := TX7) (N := 14) hx hb hts inX7_grows_X7 hown hK hP 0 rfl rfl 1 (by decide) (hts (.fieldLink RX7 56 "GrowingTextModel" "n" "I") (List.mem_of_getElem? (i := 2) rfl)) (fun _ h9 => h9) rfl dX7_grows_22 ?_
  refine k_si (k_runV (As := [.int ((gR_n uR) + 1)]) (rest := []) ⟨hx, hb, hml, hown, hts⟩ (c_X7_againAt l D q aR (gR_set_n (gR_set_text uR (upd (gR_text uR) ((gR_n uR) : Int32).toNatClampNeg x1)) ((gR_n uR) + 1)) ((gR_n uR) + 1) _ hf) (cwV 1 hts gX7_grows_X7_againAt rfl rfl rfl cdX7_againAt ⟨Nat.le_of_ble_eq_true rfl, Nat.le_of_ble_eq_true rfl⟩) hK hP hD 0 rfl rfl rfl hl.1 rfl (Nat.le_of_ble_eq_true rfl) dX7_grows_25 ⟨Nat.le_of_ble_eq_true rfl, Nat.le_of_ble_eq_true rfl⟩) (fun r1 hf => ?_)
  refine lv_istore_n (lv' := [(2, .int r1), (0, .ref (aR 0)), (1, .int x1)]) hx hb dX7_grows_28 rfl hl (by decide) rfl (fun ls hl => ?_)
  refine lv_aload_n hx hb dX7_grows_29 rfl (lv_at hl 1 rfl) ?_
  refine lv_aload_n hx hb dX7_grows_30 rfl (lv_at hl 1 rfl) ?_
  refine va_get (D := D) (ci := 5) (v := .int ((gR_n uR) + 1)) (C := RX7) (T := TX7) (N := 14) hx hb hts inX7_grows_X7 hown hK hP 0 rfl rfl 1 (by decide) (hts (.fieldLink RX7 56 "GrowingTextModel" "n" "I") (List.mem_of_getElem? (i := 2) rfl)) (fun _ h9 => h9) rfl dX7_grows_31 ?_
  refine lv_iload_n hx hb dX7_grows_34 rfl (lv_at hl 0 rfl) ?_
  refine lv_aload_n hx hb dX7_grows_35 rfl (lv_at hl 1 rfl) ?_
  refine va_get (D := D) (ci := 5) (v := .int ((gR_n uR) + 1)) (C := RX7) (T := TX7) (N := 14) hx hb hts inX7_grows_X7 hown hK hP 0 rfl rfl 1 (by decide) (hts (.fieldLink RX7 56 "GrowingTextModel" "n" "I") (List.mem_of_getElem? (i := 2) rfl)) (fun _ h9 => h9) rfl dX7_grows_36 ?_
  refine lv_iconst (v := 1) hx hb dX7_grows_39 (by decide) ?_
  refine lv_isub hx hb dX7_grows_40 ?_
  refine k_sl (k_runV (As := [.int ((gR_n uR) + 1), .int r1, .int (((gR_n uR) + 1) - 1)]) (rest := []) ⟨hx, hb, hml, hown, hts⟩ (c_X7_endsOf l D q aR (gR_set_n (gR_set_text uR (upd (gR_text uR) ((gR_n uR) : Int32).toNatClampNeg x1)) ((gR_n uR) + 1)) ((gR_n uR) + 1) r1 (((gR_n uR) + 1) - 1) _ hf) (cwV 3 hts gX7_grows_X7_endsOf rfl rfl rfl cdX7_endsOf ⟨Nat.le_of_ble_eq_true rfl, Nat.le_of_ble_eq_true rfl⟩) hK hP hD 0 rfl rfl rfl hl.1 rfl (Nat.le_of_ble_eq_true rfl) dX7_grows_41 ⟨Nat.le_of_ble_eq_true rfl, Nat.le_of_ble_eq_true rfl⟩) (fun r2 hf => ?_)
  refine lv_lstore_n (lv' := [(3, .long r2), (2, .int r1), (0, .ref (aR 0)), (1, .int x1)]) hx hb dX7_grows_44 rfl hl (by decide) rfl (fun ls hl => ?_)
  refine lv_aload_n hx hb dX7_grows_45 rfl (lv_at hl 2 rfl) ?_
  refine lv_lload_n hx hb dX7_grows_46 rfl (lv_at hl 0 rfl) ?_
  refine k_si (k_runV (As := [.long r2]) (rest := []) ⟨hx, hb, hml, hown, hts⟩ (c_X7_stateOf l D q aR (gR_set_n (gR_set_text uR (upd (gR_text uR) ((gR_n uR) : Int32).toNatClampNeg x1)) ((gR_n uR) + 1)) r2 _ hf) (cwV 1 hts gX7_grows_X7_stateOf rfl rfl rfl cdX7_stateOf ⟨Nat.le_of_ble_eq_true rfl, Nat.le_of_ble_eq_true rfl⟩) hK hP hD 0 rfl rfl rfl hl.1 rfl (Nat.le_of_ble_eq_true rfl) dX7_grows_47 ⟨Nat.le_of_ble_eq_true rfl, Nat.le_of_ble_eq_true rfl⟩) (fun r3 hf => ?_)
  refine lv_istore (lv' := [(5, .int r3), (3, .long r2), (2, .int r1), (0, .ref (aR 0)), (1, .int x1)]) hx hb dX7_grows_50 hl (by decide) rfl (fun ls hl => ?_)
  refine lv_iconst (v := 0) hx hb dX7_grows_52 (by decide) ?_
  refine lv_istore (lv' := [(6, .int 0), (5, .int r3), (3, .long r2), (2, .int r1), (0, .ref (aR 0)), (1, .int x1)]) hx hb dX7_grows_53 hl (by decide) rfl (fun ls hl => ?_)
  exact hf H locs ls hP hD hS (lv_sub hl [4, 3, 2, 1, 0] rfl)
def wpX7_begin (uR : RSt) (x1 : Int32) (Q : Int32 → RSt → Prop) : Prop :=
  (((fX7_in x1 1 5) = 0 →
    Q (-1) uR) ∧
  (¬ ((fX7_in x1 1 5) = 0) →
    wpX7_begins uR x1 (fun uR2 =>
      Q (gR_n uR) uR2)))
def rmX7_begin : Room := { frames := 1, cells := 0, slots := 0, locals := 22 }
theorem inX7_begin_X7 : ∀ w ∈ wsX70, w ∈ wsX7_begin := fun w h => List.mem_cons_of_mem _ (List.mem_append_right _ h)
set_option maxRecDepth 100000 in
set_option maxHeartbeats 4000000 in
theorem c_X7_begin (l : Launch) (D : va_G) (q : Nat → ClassId) (aR : Nat → Nat) (uR : RSt) (x1 : Int32) (Q : Int32 → RSt → Prop) (hf : wpX7_begin uR x1 Q) : Met l yX7_begin wsX7_begin rmX7_begin (va_Pc [.ref (aR 0), .int x1] (kP D q (wR aR q uR))) (va_Qi Q (fun u t => kP D q (wR aR q u) t) (kIn (wR aR q uR))) 0 0 (kIn (wR aR q uR)) := by
  refine Met.ofW (cc := cX7_begin) (maxL := 3) (ret := (some .int)) (by decide) rfl ?_
  intro p e s m args below meth c s₁ B hml hv
  obtain ⟨hargs, hP, hK, hD⟩ := hv
  have hx := B.exec
  have hb := B.bytes
  have hr := B.returns
  have hts := atoms_spec (ws := wsX7_begin) B.pre
  have hown : s.vm.findClass RX7 = some m.cls := findClass_of_methodNamed B.named
  have hlocks := B.notSynchronized
  have hD := kd_self hD
  generalize kIn (wR aR q uR) = A at hD ⊢
  have hS : va_S A s.heap s.heap [] := va_S.rf
  refine k_entry hargs (Nat.le_of_ble_eq_true rfl) (fun ls hl => ?_)
  have hl : lv_has ls 3 [(0, .ref (aR 0)), (1, .int x1)] := hl
  change W p l e rmX7_begin s m args below meth c s.heap [] 0 0 (MQ below (va_Qi Q (fun u t => kP D q (wR aR q u) t) A) args s 0 0 A) _
  unfold wpX7_begin at hf
  obtain ⟨H, hH⟩ : ∃ H, H = s.heap := ⟨_, rfl⟩
  obtain ⟨locs, hlocs⟩ : ∃ x : List Loc, x = [] := ⟨_, rfl⟩
  rw [← hH] at hP
  have hS : va_S A s.heap H locs := by rw [hH, hlocs]; exact hS
  rw [show W p l e rmX7_begin s m args below meth c s.heap [] 0 0 (MQ below (va_Qi Q (fun u t => kP D q (wR aR q u) t) A) args s 0 0 A) (F0 m 0 ls []) = W p l e rmX7_begin s m args below meth c H locs 0 0 (MQ below (va_Qi Q (fun u t => kP D q (wR aR q u) t) A) args s 0 0 A) (F0 m 0 ls []) by rw [hH, hlocs]]
  clear hH hlocs
  refine lv_iload_n hx hb dX7_begin_0 rfl (lv_at hl 1 rfl) ?_
  refine lv_iconst (v := 1) hx hb dX7_begin_1 (by decide) ?_
  refine lv_iconst (v := 5) hx hb dX7_begin_2 (by decide) ?_
  refine k_si (k_runS (As := [.int x1, .int 1, .int 5]) (rest := []) ⟨hx, hb, hml, hown, hts⟩ (cF_X7_in l D q x1 1 5) (va_cwS 3 hts gX7_begin_X7_in rfl rfl rfl cdX7_in ⟨Nat.le_of_ble_eq_true rfl, Nat.le_of_ble_eq_true rfl⟩) hK k_nilP k_nilD rfl hl.1 rfl (Nat.le_of_ble_eq_true rfl) dX7_begin_3 ⟨Nat.le_of_ble_eq_true rfl, Nat.le_of_ble_eq_true rfl⟩) (fun r hr => ?_)
  subst hr
  refine lv_if_ne (tgt := 11) hx hb dX7_begin_6 (by decide) (fun c1 => ?_) (fun c1 => ?_)
  · have hf := hf.2 (c1)
    refine lv_aload_n hx hb dX7_begin_11 rfl (lv_at hl 0 rfl) ?_
    refine va_get (D := D) (ci := 5) (v := .int (gR_n uR)) (C := RX7) (T := TX7) (N := 14) hx hb hts inX7_begin_X7 hown hK hP 0 rfl rfl 1 (by decide) (hts (.fieldLink RX7 56 "GrowingTextModel" "n" "I") (List.mem_of_getElem? (i := 1) rfl)) (fun _ h9 => h9) rfl dX7_begin_12 ?_
    refine lv_istore_n (lv' := [(2, .int (gR_n uR)), (0, .ref (aR 0)), (1, .int x1)]) hx hb dX7_begin_15 rfl hl (by decide) rfl (fun ls hl => ?_)
    refine lv_aload_n hx hb dX7_begin_16 rfl (lv_at hl 1 rfl) ?_
    refine lv_iload_n hx hb dX7_begin_17 rfl (lv_at hl 2 rfl) ?_
    refine k_wv (wf := fun u => wR aR q u) (u0 := uR) (k_runV (As := [.int x1]) (rest := []) ⟨hx, hb, hml, hown, hts⟩ (c_X7_begins l D q aR uR x1 _ hf) (cwV 1 hts gX7_begin_X7_begins rfl rfl rfl cdX7_begins ⟨Nat.le_of_ble_eq_true rfl, Nat.le_of_ble_eq_true rfl⟩) hK hP hD 0 rfl rfl rfl hl.1 rfl (Nat.le_of_ble_eq_true rfl) dX7_begin_18 ⟨Nat.le_of_ble_eq_true rfl, Nat.le_of_ble_eq_true rfl⟩) ([]) ([]) (fun _ => rfl) hP hD hS (fun uR2 H locs hf hP hD hS => ?_)
    have hP : va_P D vwCl (wR aR q uR2) H := hP
    have hD : va_D A (wR aR q uR2) := hD
    refine lv_iload_n hx hb dX7_begin_21 rfl (lv_at hl 0 rfl) ?_
    exact k_iret_w (wf := (fun u => wR aR q u)) (post := Q) (u := uR2) (v := (gR_n uR)) hx hb hr hlocks hK hP hD hS hf dX7_begin_22
  · have hf := hf.1 (c1)
    refine lv_iconst (v := (-1)) hx hb dX7_begin_9 (by decide) ?_
    exact k_iret_w (wf := (fun u => wR aR q u)) (post := Q) (u := uR) (v := (-1)) hx hb hr hlocks hK hP hD hS hf dX7_begin_10
def wpX7_isLetter (uR : RSt) (x1 : Int32) (Q : Int32 → Prop) : Prop :=
  Q (fX7_in x1 0 ((gR_letters uR) - 1))
def rmX7_isLetter : Room := { frames := 1, cells := 0, slots := 0, locals := 22 }
theorem inX7_isLetter_X7 : ∀ w ∈ wsX70, w ∈ wsX7_isLetter := fun w h => List.mem_cons_of_mem _ (List.mem_append_right _ h)
set_option maxRecDepth 100000 in
set_option maxHeartbeats 4000000 in
theorem c_X7_isLetter (l : Launch) (D : va_G) (q : Nat → ClassId) (aR : Nat → Nat) (uR : RSt) (x1 : Int32) (Q : Int32 → Prop) (hf : wpX7_isLetter uR x1 Q) : Met l yX7_isLetter wsX7_isLetter rmX7_isLetter (va_Pc [.ref (aR 0), .int x1] (kP D q (wR aR q uR))) (vp_Si Q) 0 0 (fun _ => False) := by
  refine Met.ofW (cc := cX7_isLetter) (maxL := 2) (ret := (some .boolean)) (by decide) rfl ?_
  intro p e s m args below meth c s₁ B hml hv
  obtain ⟨hargs, hP, hK, hD⟩ := hv
  have hx := B.exec
  have hb := B.bytes
  have hr := B.returns
  have hts := atoms_spec (ws := wsX7_isLetter) B.pre
  have hown : s.vm.findClass RX7 = some m.cls := findClass_of_methodNamed B.named
  have hlocks := B.notSynchronized
  refine k_entry hargs (Nat.le_of_ble_eq_true rfl) (fun ls hl => ?_)
  have hl : lv_has ls 2 [(0, .ref (aR 0)), (1, .int x1)] := hl
  change W p l e rmX7_isLetter s m args below meth c s.heap [] 0 0 (MQ below (vp_Si Q) args s 0 0 (fun _ => False)) _
  unfold wpX7_isLetter at hf
  refine lv_iload_n hx hb dX7_isLetter_0 rfl (lv_at hl 1 rfl) ?_
  refine lv_iconst (v := 0) hx hb dX7_isLetter_1 (by decide) ?_
  refine lv_aload_n hx hb dX7_isLetter_2 rfl (lv_at hl 0 rfl) ?_
  refine va_get (D := D) (ci := 5) (v := .int (gR_letters uR)) (C := RX7) (T := TX7) (N := 14) hx hb hts inX7_isLetter_X7 hown hK hP 0 rfl rfl 0 (by decide) (hts (.fieldLink RX7 52 "GrowingTextModel" "letters" "I") (List.mem_of_getElem? (i := 1) rfl)) (fun _ h9 => h9) rfl dX7_isLetter_3 ?_
  refine lv_iconst (v := 1) hx hb dX7_isLetter_6 (by decide) ?_
  refine lv_isub hx hb dX7_isLetter_7 ?_
  refine k_si (k_runS (As := [.int x1, .int 0, .int ((gR_letters uR) - 1)]) (rest := []) ⟨hx, hb, hml, hown, hts⟩ (cF_X7_in l D q x1 0 ((gR_letters uR) - 1)) (va_cwS 3 hts gX7_isLetter_X7_in rfl rfl rfl cdX7_in ⟨Nat.le_of_ble_eq_true rfl, Nat.le_of_ble_eq_true rfl⟩) hK k_nilP k_nilD rfl hl.1 rfl (Nat.le_of_ble_eq_true rfl) dX7_isLetter_8 ⟨Nat.le_of_ble_eq_true rfl, Nat.le_of_ble_eq_true rfl⟩) (fun r hr => ?_)
  subst hr
  exact k_zret_r (v := (fX7_in x1 0 ((gR_letters uR) - 1))) hx hb hr (by unfold fX7_in; (repeat' split) <;> rfl) hlocks hf dX7_isLetter_11
def fX7_isLetter (uR : RSt) (x1 : Int32) : Int32 := (fX7_in x1 0 ((gR_letters uR) - 1))
theorem pF_X7_isLetter (uR : RSt) (x1 : Int32) (Q : Int32 → Prop) (hq : Q (fX7_isLetter uR x1)) : wpX7_isLetter uR x1 Q := by
  unfold fX7_isLetter at hq; unfold wpX7_isLetter; exact hq
theorem cF_X7_isLetter (l : Launch) (D : va_G) (q : Nat → ClassId) (aR : Nat → Nat) (uR : RSt) (x1 : Int32) : Met l yX7_isLetter wsX7_isLetter rmX7_isLetter (va_Pc [.ref (aR 0), .int x1] (kP D q (wR aR q uR))) (vp_Si (fun r => r = fX7_isLetter uR x1)) 0 0 (fun _ => False) := c_X7_isLetter l D q aR uR x1 _ (pF_X7_isLetter uR x1 _ rfl)
def wpX7_grow (uR : RSt) (x1 : Int32) (Q : Int32 → RSt → Prop) : Prop :=
  (((fX7_isLetter uR x1) = 0 →
    Q (-1) uR) ∧
  (¬ ((fX7_isLetter uR x1) = 0) →
    ((gR_n uR) = 60 →
      Q (-3) uR) ∧
    (¬ ((gR_n uR) = 60) →
      wpX7_grows uR x1 (fun uR3 =>
        Q (gR_stateMany uR3) uR3))))
def rmX7_grow : Room := { frames := 3, cells := 0, slots := 0, locals := 77 }
theorem inX7_grow_X7 : ∀ w ∈ wsX70, w ∈ wsX7_grow := fun w h => List.mem_cons_of_mem _ (List.mem_append_right _ h)
set_option maxRecDepth 100000 in
set_option maxHeartbeats 4000000 in
theorem c_X7_grow (l : Launch) (D : va_G) (q : Nat → ClassId) (aR : Nat → Nat) (uR : RSt) (x1 : Int32) (Q : Int32 → RSt → Prop) (hf : wpX7_grow uR x1 Q) : Met l yX7_grow wsX7_grow rmX7_grow (va_Pc [.ref (aR 0), .int x1] (kP D q (wR aR q uR))) (va_Qi Q (fun u t => kP D q (wR aR q u) t) (kIn (wR aR q uR))) 0 0 (kIn (wR aR q uR)) := by
  refine Met.ofW (cc := cX7_grow) (maxL := 2) (ret := (some .int)) (by decide) rfl ?_
  intro p e s m args below meth c s₁ B hml hv
  obtain ⟨hargs, hP, hK, hD⟩ := hv
  have hx := B.exec
  have hb := B.bytes
  have hr := B.returns
  have hts := atoms_spec (ws := wsX7_grow) B.pre
  have hown : s.vm.findClass RX7 = some m.cls := findClass_of_methodNamed B.named
  have hlocks := B.notSynchronized
  have hD := kd_self hD
  generalize kIn (wR aR q uR) = A at hD ⊢
  have hS : va_S A s.heap s.heap [] := va_S.rf
  refine k_entry hargs (Nat.le_of_ble_eq_true rfl) (fun ls hl => ?_)
  have hl : lv_has ls 2 [(0, .ref (aR 0)), (1, .int x1)] := hl
  change W p l e rmX7_grow s m args below meth c s.heap [] 0 0 (MQ below (va_Qi Q (fun u t => kP D q (wR aR q u) t) A) args s 0 0 A) _
  unfold wpX7_grow at hf
  obtain ⟨H, hH⟩ : ∃ H, H = s.heap := ⟨_, rfl⟩
  obtain ⟨locs, hlocs⟩ : ∃ x : List Loc, x = [] := ⟨_, rfl⟩
  rw [← hH] at hP
  have hS : va_S A s.heap H locs := by rw [hH, hlocs]; exact hS
  rw [show W p l e rmX7_grow s m args below meth c s.heap [] 0 0 (MQ below (va_Qi Q (fun u t => kP D q (wR aR q u) t) A) args s 0 0 A) (F0 m 0 ls []) = W p l e rmX7_grow s m args below meth c H locs 0 0 (MQ below (va_Qi Q (fun u t => kP D q (wR aR q u) t) A) args s 0 0 A) (F0 m 0 ls []) by rw [hH, hlocs]]
  clear hH hlocs
  refine lv_aload_n hx hb dX7_grow_0 rfl (lv_at hl 0 rfl) ?_
  refine lv_iload_n hx hb dX7_grow_1 rfl (lv_at hl 1 rfl) ?_
  refine k_si (k_runV (As := [.int x1]) (rest := []) ⟨hx, hb, hml, hown, hts⟩ (cF_X7_isLetter l D q aR uR x1) (cwV 1 hts gX7_grow_X7_isLetter rfl rfl rfl cdX7_isLetter ⟨Nat.le_of_ble_eq_true rfl, Nat.le_of_ble_eq_true rfl⟩) hK hP hD 0 rfl rfl rfl hl.1 rfl (Nat.le_of_ble_eq_true rfl) dX7_grow_2 ⟨Nat.le_of_ble_eq_true rfl, Nat.le_of_ble_eq_true rfl⟩) (fun r hr => ?_)
  subst hr
  refine lv_if_ne (tgt := 10) hx hb dX7_grow_5 (by decide) (fun c1 => ?_) (fun c1 => ?_)
  · have hf := hf.2 (c1)
    refine lv_aload_n hx hb dX7_grow_10 rfl (lv_at hl 0 rfl) ?_
    refine va_get (D := D) (ci := 5) (v := .int (gR_n uR)) (C := RX7) (T := TX7) (N := 14) hx hb hts inX7_grow_X7 hown hK hP 0 rfl rfl 1 (by decide) (hts (.fieldLink RX7 56 "GrowingTextModel" "n" "I") (List.mem_of_getElem? (i := 1) rfl)) (fun _ h9 => h9) rfl dX7_grow_11 ?_
    refine lv_bipush (v := 60) hx hb dX7_grow_14 (by decide) ?_
    refine lv_icmp_ne (tgt := 22) hx hb dX7_grow_16 (by decide) (fun c2 => ?_) (fun c2 => ?_)
    · have hf := hf.2 (c2)
      refine lv_aload_n hx hb dX7_grow_22 rfl (lv_at hl 0 rfl) ?_
      refine lv_iload_n hx hb dX7_grow_23 rfl (lv_at hl 1 rfl) ?_
      refine k_wv (wf := fun u => wR aR q u) (u0 := uR) (k_runV (As := [.int x1]) (rest := []) ⟨hx, hb, hml, hown, hts⟩ (c_X7_grows l D q aR uR x1 _ hf) (cwV 1 hts gX7_grow_X7_grows rfl rfl rfl cdX7_grows ⟨Nat.le_of_ble_eq_true rfl, Nat.le_of_ble_eq_true rfl⟩) hK hP hD 0 rfl rfl rfl hl.1 rfl (Nat.le_of_ble_eq_true rfl) dX7_grow_24 ⟨Nat.le_of_ble_eq_true rfl, Nat.le_of_ble_eq_true rfl⟩) ([]) ([]) (fun _ => rfl) hP hD hS (fun uR3 H locs hf hP hD hS => ?_)
      have hP : va_P D vwCl (wR aR q uR3) H := hP
      have hD : va_D A (wR aR q uR3) := hD
      refine lv_aload_n hx hb dX7_grow_27 rfl (lv_at hl 0 rfl) ?_
      refine va_get (D := D) (ci := 5) (v := .int (gR_stateMany uR3)) (C := RX7) (T := TX7) (N := 14) hx hb hts inX7_grow_X7 hown hK hP 0 rfl rfl 3 (by decide) (hts (.fieldLink RX7 59 "GrowingTextModel" "stateMany" "I") (List.mem_of_getElem? (i := 2) rfl)) (fun _ h9 => h9) rfl dX7_grow_28 ?_
      exact k_iret_w (wf := (fun u => wR aR q u)) (post := Q) (u := uR3) (v := (gR_stateMany uR3)) hx hb hr hlocks hK hP hD hS hf dX7_grow_31
    · have hf := hf.1 (c2)
      refine lv_bipush (v := (-3)) hx hb dX7_grow_19 (by decide) ?_
      exact k_iret_w (wf := (fun u => wR aR q u)) (post := Q) (u := uR) (v := (-3)) hx hb hr hlocks hK hP hD hS hf dX7_grow_21
  · have hf := hf.1 (c1)
    refine lv_iconst (v := (-1)) hx hb dX7_grow_8 (by decide) ?_
    exact k_iret_w (wf := (fun u => wR aR q u)) (post := Q) (u := uR) (v := (-1)) hx hb hr hlocks hK hP hD hS hf dX7_grow_9
def wpX7_regrows (uR : RSt) (x1 : Int32) (Q : RSt → Prop) : Prop :=
  ∀ (X8 : RSt → Prop),
  (∀ (tR : RSt),
    ((x1 ≤ (gR_n tR) →
      Q tR) ∧
    (¬ (x1 ≤ (gR_n tR)) →
      vp_in (gR_n tR) 60 ∧
      wpX7_grows tR ((gR_text tR) ((gR_n tR) : Int32).toNatClampNeg) (fun uR3 =>
        X8 uR3))) → X8 tR) →
  wpX7_begins uR (gR_letters uR) (fun uR1 =>
    X8 uR1)
def rmX7_regrows : Room := { frames := 3, cells := 0, slots := 0, locals := 77 }
theorem inX7_regrows_X7 : ∀ w ∈ wsX70, w ∈ wsX7_regrows := fun w h => List.mem_cons_of_mem _ (List.mem_append_right _ h)
set_option maxRecDepth 100000 in
set_option maxHeartbeats 4000000 in
theorem c_X7_regrows (l : Launch) (D : va_G) (q : Nat → ClassId) (aR : Nat → Nat) (uR : RSt) (x1 : Int32) (Q : RSt → Prop) (hf : wpX7_regrows uR x1 Q) : Met l yX7_regrows wsX7_regrows rmX7_regrows (va_Pc [.ref (aR 0), .int x1] (kP D q (wR aR q uR))) (va_Qv Q (fun u t => kP D q (wR aR q u) t) (kIn (wR aR q uR))) 0 0 (kIn (wR aR q uR)) := by
  refine Met.ofW (cc := cX7_regrows) (maxL := 2) (ret := none) (by decide) rfl ?_
  intro p e s m args below meth c s₁ B hml hv
  obtain ⟨hargs, hP, hK, hD⟩ := hv
  have hx := B.exec
  have hb := B.bytes
  have hr := B.returns
  have hts := atoms_spec (ws := wsX7_regrows) B.pre
  have hown : s.vm.findClass RX7 = some m.cls := findClass_of_methodNamed B.named
  have hlocks := B.notSynchronized
  have hD := kd_self hD
  generalize kIn (wR aR q uR) = A at hD ⊢
  have hS : va_S A s.heap s.heap [] := va_S.rf
  refine k_entry hargs (Nat.le_of_ble_eq_true rfl) (fun ls hl => ?_)
  have hl : lv_has ls 2 [(0, .ref (aR 0)), (1, .int x1)] := hl
  change W p l e rmX7_regrows s m args below meth c s.heap [] 0 0 (MQ below (va_Qv Q (fun u t => kP D q (wR aR q u) t) A) args s 0 0 A) _
  unfold wpX7_regrows at hf
  obtain ⟨H, hH⟩ : ∃ H, H = s.heap := ⟨_, rfl⟩
  obtain ⟨locs, hlocs⟩ : ∃ x : List Loc, x = [] := ⟨_, rfl⟩
  rw [← hH] at hP
  have hS : va_S A s.heap H locs := by rw [hH, hlocs]; exact hS
  rw [show W p l e rmX7_regrows s m args below meth c s.heap [] 0 0 (MQ below (va_Qv Q (fun u t => kP D q (wR aR q u) t) A) args s 0 0 A) (F0 m 0 ls []) = W p l e rmX7_regrows s m args below meth c H locs 0 0 (MQ below (va_Qv Q (fun u t => kP D q (wR aR q u) t) A) args s 0 0 A) (F0 m 0 ls []) by rw [hH, hlocs]]
  clear hH hlocs
  have hf := hf
    (fun (tR : RSt) => ∀ (H : Heap) (locs : List Loc) (ls : Array Slot), va_P D vwCl (wR aR q tR) H → va_D A (wR aR q tR) → va_S A s.heap H locs → lv_has ls 2 [(0, .ref (aR 0)), (1, .int x1)] → W p l e rmX7_regrows s m args below meth c H locs 0 0 (MQ below (va_Qv Q (fun u t => kP D q (wR aR q u) t) A) args s 0 0 A) (F0 m 8 ls []))
    (by
      intro tR hf H locs ls hP hD hS hl
      refine lv_aload_n hx hb dX7_regrows_8 rfl (lv_at hl 0 rfl) ?_
      refine va_get (D := D) (ci := 5) (v := .int (gR_n tR)) (C := RX7) (T := TX7) (N := 14) hx hb hts inX7_regrows_X7 hown hK hP 0 rfl rfl 1 (by decide) (hts (.fieldLink RX7 56 "GrowingTextModel" "n" "I") (List.mem_of_getElem? (i := 2) rfl)) (fun _ h9 => h9) rfl dX7_regrows_9 ?_
      refine lv_iload_n hx hb dX7_regrows_12 rfl (lv_at hl 1 rfl) ?_
      refine lv_icmp_ge (tgt := 32) hx hb dX7_regrows_13 (by decide) (fun c2 => ?_) (fun c2 => ?_)
      · have hf := hf.1 (c2)
        exact k_vret_w (wf := (fun u => wR aR q u)) (post := Q) (u := tR) hx hb hr hlocks hK hP hD hS hf dX7_regrows_32
      · have hf := hf.2 (c2)
        refine lv_aload_n hx hb dX7_regrows_16 rfl (lv_at hl 0 rfl) ?_
        refine lv_aload_n hx hb dX7_regrows_17 rfl (lv_at hl 0 rfl) ?_
        refine va_get (D := D) (ci := 5) (v := .ref (aR 1)) (C := RX7) (T := TX7) (N := 14) hx hb hts inX7_regrows_X7 hown hK hP 0 rfl rfl 2 (by decide) (hts (.fieldLink RX7 7 "GrowingTextModel" "text" "[I") (List.mem_of_getElem? (i := 3) rfl)) (fun _ h9 => h9) rfl dX7_regrows_18 ?_
        refine lv_aload_n hx hb dX7_regrows_21 rfl (lv_at hl 0 rfl) ?_
        refine va_get (D := D) (ci := 5) (v := .int (gR_n tR)) (C := RX7) (T := TX7) (N := 14) hx hb hts inX7_regrows_X7 hown hK hP 0 rfl rfl 1 (by decide) (hts (.fieldLink RX7 56 "GrowingTextModel" "n" "I") (List.mem_of_getElem? (i := 2) rfl)) (fun _ h9 => h9) rfl dX7_regrows_22 ?_
        refine va_iald hx hb hK hP 1 0 (f := (gR_text tR)) rfl rfl hf.1 dX7_regrows_25 ?_
        have hf := hf.2
        refine k_wv (wf := fun u => wR aR q u) (u0 := tR) (k_runV (As := [.int ((gR_text tR) ((gR_n tR) : Int32).toNatClampNeg)]) (rest := []) ⟨hx, hb, hml, hown, hts⟩ (c_X7_grows l D q aR tR ((gR_text tR) ((gR_n tR) : Int32).toNatClampNeg) _ hf) (cwV 1 hts gX7_regrows_X7_grows rfl rfl rfl cdX7_grows ⟨Nat.le_of_ble_eq_true rfl, Nat.le_of_ble_eq_true rfl⟩) hK hP hD 0 rfl rfl rfl hl.1 rfl (Nat.le_of_ble_eq_true rfl) dX7_regrows_26 ⟨Nat.le_of_ble_eq_true rfl, Nat.le_of_ble_eq_true rfl⟩) ([]) ([]) (fun _ => rfl) hP hD hS (fun uR3 H locs hf hP hD hS => ?_)
        have hP : va_P D vwCl (wR aR q uR3) H := hP
        have hD : va_D A (wR aR q uR3) := hD
        refine lv_goto (tgt := 8) hx hb dX7_regrows_29 (by decide) ?_
        exact hf H locs ls hP hD hS (lv_sub hl [0, 1] rfl))
  refine lv_aload_n hx hb dX7_regrows_0 rfl (lv_at hl 0 rfl) ?_
  refine lv_aload_n hx hb dX7_regrows_1 rfl (lv_at hl 0 rfl) ?_
  refine va_get (D := D) (ci := 5) (v := .int (gR_letters uR)) (C := RX7) (T := TX7) (N := 14) hx hb hts inX7_regrows_X7 hown hK hP 0 rfl rfl 0 (by decide) (hts (.fieldLink RX7 52 "GrowingTextModel" "letters" "I") (List.mem_of_getElem? (i := 1) rfl)) (fun _ h9 => h9) rfl dX7_regrows_2 ?_
  refine k_wv (wf := fun u => wR aR q u) (u0 := uR) (k_runV (As := [.int (gR_letters uR)]) (rest := []) ⟨hx, hb, hml, hown, hts⟩ (c_X7_begins l D q aR uR (gR_letters uR) _ hf) (cwV 1 hts gX7_regrows_X7_begins rfl rfl rfl cdX7_begins ⟨Nat.le_of_ble_eq_true rfl, Nat.le_of_ble_eq_true rfl⟩) hK hP hD 0 rfl rfl rfl hl.1 rfl (Nat.le_of_ble_eq_true rfl) dX7_regrows_5 ⟨Nat.le_of_ble_eq_true rfl, Nat.le_of_ble_eq_true rfl⟩) ([]) ([]) (fun _ => rfl) hP hD hS (fun uR1 H locs hf hP hD hS => ?_)
  have hP : va_P D vwCl (wR aR q uR1) H := hP
  have hD : va_D A (wR aR q uR1) := hD
  exact hf H locs ls hP hD hS (lv_sub hl [0, 1] rfl)
def wpX7_cut (uR : RSt) (x1 : Int32) (Q : Int32 → RSt → Prop) : Prop :=
  (((fX7_in x1 0 (gR_n uR)) = 0 →
    Q (-1) uR) ∧
  (¬ ((fX7_in x1 0 (gR_n uR)) = 0) →
    wpX7_regrows uR ((gR_n uR) - x1) (fun uR2 =>
      Q (gR_n uR2) uR2)))
def rmX7_cut : Room := { frames := 4, cells := 0, slots := 0, locals := 98 }
theorem inX7_cut_X7 : ∀ w ∈ wsX70, w ∈ wsX7_cut := fun w h => List.mem_cons_of_mem _ (List.mem_append_right _ h)
set_option maxRecDepth 100000 in
set_option maxHeartbeats 4000000 in
theorem c_X7_cut (l : Launch) (D : va_G) (q : Nat → ClassId) (aR : Nat → Nat) (uR : RSt) (x1 : Int32) (Q : Int32 → RSt → Prop) (hf : wpX7_cut uR x1 Q) : Met l yX7_cut wsX7_cut rmX7_cut (va_Pc [.ref (aR 0), .int x1] (kP D q (wR aR q uR))) (va_Qi Q (fun u t => kP D q (wR aR q u) t) (kIn (wR aR q uR))) 0 0 (kIn (wR aR q uR)) := by
  refine Met.ofW (cc := cX7_cut) (maxL := 2) (ret := (some .int)) (by decide) rfl ?_
  intro p e s m args below meth c s₁ B hml hv
  obtain ⟨hargs, hP, hK, hD⟩ := hv
  have hx := B.exec
  have hb := B.bytes
  have hr := B.returns
  have hts := atoms_spec (ws := wsX7_cut) B.pre
  have hown : s.vm.findClass RX7 = some m.cls := findClass_of_methodNamed B.named
  have hlocks := B.notSynchronized
  have hD := kd_self hD
  generalize kIn (wR aR q uR) = A at hD ⊢
  have hS : va_S A s.heap s.heap [] := va_S.rf
  refine k_entry hargs (Nat.le_of_ble_eq_true rfl) (fun ls hl => ?_)
  have hl : lv_has ls 2 [(0, .ref (aR 0)), (1, .int x1)] := hl
  change W p l e rmX7_cut s m args below meth c s.heap [] 0 0 (MQ below (va_Qi Q (fun u t => kP D q (wR aR q u) t) A) args s 0 0 A) _
  unfold wpX7_cut at hf
  obtain ⟨H, hH⟩ : ∃ H, H = s.heap := ⟨_, rfl⟩
  obtain ⟨locs, hlocs⟩ : ∃ x : List Loc, x = [] := ⟨_, rfl⟩
  rw [← hH] at hP
  have hS : va_S A s.heap H locs := by rw [hH, hlocs]; exact hS
  rw [show W p l e rmX7_cut s m args below meth c s.heap [] 0 0 (MQ below (va_Qi Q (fun u t => kP D q (wR aR q u) t) A) args s 0 0 A) (F0 m 0 ls []) = W p l e rmX7_cut s m args below meth c H locs 0 0 (MQ below (va_Qi Q (fun u t => kP D q (wR aR q u) t) A) args s 0 0 A) (F0 m 0 ls []) by rw [hH, hlocs]]
  clear hH hlocs
  refine lv_iload_n hx hb dX7_cut_0 rfl (lv_at hl 1 rfl) ?_
  refine lv_iconst (v := 0) hx hb dX7_cut_1 (by decide) ?_
  refine lv_aload_n hx hb dX7_cut_2 rfl (lv_at hl 0 rfl) ?_
  refine va_get (D := D) (ci := 5) (v := .int (gR_n uR)) (C := RX7) (T := TX7) (N := 14) hx hb hts inX7_cut_X7 hown hK hP 0 rfl rfl 1 (by decide) (hts (.fieldLink RX7 56 "GrowingTextModel" "n" "I") (List.mem_of_getElem? (i := 1) rfl)) (fun _ h9 => h9) rfl dX7_cut_3 ?_
  refine k_si (k_runS (As := [.int x1, .int 0, .int (gR_n uR)]) (rest := []) ⟨hx, hb, hml, hown, hts⟩ (cF_X7_in l D q x1 0 (gR_n uR)) (va_cwS 3 hts gX7_cut_X7_in rfl rfl rfl cdX7_in ⟨Nat.le_of_ble_eq_true rfl, Nat.le_of_ble_eq_true rfl⟩) hK k_nilP k_nilD rfl hl.1 rfl (Nat.le_of_ble_eq_true rfl) dX7_cut_6 ⟨Nat.le_of_ble_eq_true rfl, Nat.le_of_ble_eq_true rfl⟩) (fun r hr => ?_)
  subst hr
  refine lv_if_ne (tgt := 14) hx hb dX7_cut_9 (by decide) (fun c1 => ?_) (fun c1 => ?_)
  · have hf := hf.2 (c1)
    refine lv_aload_n hx hb dX7_cut_14 rfl (lv_at hl 0 rfl) ?_
    refine lv_aload_n hx hb dX7_cut_15 rfl (lv_at hl 0 rfl) ?_
    refine va_get (D := D) (ci := 5) (v := .int (gR_n uR)) (C := RX7) (T := TX7) (N := 14) hx hb hts inX7_cut_X7 hown hK hP 0 rfl rfl 1 (by decide) (hts (.fieldLink RX7 56 "GrowingTextModel" "n" "I") (List.mem_of_getElem? (i := 1) rfl)) (fun _ h9 => h9) rfl dX7_cut_16 ?_
    refine lv_iload_n hx hb dX7_cut_19 rfl (lv_at hl 1 rfl) ?_
    refine lv_isub hx hb dX7_cut_20 ?_
    refine k_wv (wf := fun u => wR aR q u) (u0 := uR) (k_runV (As := [.int ((gR_n uR) - x1)]) (rest := []) ⟨hx, hb, hml, hown, hts⟩ (c_X7_regrows l D q aR uR ((gR_n uR) - x1) _ hf) (cwV 1 hts gX7_cut_X7_regrows rfl rfl rfl cdX7_regrows ⟨Nat.le_of_ble_eq_true rfl, Nat.le_of_ble_eq_true rfl⟩) hK hP hD 0 rfl rfl rfl hl.1 rfl (Nat.le_of_ble_eq_true rfl) dX7_cut_21 ⟨Nat.le_of_ble_eq_true rfl, Nat.le_of_ble_eq_true rfl⟩) ([]) ([]) (fun _ => rfl) hP hD hS (fun uR2 H locs hf hP hD hS => ?_)
    have hP : va_P D vwCl (wR aR q uR2) H := hP
    have hD : va_D A (wR aR q uR2) := hD
    refine lv_aload_n hx hb dX7_cut_24 rfl (lv_at hl 0 rfl) ?_
    refine va_get (D := D) (ci := 5) (v := .int (gR_n uR2)) (C := RX7) (T := TX7) (N := 14) hx hb hts inX7_cut_X7 hown hK hP 0 rfl rfl 1 (by decide) (hts (.fieldLink RX7 56 "GrowingTextModel" "n" "I") (List.mem_of_getElem? (i := 1) rfl)) (fun _ h9 => h9) rfl dX7_cut_25 ?_
    exact k_iret_w (wf := (fun u => wR aR q u)) (post := Q) (u := uR2) (v := (gR_n uR2)) hx hb hr hlocks hK hP hD hS hf dX7_cut_28
  · have hf := hf.1 (c1)
    refine lv_iconst (v := (-1)) hx hb dX7_cut_12 (by decide) ?_
    exact k_iret_w (wf := (fun u => wR aR q u)) (post := Q) (u := uR) (v := (-1)) hx hb hr hlocks hK hP hD hS hf dX7_cut_13
def wpX7_drift (uR : RSt) (x1 : Int32) (x2 : Int32) (Q : Int32 → RSt → Prop) : Prop :=
  ∀ (X42 : Int64 → Int32 → RSt → Prop),
  (∀ (y3 : Int64) (y5 : Int32) (tR : RSt),
    ((x1 ≤ y5 →
      Q (gR_n tR) tR) ∧
    (¬ (x1 ≤ y5) →
      ¬ ((gR_letters tR).toInt64) = 0 ∧
      wpX7_grows tR ((((y3 * 16807) - (y3 * 16807) / 2147483647 * 2147483647) - ((y3 * 16807) - (y3 * 16807) / 2147483647 * 2147483647) / ((gR_letters tR).toInt64) * ((gR_letters tR).toInt64)).toInt32) (fun uR5 =>
        X42 ((y3 * 16807) - (y3 * 16807) / 2147483647 * 2147483647) (y5 + 1) uR5))) → X42 y3 y5 tR) →
  (((fX7_in x1 1 60) = 0 →
    Q (-1) uR) ∧
  (¬ ((fX7_in x1 1 60) = 0) →
    ((fX7_in x2 1 999999) = 0 →
      Q (-1) uR) ∧
    (¬ ((fX7_in x2 1 999999) = 0) →
      (((gR_n uR) + x1) ≤ 60 →
        X42 ((x2).toInt64) 0 uR) ∧
      (¬ (((gR_n uR) + x1) ≤ 60) →
        Q (-3) uR))))
def rmX7_drift : Room := { frames := 3, cells := 0, slots := 0, locals := 77 }
theorem inX7_drift_X7 : ∀ w ∈ wsX70, w ∈ wsX7_drift := fun w h => List.mem_cons_of_mem _ (List.mem_append_right _ h)
set_option maxRecDepth 100000 in
set_option maxHeartbeats 4000000 in
theorem c_X7_drift (l : Launch) (D : va_G) (q : Nat → ClassId) (aR : Nat → Nat) (uR : RSt) (x1 : Int32) (x2 : Int32) (Q : Int32 → RSt → Prop) (hf : wpX7_drift uR x1 x2 Q) : Met l yX7_drift wsX7_drift rmX7_drift (va_Pc [.ref (aR 0), .int x1, .int x2] (kP D q (wR aR q uR))) (va_Qi Q (fun u t => kP D q (wR aR q u) t) (kIn (wR aR q uR))) 0 0 (kIn (wR aR q uR)) := by
  refine Met.ofW (cc := cX7_drift) (maxL := 6) (ret := (some .int)) (by decide) rfl ?_
  intro p e s m args below meth c s₁ B hml hv
  obtain ⟨hargs, hP, hK, hD⟩ := hv
  have hx := B.exec
  have hb := B.bytes
  have hr := B.returns
  have hts := atoms_spec (ws := wsX7_drift) B.pre
  have hown : s.vm.findClass RX7 = some m.cls := findClass_of_methodNamed B.named
  have hlocks := B.notSynchronized
  have hD := kd_self hD
  generalize kIn (wR aR q uR) = A at hD ⊢
  have hS : va_S A s.heap s.heap [] := va_S.rf
  refine k_entry hargs (Nat.le_of_ble_eq_true rfl) (fun ls hl => ?_)
  have hl : lv_has ls 6 [(0, .ref (aR 0)), (1, .int x1), (2, .int x2)] := hl
  change W p l e rmX7_drift s m args below meth c s.heap [] 0 0 (MQ below (va_Qi Q (fun u t => kP D q (wR aR q u) t) A) args s 0 0 A) _
  unfold wpX7_drift at hf
  obtain ⟨H, hH⟩ : ∃ H, H = s.heap := ⟨_, rfl⟩
  obtain ⟨locs, hlocs⟩ : ∃ x : List Loc, x = [] := ⟨_, rfl⟩
  rw [← hH] at hP
  have hS : va_S A s.heap H locs := by rw [hH, hlocs]; exact hS
  rw [show W p l e rmX7_drift s m args below meth c s.heap [] 0 0 (MQ below (va_Qi Q (fun u t => kP D q (wR aR q u) t) A) args s 0 0 A) (F0 m 0 ls []) = W p l e rmX7_drift s m args below meth c H locs 0 0 (MQ below (va_Qi Q (fun u t => kP D q (wR aR q u) t) A) args s 0 0 A) (F0 m 0 ls []) by rw [hH, hlocs]]
  clear hH hlocs
  have hf := hf
    (fun (y3 : Int64) (y5 : Int32) (tR : RSt) => ∀ (H : Heap) (locs : List Loc) (ls : Array Slot), va_P D vwCl (wR aR q tR) H → va_D A (wR aR q tR) → va_S A s.heap H locs → lv_has ls 6 [(0, .ref (aR 0)), (1, .int x1), (3, .long y3), (5, .int y5)] → W p l e rmX7_drift s m args below meth c H locs 0 0 (MQ below (va_Qi Q (fun u t => kP D q (wR aR q u) t) A) args s 0 0 A) (F0 m 42 ls []))
    (by
      intro y3 y5 tR hf H locs ls hP hD hS hl
      refine lv_iload hx hb dX7_drift_42 (lv_at hl 3 rfl) ?_
      refine lv_iload_n hx hb dX7_drift_44 rfl (lv_at hl 1 rfl) ?_
      refine lv_icmp_ge (tgt := 76) hx hb dX7_drift_45 (by decide) (fun c4 => ?_) (fun c4 => ?_)
      · have hf := hf.1 (c4)
        refine lv_aload_n hx hb dX7_drift_76 rfl (lv_at hl 0 rfl) ?_
        refine va_get (D := D) (ci := 5) (v := .int (gR_n tR)) (C := RX7) (T := TX7) (N := 14) hx hb hts inX7_drift_X7 hown hK hP 0 rfl rfl 1 (by decide) (hts (.fieldLink RX7 56 "GrowingTextModel" "n" "I") (List.mem_of_getElem? (i := 2) rfl)) (fun _ h9 => h9) rfl dX7_drift_77 ?_
        exact k_iret_w (wf := (fun u => wR aR q u)) (post := Q) (u := tR) (v := (gR_n tR)) hx hb hr hlocks hK hP hD hS hf dX7_drift_80
      · have hf := hf.2 (c4)
        refine lv_lload_n hx hb dX7_drift_48 rfl (lv_at hl 2 rfl) ?_
        refine lv_ldc2 (v := 16807) hx hb hown (hts (.constantLong RX7 100 (16807)) (List.mem_of_getElem? (i := 3) rfl)) dX7_drift_49 ?_
        refine lv_lmul hx hb dX7_drift_52 ?_
        refine lv_ldc2 (v := 2147483647) hx hb hown (hts (.constantLong RX7 102 (2147483647)) (List.mem_of_getElem? (i := 4) rfl)) dX7_drift_53 ?_
        refine lv_lrem hx hb dX7_drift_56 (by decide) ?_
        refine lv_lstore_n (lv' := [(3, .long ((y3 * 16807) - (y3 * 16807) / 2147483647 * 2147483647)), (0, .ref (aR 0)), (1, .int x1), (5, .int y5)]) hx hb dX7_drift_57 rfl hl (by decide) rfl (fun ls hl => ?_)
        refine lv_aload_n hx hb dX7_drift_58 rfl (lv_at hl 1 rfl) ?_
        refine lv_lload_n hx hb dX7_drift_59 rfl (lv_at hl 0 rfl) ?_
        refine lv_aload_n hx hb dX7_drift_60 rfl (lv_at hl 1 rfl) ?_
        refine va_get (D := D) (ci := 5) (v := .int (gR_letters tR)) (C := RX7) (T := TX7) (N := 14) hx hb hts inX7_drift_X7 hown hK hP 0 rfl rfl 0 (by decide) (hts (.fieldLink RX7 52 "GrowingTextModel" "letters" "I") (List.mem_of_getElem? (i := 5) rfl)) (fun _ h9 => h9) rfl dX7_drift_61 ?_
        refine lv_i2l (v := (gR_letters tR).toInt64) hx hb dX7_drift_64 rfl ?_
        refine lv_lrem hx hb dX7_drift_65 hf.1 ?_
        have hf := hf.2
        refine lv_l2i (v := (((y3 * 16807) - (y3 * 16807) / 2147483647 * 2147483647) - ((y3 * 16807) - (y3 * 16807) / 2147483647 * 2147483647) / ((gR_letters tR).toInt64) * ((gR_letters tR).toInt64)).toInt32) hx hb dX7_drift_66 rfl ?_
        refine k_wv (wf := fun u => wR aR q u) (u0 := tR) (k_runV (As := [.int ((((y3 * 16807) - (y3 * 16807) / 2147483647 * 2147483647) - ((y3 * 16807) - (y3 * 16807) / 2147483647 * 2147483647) / ((gR_letters tR).toInt64) * ((gR_letters tR).toInt64)).toInt32)]) (rest := []) ⟨hx, hb, hml, hown, hts⟩ (c_X7_grows l D q aR tR ((((y3 * 16807) - (y3 * 16807) / 2147483647 * 2147483647) - ((y3 * 16807) - (y3 * 16807) / 2147483647 * 2147483647) / ((gR_letters tR).toInt64) * ((gR_letters tR).toInt64)).toInt32) _ hf) (cwV 1 hts gX7_drift_X7_grows rfl rfl rfl cdX7_grows ⟨Nat.le_of_ble_eq_true rfl, Nat.le_of_ble_eq_true rfl⟩) hK hP hD 0 rfl rfl rfl hl.1 rfl (Nat.le_of_ble_eq_true rfl) dX7_drift_67 ⟨Nat.le_of_ble_eq_true rfl, Nat.le_of_ble_eq_true rfl⟩) ([]) ([]) (fun _ => rfl) hP hD hS (fun uR5 H locs hf hP hD hS => ?_)
        have hP : va_P D vwCl (wR aR q uR5) H := hP
        have hD : va_D A (wR aR q uR5) := hD
        refine lv_iinc (v := (y5 + 1)) (lv' := [(5, .int (y5 + 1)), (3, .long ((y3 * 16807) - (y3 * 16807) / 2147483647 * 2147483647)), (0, .ref (aR 0)), (1, .int x1)]) hx hb dX7_drift_70 hl (k := 3) rfl rfl (by decide) rfl (fun ls hl => ?_)
        refine lv_goto (tgt := 42) hx hb dX7_drift_73 (by decide) ?_
        exact hf H locs ls hP hD hS (lv_sub hl [2, 3, 1, 0] rfl))
  refine lv_iload_n hx hb dX7_drift_0 rfl (lv_at hl 1 rfl) ?_
  refine lv_iconst (v := 1) hx hb dX7_drift_1 (by decide) ?_
  refine lv_bipush (v := 60) hx hb dX7_drift_2 (by decide) ?_
  refine k_si (k_runS (As := [.int x1, .int 1, .int 60]) (rest := []) ⟨hx, hb, hml, hown, hts⟩ (cF_X7_in l D q x1 1 60) (va_cwS 3 hts gX7_drift_X7_in rfl rfl rfl cdX7_in ⟨Nat.le_of_ble_eq_true rfl, Nat.le_of_ble_eq_true rfl⟩) hK k_nilP k_nilD rfl hl.1 rfl (Nat.le_of_ble_eq_true rfl) dX7_drift_4 ⟨Nat.le_of_ble_eq_true rfl, Nat.le_of_ble_eq_true rfl⟩) (fun r hr => ?_)
  subst hr
  refine lv_if_eq (tgt := 20) hx hb dX7_drift_7 (by decide) (fun c1 => ?_) (fun c1 => ?_)
  · have hf := hf.1 (c1)
    refine lv_iconst (v := (-1)) hx hb dX7_drift_20 (by decide) ?_
    exact k_iret_w (wf := (fun u => wR aR q u)) (post := Q) (u := uR) (v := (-1)) hx hb hr hlocks hK hP hD hS hf dX7_drift_21
  · have hf := hf.2 (c1)
    refine lv_iload_n hx hb dX7_drift_10 rfl (lv_at hl 2 rfl) ?_
    refine lv_iconst (v := 1) hx hb dX7_drift_11 (by decide) ?_
    refine lv_ldc (v := 999999) hx hb hown (hts (.constant RX7 99 (999999)) (List.mem_of_getElem? (i := 1) rfl)) dX7_drift_12 ?_
    refine k_si (k_runS (As := [.int x2, .int 1, .int 999999]) (rest := []) ⟨hx, hb, hml, hown, hts⟩ (cF_X7_in l D q x2 1 999999) (va_cwS 3 hts gX7_drift_X7_in rfl rfl rfl cdX7_in ⟨Nat.le_of_ble_eq_true rfl, Nat.le_of_ble_eq_true rfl⟩) hK k_nilP k_nilD rfl hl.1 rfl (Nat.le_of_ble_eq_true rfl) dX7_drift_14 ⟨Nat.le_of_ble_eq_true rfl, Nat.le_of_ble_eq_true rfl⟩) (fun r hr => ?_)
    subst hr
    refine lv_if_ne (tgt := 22) hx hb dX7_drift_17 (by decide) (fun c2 => ?_) (fun c2 => ?_)
    · have hf := hf.2 (c2)
      refine lv_aload_n hx hb dX7_drift_22 rfl (lv_at hl 0 rfl) ?_
      refine va_get (D := D) (ci := 5) (v := .int (gR_n uR)) (C := RX7) (T := TX7) (N := 14) hx hb hts inX7_drift_X7 hown hK hP 0 rfl rfl 1 (by decide) (hts (.fieldLink RX7 56 "GrowingTextModel" "n" "I") (List.mem_of_getElem? (i := 2) rfl)) (fun _ h9 => h9) rfl dX7_drift_23 ?_
      refine lv_iload_n hx hb dX7_drift_26 rfl (lv_at hl 1 rfl) ?_
      refine lv_iadd hx hb dX7_drift_27 ?_
      refine lv_bipush (v := 60) hx hb dX7_drift_28 (by decide) ?_
      refine lv_icmp_le (tgt := 36) hx hb dX7_drift_30 (by decide) (fun c3 => ?_) (fun c3 => ?_)
      · have hf := hf.1 (c3)
        refine lv_iload_n hx hb dX7_drift_36 rfl (lv_at hl 2 rfl) ?_
        refine lv_i2l (v := (x2).toInt64) hx hb dX7_drift_37 rfl ?_
        refine lv_lstore_n (lv' := [(3, .long ((x2).toInt64)), (0, .ref (aR 0)), (1, .int x1), (2, .int x2)]) hx hb dX7_drift_38 rfl hl (by decide) rfl (fun ls hl => ?_)
        refine lv_iconst (v := 0) hx hb dX7_drift_39 (by decide) ?_
        refine lv_istore (lv' := [(5, .int 0), (3, .long ((x2).toInt64)), (0, .ref (aR 0)), (1, .int x1), (2, .int x2)]) hx hb dX7_drift_40 hl (by decide) rfl (fun ls hl => ?_)
        exact hf H locs ls hP hD hS (lv_sub hl [2, 3, 1, 0] rfl)
      · have hf := hf.2 (c3)
        refine lv_bipush (v := (-3)) hx hb dX7_drift_33 (by decide) ?_
        exact k_iret_w (wf := (fun u => wR aR q u)) (post := Q) (u := uR) (v := (-3)) hx hb hr hlocks hK hP hD hS hf dX7_drift_35
    · have hf := hf.1 (c2)
      refine lv_iconst (v := (-1)) hx hb dX7_drift_20 (by decide) ?_
      exact k_iret_w (wf := (fun u => wR aR q u)) (post := Q) (u := uR) (v := (-1)) hx hb hr hlocks hK hP hD hS hf dX7_drift_21
def wpX7_letter (uR : RSt) (x1 : Int32) (Q : Int32 → Prop) : Prop :=
  (((fX7_in x1 0 ((gR_n uR) - 1)) = 0 →
    Q (-12)) ∧
  (¬ ((fX7_in x1 0 ((gR_n uR) - 1)) = 0) →
    vp_in x1 60 ∧
    Q ((gR_text uR) (x1 : Int32).toNatClampNeg)))
def rmX7_letter : Room := { frames := 1, cells := 0, slots := 0, locals := 22 }
theorem inX7_letter_X7 : ∀ w ∈ wsX70, w ∈ wsX7_letter := fun w h => List.mem_cons_of_mem _ (List.mem_append_right _ h)
set_option maxRecDepth 100000 in
set_option maxHeartbeats 4000000 in
theorem c_X7_letter (l : Launch) (D : va_G) (q : Nat → ClassId) (aR : Nat → Nat) (uR : RSt) (x1 : Int32) (Q : Int32 → Prop) (hf : wpX7_letter uR x1 Q) : Met l yX7_letter wsX7_letter rmX7_letter (va_Pc [.ref (aR 0), .int x1] (kP D q (wR aR q uR))) (vp_Si Q) 0 0 (fun _ => False) := by
  refine Met.ofW (cc := cX7_letter) (maxL := 2) (ret := (some .int)) (by decide) rfl ?_
  intro p e s m args below meth c s₁ B hml hv
  obtain ⟨hargs, hP, hK, hD⟩ := hv
  have hx := B.exec
  have hb := B.bytes
  have hr := B.returns
  have hts := atoms_spec (ws := wsX7_letter) B.pre
  have hown : s.vm.findClass RX7 = some m.cls := findClass_of_methodNamed B.named
  have hlocks := B.notSynchronized
  refine k_entry hargs (Nat.le_of_ble_eq_true rfl) (fun ls hl => ?_)
  have hl : lv_has ls 2 [(0, .ref (aR 0)), (1, .int x1)] := hl
  change W p l e rmX7_letter s m args below meth c s.heap [] 0 0 (MQ below (vp_Si Q) args s 0 0 (fun _ => False)) _
  unfold wpX7_letter at hf
  refine lv_iload_n hx hb dX7_letter_0 rfl (lv_at hl 1 rfl) ?_
  refine lv_iconst (v := 0) hx hb dX7_letter_1 (by decide) ?_
  refine lv_aload_n hx hb dX7_letter_2 rfl (lv_at hl 0 rfl) ?_
  refine va_get (D := D) (ci := 5) (v := .int (gR_n uR)) (C := RX7) (T := TX7) (N := 14) hx hb hts inX7_letter_X7 hown hK hP 0 rfl rfl 1 (by decide) (hts (.fieldLink RX7 56 "GrowingTextModel" "n" "I") (List.mem_of_getElem? (i := 1) rfl)) (fun _ h9 => h9) rfl dX7_letter_3 ?_
  refine lv_iconst (v := 1) hx hb dX7_letter_6 (by decide) ?_
  refine lv_isub hx hb dX7_letter_7 ?_
  refine k_si (k_runS (As := [.int x1, .int 0, .int ((gR_n uR) - 1)]) (rest := []) ⟨hx, hb, hml, hown, hts⟩ (cF_X7_in l D q x1 0 ((gR_n uR) - 1)) (va_cwS 3 hts gX7_letter_X7_in rfl rfl rfl cdX7_in ⟨Nat.le_of_ble_eq_true rfl, Nat.le_of_ble_eq_true rfl⟩) hK k_nilP k_nilD rfl hl.1 rfl (Nat.le_of_ble_eq_true rfl) dX7_letter_8 ⟨Nat.le_of_ble_eq_true rfl, Nat.le_of_ble_eq_true rfl⟩) (fun r hr => ?_)
  subst hr
  refine lv_if_eq (tgt := 23) hx hb dX7_letter_11 (by decide) (fun c1 => ?_) (fun c1 => ?_)
  · have hf := hf.1 (c1)
    refine lv_bipush (v := (-12)) hx hb dX7_letter_23 (by decide) ?_
    exact k_iret_r (v := (-12)) hx hb hr hlocks hf dX7_letter_25
  · have hf := hf.2 (c1)
    refine lv_aload_n hx hb dX7_letter_14 rfl (lv_at hl 0 rfl) ?_
    refine va_get (D := D) (ci := 5) (v := .ref (aR 1)) (C := RX7) (T := TX7) (N := 14) hx hb hts inX7_letter_X7 hown hK hP 0 rfl rfl 2 (by decide) (hts (.fieldLink RX7 7 "GrowingTextModel" "text" "[I") (List.mem_of_getElem? (i := 2) rfl)) (fun _ h9 => h9) rfl dX7_letter_15 ?_
    refine lv_iload_n hx hb dX7_letter_18 rfl (lv_at hl 1 rfl) ?_
    refine va_iald hx hb hK hP 1 0 (f := (gR_text uR)) rfl rfl hf.1 dX7_letter_19 ?_
    have hf := hf.2
    refine lv_goto (tgt := 25) hx hb dX7_letter_20 (by decide) ?_
    exact k_iret_r (v := ((gR_text uR) (x1 : Int32).toNatClampNeg)) hx hb hr hlocks hf dX7_letter_25
def wpX7_linkOf (uR : RSt) (x1 : Int32) (Q : Int32 → Prop) : Prop :=
  ∀ (X5 : Int32 → Int32 → Prop) (X45 : Int32 → Int32 → Prop) (X46 : Int32 → Int32 → Int32 → Prop) (X78 : Int32 → Int32 → Prop) (X74 : Int32 → Prop),
  (∀ (y2 : Int32) (y3 : Int32),
    (((gR_stateMany uR) ≤ y3 →
      Q y2) ∧
    (¬ ((gR_stateMany uR) ≤ y3) →
      (y3 = x1 →
        X45 y2 y3) ∧
      (¬ (y3 = x1) →
        vp_in y3 121 ∧
        vp_in x1 121 ∧
        vp_in x1 121 ∧
        ((((((gR_ends uR) (y3 : Int32).toNatClampNeg) &&& ((gR_ends uR) (x1 : Int32).toNatClampNeg)) : Int64) = ((gR_ends uR) (x1 : Int32).toNatClampNeg) →
          X46 y2 y3 1) ∧
        (¬ (((((gR_ends uR) (y3 : Int32).toNatClampNeg) &&& ((gR_ends uR) (x1 : Int32).toNatClampNeg)) : Int64) = ((gR_ends uR) (x1 : Int32).toNatClampNeg)) →
          X45 y2 y3))))) → X5 y2 y3) →
  (∀ (y2 : Int32) (y3 : Int32),
    X46 y2 y3 0 → X45 y2 y3) →
  (∀ (y2 : Int32) (y3 : Int32) (z0 : Int32),
    ((z0 = 0 →
      X78 y2 y3) ∧
    (¬ (z0 = 0) →
      (y2 = (-4) →
        X74 y3) ∧
      (¬ (y2 = (-4)) →
        vp_in y3 121 ∧
        vp_in y2 121 ∧
        ((((gR_longest uR) (y3 : Int32).toNatClampNeg) ≤ ((gR_longest uR) (y2 : Int32).toNatClampNeg) →
          X78 y2 y3) ∧
        (¬ (((gR_longest uR) (y3 : Int32).toNatClampNeg) ≤ ((gR_longest uR) (y2 : Int32).toNatClampNeg)) →
          X74 y3))))) → X46 y2 y3 z0) →
  (∀ (y2 : Int32) (y3 : Int32),
    X5 y2 (y3 + 1) → X78 y2 y3) →
  (∀ (y3 : Int32),
    X5 y3 (y3 + 1) → X74 y3) →
  X5 (-4) 0
def rmX7_linkOf : Room := { frames := 0, cells := 0, slots := 0, locals := 0 }
theorem inX7_linkOf_X7 : ∀ w ∈ wsX70, w ∈ wsX7_linkOf := fun w h => List.mem_cons_of_mem _ (List.mem_append_right _ h)
set_option maxRecDepth 100000 in
set_option maxHeartbeats 4000000 in
theorem c_X7_linkOf (l : Launch) (D : va_G) (q : Nat → ClassId) (aR : Nat → Nat) (uR : RSt) (x1 : Int32) (Q : Int32 → Prop) (hf : wpX7_linkOf uR x1 Q) : Met l yX7_linkOf wsX7_linkOf rmX7_linkOf (va_Pc [.ref (aR 0), .int x1] (kP D q (wR aR q uR))) (vp_Si Q) 0 0 (fun _ => False) := by
  refine Met.ofW (cc := cX7_linkOf) (maxL := 5) (ret := (some .int)) (by decide) rfl ?_
  intro p e s m args below meth c s₁ B hml hv
  obtain ⟨hargs, hP, hK, hD⟩ := hv
  have hx := B.exec
  have hb := B.bytes
  have hr := B.returns
  have hts := atoms_spec (ws := wsX7_linkOf) B.pre
  have hown : s.vm.findClass RX7 = some m.cls := findClass_of_methodNamed B.named
  have hlocks := B.notSynchronized
  refine k_entry hargs (Nat.le_of_ble_eq_true rfl) (fun ls hl => ?_)
  have hl : lv_has ls 5 [(0, .ref (aR 0)), (1, .int x1)] := hl
  change W p l e rmX7_linkOf s m args below meth c s.heap [] 0 0 (MQ below (vp_Si Q) args s 0 0 (fun _ => False)) _
  unfold wpX7_linkOf at hf
  have hf := hf
    (fun (y2 : Int32) (y3 : Int32) => ∀ (ls : Array Slot), lv_has ls 5 [(0, .ref (aR 0)), (1, .int x1), (2, .int y2), (3, .int y3)] → W p l e rmX7_linkOf s m args below meth c s.heap [] 0 0 (MQ below (vp_Si Q) args s 0 0 (fun _ => False)) (F0 m 5 ls []))
    (fun (y2 : Int32) (y3 : Int32) => ∀ (ls : Array Slot), lv_has ls 5 [(0, .ref (aR 0)), (1, .int x1), (2, .int y2), (3, .int y3)] → W p l e rmX7_linkOf s m args below meth c s.heap [] 0 0 (MQ below (vp_Si Q) args s 0 0 (fun _ => False)) (F0 m 45 ls []))
    (fun (y2 : Int32) (y3 : Int32) (z0 : Int32) => ∀ (ls : Array Slot), lv_has ls 5 [(0, .ref (aR 0)), (1, .int x1), (2, .int y2), (3, .int y3)] → W p l e rmX7_linkOf s m args below meth c s.heap [] 0 0 (MQ below (vp_Si Q) args s 0 0 (fun _ => False)) (F0 m 46 ls [.int z0]))
    (fun (y2 : Int32) (y3 : Int32) => ∀ (ls : Array Slot), lv_has ls 5 [(0, .ref (aR 0)), (1, .int x1), (2, .int y2), (3, .int y3)] → W p l e rmX7_linkOf s m args below meth c s.heap [] 0 0 (MQ below (vp_Si Q) args s 0 0 (fun _ => False)) (F0 m 78 ls []))
    (fun (y3 : Int32) => ∀ (ls : Array Slot), lv_has ls 5 [(0, .ref (aR 0)), (1, .int x1), (3, .int y3)] → W p l e rmX7_linkOf s m args below meth c s.heap [] 0 0 (MQ below (vp_Si Q) args s 0 0 (fun _ => False)) (F0 m 74 ls []))
    (by
      intro y2 y3 hf ls hl
      refine lv_iload_n hx hb dX7_linkOf_5 rfl (lv_at hl 3 rfl) ?_
      refine lv_aload_n hx hb dX7_linkOf_6 rfl (lv_at hl 0 rfl) ?_
      refine va_get (D := D) (ci := 5) (v := .int (gR_stateMany uR)) (C := RX7) (T := TX7) (N := 14) hx hb hts inX7_linkOf_X7 hown hK hP 0 rfl rfl 3 (by decide) (hts (.fieldLink RX7 59 "GrowingTextModel" "stateMany" "I") (List.mem_of_getElem? (i := 1) rfl)) (fun _ h9 => h9) rfl dX7_linkOf_7 ?_
      refine lv_icmp_ge (tgt := 86) hx hb dX7_linkOf_10 (by decide) (fun c1 => ?_) (fun c1 => ?_)
      · have hf := hf.1 (c1)
        refine lv_iload_n hx hb dX7_linkOf_86 rfl (lv_at hl 2 rfl) ?_
        exact k_iret_r (v := y2) hx hb hr hlocks hf dX7_linkOf_87
      · have hf := hf.2 (c1)
        refine lv_iload_n hx hb dX7_linkOf_13 rfl (lv_at hl 3 rfl) ?_
        refine lv_iload_n hx hb dX7_linkOf_14 rfl (lv_at hl 1 rfl) ?_
        refine lv_icmp_eq (tgt := 45) hx hb dX7_linkOf_15 (by decide) (fun c2 => ?_) (fun c2 => ?_)
        · have hf := hf.1 (c2)
          exact hf ls (lv_sub hl [0, 1, 2, 3] rfl)
        · have hf := hf.2 (c2)
          refine lv_aload_n hx hb dX7_linkOf_18 rfl (lv_at hl 0 rfl) ?_
          refine va_get (D := D) (ci := 5) (v := .ref (aR 5)) (C := RX7) (T := TX7) (N := 14) hx hb hts inX7_linkOf_X7 hown hK hP 0 rfl rfl 7 (by decide) (hts (.fieldLink RX7 22 "GrowingTextModel" "ends" "[J") (List.mem_of_getElem? (i := 2) rfl)) (fun _ h9 => h9) rfl dX7_linkOf_19 ?_
          refine lv_iload_n hx hb dX7_linkOf_22 rfl (lv_at hl 3 rfl) ?_
          refine va_lald hx hb hK hP 5 1 (f := (gR_ends uR)) rfl rfl hf.1 dX7_linkOf_23 ?_
          have hf := hf.2
          refine lv_aload_n hx hb dX7_linkOf_24 rfl (lv_at hl 0 rfl) ?_
          refine va_get (D := D) (ci := 5) (v := .ref (aR 5)) (C := RX7) (T := TX7) (N := 14) hx hb hts inX7_linkOf_X7 hown hK hP 0 rfl rfl 7 (by decide) (hts (.fieldLink RX7 22 "GrowingTextModel" "ends" "[J") (List.mem_of_getElem? (i := 2) rfl)) (fun _ h9 => h9) rfl dX7_linkOf_25 ?_
          refine lv_iload_n hx hb dX7_linkOf_28 rfl (lv_at hl 1 rfl) ?_
          refine va_lald hx hb hK hP 5 1 (f := (gR_ends uR)) rfl rfl hf.1 dX7_linkOf_29 ?_
          have hf := hf.2
          refine lv_land hx hb dX7_linkOf_30 ?_
          refine lv_aload_n hx hb dX7_linkOf_31 rfl (lv_at hl 0 rfl) ?_
          refine va_get (D := D) (ci := 5) (v := .ref (aR 5)) (C := RX7) (T := TX7) (N := 14) hx hb hts inX7_linkOf_X7 hown hK hP 0 rfl rfl 7 (by decide) (hts (.fieldLink RX7 22 "GrowingTextModel" "ends" "[J") (List.mem_of_getElem? (i := 2) rfl)) (fun _ h9 => h9) rfl dX7_linkOf_32 ?_
          refine lv_iload_n hx hb dX7_linkOf_35 rfl (lv_at hl 1 rfl) ?_
          refine va_lald hx hb hK hP 5 1 (f := (gR_ends uR)) rfl rfl hf.1 dX7_linkOf_36 ?_
          have hf := hf.2
          refine W.lcmp hx hb dX7_linkOf_37 ?_
          refine lv_if_ne (tgt := 45) hx hb dX7_linkOf_38 (by decide) (fun c3 => ?_) (fun c3 => ?_)
          · have hf := hf.2 ((fun h => c3 ((k_cmp_eq (((gR_ends uR) (y3 : Int32).toNatClampNeg) &&& ((gR_ends uR) (x1 : Int32).toNatClampNeg)) ((gR_ends uR) (x1 : Int32).toNatClampNeg)).mpr h)))
            exact hf ls (lv_sub hl [0, 1, 2, 3] rfl)
          · have hf := hf.1 ((k_cmp_eq (((gR_ends uR) (y3 : Int32).toNatClampNeg) &&& ((gR_ends uR) (x1 : Int32).toNatClampNeg)) ((gR_ends uR) (x1 : Int32).toNatClampNeg)).mp c3)
            refine lv_iconst (v := 1) hx hb dX7_linkOf_41 (by decide) ?_
            refine lv_goto (tgt := 46) hx hb dX7_linkOf_42 (by decide) ?_
            exact hf ls (lv_sub hl [0, 1, 2, 3] rfl))
    (by
      intro y2 y3 hf ls hl
      refine lv_iconst (v := 0) hx hb dX7_linkOf_45 (by decide) ?_
      exact hf ls (lv_sub hl [0, 1, 2, 3] rfl))
    (by
      intro y2 y3 z0 hf ls hl
      refine lv_istore (lv' := [(4, .int z0), (0, .ref (aR 0)), (1, .int x1), (2, .int y2), (3, .int y3)]) hx hb dX7_linkOf_46 hl (by decide) rfl (fun ls hl => ?_)
      refine lv_iload hx hb dX7_linkOf_48 (lv_at hl 0 rfl) ?_
      refine lv_if_eq (tgt := 78) hx hb dX7_linkOf_50 (by decide) (fun c4 => ?_) (fun c4 => ?_)
      · have hf := hf.1 (c4)
        exact hf ls (lv_sub hl [1, 2, 3, 4] rfl)
      · have hf := hf.2 (c4)
        refine lv_iload_n hx hb dX7_linkOf_53 rfl (lv_at hl 3 rfl) ?_
        refine lv_bipush (v := (-4)) hx hb dX7_linkOf_54 (by decide) ?_
        refine lv_icmp_eq (tgt := 74) hx hb dX7_linkOf_56 (by decide) (fun c5 => ?_) (fun c5 => ?_)
        · have hf := hf.1 (c5)
          exact hf ls (lv_sub hl [1, 2, 4] rfl)
        · have hf := hf.2 (c5)
          refine lv_aload_n hx hb dX7_linkOf_59 rfl (lv_at hl 1 rfl) ?_
          refine va_get (D := D) (ci := 5) (v := .ref (aR 2)) (C := RX7) (T := TX7) (N := 14) hx hb hts inX7_linkOf_X7 hown hK hP 0 rfl rfl 4 (by decide) (hts (.fieldLink RX7 13 "GrowingTextModel" "longest" "[I") (List.mem_of_getElem? (i := 3) rfl)) (fun _ h9 => h9) rfl dX7_linkOf_60 ?_
          refine lv_iload_n hx hb dX7_linkOf_63 rfl (lv_at hl 4 rfl) ?_
          refine va_iald hx hb hK hP 2 0 (f := (gR_longest uR)) rfl rfl hf.1 dX7_linkOf_64 ?_
          have hf := hf.2
          refine lv_aload_n hx hb dX7_linkOf_65 rfl (lv_at hl 1 rfl) ?_
          refine va_get (D := D) (ci := 5) (v := .ref (aR 2)) (C := RX7) (T := TX7) (N := 14) hx hb hts inX7_linkOf_X7 hown hK hP 0 rfl rfl 4 (by decide) (hts (.fieldLink RX7 13 "GrowingTextModel" "longest" "[I") (List.mem_of_getElem? (i := 3) rfl)) (fun _ h9 => h9) rfl dX7_linkOf_66 ?_
          refine lv_iload_n hx hb dX7_linkOf_69 rfl (lv_at hl 3 rfl) ?_
          refine va_iald hx hb hK hP 2 0 (f := (gR_longest uR)) rfl rfl hf.1 dX7_linkOf_70 ?_
          have hf := hf.2
          refine lv_icmp_le (tgt := 78) hx hb dX7_linkOf_71 (by decide) (fun c6 => ?_) (fun c6 => ?_)
          · have hf := hf.1 (c6)
            exact hf ls (lv_sub hl [1, 2, 3, 4] rfl)
          · have hf := hf.2 (c6)
            exact hf ls (lv_sub hl [1, 2, 4] rfl))
    (by
      intro y2 y3 hf ls hl
      refine lv_iload_n hx hb dX7_linkOf_78 rfl (lv_at hl 2 rfl) ?_
      refine lv_istore_n (lv' := [(2, .int y2), (0, .ref (aR 0)), (1, .int x1), (3, .int y3)]) hx hb dX7_linkOf_79 rfl hl (by decide) rfl (fun ls hl => ?_)
      refine lv_iinc (v := (y3 + 1)) (lv' := [(3, .int (y3 + 1)), (2, .int y2), (0, .ref (aR 0)), (1, .int x1)]) hx hb dX7_linkOf_80 hl (k := 3) rfl rfl (by decide) rfl (fun ls hl => ?_)
      refine lv_goto (tgt := 5) hx hb dX7_linkOf_83 (by decide) ?_
      exact hf ls (lv_sub hl [2, 3, 1, 0] rfl))
    (by
      intro y3 hf ls hl
      refine lv_iload_n hx hb dX7_linkOf_74 rfl (lv_at hl 2 rfl) ?_
      refine lv_goto (tgt := 79) hx hb dX7_linkOf_75 (by decide) ?_
      refine lv_istore_n (lv' := [(2, .int y3), (0, .ref (aR 0)), (1, .int x1), (3, .int y3)]) hx hb dX7_linkOf_79 rfl hl (by decide) rfl (fun ls hl => ?_)
      refine lv_iinc (v := (y3 + 1)) (lv' := [(3, .int (y3 + 1)), (2, .int y3), (0, .ref (aR 0)), (1, .int x1)]) hx hb dX7_linkOf_80 hl (k := 3) rfl rfl (by decide) rfl (fun ls hl => ?_)
      refine lv_goto (tgt := 5) hx hb dX7_linkOf_83 (by decide) ?_
      exact hf ls (lv_sub hl [2, 3, 1, 0] rfl))
  refine lv_bipush (v := (-4)) hx hb dX7_linkOf_0 (by decide) ?_
  refine lv_istore_n (lv' := [(2, .int (-4)), (0, .ref (aR 0)), (1, .int x1)]) hx hb dX7_linkOf_2 rfl hl (by decide) rfl (fun ls hl => ?_)
  refine lv_iconst (v := 0) hx hb dX7_linkOf_3 (by decide) ?_
  refine lv_istore_n (lv' := [(3, .int 0), (2, .int (-4)), (0, .ref (aR 0)), (1, .int x1)]) hx hb dX7_linkOf_4 rfl hl (by decide) rfl (fun ls hl => ?_)
  exact hf ls (lv_sub hl [2, 3, 1, 0] rfl)
def wpX7_shortest (uR : RSt) (x1 : Int32) (Q : Int32 → Prop) : Prop :=
  ((x1 = 0 →
    Q 0) ∧
  (¬ (x1 = 0) →
    wpX7_linkOf uR x1 (fun r2 =>
      vp_in r2 121 ∧
      Q (((gR_longest uR) (r2 : Int32).toNatClampNeg) + 1))))
def rmX7_shortest : Room := { frames := 1, cells := 0, slots := 0, locals := 24 }
theorem inX7_shortest_X7 : ∀ w ∈ wsX70, w ∈ wsX7_shortest := fun w h => List.mem_cons_of_mem _ (List.mem_append_right _ h)
set_option maxRecDepth 100000 in
set_option maxHeartbeats 4000000 in
theorem c_X7_shortest (l : Launch) (D : va_G) (q : Nat → ClassId) (aR : Nat → Nat) (uR : RSt) (x1 : Int32) (Q : Int32 → Prop) (hf : wpX7_shortest uR x1 Q) : Met l yX7_shortest wsX7_shortest rmX7_shortest (va_Pc [.ref (aR 0), .int x1] (kP D q (wR aR q uR))) (vp_Si Q) 0 0 (fun _ => False) := by
  refine Met.ofW (cc := cX7_shortest) (maxL := 2) (ret := (some .int)) (by decide) rfl ?_
  intro p e s m args below meth c s₁ B hml hv
  obtain ⟨hargs, hP, hK, hD⟩ := hv
  have hx := B.exec
  have hb := B.bytes
  have hr := B.returns
  have hts := atoms_spec (ws := wsX7_shortest) B.pre
  have hown : s.vm.findClass RX7 = some m.cls := findClass_of_methodNamed B.named
  have hlocks := B.notSynchronized
  refine k_entry hargs (Nat.le_of_ble_eq_true rfl) (fun ls hl => ?_)
  have hl : lv_has ls 2 [(0, .ref (aR 0)), (1, .int x1)] := hl
  change W p l e rmX7_shortest s m args below meth c s.heap [] 0 0 (MQ below (vp_Si Q) args s 0 0 (fun _ => False)) _
  unfold wpX7_shortest at hf
  refine lv_iload_n hx hb dX7_shortest_0 rfl (lv_at hl 1 rfl) ?_
  refine lv_if_ne (tgt := 8) hx hb dX7_shortest_1 (by decide) (fun c1 => ?_) (fun c1 => ?_)
  · have hf := hf.2 (c1)
    refine lv_aload_n hx hb dX7_shortest_8 rfl (lv_at hl 0 rfl) ?_
    refine va_get (D := D) (ci := 5) (v := .ref (aR 2)) (C := RX7) (T := TX7) (N := 14) hx hb hts inX7_shortest_X7 hown hK hP 0 rfl rfl 4 (by decide) (hts (.fieldLink RX7 13 "GrowingTextModel" "longest" "[I") (List.mem_of_getElem? (i := 1) rfl)) (fun _ h9 => h9) rfl dX7_shortest_9 ?_
    refine lv_aload_n hx hb dX7_shortest_12 rfl (lv_at hl 0 rfl) ?_
    refine lv_iload_n hx hb dX7_shortest_13 rfl (lv_at hl 1 rfl) ?_
    refine k_si (k_runV (As := [.int x1]) (rest := [.ref (aR 2)]) ⟨hx, hb, hml, hown, hts⟩ (c_X7_linkOf l D q aR uR x1 _ hf) (cwV 1 hts gX7_shortest_X7_linkOf rfl rfl rfl cdX7_linkOf ⟨Nat.le_of_ble_eq_true rfl, Nat.le_of_ble_eq_true rfl⟩) hK hP hD 0 rfl rfl rfl hl.1 rfl (Nat.le_of_ble_eq_true rfl) dX7_shortest_14 ⟨Nat.le_of_ble_eq_true rfl, Nat.le_of_ble_eq_true rfl⟩) (fun r2 hf => ?_)
    refine va_iald hx hb hK hP 2 0 (f := (gR_longest uR)) rfl rfl hf.1 dX7_shortest_17 ?_
    have hf := hf.2
    refine lv_iconst (v := 1) hx hb dX7_shortest_18 (by decide) ?_
    refine lv_iadd hx hb dX7_shortest_19 ?_
    exact k_iret_r (v := (((gR_longest uR) (r2 : Int32).toNatClampNeg) + 1)) hx hb hr hlocks hf dX7_shortest_20
  · have hf := hf.1 (c1)
    refine lv_iconst (v := 0) hx hb dX7_shortest_4 (by decide) ?_
    refine lv_goto (tgt := 20) hx hb dX7_shortest_5 (by decide) ?_
    exact k_iret_r (v := 0) hx hb hr hlocks hf dX7_shortest_20
def wpX7_isState (uR : RSt) (x1 : Int32) (Q : Int32 → Prop) : Prop :=
  Q (fX7_in x1 0 ((gR_stateMany uR) - 1))
def rmX7_isState : Room := { frames := 1, cells := 0, slots := 0, locals := 22 }
theorem inX7_isState_X7 : ∀ w ∈ wsX70, w ∈ wsX7_isState := fun w h => List.mem_cons_of_mem _ (List.mem_append_right _ h)
set_option maxRecDepth 100000 in
set_option maxHeartbeats 4000000 in
theorem c_X7_isState (l : Launch) (D : va_G) (q : Nat → ClassId) (aR : Nat → Nat) (uR : RSt) (x1 : Int32) (Q : Int32 → Prop) (hf : wpX7_isState uR x1 Q) : Met l yX7_isState wsX7_isState rmX7_isState (va_Pc [.ref (aR 0), .int x1] (kP D q (wR aR q uR))) (vp_Si Q) 0 0 (fun _ => False) := by
  refine Met.ofW (cc := cX7_isState) (maxL := 2) (ret := (some .boolean)) (by decide) rfl ?_
  intro p e s m args below meth c s₁ B hml hv
  obtain ⟨hargs, hP, hK, hD⟩ := hv
  have hx := B.exec
  have hb := B.bytes
  have hr := B.returns
  have hts := atoms_spec (ws := wsX7_isState) B.pre
  have hown : s.vm.findClass RX7 = some m.cls := findClass_of_methodNamed B.named
  have hlocks := B.notSynchronized
  refine k_entry hargs (Nat.le_of_ble_eq_true rfl) (fun ls hl => ?_)
  have hl : lv_has ls 2 [(0, .ref (aR 0)), (1, .int x1)] := hl
  change W p l e rmX7_isState s m args below meth c s.heap [] 0 0 (MQ below (vp_Si Q) args s 0 0 (fun _ => False)) _
  unfold wpX7_isState at hf
  refine lv_iload_n hx hb dX7_isState_0 rfl (lv_at hl 1 rfl) ?_
  refine lv_iconst (v := 0) hx hb dX7_isState_1 (by decide) ?_
  refine lv_aload_n hx hb dX7_isState_2 rfl (lv_at hl 0 rfl) ?_
  refine va_get (D := D) (ci := 5) (v := .int (gR_stateMany uR)) (C := RX7) (T := TX7) (N := 14) hx hb hts inX7_isState_X7 hown hK hP 0 rfl rfl 3 (by decide) (hts (.fieldLink RX7 59 "GrowingTextModel" "stateMany" "I") (List.mem_of_getElem? (i := 1) rfl)) (fun _ h9 => h9) rfl dX7_isState_3 ?_
  refine lv_iconst (v := 1) hx hb dX7_isState_6 (by decide) ?_
  refine lv_isub hx hb dX7_isState_7 ?_
  refine k_si (k_runS (As := [.int x1, .int 0, .int ((gR_stateMany uR) - 1)]) (rest := []) ⟨hx, hb, hml, hown, hts⟩ (cF_X7_in l D q x1 0 ((gR_stateMany uR) - 1)) (va_cwS 3 hts gX7_isState_X7_in rfl rfl rfl cdX7_in ⟨Nat.le_of_ble_eq_true rfl, Nat.le_of_ble_eq_true rfl⟩) hK k_nilP k_nilD rfl hl.1 rfl (Nat.le_of_ble_eq_true rfl) dX7_isState_8 ⟨Nat.le_of_ble_eq_true rfl, Nat.le_of_ble_eq_true rfl⟩) (fun r hr => ?_)
  subst hr
  exact k_zret_r (v := (fX7_in x1 0 ((gR_stateMany uR) - 1))) hx hb hr (by unfold fX7_in; (repeat' split) <;> rfl) hlocks hf dX7_isState_11
def fX7_isState (uR : RSt) (x1 : Int32) : Int32 := (fX7_in x1 0 ((gR_stateMany uR) - 1))
theorem pF_X7_isState (uR : RSt) (x1 : Int32) (Q : Int32 → Prop) (hq : Q (fX7_isState uR x1)) : wpX7_isState uR x1 Q := by
  unfold fX7_isState at hq; unfold wpX7_isState; exact hq
theorem cF_X7_isState (l : Launch) (D : va_G) (q : Nat → ClassId) (aR : Nat → Nat) (uR : RSt) (x1 : Int32) : Met l yX7_isState wsX7_isState rmX7_isState (va_Pc [.ref (aR 0), .int x1] (kP D q (wR aR q uR))) (vp_Si (fun r => r = fX7_isState uR x1)) 0 0 (fun _ => False) := c_X7_isState l D q aR uR x1 _ (pF_X7_isState uR x1 _ rfl)
def wpX7_state (uR : RSt) (x1 : Int32) (x2 : Int32) (Q : Int32 → Prop) : Prop :=
  (((fX7_isState uR x1) = 0 →
    Q (-1)) ∧
  (¬ ((fX7_isState uR x1) = 0) →
    (x2 = 0 →
      vp_in x1 121 ∧
      Q ((gR_longest uR) (x1 : Int32).toNatClampNeg)) ∧
    (¬ (x2 = 0) →
      (x2 = 1 →
        wpX7_shortest uR x1 (fun r4 =>
          Q r4)) ∧
      (¬ (x2 = 1) →
        (x2 = 2 →
          (x1 = 0 →
            Q (-4)) ∧
          (¬ (x1 = 0) →
            wpX7_linkOf uR x1 (fun r7 =>
              Q r7))) ∧
        (¬ (x2 = 2) →
          (x2 = 3 →
            vp_in x1 121 ∧
            wpX7_bits ((gR_ends uR) (x1 : Int32).toNatClampNeg) (fun r9 =>
              Q r9)) ∧
          (¬ (x2 = 3) →
            (x2 = 4 →
              vp_in x1 121 ∧
              wpX7_least ((gR_ends uR) (x1 : Int32).toNatClampNeg) (fun r11 =>
                Q r11)) ∧
            (¬ (x2 = 4) →
              (x2 = 5 →
                vp_in x1 121 ∧
                Q ((gR_made uR) (x1 : Int32).toNatClampNeg)) ∧
              (¬ (x2 = 5) →
                (x2 = 6 →
                  vp_in x1 121 ∧
                  Q ((gR_cloneOf uR) (x1 : Int32).toNatClampNeg)) ∧
                (¬ (x2 = 6) →
                  Q (-1))))))))))
def rmX7_state : Room := { frames := 2, cells := 0, slots := 0, locals := 45 }
theorem inX7_state_X7 : ∀ w ∈ wsX70, w ∈ wsX7_state := fun w h => List.mem_cons_of_mem _ (List.mem_append_right _ h)
set_option maxRecDepth 100000 in
set_option maxHeartbeats 4000000 in
theorem c_X7_state (l : Launch) (D : va_G) (q : Nat → ClassId) (aR : Nat → Nat) (uR : RSt) (x1 : Int32) (x2 : Int32) (Q : Int32 → Prop) (hf : wpX7_state uR x1 x2 Q) : Met l yX7_state wsX7_state rmX7_state (va_Pc [.ref (aR 0), .int x1, .int x2] (kP D q (wR aR q uR))) (vp_Si Q) 0 0 (fun _ => False) := by
  refine Met.ofW (cc := cX7_state) (maxL := 3) (ret := (some .int)) (by decide) rfl ?_
  intro p e s m args below meth c s₁ B hml hv
  obtain ⟨hargs, hP, hK, hD⟩ := hv
  have hx := B.exec
  have hb := B.bytes
  have hr := B.returns
  have hts := atoms_spec (ws := wsX7_state) B.pre
  have hown : s.vm.findClass RX7 = some m.cls := findClass_of_methodNamed B.named
  have hlocks := B.notSynchronized
  refine k_entry hargs (Nat.le_of_ble_eq_true rfl) (fun ls hl => ?_)
  have hl : lv_has ls 3 [(0, .ref (aR 0)), (1, .int x1), (2, .int x2)] := hl
  change W p l e rmX7_state s m args below meth c s.heap [] 0 0 (MQ below (vp_Si Q) args s 0 0 (fun _ => False)) _
  unfold wpX7_state at hf
  refine lv_aload_n hx hb dX7_state_0 rfl (lv_at hl 0 rfl) ?_
  refine lv_iload_n hx hb dX7_state_1 rfl (lv_at hl 1 rfl) ?_
  refine k_si (k_runV (As := [.int x1]) (rest := []) ⟨hx, hb, hml, hown, hts⟩ (cF_X7_isState l D q aR uR x1) (cwV 1 hts gX7_state_X7_isState rfl rfl rfl cdX7_isState ⟨Nat.le_of_ble_eq_true rfl, Nat.le_of_ble_eq_true rfl⟩) hK hP hD 0 rfl rfl rfl hl.1 rfl (Nat.le_of_ble_eq_true rfl) dX7_state_2 ⟨Nat.le_of_ble_eq_true rfl, Nat.le_of_ble_eq_true rfl⟩) (fun r hr => ?_)
  subst hr
  refine lv_if_ne (tgt := 10) hx hb dX7_state_5 (by decide) (fun c1 => ?_) (fun c1 => ?_)
  · have hf := hf.2 (c1)
    refine lv_iload_n hx hb dX7_state_10 rfl (lv_at hl 2 rfl) ?_
    by_cases c2 : x2 = 0
    · have hf := hf.1 c2
      refine lv_tableIn (tgt := 52) hx hb dX7_state_11 (by rw [c2]; decide) (by rw [c2]; decide) (by rw [c2]; rfl) (by decide) ?_
      refine lv_aload_n hx hb dX7_state_52 rfl (lv_at hl 0 rfl) ?_
      refine va_get (D := D) (ci := 5) (v := .ref (aR 2)) (C := RX7) (T := TX7) (N := 14) hx hb hts inX7_state_X7 hown hK hP 0 rfl rfl 4 (by decide) (hts (.fieldLink RX7 13 "GrowingTextModel" "longest" "[I") (List.mem_of_getElem? (i := 1) rfl)) (fun _ h9 => h9) rfl dX7_state_53 ?_
      refine lv_iload_n hx hb dX7_state_56 rfl (lv_at hl 1 rfl) ?_
      refine va_iald hx hb hK hP 2 0 (f := (gR_longest uR)) rfl rfl hf.1 dX7_state_57 ?_
      have hf := hf.2
      exact k_iret_r (v := ((gR_longest uR) (x1 : Int32).toNatClampNeg)) hx hb hr hlocks hf dX7_state_58
    have hf := hf.2 c2
    by_cases c3 : x2 = 1
    · have hf := hf.1 c3
      refine lv_tableIn (tgt := 59) hx hb dX7_state_11 (by rw [c3]; decide) (by rw [c3]; decide) (by rw [c3]; rfl) (by decide) ?_
      refine lv_aload_n hx hb dX7_state_59 rfl (lv_at hl 0 rfl) ?_
      refine lv_iload_n hx hb dX7_state_60 rfl (lv_at hl 1 rfl) ?_
      refine k_si (k_runV (As := [.int x1]) (rest := []) ⟨hx, hb, hml, hown, hts⟩ (c_X7_shortest l D q aR uR x1 _ hf) (cwV 1 hts gX7_state_X7_shortest rfl rfl rfl cdX7_shortest ⟨Nat.le_of_ble_eq_true rfl, Nat.le_of_ble_eq_true rfl⟩) hK hP hD 0 rfl rfl rfl hl.1 rfl (Nat.le_of_ble_eq_true rfl) dX7_state_61 ⟨Nat.le_of_ble_eq_true rfl, Nat.le_of_ble_eq_true rfl⟩) (fun r4 hf => ?_)
      exact k_iret_r (v := r4) hx hb hr hlocks hf dX7_state_64
    have hf := hf.2 c3
    by_cases c5 : x2 = 2
    · have hf := hf.1 c5
      refine lv_tableIn (tgt := 65) hx hb dX7_state_11 (by rw [c5]; decide) (by rw [c5]; decide) (by rw [c5]; rfl) (by decide) ?_
      refine lv_iload_n hx hb dX7_state_65 rfl (lv_at hl 1 rfl) ?_
      refine lv_if_ne (tgt := 74) hx hb dX7_state_66 (by decide) (fun c6 => ?_) (fun c6 => ?_)
      · have hf := hf.2 (c6)
        refine lv_aload_n hx hb dX7_state_74 rfl (lv_at hl 0 rfl) ?_
        refine lv_iload_n hx hb dX7_state_75 rfl (lv_at hl 1 rfl) ?_
        refine k_si (k_runV (As := [.int x1]) (rest := []) ⟨hx, hb, hml, hown, hts⟩ (c_X7_linkOf l D q aR uR x1 _ hf) (cwV 1 hts gX7_state_X7_linkOf rfl rfl rfl cdX7_linkOf ⟨Nat.le_of_ble_eq_true rfl, Nat.le_of_ble_eq_true rfl⟩) hK hP hD 0 rfl rfl rfl hl.1 rfl (Nat.le_of_ble_eq_true rfl) dX7_state_76 ⟨Nat.le_of_ble_eq_true rfl, Nat.le_of_ble_eq_true rfl⟩) (fun r7 hf => ?_)
        exact k_iret_r (v := r7) hx hb hr hlocks hf dX7_state_79
      · have hf := hf.1 (c6)
        refine lv_bipush (v := (-4)) hx hb dX7_state_69 (by decide) ?_
        refine lv_goto (tgt := 79) hx hb dX7_state_71 (by decide) ?_
        exact k_iret_r (v := (-4)) hx hb hr hlocks hf dX7_state_79
    have hf := hf.2 c5
    by_cases c8 : x2 = 3
    · have hf := hf.1 c8
      refine lv_tableIn (tgt := 80) hx hb dX7_state_11 (by rw [c8]; decide) (by rw [c8]; decide) (by rw [c8]; rfl) (by decide) ?_
      refine lv_aload_n hx hb dX7_state_80 rfl (lv_at hl 0 rfl) ?_
      refine va_get (D := D) (ci := 5) (v := .ref (aR 5)) (C := RX7) (T := TX7) (N := 14) hx hb hts inX7_state_X7 hown hK hP 0 rfl rfl 7 (by decide) (hts (.fieldLink RX7 22 "GrowingTextModel" "ends" "[J") (List.mem_of_getElem? (i := 2) rfl)) (fun _ h9 => h9) rfl dX7_state_81 ?_
      refine lv_iload_n hx hb dX7_state_84 rfl (lv_at hl 1 rfl) ?_
      refine va_lald hx hb hK hP 5 1 (f := (gR_ends uR)) rfl rfl hf.1 dX7_state_85 ?_
      have hf := hf.2
      refine k_si (k_runS (As := [.long ((gR_ends uR) (x1 : Int32).toNatClampNeg)]) (rest := []) ⟨hx, hb, hml, hown, hts⟩ (c_X7_bits l D q ((gR_ends uR) (x1 : Int32).toNatClampNeg) _ hf) (va_cwS 1 hts gX7_state_X7_bits rfl rfl rfl cdX7_bits ⟨Nat.le_of_ble_eq_true rfl, Nat.le_of_ble_eq_true rfl⟩) hK k_nilP k_nilD rfl hl.1 rfl (Nat.le_of_ble_eq_true rfl) dX7_state_86 ⟨Nat.le_of_ble_eq_true rfl, Nat.le_of_ble_eq_true rfl⟩) (fun r9 hf => ?_)
      exact k_iret_r (v := r9) hx hb hr hlocks hf dX7_state_89
    have hf := hf.2 c8
    by_cases c10 : x2 = 4
    · have hf := hf.1 c10
      refine lv_tableIn (tgt := 90) hx hb dX7_state_11 (by rw [c10]; decide) (by rw [c10]; decide) (by rw [c10]; rfl) (by decide) ?_
      refine lv_aload_n hx hb dX7_state_90 rfl (lv_at hl 0 rfl) ?_
      refine va_get (D := D) (ci := 5) (v := .ref (aR 5)) (C := RX7) (T := TX7) (N := 14) hx hb hts inX7_state_X7 hown hK hP 0 rfl rfl 7 (by decide) (hts (.fieldLink RX7 22 "GrowingTextModel" "ends" "[J") (List.mem_of_getElem? (i := 2) rfl)) (fun _ h9 => h9) rfl dX7_state_91 ?_
      refine lv_iload_n hx hb dX7_state_94 rfl (lv_at hl 1 rfl) ?_
      refine va_lald hx hb hK hP 5 1 (f := (gR_ends uR)) rfl rfl hf.1 dX7_state_95 ?_
      have hf := hf.2
      refine k_si (k_runS (As := [.long ((gR_ends uR) (x1 : Int32).toNatClampNeg)]) (rest := []) ⟨hx, hb, hml, hown, hts⟩ (c_X7_least l D q ((gR_ends uR) (x1 : Int32).toNatClampNeg) _ hf) (va_cwS 1 hts gX7_state_X7_least rfl rfl rfl cdX7_least ⟨Nat.le_of_ble_eq_true rfl, Nat.le_of_ble_eq_true rfl⟩) hK k_nilP k_nilD rfl hl.1 rfl (Nat.le_of_ble_eq_true rfl) dX7_state_96 ⟨Nat.le_of_ble_eq_true rfl, Nat.le_of_ble_eq_true rfl⟩) (fun r11 hf => ?_)
      exact k_iret_r (v := r11) hx hb hr hlocks hf dX7_state_99
    have hf := hf.2 c10
    by_cases c12 : x2 = 5
    · have hf := hf.1 c12
      refine lv_tableIn (tgt := 100) hx hb dX7_state_11 (by rw [c12]; decide) (by rw [c12]; decide) (by rw [c12]; rfl) (by decide) ?_
      refine lv_aload_n hx hb dX7_state_100 rfl (lv_at hl 0 rfl) ?_
      refine va_get (D := D) (ci := 5) (v := .ref (aR 3)) (C := RX7) (T := TX7) (N := 14) hx hb hts inX7_state_X7 hown hK hP 0 rfl rfl 5 (by decide) (hts (.fieldLink RX7 16 "GrowingTextModel" "made" "[I") (List.mem_of_getElem? (i := 3) rfl)) (fun _ h9 => h9) rfl dX7_state_101 ?_
      refine lv_iload_n hx hb dX7_state_104 rfl (lv_at hl 1 rfl) ?_
      refine va_iald hx hb hK hP 3 0 (f := (gR_made uR)) rfl rfl hf.1 dX7_state_105 ?_
      have hf := hf.2
      exact k_iret_r (v := ((gR_made uR) (x1 : Int32).toNatClampNeg)) hx hb hr hlocks hf dX7_state_106
    have hf := hf.2 c12
    by_cases c13 : x2 = 6
    · have hf := hf.1 c13
      refine lv_tableIn (tgt := 107) hx hb dX7_state_11 (by rw [c13]; decide) (by rw [c13]; decide) (by rw [c13]; rfl) (by decide) ?_
      refine lv_aload_n hx hb dX7_state_107 rfl (lv_at hl 0 rfl) ?_
      refine va_get (D := D) (ci := 5) (v := .ref (aR 4)) (C := RX7) (T := TX7) (N := 14) hx hb hts inX7_state_X7 hown hK hP 0 rfl rfl 6 (by decide) (hts (.fieldLink RX7 19 "GrowingTextModel" "cloneOf" "[I") (List.mem_of_getElem? (i := 4) rfl)) (fun _ h9 => h9) rfl dX7_state_108 ?_
      refine lv_iload_n hx hb dX7_state_111 rfl (lv_at hl 1 rfl) ?_
      refine va_iald hx hb hK hP 4 0 (f := (gR_cloneOf uR)) rfl rfl hf.1 dX7_state_112 ?_
      have hf := hf.2
      exact k_iret_r (v := ((gR_cloneOf uR) (x1 : Int32).toNatClampNeg)) hx hb hr hlocks hf dX7_state_113
    have hf := hf.2 c13
    refine lv_tableOut (tgt := 114) hx hb dX7_state_11 (k_sw6 c2 c3 c5 c8 c10 c12 c13) (by decide) ?_
    refine lv_iconst (v := (-1)) hx hb dX7_state_114 (by decide) ?_
    exact k_iret_r (v := (-1)) hx hb hr hlocks hf dX7_state_115
  · have hf := hf.1 (c1)
    refine lv_iconst (v := (-1)) hx hb dX7_state_8 (by decide) ?_
    exact k_iret_r (v := (-1)) hx hb hr hlocks hf dX7_state_9
def wpX7_behind (uR : RSt) (x1 : Int64) (x3 : Int32) (Q : Int64 → Prop) : Prop :=
  ∀ (X6 : Int64 → Int32 → Prop) (X46 : Int32 → Int64 → Prop) (X47 : Int32 → Int64 → Int64 → Prop),
  (∀ (y4 : Int64) (y6 : Int32),
    (((gR_n uR) ≤ y6 →
      Q y4) ∧
    (¬ ((gR_n uR) ≤ y6) →
      ((fX7_has x1 y6) = 0 →
        X46 y6 y4) ∧
      (¬ ((fX7_has x1 y6) = 0) →
        vp_in y6 60 ∧
        ((((gR_text uR) (y6 : Int32).toNatClampNeg) = x3 →
          X47 y6 ((1 : Int64) <<< (((y6 + 1) : Int32).toInt64 &&& 63)) y4) ∧
        (¬ (((gR_text uR) (y6 : Int32).toNatClampNeg) = x3) →
          X46 y6 y4))))) → X6 y4 y6) →
  (∀ (y6 : Int32) (z0 : Int64),
    X47 y6 0 z0 → X46 y6 z0) →
  (∀ (y6 : Int32) (z0 : Int64) (z1 : Int64),
    X6 (z1 ||| z0) (y6 + 1) → X47 y6 z0 z1) →
  X6 0 0
def rmX7_behind : Room := { frames := 1, cells := 0, slots := 0, locals := 22 }
theorem inX7_behind_X7 : ∀ w ∈ wsX70, w ∈ wsX7_behind := fun w h => List.mem_cons_of_mem _ (List.mem_append_right _ h)
set_option maxRecDepth 100000 in
set_option maxHeartbeats 4000000 in
theorem c_X7_behind (l : Launch) (D : va_G) (q : Nat → ClassId) (aR : Nat → Nat) (uR : RSt) (x1 : Int64) (x3 : Int32) (Q : Int64 → Prop) (hf : wpX7_behind uR x1 x3 Q) : Met l yX7_behind wsX7_behind rmX7_behind (va_Pc [.ref (aR 0), .long x1, .int x3] (kP D q (wR aR q uR))) (vp_Sl Q) 0 0 (fun _ => False) := by
  refine Met.ofW (cc := cX7_behind) (maxL := 7) (ret := (some .long)) (by decide) rfl ?_
  intro p e s m args below meth c s₁ B hml hv
  obtain ⟨hargs, hP, hK, hD⟩ := hv
  have hx := B.exec
  have hb := B.bytes
  have hr := B.returns
  have hts := atoms_spec (ws := wsX7_behind) B.pre
  have hown : s.vm.findClass RX7 = some m.cls := findClass_of_methodNamed B.named
  have hlocks := B.notSynchronized
  refine k_entry hargs (Nat.le_of_ble_eq_true rfl) (fun ls hl => ?_)
  have hl : lv_has ls 7 [(0, .ref (aR 0)), (1, .long x1), (3, .int x3)] := hl
  change W p l e rmX7_behind s m args below meth c s.heap [] 0 0 (MQ below (vp_Sl Q) args s 0 0 (fun _ => False)) _
  unfold wpX7_behind at hf
  have hf := hf
    (fun (y4 : Int64) (y6 : Int32) => ∀ (ls : Array Slot), lv_has ls 7 [(0, .ref (aR 0)), (1, .long x1), (3, .int x3), (4, .long y4), (6, .int y6)] → W p l e rmX7_behind s m args below meth c s.heap [] 0 0 (MQ below (vp_Sl Q) args s 0 0 (fun _ => False)) (F0 m 6 ls []))
    (fun (y6 : Int32) (z0 : Int64) => ∀ (ls : Array Slot), lv_has ls 7 [(0, .ref (aR 0)), (1, .long x1), (3, .int x3), (6, .int y6)] → W p l e rmX7_behind s m args below meth c s.heap [] 0 0 (MQ below (vp_Sl Q) args s 0 0 (fun _ => False)) (F0 m 46 ls [.long z0]))
    (fun (y6 : Int32) (z0 : Int64) (z1 : Int64) => ∀ (ls : Array Slot), lv_has ls 7 [(0, .ref (aR 0)), (1, .long x1), (3, .int x3), (6, .int y6)] → W p l e rmX7_behind s m args below meth c s.heap [] 0 0 (MQ below (vp_Sl Q) args s 0 0 (fun _ => False)) (F0 m 47 ls [.long z0, .long z1]))
    (by
      intro y4 y6 hf ls hl
      refine lv_iload hx hb dX7_behind_6 (lv_at hl 4 rfl) ?_
      refine lv_aload_n hx hb dX7_behind_8 rfl (lv_at hl 0 rfl) ?_
      refine va_get (D := D) (ci := 5) (v := .int (gR_n uR)) (C := RX7) (T := TX7) (N := 14) hx hb hts inX7_behind_X7 hown hK hP 0 rfl rfl 1 (by decide) (hts (.fieldLink RX7 56 "GrowingTextModel" "n" "I") (List.mem_of_getElem? (i := 1) rfl)) (fun _ h9 => h9) rfl dX7_behind_9 ?_
      refine lv_icmp_ge (tgt := 56) hx hb dX7_behind_12 (by decide) (fun c1 => ?_) (fun c1 => ?_)
      · have hf := hf.1 (c1)
        refine lv_lload hx hb dX7_behind_56 (lv_at hl 3 rfl) ?_
        exact k_lret_r (v := y4) hx hb hr hlocks hf dX7_behind_58
      · have hf := hf.2 (c1)
        refine lv_lload hx hb dX7_behind_15 (lv_at hl 3 rfl) ?_
        refine lv_lload_n hx hb dX7_behind_17 rfl (lv_at hl 1 rfl) ?_
        refine lv_iload hx hb dX7_behind_18 (lv_at hl 4 rfl) ?_
        refine k_si (k_runS (As := [.long x1, .int y6]) (rest := [.long y4]) ⟨hx, hb, hml, hown, hts⟩ (cF_X7_has l D q x1 y6) (va_cwS 2 hts gX7_behind_X7_has rfl rfl rfl cdX7_has ⟨Nat.le_of_ble_eq_true rfl, Nat.le_of_ble_eq_true rfl⟩) hK k_nilP k_nilD rfl hl.1 rfl (Nat.le_of_ble_eq_true rfl) dX7_behind_20 ⟨Nat.le_of_ble_eq_true rfl, Nat.le_of_ble_eq_true rfl⟩) (fun r hr => ?_)
        subst hr
        refine lv_if_eq (tgt := 46) hx hb dX7_behind_23 (by decide) (fun c2 => ?_) (fun c2 => ?_)
        · have hf := hf.1 (c2)
          exact hf ls (lv_sub hl [0, 1, 2, 4] rfl)
        · have hf := hf.2 (c2)
          refine lv_aload_n hx hb dX7_behind_26 rfl (lv_at hl 0 rfl) ?_
          refine va_get (D := D) (ci := 5) (v := .ref (aR 1)) (C := RX7) (T := TX7) (N := 14) hx hb hts inX7_behind_X7 hown hK hP 0 rfl rfl 2 (by decide) (hts (.fieldLink RX7 7 "GrowingTextModel" "text" "[I") (List.mem_of_getElem? (i := 2) rfl)) (fun _ h9 => h9) rfl dX7_behind_27 ?_
          refine lv_iload hx hb dX7_behind_30 (lv_at hl 4 rfl) ?_
          refine va_iald hx hb hK hP 1 0 (f := (gR_text uR)) rfl rfl hf.1 dX7_behind_32 ?_
          have hf := hf.2
          refine lv_iload_n hx hb dX7_behind_33 rfl (lv_at hl 2 rfl) ?_
          refine lv_icmp_ne (tgt := 46) hx hb dX7_behind_34 (by decide) (fun c3 => ?_) (fun c3 => ?_)
          · have hf := hf.2 (c3)
            exact hf ls (lv_sub hl [0, 1, 2, 4] rfl)
          · have hf := hf.1 (c3)
            refine lv_lconst (v := 1) hx hb dX7_behind_37 (by decide) ?_
            refine lv_iload hx hb dX7_behind_38 (lv_at hl 4 rfl) ?_
            refine lv_iconst (v := 1) hx hb dX7_behind_40 (by decide) ?_
            refine lv_iadd hx hb dX7_behind_41 ?_
            refine lv_lshl (v := ((1 : Int64) <<< (((y6 + 1) : Int32).toInt64 &&& 63))) hx hb dX7_behind_42 rfl ?_
            refine lv_goto (tgt := 47) hx hb dX7_behind_43 (by decide) ?_
            exact hf ls (lv_sub hl [0, 1, 2, 4] rfl))
    (by
      intro y6 z0 hf ls hl
      refine lv_lconst (v := 0) hx hb dX7_behind_46 (by decide) ?_
      exact hf ls (lv_sub hl [0, 1, 2, 3] rfl))
    (by
      intro y6 z0 z1 hf ls hl
      refine lv_lor hx hb dX7_behind_47 ?_
      refine lv_lstore (lv' := [(4, .long (z1 ||| z0)), (0, .ref (aR 0)), (1, .long x1), (3, .int x3), (6, .int y6)]) hx hb dX7_behind_48 hl (by decide) rfl (fun ls hl => ?_)
      refine lv_iinc (v := (y6 + 1)) (lv' := [(6, .int (y6 + 1)), (4, .long (z1 ||| z0)), (0, .ref (aR 0)), (1, .long x1), (3, .int x3)]) hx hb dX7_behind_50 hl (k := 4) rfl rfl (by decide) rfl (fun ls hl => ?_)
      refine lv_goto (tgt := 6) hx hb dX7_behind_53 (by decide) ?_
      exact hf ls (lv_sub hl [2, 3, 4, 1, 0] rfl))
  refine lv_lconst (v := 0) hx hb dX7_behind_0 (by decide) ?_
  refine lv_lstore (lv' := [(4, .long 0), (0, .ref (aR 0)), (1, .long x1), (3, .int x3)]) hx hb dX7_behind_1 hl (by decide) rfl (fun ls hl => ?_)
  refine lv_iconst (v := 0) hx hb dX7_behind_3 (by decide) ?_
  refine lv_istore (lv' := [(6, .int 0), (4, .long 0), (0, .ref (aR 0)), (1, .long x1), (3, .int x3)]) hx hb dX7_behind_4 hl (by decide) rfl (fun ls hl => ?_)
  exact hf ls (lv_sub hl [2, 3, 4, 1, 0] rfl)
