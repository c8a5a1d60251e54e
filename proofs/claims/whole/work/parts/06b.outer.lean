theorem kq_cell {cA : ClassId} {n : Nat} {f g : Nat → Option Nat} (h : ∀ j, j < n → f j = g j) : vp_cell cA (n, .inr (.inr (.inr (.inr f)))) = vp_cell cA (n, .inr (.inr (.inr (.inr g)))) := by
  rw [vp_cell_q, vp_cell_q]
  unfold arrV
  congr 2
  funext j
  show va_rf (f j.val) = va_rf (g j.val)
  rw [h j.val j.isLt]
theorem kq_P {D : va_G} {cl : List vw_C} {ws : va_W} {H : Heap} {k a n : Nat} {cA : ClassId} {f g : Nat → Option Nat} (hk : ws[k]? = some (a, .inl (cA, n, .inr (.inr (.inr (.inr f)))))) (h : ∀ j, j < n → f j = g j) (hP : va_P D cl ws H) : va_P D cl (ws.set k (a, .inl (cA, n, .inr (.inr (.inr (.inr g)))))) H := by
  intro j x hx
  by_cases hj : k = j
  · subst hj
    rw [List.getElem?_set_self (List.getElem?_eq_some_iff.mp hk).1] at hx
    have hx := Option.some.inj hx
    subst hx
    have h1 : H[a]? = some (vp_cell cA (n, .inr (.inr (.inr (.inr f))))) := hP k _ hk
    show H[a]? = some (vp_cell cA (n, .inr (.inr (.inr (.inr g)))))
    rw [h1, kq_cell h]
  · rw [List.getElem?_set_ne hj] at hx
    exact hP j x hx
def kPy (D : va_G) (q : Nat → ClassId) (sz : Nat) (w : va_W) (U : State) : Prop := U.heap.size = sz ∧ kP D q w U ∧ va_AO RX4 U ∧ va_AO RX1 U
theorem k_blindy {D : va_G} {q : Nat → ClassId} {sz : Nat} {w : va_W} {As : List Value} : FrameBlind (va_Pc As (kPy D q sz w)) := fun a U g mk h => by
  obtain ⟨h0, hz, ⟨hP, hK, hD⟩, h1, h2⟩ := h
  exact ⟨h0, hz, ⟨hP, va_K.moved (u := U) (U := U.calling g mk a) (Vm.Alike.refl U.vm) hK, hD⟩, va_AO.moved (u := U) (U := U.calling g mk a) (Vm.Alike.refl U.vm) h1, va_AO.moved (u := U) (U := U.calling g mk a) (Vm.Alike.refl U.vm) h2⟩
theorem k_runIy {p : Program} {l : Launch} {e : Env} {R : Room} {s : State} {m : MethodId} {args : Array Value} {below : List Frame} {meth : Method} {c : Code} {H : Heap} {locs : List Loc} {cells slots : Nat} {y : MethodName} {bytes cc : ByteArray} {maxL nL n index pc mc ms sz : Nat} {ws : List Cond} {rm : Room} {Qc : Array Value → State → Outcome → State → Prop} {free : Addr → Prop} {Ts : List Cond} {own : String} {b : Addr} {As rest st : List Value} {ls : Array Slot} {D : va_G} {q : Nat → ClassId} {w : va_W} {A : Nat → Prop} (S : CallFix p m c cc nL s args Ts own) (hM : Met l y ws rm (va_Pc (.ref b :: As) (kPy D q sz w)) Qc mc ms free) (cw : CallB R s args own index y bytes maxL none ws rm mc ms n ∧ y.name = "<init>" ∧ (Cond.instanceMethod y).before args s = true) (hsz : H.size = sz) (h4 : va_AO RX4 s) (h1 : va_AO RX1 s) (hK : va_K D vwCl (kT q) s) (hP : va_P D vwCl w H) (hD : va_D A w) (hn : As.length = n) (hsize : ls.size = nL) (hstack : st = As.reverse ++ .ref b :: rest) (hW : (rest.map fun v => v.category).sum ≤ 8) (hdg : decode cc pc = .ok (.invokespecial index, 3)) (hf : cells + mc ≤ R.cells ∧ slots + ms ≤ R.slots) : va_Run p l e R s m args below meth c H locs cells slots mc ms (F0 m pc ls st) rest (Qc (Value.ref b :: As).toArray) free :=
  va_runI S hM cw ⟨k_blindy, fun U hU hW => ⟨rfl, by rw [hU]; exact hsz, ⟨by rw [hU]; exact hP, va_K.moved hW.alike hK, hD.weaken (fun _ _ _ _ => trivial)⟩, va_AO.moved hW.alike h4, va_AO.moved hW.alike h1⟩⟩ rfl hn hsize hstack (lv_room hW) hdg hf
abbrev XAd : Type := (Nat → Nat) × (Nat → Nat) × (Nat → Nat) × (Nat → Nat → Nat) × (Nat → Nat → Nat)
abbrev wXa (q : Nat → ClassId) (u : XAd × CSt) : va_W := wX u.1.1 u.1.2.1 u.1.2.2.1 u.1.2.2.2.1 u.1.2.2.2.2 q u.2
def zeroC (uM : MSt) : CSt := (uM, zeroW, fun _ => zeroS, fun _ => gI_set_alphabet zeroI 2)


def rmX6_init : Room := { frames := 5, cells := 28, slots := 2115, locals := 109 }
theorem inX6_init_X1 : ∀ w ∈ wsX10, w ∈ wsX6_init := fun w h => List.mem_cons_of_mem _ (List.mem_append_right _ h)
theorem inX6_init_X2 : ∀ w ∈ wsX20, w ∈ wsX6_init := fun w h => List.mem_cons_of_mem _ (List.mem_append_left _ (List.mem_append_left _ (List.mem_append_left _ (List.mem_append_left _ (List.mem_append_right _ h)))))
theorem inX6_init_X4 : ∀ w ∈ wsX40, w ∈ wsX6_init := fun w h => List.mem_cons_of_mem _ (List.mem_append_left _ (List.mem_append_right _ h))
theorem inX6_init_X5 : ∀ w ∈ wsX50, w ∈ wsX6_init := fun w h => List.mem_cons_of_mem _ (List.mem_append_left _ (List.mem_append_left _ (List.mem_append_right _ h)))
theorem inX6_init_X6 : ∀ w ∈ wsX60, w ∈ wsX6_init := fun w h => List.mem_cons_of_mem _ (List.mem_append_left _ (List.mem_append_left _ (List.mem_append_left _ (List.mem_append_right _ h))))
set_option maxRecDepth 100000 in
set_option maxHeartbeats 8000000 in
theorem c_X6_init (l : Launch) (D : va_G) (q : Nat → ClassId) (h0 sz : Nat) (Q : CSt → Prop) (hf : wpX2_startOver zeroM 2 (fun uM => Q (zeroC uM))) : Met l yX6_init wsX6_init rmX6_init (va_Pc [.ref h0] (kPy D q sz [(h0, .inr (4, [.null, .null, .null, .null]))])) (va_Qv (fun u : XAd × CSt => u.1.1 0 = h0 ∧ Q u.2) (fun u t => kPA D q (va_A [(h0, .inr (4, [.null, .null, .null, .null]))] sz) (wXa q u) t) (va_A [(h0, .inr (4, [.null, .null, .null, .null]))] sz)) 28 2115 (va_A [(h0, .inr (4, [.null, .null, .null, .null]))] sz) := by
  refine Met.ofW (cc := cX6_init) (maxL := 2) (ret := none) (by decide) rfl ?_
  intro p e s m args below meth c s₁ B hml hv
  obtain ⟨hargs, hsz, ⟨hP, hK, hD⟩, hO4, hO1⟩ := hv
  have hx := B.exec
  have hb := B.bytes
  have hr := B.returns
  have hts := atoms_spec (ws := wsX6_init) B.pre
  have hown : s.vm.findClass RX6 = some m.cls := findClass_of_methodNamed B.named
  have hlocks := B.notSynchronized
  have hin : meth.name = "<init>" := (name_of_methodNamed B.named B.method).1
  subst hsz
  have hD := hD.self (sz := s.heap.size)
  generalize hAe : va_A [(h0, .inr (4, [.null, .null, .null, .null]))] s.heap.size = A at hD ⊢
  have hA : ∀ q : Nat, s.heap.size ≤ q → A q := fun q h => by rw [← hAe]; exact Or.inr h
  have hS : va_S A s.heap s.heap [] := va_S.rf
  refine k_entry hargs (Nat.le_of_ble_eq_true rfl) (fun ls hl => ?_)
  have hl : lv_has ls 2 [(0, .ref h0)] := hl
  refine lv_aload_n hx hb dX6_init_0 rfl (lv_at hl 0 rfl) ?_
  refine W.objInit hx hb hown (hts (.methodLink RX6 3 objectInit) (List.mem_of_getElem? (i := 1) rfl)) (hts (.instanceMethod objectInit) (List.mem_of_getElem? (i := 2) rfl)) (hts (.code objectInit ⟨#[0xb1]⟩ 1 none) (List.mem_of_getElem? (i := 3) rfl)) rfl (by rw [hml]; exact hl.1) rfl dX6_init_1 (Nat.le_of_ble_eq_true rfl) (Nat.le_of_ble_eq_true rfl) ?_
  refine W.eq (g2 := F0 m 4 ls []) rfl ?_
  refine lv_aload_n hx hb dX6_init_4 rfl (lv_at hl 0 rfl) ?_
  refine va_new (ci := 1) (fs := [.int 0, .int 0, .int 0, .int 0, .null, .null, .null, .null, .null, .null, .null, .null]) (C := RX2) (T := TX2) (N := 12) hx hb hts inX6_init_X2 tyX2 tyX2_ok hown (hts (.classLink RX6 9 RX2) (List.mem_of_getElem? (i := 4) rfl)) (hts (.instantiable RX2 12) (List.mem_of_getElem? (i := 5) rfl)) (hts (.initialized RX2) (List.mem_of_getElem? (i := 6) rfl)) hK hP hD hS hA rfl (fun j hj => by match j, hj with | 0, _ => rfl | 1, _ => rfl | 2, _ => rfl | 3, _ => rfl | 4, _ => rfl | 5, _ => rfl | 6, _ => rfl | 7, _ => rfl | 8, _ => rfl | 9, _ => rfl | 10, _ => rfl | 11, _ => rfl) (Nat.le_of_ble_eq_true rfl) (Nat.le_of_ble_eq_true rfl) dX6_init_5 (fun b5 H hP hD hS => ?_)
  have hP : va_P D vwCl ([(h0, .inr (4, [.null, .null, .null, .null]))] ++ [(b5, .inr (1, [.int 0, .int 0, .int 0, .int 0, .null, .null, .null, .null, .null, .null, .null, .null]))]) H := hP
  have hD : va_D A ([(h0, .inr (4, [.null, .null, .null, .null]))] ++ [(b5, .inr (1, [.int 0, .int 0, .int 0, .int 0, .null, .null, .null, .null, .null, .null, .null, .null]))]) := hD
  refine W.widen (k := 1) (n := 12) (Nat.le_of_ble_eq_true rfl) (Nat.le_of_ble_eq_true rfl) ?_
  refine lv_dup hx hb dX6_init_8 rfl ?_
  have hFc := va_free (wc := [(b5, .inr (1, [.int 0, .int 0, .int 0, .int 0, .null, .null, .null, .null, .null, .null, .null, .null]))]) hD hS hA [1] rfl
  refine va_callv (k_runI (As := []) (rest := [.ref b5, .ref h0]) ⟨hx, hb, hml, hown, hts⟩ (c_X2_init l D q b5 H.size _ hf) (cwI 0 hts gX6_init_X2_init rfl rfl rfl (hts (.initialized RX2) (List.mem_of_getElem? (i := 6) rfl)) (hts (.methodLink RX6 11 yX2_init) (List.mem_of_getElem? (i := 20) rfl)) (hts (.instanceMethod yX2_init) (List.mem_of_getElem? (i := 21) rfl)) rfl (by decide +kernel) ⟨Nat.le_of_ble_eq_true rfl, Nat.le_of_ble_eq_true rfl⟩) rfl hK (kp_1 hP 1 rfl) (kd_1 hD 1 rfl) rfl hl.1 rfl (Nat.le_of_ble_eq_true rfl) dX6_init_9 ⟨Nat.le_of_ble_eq_true rfl, Nat.le_of_ble_eq_true rfl⟩) hS (fun q _ h => hFc q h) hFc (fun u t H1 locs ht hvm hw hB hz1 hk1 hS => ?_)
  obtain ⟨hP1, hK1, hD1⟩ := hB
  rw [ht] at hP1
  obtain ⟨hPn, hDn⟩ := va_join (wr := [(h0, .inr (4, [.null, .null, .null, .null]))]) (w1 := wM u.1 q u.2) hP hD [1] [0] rfl rfl (by decide) (by decide) hk1 hFc hP1 hD1
  generalize H1 = H at hPn hS ⊢
  obtain ⟨aM, uM⟩ := u
  obtain ⟨hw1, hw2⟩ := hw
  have hw1 : aM 0 = b5 := hw1
  subst hw1
  have hf := hw2
  have hP := hPn
  have hD := hDn
  have hP : va_P D vwCl ([(h0, .inr (4, [.null, .null, .null, .null]))] ++ wM aM q uM) H := hP
  have hD : va_D A ([(h0, .inr (4, [.null, .null, .null, .null]))] ++ wM aM q uM) := hD
  clear hPn hDn
  refine W.widen (k := 9) (n := 1343) (Nat.le_of_ble_eq_true rfl) (Nat.le_of_ble_eq_true rfl) ?_
  refine va_putF (D := D) (ci := 4) (v := .ref (aM 0)) (ty := .object "GrowingText$Machine") (C := RX6) (T := TX6) (N := 4) hx hb hts inX6_init_X6 tyX6 tyX6_ok nmX6 hown hK hP hD hS 0 rfl rfl 0 (by decide) (hts (.fieldLink RX6 12 "GrowingText" "machine" "LGrowingText$Machine;") (List.mem_of_getElem? (i := 7) rfl)) (fun _ h9 => h9) rfl hin rfl (by decide +kernel) rfl rfl (Nat.le_of_ble_eq_true rfl) dX6_init_12 (fun H locs hP hD hS => ?_)
  have hP : va_P D vwCl ([(h0, .inr (4, [.ref (aM 0), .null, .null, .null]))] ++ wM aM q uM) H := hP
  have hD : va_D A ([(h0, .inr (4, [.ref (aM 0), .null, .null, .null]))] ++ wM aM q uM) := hD
  refine lv_aload_n hx hb dX6_init_15 rfl (lv_at hl 0 rfl) ?_
  refine va_new (ci := 3) (fs := [.null, .null, .null, .null, .null]) (C := RX5) (T := TX5) (N := 5) hx hb hts inX6_init_X5 tyX5 tyX5_ok hown (hts (.classLink RX6 16 RX5) (List.mem_of_getElem? (i := 8) rfl)) (hts (.instantiable RX5 5) (List.mem_of_getElem? (i := 9) rfl)) (hts (.initialized RX5) (List.mem_of_getElem? (i := 10) rfl)) hK hP hD hS hA rfl (fun j hj => by match j, hj with | 0, _ => rfl | 1, _ => rfl | 2, _ => rfl | 3, _ => rfl | 4, _ => rfl) (Nat.le_of_ble_eq_true rfl) (Nat.le_of_ble_eq_true rfl) dX6_init_16 (fun b16 H hP hD hS => ?_)
  have hP : va_P D vwCl ([(h0, .inr (4, [.ref (aM 0), .null, .null, .null]))] ++ wM aM q uM ++ [(b16, .inr (3, [.null, .null, .null, .null, .null]))]) H := hP
  have hD : va_D A ([(h0, .inr (4, [.ref (aM 0), .null, .null, .null]))] ++ wM aM q uM ++ [(b16, .inr (3, [.null, .null, .null, .null, .null]))]) := hD
  refine W.widen (k := 10) (n := 1348) (Nat.le_of_ble_eq_true rfl) (Nat.le_of_ble_eq_true rfl) ?_
  refine lv_dup hx hb dX6_init_19 rfl ?_
  refine lv_aload_n hx hb dX6_init_20 rfl (lv_at hl 0 rfl) ?_
  refine va_get (D := D) (ci := 4) (v := .ref (aM 0)) (C := RX6) (T := TX6) (N := 4) hx hb hts inX6_init_X6 hown hK hP 0 rfl rfl 0 (by decide) (hts (.fieldLink RX6 12 "GrowingText" "machine" "LGrowingText$Machine;") (List.mem_of_getElem? (i := 7) rfl)) (fun _ h9 => h9) rfl dX6_init_21 ?_
  have hFc := va_free (wc := [(b16, .inr (3, [.null, .null, .null, .null, .null]))]) hD hS hA [10] rfl
  refine va_callv (k_runI (As := [.ref (aM 0)]) (rest := [.ref b16, .ref h0]) ⟨hx, hb, hml, hown, hts⟩ (c_X5_init l D q b16 H.size (aM 0) (fun u => u = zeroW) rfl) (cwI 1 hts gX6_init_X5_init rfl rfl rfl (hts (.initialized RX5) (List.mem_of_getElem? (i := 10) rfl)) (hts (.methodLink RX6 18 yX5_init) (List.mem_of_getElem? (i := 57) rfl)) (hts (.instanceMethod yX5_init) (List.mem_of_getElem? (i := 58) rfl)) rfl (by decide +kernel) ⟨Nat.le_of_ble_eq_true rfl, Nat.le_of_ble_eq_true rfl⟩) rfl hK (kp_1 hP 10 rfl) (kd_1 hD 10 rfl) rfl hl.1 rfl (Nat.le_of_ble_eq_true rfl) dX6_init_24 ⟨Nat.le_of_ble_eq_true rfl, Nat.le_of_ble_eq_true rfl⟩) hS (fun q _ h => hFc q h) hFc (fun u t H1 locs ht hvm hw hB hz1 hk1 hS => ?_)
  obtain ⟨hP1, hK1, hD1⟩ := hB
  rw [ht] at hP1
  obtain ⟨hPn, hDn⟩ := va_join (wr := [(h0, .inr (4, [.ref (aM 0), .null, .null, .null]))] ++ wM aM q uM) (w1 := wW u.1 (fun _ => aM 0) q u.2) hP hD [10] [0, 1, 2, 3, 4, 5, 6, 7, 8, 9] rfl rfl (by decide) (by decide) hk1 hFc hP1 hD1
  generalize H1 = H at hPn hS ⊢
  obtain ⟨aW, uW⟩ := u
  obtain ⟨hw1, hw2⟩ := hw
  have hw1 : aW 0 = b16 := hw1
  subst hw1
  have hw2 : uW = zeroW := hw2
  subst hw2
  have hP := hPn
  have hD := hDn
  have hP : va_P D vwCl ([(h0, .inr (4, [.ref (aM 0), .null, .null, .null]))] ++ wM aM q uM ++ wW aW aM q zeroW) H := hP
  have hD : va_D A ([(h0, .inr (4, [.ref (aM 0), .null, .null, .null]))] ++ wM aM q uM ++ wW aW aM q zeroW) := hD
  clear hPn hDn
  refine W.widen (k := 14) (n := 1713) (Nat.le_of_ble_eq_true rfl) (Nat.le_of_ble_eq_true rfl) ?_
  refine va_putF (D := D) (ci := 4) (v := .ref (aW 0)) (ty := .object "GrowingText$Words") (C := RX6) (T := TX6) (N := 4) hx hb hts inX6_init_X6 tyX6 tyX6_ok nmX6 hown hK hP hD hS 0 rfl rfl 1 (by decide) (hts (.fieldLink RX6 21 "GrowingText" "words" "LGrowingText$Words;") (List.mem_of_getElem? (i := 11) rfl)) (fun _ h9 => h9) rfl hin rfl (by decide +kernel) rfl rfl (Nat.le_of_ble_eq_true rfl) dX6_init_27 (fun H locs hP hD hS => ?_)
  have hP : va_P D vwCl ([(h0, .inr (4, [.ref (aM 0), .ref (aW 0), .null, .null]))] ++ wM aM q uM ++ wW aW aM q zeroW) H := hP
  have hD : va_D A ([(h0, .inr (4, [.ref (aM 0), .ref (aW 0), .null, .null]))] ++ wM aM q uM ++ wW aW aM q zeroW) := hD
  refine lv_aload_n hx hb dX6_init_30 rfl (lv_at hl 0 rfl) ?_
  refine lv_iconst (v := 4) hx hb dX6_init_31 (by decide) ?_
  refine k_newq 2 rfl hx hb hown (hts (.classLink RX6 25 RX4) (List.mem_of_getElem? (i := 12) rfl)) hO4 hK hP hD hS hA (N := 4) (by decide) (by decide) (Nat.le_of_ble_eq_true rfl) (Nat.le_of_ble_eq_true rfl) (Nat.le_of_ble_eq_true rfl) dX6_init_32 (fun bs H hP hD hS => ?_)
  have hP : va_P D vwCl ([(h0, .inr (4, [.ref (aM 0), .ref (aW 0), .null, .null]))] ++ wM aM q uM ++ wW aW aM q zeroW ++ [(bs, .inl (q 2, 4, .inr (.inr (.inr (.inr (fun _ => none))))))]) H := hP
  have hD : va_D A ([(h0, .inr (4, [.ref (aM 0), .ref (aW 0), .null, .null]))] ++ wM aM q uM ++ wW aW aM q zeroW ++ [(bs, .inl (q 2, 4, .inr (.inr (.inr (.inr (fun _ => none))))))]) := hD
  refine W.widen (k := 15) (n := 1717) (Nat.le_of_ble_eq_true rfl) (Nat.le_of_ble_eq_true rfl) ?_
  refine va_putF (D := D) (ci := 4) (v := .ref bs) (ty := .array (.object "GrowingText$Sheet")) (C := RX6) (T := TX6) (N := 4) hx hb hts inX6_init_X6 tyX6 tyX6_ok nmX6 hown hK hP hD hS 0 rfl rfl 2 (by decide) (hts (.fieldLink RX6 27 "GrowingText" "sheets" "[LGrowingText$Sheet;") (List.mem_of_getElem? (i := 13) rfl)) (fun _ h9 => h9) rfl hin rfl (by decide +kernel) rfl rfl (Nat.le_of_ble_eq_true rfl) dX6_init_35 (fun H locs hP hD hS => ?_)
  have hP : va_P D vwCl ([(h0, .inr (4, [.ref (aM 0), .ref (aW 0), .ref bs, .null]))] ++ wM aM q uM ++ wW aW aM q zeroW ++ [(bs, .inl (q 2, 4, .inr (.inr (.inr (.inr (fun _ => none))))))]) H := hP
  have hD : va_D A ([(h0, .inr (4, [.ref (aM 0), .ref (aW 0), .ref bs, .null]))] ++ wM aM q uM ++ wW aW aM q zeroW ++ [(bs, .inl (q 2, 4, .inr (.inr (.inr (.inr (fun _ => none))))))]) := hD
  refine lv_iconst (v := 0) hx hb dX6_init_38 (by decide) ?_
  refine lv_istore_n (lv' := [(1, .int 0), (0, .ref h0)]) hx hb dX6_init_39 rfl hl (by decide) rfl (fun ls hl => ?_)
  refine lv_iload_n hx hb dX6_init_40 rfl (lv_at hl 0 rfl) ?_
  refine lv_iconst (v := 4) hx hb dX6_init_41 (by decide) ?_
  refine lv_icmp_ge (tgt := 64) hx hb dX6_init_42 (by decide) (fun c1 => absurd c1 (by decide)) (fun c1 => ?_)
  refine lv_aload_n hx hb dX6_init_45 rfl (lv_at hl 1 rfl) ?_
  refine va_get (D := D) (ci := 4) (v := .ref bs) (C := RX6) (T := TX6) (N := 4) hx hb hts inX6_init_X6 hown hK hP 0 rfl rfl 2 (by decide) (hts (.fieldLink RX6 27 "GrowingText" "sheets" "[LGrowingText$Sheet;") (List.mem_of_getElem? (i := 13) rfl)) (fun _ h9 => h9) rfl dX6_init_46 ?_
  refine lv_iload_n hx hb dX6_init_49 rfl (lv_at hl 0 rfl) ?_
  refine va_new (ci := 2) (fs := [.null, .int 0, .int 0]) (C := RX4) (T := TX4) (N := 3) hx hb hts inX6_init_X4 tyX4 tyX4_ok hown (hts (.classLink RX6 25 RX4) (List.mem_of_getElem? (i := 12) rfl)) (hts (.instantiable RX4 3) (List.mem_of_getElem? (i := 14) rfl)) (hts (.initialized RX4) (List.mem_of_getElem? (i := 15) rfl)) hK hP hD hS hA rfl (fun j hj => by match j, hj with | 0, _ => rfl | 1, _ => rfl | 2, _ => rfl) (Nat.le_of_ble_eq_true rfl) (Nat.le_of_ble_eq_true rfl) dX6_init_50 (fun bS0 H hP hD hS => ?_)
  have hP : va_P D vwCl ([(h0, .inr (4, [.ref (aM 0), .ref (aW 0), .ref bs, .null]))] ++ wM aM q uM ++ wW aW aM q zeroW ++ [(bs, .inl (q 2, 4, .inr (.inr (.inr (.inr (fun _ => none))))))] ++ [(bS0, .inr (2, [.null, .int 0, .int 0]))]) H := hP
  have hD : va_D A ([(h0, .inr (4, [.ref (aM 0), .ref (aW 0), .ref bs, .null]))] ++ wM aM q uM ++ wW aW aM q zeroW ++ [(bs, .inl (q 2, 4, .inr (.inr (.inr (.inr (fun _ => none))))))] ++ [(bS0, .inr (2, [.null, .int 0, .int 0]))]) := hD
  refine W.widen (k := 16) (n := 1720) (Nat.le_of_ble_eq_true rfl) (Nat.le_of_ble_eq_true rfl) ?_
  refine lv_dup hx hb dX6_init_53 rfl ?_
  have hFc := va_free (wc := [(bS0, .inr (2, [.null, .int 0, .int 0]))]) hD hS hA [16] rfl
  refine va_callv (k_runI (As := []) (rest := [.ref bS0, .int 0, .ref bs]) ⟨hx, hb, hml, hown, hts⟩ (c_X4_init l D q bS0 H.size (fun u => u = zeroS) rfl) (cwI 0 hts gX6_init_X4_init rfl rfl rfl (hts (.initialized RX4) (List.mem_of_getElem? (i := 15) rfl)) (hts (.methodLink RX6 31 yX4_init) (List.mem_of_getElem? (i := 66) rfl)) (hts (.instanceMethod yX4_init) (List.mem_of_getElem? (i := 67) rfl)) rfl (by decide +kernel) ⟨Nat.le_of_ble_eq_true rfl, Nat.le_of_ble_eq_true rfl⟩) rfl hK (kp_1 hP 16 rfl) (kd_1 hD 16 rfl) rfl hl.1 rfl (Nat.le_of_ble_eq_true rfl) dX6_init_54 ⟨Nat.le_of_ble_eq_true rfl, Nat.le_of_ble_eq_true rfl⟩) hS (fun q _ h => hFc q h) hFc (fun u t H1 locs ht hvm hw hB hz1 hk1 hS => ?_)
  obtain ⟨hP1, hK1, hD1⟩ := hB
  rw [ht] at hP1
  obtain ⟨hPn, hDn⟩ := va_join (wr := [(h0, .inr (4, [.ref (aM 0), .ref (aW 0), .ref bs, .null]))] ++ wM aM q uM ++ wW aW aM q zeroW ++ [(bs, .inl (q 2, 4, .inr (.inr (.inr (.inr (fun _ => none))))))]) (w1 := wS u.1 q u.2) hP hD [16] [0, 1, 2, 3, 4, 5, 6, 7, 8, 9, 10, 11, 12, 13, 14, 15] rfl rfl (by decide) (by decide) hk1 hFc hP1 hD1
  generalize H1 = H at hPn hS ⊢
  obtain ⟨aS0, uS0⟩ := u
  obtain ⟨hw1, hw2⟩ := hw
  have hw1 : aS0 0 = bS0 := hw1
  subst hw1
  have hw2 : uS0 = zeroS := hw2
  subst hw2
  have hP := hPn
  have hD := hDn
  have hP : va_P D vwCl ([(h0, .inr (4, [.ref (aM 0), .ref (aW 0), .ref bs, .null]))] ++ wM aM q uM ++ wW aW aM q zeroW ++ [(bs, .inl (q 2, 4, .inr (.inr (.inr (.inr (fun _ => none))))))] ++ wS aS0 q zeroS) H := hP
  have hD : va_D A ([(h0, .inr (4, [.ref (aM 0), .ref (aW 0), .ref bs, .null]))] ++ wM aM q uM ++ wW aW aM q zeroW ++ [(bs, .inl (q 2, 4, .inr (.inr (.inr (.inr (fun _ => none))))))] ++ wS aS0 q zeroS) := hD
  clear hPn hDn
  refine W.widen (k := 17) (n := 1784) (Nat.le_of_ble_eq_true rfl) (Nat.le_of_ble_eq_true rfl) ?_
  refine va_astq hx hb hK hP hD hS 15 2 16 2 (f := (fun _ => none)) rfl rfl rfl rfl (by unfold vp_in; decide) dX6_init_57 (fun H locs hP hD hS => ?_)
  have hP : va_P D vwCl ([(h0, .inr (4, [.ref (aM 0), .ref (aW 0), .ref bs, .null]))] ++ wM aM q uM ++ wW aW aM q zeroW ++ [(bs, .inl (q 2, 4, .inr (.inr (.inr (.inr (va_up (fun _ => none) 0 (some (aS0 0))))))))] ++ wS aS0 q zeroS) H := hP
  have hD : va_D A ([(h0, .inr (4, [.ref (aM 0), .ref (aW 0), .ref bs, .null]))] ++ wM aM q uM ++ wW aW aM q zeroW ++ [(bs, .inl (q 2, 4, .inr (.inr (.inr (.inr (va_up (fun _ => none) 0 (some (aS0 0))))))))] ++ wS aS0 q zeroS) := hD
  refine lv_iinc (v := 1) (lv' := [(1, .int 1), (0, .ref h0)]) hx hb dX6_init_58 hl (k := 0) rfl rfl (by decide) rfl (fun ls hl => ?_)
  refine lv_goto (tgt := 40) hx hb dX6_init_61 (by decide) ?_
  refine lv_iload_n hx hb dX6_init_40 rfl (lv_at hl 0 rfl) ?_
  refine lv_iconst (v := 4) hx hb dX6_init_41 (by decide) ?_
  refine lv_icmp_ge (tgt := 64) hx hb dX6_init_42 (by decide) (fun c1 => absurd c1 (by decide)) (fun c1 => ?_)
  refine lv_aload_n hx hb dX6_init_45 rfl (lv_at hl 1 rfl) ?_
  refine va_get (D := D) (ci := 4) (v := .ref bs) (C := RX6) (T := TX6) (N := 4) hx hb hts inX6_init_X6 hown hK hP 0 rfl rfl 2 (by decide) (hts (.fieldLink RX6 27 "GrowingText" "sheets" "[LGrowingText$Sheet;") (List.mem_of_getElem? (i := 13) rfl)) (fun _ h9 => h9) rfl dX6_init_46 ?_
  refine lv_iload_n hx hb dX6_init_49 rfl (lv_at hl 0 rfl) ?_
  refine va_new (ci := 2) (fs := [.null, .int 0, .int 0]) (C := RX4) (T := TX4) (N := 3) hx hb hts inX6_init_X4 tyX4 tyX4_ok hown (hts (.classLink RX6 25 RX4) (List.mem_of_getElem? (i := 12) rfl)) (hts (.instantiable RX4 3) (List.mem_of_getElem? (i := 14) rfl)) (hts (.initialized RX4) (List.mem_of_getElem? (i := 15) rfl)) hK hP hD hS hA rfl (fun j hj => by match j, hj with | 0, _ => rfl | 1, _ => rfl | 2, _ => rfl) (Nat.le_of_ble_eq_true rfl) (Nat.le_of_ble_eq_true rfl) dX6_init_50 (fun bS1 H hP hD hS => ?_)
  have hP : va_P D vwCl ([(h0, .inr (4, [.ref (aM 0), .ref (aW 0), .ref bs, .null]))] ++ wM aM q uM ++ wW aW aM q zeroW ++ [(bs, .inl (q 2, 4, .inr (.inr (.inr (.inr (va_up (fun _ => none) 0 (some (aS0 0))))))))] ++ wS aS0 q zeroS ++ [(bS1, .inr (2, [.null, .int 0, .int 0]))]) H := hP
  have hD : va_D A ([(h0, .inr (4, [.ref (aM 0), .ref (aW 0), .ref bs, .null]))] ++ wM aM q uM ++ wW aW aM q zeroW ++ [(bs, .inl (q 2, 4, .inr (.inr (.inr (.inr (va_up (fun _ => none) 0 (some (aS0 0))))))))] ++ wS aS0 q zeroS ++ [(bS1, .inr (2, [.null, .int 0, .int 0]))]) := hD
  refine W.widen (k := 18) (n := 1787) (Nat.le_of_ble_eq_true rfl) (Nat.le_of_ble_eq_true rfl) ?_
  refine lv_dup hx hb dX6_init_53 rfl ?_
  have hFc := va_free (wc := [(bS1, .inr (2, [.null, .int 0, .int 0]))]) hD hS hA [18] rfl
  refine va_callv (k_runI (As := []) (rest := [.ref bS1, .int 1, .ref bs]) ⟨hx, hb, hml, hown, hts⟩ (c_X4_init l D q bS1 H.size (fun u => u = zeroS) rfl) (cwI 0 hts gX6_init_X4_init rfl rfl rfl (hts (.initialized RX4) (List.mem_of_getElem? (i := 15) rfl)) (hts (.methodLink RX6 31 yX4_init) (List.mem_of_getElem? (i := 66) rfl)) (hts (.instanceMethod yX4_init) (List.mem_of_getElem? (i := 67) rfl)) rfl (by decide +kernel) ⟨Nat.le_of_ble_eq_true rfl, Nat.le_of_ble_eq_true rfl⟩) rfl hK (kp_1 hP 18 rfl) (kd_1 hD 18 rfl) rfl hl.1 rfl (Nat.le_of_ble_eq_true rfl) dX6_init_54 ⟨Nat.le_of_ble_eq_true rfl, Nat.le_of_ble_eq_true rfl⟩) hS (fun q _ h => hFc q h) hFc (fun u t H1 locs ht hvm hw hB hz1 hk1 hS => ?_)
  obtain ⟨hP1, hK1, hD1⟩ := hB
  rw [ht] at hP1
  obtain ⟨hPn, hDn⟩ := va_join (wr := [(h0, .inr (4, [.ref (aM 0), .ref (aW 0), .ref bs, .null]))] ++ wM aM q uM ++ wW aW aM q zeroW ++ [(bs, .inl (q 2, 4, .inr (.inr (.inr (.inr (va_up (fun _ => none) 0 (some (aS0 0))))))))] ++ wS aS0 q zeroS) (w1 := wS u.1 q u.2) hP hD [18] [0, 1, 2, 3, 4, 5, 6, 7, 8, 9, 10, 11, 12, 13, 14, 15, 16, 17] rfl rfl (by decide) (by decide) hk1 hFc hP1 hD1
  generalize H1 = H at hPn hS ⊢
  obtain ⟨aS1, uS1⟩ := u
  obtain ⟨hw1, hw2⟩ := hw
  have hw1 : aS1 0 = bS1 := hw1
  subst hw1
  have hw2 : uS1 = zeroS := hw2
  subst hw2
  have hP := hPn
  have hD := hDn
  have hP : va_P D vwCl ([(h0, .inr (4, [.ref (aM 0), .ref (aW 0), .ref bs, .null]))] ++ wM aM q uM ++ wW aW aM q zeroW ++ [(bs, .inl (q 2, 4, .inr (.inr (.inr (.inr (va_up (fun _ => none) 0 (some (aS0 0))))))))] ++ wS aS0 q zeroS ++ wS aS1 q zeroS) H := hP
  have hD : va_D A ([(h0, .inr (4, [.ref (aM 0), .ref (aW 0), .ref bs, .null]))] ++ wM aM q uM ++ wW aW aM q zeroW ++ [(bs, .inl (q 2, 4, .inr (.inr (.inr (.inr (va_up (fun _ => none) 0 (some (aS0 0))))))))] ++ wS aS0 q zeroS ++ wS aS1 q zeroS) := hD
  clear hPn hDn
  refine W.widen (k := 19) (n := 1851) (Nat.le_of_ble_eq_true rfl) (Nat.le_of_ble_eq_true rfl) ?_
  refine va_astq hx hb hK hP hD hS 15 2 18 2 (f := (va_up (fun _ => none) 0 (some (aS0 0)))) rfl rfl rfl rfl (by unfold vp_in; decide) dX6_init_57 (fun H locs hP hD hS => ?_)
  have hP : va_P D vwCl ([(h0, .inr (4, [.ref (aM 0), .ref (aW 0), .ref bs, .null]))] ++ wM aM q uM ++ wW aW aM q zeroW ++ [(bs, .inl (q 2, 4, .inr (.inr (.inr (.inr (va_up (va_up (fun _ => none) 0 (some (aS0 0))) 1 (some (aS1 0))))))))] ++ wS aS0 q zeroS ++ wS aS1 q zeroS) H := hP
  have hD : va_D A ([(h0, .inr (4, [.ref (aM 0), .ref (aW 0), .ref bs, .null]))] ++ wM aM q uM ++ wW aW aM q zeroW ++ [(bs, .inl (q 2, 4, .inr (.inr (.inr (.inr (va_up (va_up (fun _ => none) 0 (some (aS0 0))) 1 (some (aS1 0))))))))] ++ wS aS0 q zeroS ++ wS aS1 q zeroS) := hD
  refine lv_iinc (v := 2) (lv' := [(1, .int 2), (0, .ref h0)]) hx hb dX6_init_58 hl (k := 0) rfl rfl (by decide) rfl (fun ls hl => ?_)
  refine lv_goto (tgt := 40) hx hb dX6_init_61 (by decide) ?_
  refine lv_iload_n hx hb dX6_init_40 rfl (lv_at hl 0 rfl) ?_
  refine lv_iconst (v := 4) hx hb dX6_init_41 (by decide) ?_
  refine lv_icmp_ge (tgt := 64) hx hb dX6_init_42 (by decide) (fun c1 => absurd c1 (by decide)) (fun c1 => ?_)
  refine lv_aload_n hx hb dX6_init_45 rfl (lv_at hl 1 rfl) ?_
  refine va_get (D := D) (ci := 4) (v := .ref bs) (C := RX6) (T := TX6) (N := 4) hx hb hts inX6_init_X6 hown hK hP 0 rfl rfl 2 (by decide) (hts (.fieldLink RX6 27 "GrowingText" "sheets" "[LGrowingText$Sheet;") (List.mem_of_getElem? (i := 13) rfl)) (fun _ h9 => h9) rfl dX6_init_46 ?_
  refine lv_iload_n hx hb dX6_init_49 rfl (lv_at hl 0 rfl) ?_
  refine va_new (ci := 2) (fs := [.null, .int 0, .int 0]) (C := RX4) (T := TX4) (N := 3) hx hb hts inX6_init_X4 tyX4 tyX4_ok hown (hts (.classLink RX6 25 RX4) (List.mem_of_getElem? (i := 12) rfl)) (hts (.instantiable RX4 3) (List.mem_of_getElem? (i := 14) rfl)) (hts (.initialized RX4) (List.mem_of_getElem? (i := 15) rfl)) hK hP hD hS hA rfl (fun j hj => by match j, hj with | 0, _ => rfl | 1, _ => rfl | 2, _ => rfl) (Nat.le_of_ble_eq_true rfl) (Nat.le_of_ble_eq_true rfl) dX6_init_50 (fun bS2 H hP hD hS => ?_)
  have hP : va_P D vwCl ([(h0, .inr (4, [.ref (aM 0), .ref (aW 0), .ref bs, .null]))] ++ wM aM q uM ++ wW aW aM q zeroW ++ [(bs, .inl (q 2, 4, .inr (.inr (.inr (.inr (va_up (va_up (fun _ => none) 0 (some (aS0 0))) 1 (some (aS1 0))))))))] ++ wS aS0 q zeroS ++ wS aS1 q zeroS ++ [(bS2, .inr (2, [.null, .int 0, .int 0]))]) H := hP
  have hD : va_D A ([(h0, .inr (4, [.ref (aM 0), .ref (aW 0), .ref bs, .null]))] ++ wM aM q uM ++ wW aW aM q zeroW ++ [(bs, .inl (q 2, 4, .inr (.inr (.inr (.inr (va_up (va_up (fun _ => none) 0 (some (aS0 0))) 1 (some (aS1 0))))))))] ++ wS aS0 q zeroS ++ wS aS1 q zeroS ++ [(bS2, .inr (2, [.null, .int 0, .int 0]))]) := hD
  refine W.widen (k := 20) (n := 1854) (Nat.le_of_ble_eq_true rfl) (Nat.le_of_ble_eq_true rfl) ?_
  refine lv_dup hx hb dX6_init_53 rfl ?_
  have hFc := va_free (wc := [(bS2, .inr (2, [.null, .int 0, .int 0]))]) hD hS hA [20] rfl
  refine va_callv (k_runI (As := []) (rest := [.ref bS2, .int 2, .ref bs]) ⟨hx, hb, hml, hown, hts⟩ (c_X4_init l D q bS2 H.size (fun u => u = zeroS) rfl) (cwI 0 hts gX6_init_X4_init rfl rfl rfl (hts (.initialized RX4) (List.mem_of_getElem? (i := 15) rfl)) (hts (.methodLink RX6 31 yX4_init) (List.mem_of_getElem? (i := 66) rfl)) (hts (.instanceMethod yX4_init) (List.mem_of_getElem? (i := 67) rfl)) rfl (by decide +kernel) ⟨Nat.le_of_ble_eq_true rfl, Nat.le_of_ble_eq_true rfl⟩) rfl hK (kp_1 hP 20 rfl) (kd_1 hD 20 rfl) rfl hl.1 rfl (Nat.le_of_ble_eq_true rfl) dX6_init_54 ⟨Nat.le_of_ble_eq_true rfl, Nat.le_of_ble_eq_true rfl⟩) hS (fun q _ h => hFc q h) hFc (fun u t H1 locs ht hvm hw hB hz1 hk1 hS => ?_)
  obtain ⟨hP1, hK1, hD1⟩ := hB
  rw [ht] at hP1
  obtain ⟨hPn, hDn⟩ := va_join (wr := [(h0, .inr (4, [.ref (aM 0), .ref (aW 0), .ref bs, .null]))] ++ wM aM q uM ++ wW aW aM q zeroW ++ [(bs, .inl (q 2, 4, .inr (.inr (.inr (.inr (va_up (va_up (fun _ => none) 0 (some (aS0 0))) 1 (some (aS1 0))))))))] ++ wS aS0 q zeroS ++ wS aS1 q zeroS) (w1 := wS u.1 q u.2) hP hD [20] [0, 1, 2, 3, 4, 5, 6, 7, 8, 9, 10, 11, 12, 13, 14, 15, 16, 17, 18, 19] rfl rfl (by decide) (by decide) hk1 hFc hP1 hD1
  generalize H1 = H at hPn hS ⊢
  obtain ⟨aS2, uS2⟩ := u
  obtain ⟨hw1, hw2⟩ := hw
  have hw1 : aS2 0 = bS2 := hw1
  subst hw1
  have hw2 : uS2 = zeroS := hw2
  subst hw2
  have hP := hPn
  have hD := hDn
  have hP : va_P D vwCl ([(h0, .inr (4, [.ref (aM 0), .ref (aW 0), .ref bs, .null]))] ++ wM aM q uM ++ wW aW aM q zeroW ++ [(bs, .inl (q 2, 4, .inr (.inr (.inr (.inr (va_up (va_up (fun _ => none) 0 (some (aS0 0))) 1 (some (aS1 0))))))))] ++ wS aS0 q zeroS ++ wS aS1 q zeroS ++ wS aS2 q zeroS) H := hP
  have hD : va_D A ([(h0, .inr (4, [.ref (aM 0), .ref (aW 0), .ref bs, .null]))] ++ wM aM q uM ++ wW aW aM q zeroW ++ [(bs, .inl (q 2, 4, .inr (.inr (.inr (.inr (va_up (va_up (fun _ => none) 0 (some (aS0 0))) 1 (some (aS1 0))))))))] ++ wS aS0 q zeroS ++ wS aS1 q zeroS ++ wS aS2 q zeroS) := hD
  clear hPn hDn
  refine W.widen (k := 21) (n := 1918) (Nat.le_of_ble_eq_true rfl) (Nat.le_of_ble_eq_true rfl) ?_
  refine va_astq hx hb hK hP hD hS 15 2 20 2 (f := (va_up (va_up (fun _ => none) 0 (some (aS0 0))) 1 (some (aS1 0)))) rfl rfl rfl rfl (by unfold vp_in; decide) dX6_init_57 (fun H locs hP hD hS => ?_)
  have hP : va_P D vwCl ([(h0, .inr (4, [.ref (aM 0), .ref (aW 0), .ref bs, .null]))] ++ wM aM q uM ++ wW aW aM q zeroW ++ [(bs, .inl (q 2, 4, .inr (.inr (.inr (.inr (va_up (va_up (va_up (fun _ => none) 0 (some (aS0 0))) 1 (some (aS1 0))) 2 (some (aS2 0))))))))] ++ wS aS0 q zeroS ++ wS aS1 q zeroS ++ wS aS2 q zeroS) H := hP
  have hD : va_D A ([(h0, .inr (4, [.ref (aM 0), .ref (aW 0), .ref bs, .null]))] ++ wM aM q uM ++ wW aW aM q zeroW ++ [(bs, .inl (q 2, 4, .inr (.inr (.inr (.inr (va_up (va_up (va_up (fun _ => none) 0 (some (aS0 0))) 1 (some (aS1 0))) 2 (some (aS2 0))))))))] ++ wS aS0 q zeroS ++ wS aS1 q zeroS ++ wS aS2 q zeroS) := hD
  refine lv_iinc (v := 3) (lv' := [(1, .int 3), (0, .ref h0)]) hx hb dX6_init_58 hl (k := 0) rfl rfl (by decide) rfl (fun ls hl => ?_)
  refine lv_goto (tgt := 40) hx hb dX6_init_61 (by decide) ?_
  refine lv_iload_n hx hb dX6_init_40 rfl (lv_at hl 0 rfl) ?_
  refine lv_iconst (v := 4) hx hb dX6_init_41 (by decide) ?_
  refine lv_icmp_ge (tgt := 64) hx hb dX6_init_42 (by decide) (fun c1 => absurd c1 (by decide)) (fun c1 => ?_)
  refine lv_aload_n hx hb dX6_init_45 rfl (lv_at hl 1 rfl) ?_
  refine va_get (D := D) (ci := 4) (v := .ref bs) (C := RX6) (T := TX6) (N := 4) hx hb hts inX6_init_X6 hown hK hP 0 rfl rfl 2 (by decide) (hts (.fieldLink RX6 27 "GrowingText" "sheets" "[LGrowingText$Sheet;") (List.mem_of_getElem? (i := 13) rfl)) (fun _ h9 => h9) rfl dX6_init_46 ?_
  refine lv_iload_n hx hb dX6_init_49 rfl (lv_at hl 0 rfl) ?_
  refine va_new (ci := 2) (fs := [.null, .int 0, .int 0]) (C := RX4) (T := TX4) (N := 3) hx hb hts inX6_init_X4 tyX4 tyX4_ok hown (hts (.classLink RX6 25 RX4) (List.mem_of_getElem? (i := 12) rfl)) (hts (.instantiable RX4 3) (List.mem_of_getElem? (i := 14) rfl)) (hts (.initialized RX4) (List.mem_of_getElem? (i := 15) rfl)) hK hP hD hS hA rfl (fun j hj => by match j, hj with | 0, _ => rfl | 1, _ => rfl | 2, _ => rfl) (Nat.le_of_ble_eq_true rfl) (Nat.le_of_ble_eq_true rfl) dX6_init_50 (fun bS3 H hP hD hS => ?_)
  have hP : va_P D vwCl ([(h0, .inr (4, [.ref (aM 0), .ref (aW 0), .ref bs, .null]))] ++ wM aM q uM ++ wW aW aM q zeroW ++ [(bs, .inl (q 2, 4, .inr (.inr (.inr (.inr (va_up (va_up (va_up (fun _ => none) 0 (some (aS0 0))) 1 (some (aS1 0))) 2 (some (aS2 0))))))))] ++ wS aS0 q zeroS ++ wS aS1 q zeroS ++ wS aS2 q zeroS ++ [(bS3, .inr (2, [.null, .int 0, .int 0]))]) H := hP
  have hD : va_D A ([(h0, .inr (4, [.ref (aM 0), .ref (aW 0), .ref bs, .null]))] ++ wM aM q uM ++ wW aW aM q zeroW ++ [(bs, .inl (q 2, 4, .inr (.inr (.inr (.inr (va_up (va_up (va_up (fun _ => none) 0 (some (aS0 0))) 1 (some (aS1 0))) 2 (some (aS2 0))))))))] ++ wS aS0 q zeroS ++ wS aS1 q zeroS ++ wS aS2 q zeroS ++ [(bS3, .inr (2, [.null, .int 0, .int 0]))]) := hD
  refine W.widen (k := 22) (n := 1921) (Nat.le_of_ble_eq_true rfl) (Nat.le_of_ble_eq_true rfl) ?_
  refine lv_dup hx hb dX6_init_53 rfl ?_
  have hFc := va_free (wc := [(bS3, .inr (2, [.null, .int 0, .int 0]))]) hD hS hA [22] rfl
  refine va_callv (k_runI (As := []) (rest := [.ref bS3, .int 3, .ref bs]) ⟨hx, hb, hml, hown, hts⟩ (c_X4_init l D q bS3 H.size (fun u => u = zeroS) rfl) (cwI 0 hts gX6_init_X4_init rfl rfl rfl (hts (.initialized RX4) (List.mem_of_getElem? (i := 15) rfl)) (hts (.methodLink RX6 31 yX4_init) (List.mem_of_getElem? (i := 66) rfl)) (hts (.instanceMethod yX4_init) (List.mem_of_getElem? (i := 67) rfl)) rfl (by decide +kernel) ⟨Nat.le_of_ble_eq_true rfl, Nat.le_of_ble_eq_true rfl⟩) rfl hK (kp_1 hP 22 rfl) (kd_1 hD 22 rfl) rfl hl.1 rfl (Nat.le_of_ble_eq_true rfl) dX6_init_54 ⟨Nat.le_of_ble_eq_true rfl, Nat.le_of_ble_eq_true rfl⟩) hS (fun q _ h => hFc q h) hFc (fun u t H1 locs ht hvm hw hB hz1 hk1 hS => ?_)
  obtain ⟨hP1, hK1, hD1⟩ := hB
  rw [ht] at hP1
  obtain ⟨hPn, hDn⟩ := va_join (wr := [(h0, .inr (4, [.ref (aM 0), .ref (aW 0), .ref bs, .null]))] ++ wM aM q uM ++ wW aW aM q zeroW ++ [(bs, .inl (q 2, 4, .inr (.inr (.inr (.inr (va_up (va_up (va_up (fun _ => none) 0 (some (aS0 0))) 1 (some (aS1 0))) 2 (some (aS2 0))))))))] ++ wS aS0 q zeroS ++ wS aS1 q zeroS ++ wS aS2 q zeroS) (w1 := wS u.1 q u.2) hP hD [22] [0, 1, 2, 3, 4, 5, 6, 7, 8, 9, 10, 11, 12, 13, 14, 15, 16, 17, 18, 19, 20, 21] rfl rfl (by decide) (by decide) hk1 hFc hP1 hD1
  generalize H1 = H at hPn hS ⊢
  obtain ⟨aS3, uS3⟩ := u
  obtain ⟨hw1, hw2⟩ := hw
  have hw1 : aS3 0 = bS3 := hw1
  subst hw1
  have hw2 : uS3 = zeroS := hw2
  subst hw2
  have hP := hPn
  have hD := hDn
  have hP : va_P D vwCl ([(h0, .inr (4, [.ref (aM 0), .ref (aW 0), .ref bs, .null]))] ++ wM aM q uM ++ wW aW aM q zeroW ++ [(bs, .inl (q 2, 4, .inr (.inr (.inr (.inr (va_up (va_up (va_up (fun _ => none) 0 (some (aS0 0))) 1 (some (aS1 0))) 2 (some (aS2 0))))))))] ++ wS aS0 q zeroS ++ wS aS1 q zeroS ++ wS aS2 q zeroS ++ wS aS3 q zeroS) H := hP
  have hD : va_D A ([(h0, .inr (4, [.ref (aM 0), .ref (aW 0), .ref bs, .null]))] ++ wM aM q uM ++ wW aW aM q zeroW ++ [(bs, .inl (q 2, 4, .inr (.inr (.inr (.inr (va_up (va_up (va_up (fun _ => none) 0 (some (aS0 0))) 1 (some (aS1 0))) 2 (some (aS2 0))))))))] ++ wS aS0 q zeroS ++ wS aS1 q zeroS ++ wS aS2 q zeroS ++ wS aS3 q zeroS) := hD
  clear hPn hDn
  refine W.widen (k := 23) (n := 1985) (Nat.le_of_ble_eq_true rfl) (Nat.le_of_ble_eq_true rfl) ?_
  refine va_astq hx hb hK hP hD hS 15 2 22 2 (f := (va_up (va_up (va_up (fun _ => none) 0 (some (aS0 0))) 1 (some (aS1 0))) 2 (some (aS2 0)))) rfl rfl rfl rfl (by unfold vp_in; decide) dX6_init_57 (fun H locs hP hD hS => ?_)
  have hP : va_P D vwCl ([(h0, .inr (4, [.ref (aM 0), .ref (aW 0), .ref bs, .null]))] ++ wM aM q uM ++ wW aW aM q zeroW ++ [(bs, .inl (q 2, 4, .inr (.inr (.inr (.inr (va_up (va_up (va_up (va_up (fun _ => none) 0 (some (aS0 0))) 1 (some (aS1 0))) 2 (some (aS2 0))) 3 (some (aS3 0))))))))] ++ wS aS0 q zeroS ++ wS aS1 q zeroS ++ wS aS2 q zeroS ++ wS aS3 q zeroS) H := hP
  have hD : va_D A ([(h0, .inr (4, [.ref (aM 0), .ref (aW 0), .ref bs, .null]))] ++ wM aM q uM ++ wW aW aM q zeroW ++ [(bs, .inl (q 2, 4, .inr (.inr (.inr (.inr (va_up (va_up (va_up (va_up (fun _ => none) 0 (some (aS0 0))) 1 (some (aS1 0))) 2 (some (aS2 0))) 3 (some (aS3 0))))))))] ++ wS aS0 q zeroS ++ wS aS1 q zeroS ++ wS aS2 q zeroS ++ wS aS3 q zeroS) := hD
  refine lv_iinc (v := 4) (lv' := [(1, .int 4), (0, .ref h0)]) hx hb dX6_init_58 hl (k := 0) rfl rfl (by decide) rfl (fun ls hl => ?_)
  refine lv_goto (tgt := 40) hx hb dX6_init_61 (by decide) ?_
  refine lv_iload_n hx hb dX6_init_40 rfl (lv_at hl 0 rfl) ?_
  refine lv_iconst (v := 4) hx hb dX6_init_41 (by decide) ?_
  refine lv_icmp_ge (tgt := 64) hx hb dX6_init_42 (by decide) (fun c1 => ?_) (fun c1 => absurd (by decide) c1)
  refine lv_aload_n hx hb dX6_init_64 rfl (lv_at hl 1 rfl) ?_
  refine lv_iconst (v := 2) hx hb dX6_init_65 (by decide) ?_
  refine k_newq 3 rfl hx hb hown (hts (.classLink RX6 32 RX1) (List.mem_of_getElem? (i := 16) rfl)) hO1 hK hP hD hS hA (N := 2) (by decide) (by decide) (Nat.le_of_ble_eq_true rfl) (Nat.le_of_ble_eq_true rfl) (Nat.le_of_ble_eq_true rfl) dX6_init_66 (fun bi H hP hD hS => ?_)
  have hP : va_P D vwCl ([(h0, .inr (4, [.ref (aM 0), .ref (aW 0), .ref bs, .null]))] ++ wM aM q uM ++ wW aW aM q zeroW ++ [(bs, .inl (q 2, 4, .inr (.inr (.inr (.inr (va_up (va_up (va_up (va_up (fun _ => none) 0 (some (aS0 0))) 1 (some (aS1 0))) 2 (some (aS2 0))) 3 (some (aS3 0))))))))] ++ wS aS0 q zeroS ++ wS aS1 q zeroS ++ wS aS2 q zeroS ++ wS aS3 q zeroS ++ [(bi, .inl (q 3, 2, .inr (.inr (.inr (.inr (fun _ => none))))))]) H := hP
  have hD : va_D A ([(h0, .inr (4, [.ref (aM 0), .ref (aW 0), .ref bs, .null]))] ++ wM aM q uM ++ wW aW aM q zeroW ++ [(bs, .inl (q 2, 4, .inr (.inr (.inr (.inr (va_up (va_up (va_up (va_up (fun _ => none) 0 (some (aS0 0))) 1 (some (aS1 0))) 2 (some (aS2 0))) 3 (some (aS3 0))))))))] ++ wS aS0 q zeroS ++ wS aS1 q zeroS ++ wS aS2 q zeroS ++ wS aS3 q zeroS ++ [(bi, .inl (q 3, 2, .inr (.inr (.inr (.inr (fun _ => none))))))]) := hD
  refine W.widen (k := 24) (n := 1987) (Nat.le_of_ble_eq_true rfl) (Nat.le_of_ble_eq_true rfl) ?_
  refine va_putF (D := D) (ci := 4) (v := .ref bi) (ty := .array (.object "GrowingText$Image")) (C := RX6) (T := TX6) (N := 4) hx hb hts inX6_init_X6 tyX6 tyX6_ok nmX6 hown hK hP hD hS 0 rfl rfl 3 (by decide) (hts (.fieldLink RX6 34 "GrowingText" "images" "[LGrowingText$Image;") (List.mem_of_getElem? (i := 17) rfl)) (fun _ h9 => h9) rfl hin rfl (by decide +kernel) rfl rfl (Nat.le_of_ble_eq_true rfl) dX6_init_69 (fun H locs hP hD hS => ?_)
  have hP : va_P D vwCl ([(h0, .inr (4, [.ref (aM 0), .ref (aW 0), .ref bs, .ref bi]))] ++ wM aM q uM ++ wW aW aM q zeroW ++ [(bs, .inl (q 2, 4, .inr (.inr (.inr (.inr (va_up (va_up (va_up (va_up (fun _ => none) 0 (some (aS0 0))) 1 (some (aS1 0))) 2 (some (aS2 0))) 3 (some (aS3 0))))))))] ++ wS aS0 q zeroS ++ wS aS1 q zeroS ++ wS aS2 q zeroS ++ wS aS3 q zeroS ++ [(bi, .inl (q 3, 2, .inr (.inr (.inr (.inr (fun _ => none))))))]) H := hP
  have hD : va_D A ([(h0, .inr (4, [.ref (aM 0), .ref (aW 0), .ref bs, .ref bi]))] ++ wM aM q uM ++ wW aW aM q zeroW ++ [(bs, .inl (q 2, 4, .inr (.inr (.inr (.inr (va_up (va_up (va_up (va_up (fun _ => none) 0 (some (aS0 0))) 1 (some (aS1 0))) 2 (some (aS2 0))) 3 (some (aS3 0))))))))] ++ wS aS0 q zeroS ++ wS aS1 q zeroS ++ wS aS2 q zeroS ++ wS aS3 q zeroS ++ [(bi, .inl (q 3, 2, .inr (.inr (.inr (.inr (fun _ => none))))))]) := hD
  refine lv_iconst (v := 0) hx hb dX6_init_72 (by decide) ?_
  refine lv_istore_n (lv' := [(1, .int 0), (0, .ref h0)]) hx hb dX6_init_73 rfl hl (by decide) rfl (fun ls hl => ?_)
  refine lv_iload_n hx hb dX6_init_74 rfl (lv_at hl 0 rfl) ?_
  refine lv_iconst (v := 2) hx hb dX6_init_75 (by decide) ?_
  refine lv_icmp_ge (tgt := 98) hx hb dX6_init_76 (by decide) (fun c1 => absurd c1 (by decide)) (fun c1 => ?_)
  refine lv_aload_n hx hb dX6_init_79 rfl (lv_at hl 1 rfl) ?_
  refine va_get (D := D) (ci := 4) (v := .ref bi) (C := RX6) (T := TX6) (N := 4) hx hb hts inX6_init_X6 hown hK hP 0 rfl rfl 3 (by decide) (hts (.fieldLink RX6 34 "GrowingText" "images" "[LGrowingText$Image;") (List.mem_of_getElem? (i := 17) rfl)) (fun _ h9 => h9) rfl dX6_init_80 ?_
  refine lv_iload_n hx hb dX6_init_83 rfl (lv_at hl 0 rfl) ?_
  refine va_new (ci := 0) (fs := [.null, .int 0, .int 0, .int 0]) (C := RX1) (T := TX1) (N := 4) hx hb hts inX6_init_X1 tyX1 tyX1_ok hown (hts (.classLink RX6 32 RX1) (List.mem_of_getElem? (i := 16) rfl)) (hts (.instantiable RX1 4) (List.mem_of_getElem? (i := 18) rfl)) (hts (.initialized RX1) (List.mem_of_getElem? (i := 19) rfl)) hK hP hD hS hA rfl (fun j hj => by match j, hj with | 0, _ => rfl | 1, _ => rfl | 2, _ => rfl | 3, _ => rfl) (Nat.le_of_ble_eq_true rfl) (Nat.le_of_ble_eq_true rfl) dX6_init_84 (fun bI0 H hP hD hS => ?_)
  have hP : va_P D vwCl ([(h0, .inr (4, [.ref (aM 0), .ref (aW 0), .ref bs, .ref bi]))] ++ wM aM q uM ++ wW aW aM q zeroW ++ [(bs, .inl (q 2, 4, .inr (.inr (.inr (.inr (va_up (va_up (va_up (va_up (fun _ => none) 0 (some (aS0 0))) 1 (some (aS1 0))) 2 (some (aS2 0))) 3 (some (aS3 0))))))))] ++ wS aS0 q zeroS ++ wS aS1 q zeroS ++ wS aS2 q zeroS ++ wS aS3 q zeroS ++ [(bi, .inl (q 3, 2, .inr (.inr (.inr (.inr (fun _ => none))))))] ++ [(bI0, .inr (0, [.null, .int 0, .int 0, .int 0]))]) H := hP
  have hD : va_D A ([(h0, .inr (4, [.ref (aM 0), .ref (aW 0), .ref bs, .ref bi]))] ++ wM aM q uM ++ wW aW aM q zeroW ++ [(bs, .inl (q 2, 4, .inr (.inr (.inr (.inr (va_up (va_up (va_up (va_up (fun _ => none) 0 (some (aS0 0))) 1 (some (aS1 0))) 2 (some (aS2 0))) 3 (some (aS3 0))))))))] ++ wS aS0 q zeroS ++ wS aS1 q zeroS ++ wS aS2 q zeroS ++ wS aS3 q zeroS ++ [(bi, .inl (q 3, 2, .inr (.inr (.inr (.inr (fun _ => none))))))] ++ [(bI0, .inr (0, [.null, .int 0, .int 0, .int 0]))]) := hD
  refine W.widen (k := 25) (n := 1991) (Nat.le_of_ble_eq_true rfl) (Nat.le_of_ble_eq_true rfl) ?_
  refine lv_dup hx hb dX6_init_87 rfl ?_
  have hFc := va_free (wc := [(bI0, .inr (0, [.null, .int 0, .int 0, .int 0]))]) hD hS hA [25] rfl
  refine va_callv (k_runI (As := []) (rest := [.ref bI0, .int 0, .ref bi]) ⟨hx, hb, hml, hown, hts⟩ (c_X1_init l D q bI0 H.size (fun u => u = (gI_set_alphabet zeroI 2)) rfl) (cwI 0 hts gX6_init_X1_init rfl rfl rfl (hts (.initialized RX1) (List.mem_of_getElem? (i := 19) rfl)) (hts (.methodLink RX6 38 yX1_init) (List.mem_of_getElem? (i := 73) rfl)) (hts (.instanceMethod yX1_init) (List.mem_of_getElem? (i := 74) rfl)) rfl (by decide +kernel) ⟨Nat.le_of_ble_eq_true rfl, Nat.le_of_ble_eq_true rfl⟩) rfl hK (kp_1 hP 25 rfl) (kd_1 hD 25 rfl) rfl hl.1 rfl (Nat.le_of_ble_eq_true rfl) dX6_init_88 ⟨Nat.le_of_ble_eq_true rfl, Nat.le_of_ble_eq_true rfl⟩) hS (fun q _ h => hFc q h) hFc (fun u t H1 locs ht hvm hw hB hz1 hk1 hS => ?_)
  obtain ⟨hP1, hK1, hD1⟩ := hB
  rw [ht] at hP1
  obtain ⟨hPn, hDn⟩ := va_join (wr := [(h0, .inr (4, [.ref (aM 0), .ref (aW 0), .ref bs, .ref bi]))] ++ wM aM q uM ++ wW aW aM q zeroW ++ [(bs, .inl (q 2, 4, .inr (.inr (.inr (.inr (va_up (va_up (va_up (va_up (fun _ => none) 0 (some (aS0 0))) 1 (some (aS1 0))) 2 (some (aS2 0))) 3 (some (aS3 0))))))))] ++ wS aS0 q zeroS ++ wS aS1 q zeroS ++ wS aS2 q zeroS ++ wS aS3 q zeroS ++ [(bi, .inl (q 3, 2, .inr (.inr (.inr (.inr (fun _ => none))))))]) (w1 := wI u.1 q u.2) hP hD [25] [0, 1, 2, 3, 4, 5, 6, 7, 8, 9, 10, 11, 12, 13, 14, 15, 16, 17, 18, 19, 20, 21, 22, 23, 24] rfl rfl (by decide) (by decide) hk1 hFc hP1 hD1
  generalize H1 = H at hPn hS ⊢
  obtain ⟨aI0, uI0⟩ := u
  obtain ⟨hw1, hw2⟩ := hw
  have hw1 : aI0 0 = bI0 := hw1
  subst hw1
  have hw2 : uI0 = (gI_set_alphabet zeroI 2) := hw2
  subst hw2
  have hP := hPn
  have hD := hDn
  have hP : va_P D vwCl ([(h0, .inr (4, [.ref (aM 0), .ref (aW 0), .ref bs, .ref bi]))] ++ wM aM q uM ++ wW aW aM q zeroW ++ [(bs, .inl (q 2, 4, .inr (.inr (.inr (.inr (va_up (va_up (va_up (va_up (fun _ => none) 0 (some (aS0 0))) 1 (some (aS1 0))) 2 (some (aS2 0))) 3 (some (aS3 0))))))))] ++ wS aS0 q zeroS ++ wS aS1 q zeroS ++ wS aS2 q zeroS ++ wS aS3 q zeroS ++ [(bi, .inl (q 3, 2, .inr (.inr (.inr (.inr (fun _ => none))))))] ++ wI aI0 q (gI_set_alphabet zeroI 2)) H := hP
  have hD : va_D A ([(h0, .inr (4, [.ref (aM 0), .ref (aW 0), .ref bs, .ref bi]))] ++ wM aM q uM ++ wW aW aM q zeroW ++ [(bs, .inl (q 2, 4, .inr (.inr (.inr (.inr (va_up (va_up (va_up (va_up (fun _ => none) 0 (some (aS0 0))) 1 (some (aS1 0))) 2 (some (aS2 0))) 3 (some (aS3 0))))))))] ++ wS aS0 q zeroS ++ wS aS1 q zeroS ++ wS aS2 q zeroS ++ wS aS3 q zeroS ++ [(bi, .inl (q 3, 2, .inr (.inr (.inr (.inr (fun _ => none))))))] ++ wI aI0 q (gI_set_alphabet zeroI 2)) := hD
  clear hPn hDn
  refine W.widen (k := 26) (n := 2051) (Nat.le_of_ble_eq_true rfl) (Nat.le_of_ble_eq_true rfl) ?_
  refine va_astq hx hb hK hP hD hS 24 3 25 0 (f := (fun _ => none)) rfl rfl rfl rfl (by unfold vp_in; decide) dX6_init_91 (fun H locs hP hD hS => ?_)
  have hP : va_P D vwCl ([(h0, .inr (4, [.ref (aM 0), .ref (aW 0), .ref bs, .ref bi]))] ++ wM aM q uM ++ wW aW aM q zeroW ++ [(bs, .inl (q 2, 4, .inr (.inr (.inr (.inr (va_up (va_up (va_up (va_up (fun _ => none) 0 (some (aS0 0))) 1 (some (aS1 0))) 2 (some (aS2 0))) 3 (some (aS3 0))))))))] ++ wS aS0 q zeroS ++ wS aS1 q zeroS ++ wS aS2 q zeroS ++ wS aS3 q zeroS ++ [(bi, .inl (q 3, 2, .inr (.inr (.inr (.inr (va_up (fun _ => none) 0 (some (aI0 0))))))))] ++ wI aI0 q (gI_set_alphabet zeroI 2)) H := hP
  have hD : va_D A ([(h0, .inr (4, [.ref (aM 0), .ref (aW 0), .ref bs, .ref bi]))] ++ wM aM q uM ++ wW aW aM q zeroW ++ [(bs, .inl (q 2, 4, .inr (.inr (.inr (.inr (va_up (va_up (va_up (va_up (fun _ => none) 0 (some (aS0 0))) 1 (some (aS1 0))) 2 (some (aS2 0))) 3 (some (aS3 0))))))))] ++ wS aS0 q zeroS ++ wS aS1 q zeroS ++ wS aS2 q zeroS ++ wS aS3 q zeroS ++ [(bi, .inl (q 3, 2, .inr (.inr (.inr (.inr (va_up (fun _ => none) 0 (some (aI0 0))))))))] ++ wI aI0 q (gI_set_alphabet zeroI 2)) := hD
  refine lv_iinc (v := 1) (lv' := [(1, .int 1), (0, .ref h0)]) hx hb dX6_init_92 hl (k := 0) rfl rfl (by decide) rfl (fun ls hl => ?_)
  refine lv_goto (tgt := 74) hx hb dX6_init_95 (by decide) ?_
  refine lv_iload_n hx hb dX6_init_74 rfl (lv_at hl 0 rfl) ?_
  refine lv_iconst (v := 2) hx hb dX6_init_75 (by decide) ?_
  refine lv_icmp_ge (tgt := 98) hx hb dX6_init_76 (by decide) (fun c1 => absurd c1 (by decide)) (fun c1 => ?_)
  refine lv_aload_n hx hb dX6_init_79 rfl (lv_at hl 1 rfl) ?_
  refine va_get (D := D) (ci := 4) (v := .ref bi) (C := RX6) (T := TX6) (N := 4) hx hb hts inX6_init_X6 hown hK hP 0 rfl rfl 3 (by decide) (hts (.fieldLink RX6 34 "GrowingText" "images" "[LGrowingText$Image;") (List.mem_of_getElem? (i := 17) rfl)) (fun _ h9 => h9) rfl dX6_init_80 ?_
  refine lv_iload_n hx hb dX6_init_83 rfl (lv_at hl 0 rfl) ?_
  refine va_new (ci := 0) (fs := [.null, .int 0, .int 0, .int 0]) (C := RX1) (T := TX1) (N := 4) hx hb hts inX6_init_X1 tyX1 tyX1_ok hown (hts (.classLink RX6 32 RX1) (List.mem_of_getElem? (i := 16) rfl)) (hts (.instantiable RX1 4) (List.mem_of_getElem? (i := 18) rfl)) (hts (.initialized RX1) (List.mem_of_getElem? (i := 19) rfl)) hK hP hD hS hA rfl (fun j hj => by match j, hj with | 0, _ => rfl | 1, _ => rfl | 2, _ => rfl | 3, _ => rfl) (Nat.le_of_ble_eq_true rfl) (Nat.le_of_ble_eq_true rfl) dX6_init_84 (fun bI1 H hP hD hS => ?_)
  have hP : va_P D vwCl ([(h0, .inr (4, [.ref (aM 0), .ref (aW 0), .ref bs, .ref bi]))] ++ wM aM q uM ++ wW aW aM q zeroW ++ [(bs, .inl (q 2, 4, .inr (.inr (.inr (.inr (va_up (va_up (va_up (va_up (fun _ => none) 0 (some (aS0 0))) 1 (some (aS1 0))) 2 (some (aS2 0))) 3 (some (aS3 0))))))))] ++ wS aS0 q zeroS ++ wS aS1 q zeroS ++ wS aS2 q zeroS ++ wS aS3 q zeroS ++ [(bi, .inl (q 3, 2, .inr (.inr (.inr (.inr (va_up (fun _ => none) 0 (some (aI0 0))))))))] ++ wI aI0 q (gI_set_alphabet zeroI 2) ++ [(bI1, .inr (0, [.null, .int 0, .int 0, .int 0]))]) H := hP
  have hD : va_D A ([(h0, .inr (4, [.ref (aM 0), .ref (aW 0), .ref bs, .ref bi]))] ++ wM aM q uM ++ wW aW aM q zeroW ++ [(bs, .inl (q 2, 4, .inr (.inr (.inr (.inr (va_up (va_up (va_up (va_up (fun _ => none) 0 (some (aS0 0))) 1 (some (aS1 0))) 2 (some (aS2 0))) 3 (some (aS3 0))))))))] ++ wS aS0 q zeroS ++ wS aS1 q zeroS ++ wS aS2 q zeroS ++ wS aS3 q zeroS ++ [(bi, .inl (q 3, 2, .inr (.inr (.inr (.inr (va_up (fun _ => none) 0 (some (aI0 0))))))))] ++ wI aI0 q (gI_set_alphabet zeroI 2) ++ [(bI1, .inr (0, [.null, .int 0, .int 0, .int 0]))]) := hD
  refine W.widen (k := 27) (n := 2055) (Nat.le_of_ble_eq_true rfl) (Nat.le_of_ble_eq_true rfl) ?_
  refine lv_dup hx hb dX6_init_87 rfl ?_
  have hFc := va_free (wc := [(bI1, .inr (0, [.null, .int 0, .int 0, .int 0]))]) hD hS hA [27] rfl
  refine va_callv (k_runI (As := []) (rest := [.ref bI1, .int 1, .ref bi]) ⟨hx, hb, hml, hown, hts⟩ (c_X1_init l D q bI1 H.size (fun u => u = (gI_set_alphabet zeroI 2)) rfl) (cwI 0 hts gX6_init_X1_init rfl rfl rfl (hts (.initialized RX1) (List.mem_of_getElem? (i := 19) rfl)) (hts (.methodLink RX6 38 yX1_init) (List.mem_of_getElem? (i := 73) rfl)) (hts (.instanceMethod yX1_init) (List.mem_of_getElem? (i := 74) rfl)) rfl (by decide +kernel) ⟨Nat.le_of_ble_eq_true rfl, Nat.le_of_ble_eq_true rfl⟩) rfl hK (kp_1 hP 27 rfl) (kd_1 hD 27 rfl) rfl hl.1 rfl (Nat.le_of_ble_eq_true rfl) dX6_init_88 ⟨Nat.le_of_ble_eq_true rfl, Nat.le_of_ble_eq_true rfl⟩) hS (fun q _ h => hFc q h) hFc (fun u t H1 locs ht hvm hw hB hz1 hk1 hS => ?_)
  obtain ⟨hP1, hK1, hD1⟩ := hB
  rw [ht] at hP1
  obtain ⟨hPn, hDn⟩ := va_join (wr := [(h0, .inr (4, [.ref (aM 0), .ref (aW 0), .ref bs, .ref bi]))] ++ wM aM q uM ++ wW aW aM q zeroW ++ [(bs, .inl (q 2, 4, .inr (.inr (.inr (.inr (va_up (va_up (va_up (va_up (fun _ => none) 0 (some (aS0 0))) 1 (some (aS1 0))) 2 (some (aS2 0))) 3 (some (aS3 0))))))))] ++ wS aS0 q zeroS ++ wS aS1 q zeroS ++ wS aS2 q zeroS ++ wS aS3 q zeroS ++ [(bi, .inl (q 3, 2, .inr (.inr (.inr (.inr (va_up (fun _ => none) 0 (some (aI0 0))))))))] ++ wI aI0 q (gI_set_alphabet zeroI 2)) (w1 := wI u.1 q u.2) hP hD [27] [0, 1, 2, 3, 4, 5, 6, 7, 8, 9, 10, 11, 12, 13, 14, 15, 16, 17, 18, 19, 20, 21, 22, 23, 24, 25, 26] rfl rfl (by decide) (by decide) hk1 hFc hP1 hD1
  generalize H1 = H at hPn hS ⊢
  obtain ⟨aI1, uI1⟩ := u
  obtain ⟨hw1, hw2⟩ := hw
  have hw1 : aI1 0 = bI1 := hw1
  subst hw1
  have hw2 : uI1 = (gI_set_alphabet zeroI 2) := hw2
  subst hw2
  have hP := hPn
  have hD := hDn
  have hP : va_P D vwCl ([(h0, .inr (4, [.ref (aM 0), .ref (aW 0), .ref bs, .ref bi]))] ++ wM aM q uM ++ wW aW aM q zeroW ++ [(bs, .inl (q 2, 4, .inr (.inr (.inr (.inr (va_up (va_up (va_up (va_up (fun _ => none) 0 (some (aS0 0))) 1 (some (aS1 0))) 2 (some (aS2 0))) 3 (some (aS3 0))))))))] ++ wS aS0 q zeroS ++ wS aS1 q zeroS ++ wS aS2 q zeroS ++ wS aS3 q zeroS ++ [(bi, .inl (q 3, 2, .inr (.inr (.inr (.inr (va_up (fun _ => none) 0 (some (aI0 0))))))))] ++ wI aI0 q (gI_set_alphabet zeroI 2) ++ wI aI1 q (gI_set_alphabet zeroI 2)) H := hP
  have hD : va_D A ([(h0, .inr (4, [.ref (aM 0), .ref (aW 0), .ref bs, .ref bi]))] ++ wM aM q uM ++ wW aW aM q zeroW ++ [(bs, .inl (q 2, 4, .inr (.inr (.inr (.inr (va_up (va_up (va_up (va_up (fun _ => none) 0 (some (aS0 0))) 1 (some (aS1 0))) 2 (some (aS2 0))) 3 (some (aS3 0))))))))] ++ wS aS0 q zeroS ++ wS aS1 q zeroS ++ wS aS2 q zeroS ++ wS aS3 q zeroS ++ [(bi, .inl (q 3, 2, .inr (.inr (.inr (.inr (va_up (fun _ => none) 0 (some (aI0 0))))))))] ++ wI aI0 q (gI_set_alphabet zeroI 2) ++ wI aI1 q (gI_set_alphabet zeroI 2)) := hD
  clear hPn hDn
  refine W.widen (k := 28) (n := 2115) (Nat.le_of_ble_eq_true rfl) (Nat.le_of_ble_eq_true rfl) ?_
  refine va_astq hx hb hK hP hD hS 24 3 27 0 (f := (va_up (fun _ => none) 0 (some (aI0 0)))) rfl rfl rfl rfl (by unfold vp_in; decide) dX6_init_91 (fun H locs hP hD hS => ?_)
  have hP : va_P D vwCl ([(h0, .inr (4, [.ref (aM 0), .ref (aW 0), .ref bs, .ref bi]))] ++ wM aM q uM ++ wW aW aM q zeroW ++ [(bs, .inl (q 2, 4, .inr (.inr (.inr (.inr (va_up (va_up (va_up (va_up (fun _ => none) 0 (some (aS0 0))) 1 (some (aS1 0))) 2 (some (aS2 0))) 3 (some (aS3 0))))))))] ++ wS aS0 q zeroS ++ wS aS1 q zeroS ++ wS aS2 q zeroS ++ wS aS3 q zeroS ++ [(bi, .inl (q 3, 2, .inr (.inr (.inr (.inr (va_up (va_up (fun _ => none) 0 (some (aI0 0))) 1 (some (aI1 0))))))))] ++ wI aI0 q (gI_set_alphabet zeroI 2) ++ wI aI1 q (gI_set_alphabet zeroI 2)) H := hP
  have hD : va_D A ([(h0, .inr (4, [.ref (aM 0), .ref (aW 0), .ref bs, .ref bi]))] ++ wM aM q uM ++ wW aW aM q zeroW ++ [(bs, .inl (q 2, 4, .inr (.inr (.inr (.inr (va_up (va_up (va_up (va_up (fun _ => none) 0 (some (aS0 0))) 1 (some (aS1 0))) 2 (some (aS2 0))) 3 (some (aS3 0))))))))] ++ wS aS0 q zeroS ++ wS aS1 q zeroS ++ wS aS2 q zeroS ++ wS aS3 q zeroS ++ [(bi, .inl (q 3, 2, .inr (.inr (.inr (.inr (va_up (va_up (fun _ => none) 0 (some (aI0 0))) 1 (some (aI1 0))))))))] ++ wI aI0 q (gI_set_alphabet zeroI 2) ++ wI aI1 q (gI_set_alphabet zeroI 2)) := hD
  refine lv_iinc (v := 2) (lv' := [(1, .int 2), (0, .ref h0)]) hx hb dX6_init_92 hl (k := 0) rfl rfl (by decide) rfl (fun ls hl => ?_)
  refine lv_goto (tgt := 74) hx hb dX6_init_95 (by decide) ?_
  refine lv_iload_n hx hb dX6_init_74 rfl (lv_at hl 0 rfl) ?_
  refine lv_iconst (v := 2) hx hb dX6_init_75 (by decide) ?_
  refine lv_icmp_ge (tgt := 98) hx hb dX6_init_76 (by decide) (fun c1 => ?_) (fun c1 => absurd (by decide) c1)
  obtain ⟨aS, eS⟩ : ∃ f : Nat → Nat → Nat, f = (fun i => match i with | 0 => aS0 | 1 => aS1 | 2 => aS2 | _ => aS3) := ⟨_, rfl⟩
  obtain ⟨aI, eI⟩ : ∃ f : Nat → Nat → Nat, f = (fun i => match i with | 0 => aI0 | _ => aI1) := ⟨_, rfl⟩
  have hP := kq_P (k := 15) (g := fun i => some (aS i 0)) rfl (by intro j hj; rw [eS]; match j, hj with | 0, _ => rfl | 1, _ => rfl | 2, _ => rfl | 3, _ => rfl) hP
  have hP := kq_P (k := 24) (g := fun i => some (aI i 0)) rfl (by intro j hj; rw [eI]; match j, hj with | 0, _ => rfl | 1, _ => rfl) hP
  have hD : va_D A ([(h0, .inr (4, [.ref (aM 0), .ref (aW 0), .ref bs, .ref bi]))] ++ wM aM q uM ++ wW aW aM q zeroW ++ [(bs, .inl (q 2, 4, .inr (.inr (.inr (.inr (fun i => some (aS i 0)))))))] ++ wS aS0 q zeroS ++ wS aS1 q zeroS ++ wS aS2 q zeroS ++ wS aS3 q zeroS ++ [(bi, .inl (q 3, 2, .inr (.inr (.inr (.inr (fun i => some (aI i 0)))))))] ++ wI aI0 q (gI_set_alphabet zeroI 2) ++ wI aI1 q (gI_set_alphabet zeroI 2)) := kd_eq (by rfl) hD
  have hP : va_P D vwCl ([(h0, .inr (4, [.ref (aM 0), .ref (aW 0), .ref bs, .ref bi]))] ++ wM aM q uM ++ wW aW aM q zeroW ++ [(bs, .inl (q 2, 4, .inr (.inr (.inr (.inr (fun i => some (aS i 0)))))))] ++ wS aS0 q zeroS ++ wS aS1 q zeroS ++ wS aS2 q zeroS ++ wS aS3 q zeroS ++ [(bi, .inl (q 3, 2, .inr (.inr (.inr (.inr (fun i => some (aI i 0)))))))] ++ wI aI0 q (gI_set_alphabet zeroI 2) ++ wI aI1 q (gI_set_alphabet zeroI 2)) H := hP
  have es0 : aS0 = aS 0 := (congrFun eS 0).symm
  have es1 : aS1 = aS 1 := (congrFun eS 1).symm
  have es2 : aS2 = aS 2 := (congrFun eS 2).symm
  have es3 : aS3 = aS 3 := (congrFun eS 3).symm
  have ei0 : aI0 = aI 0 := (congrFun eI 0).symm
  have ei1 : aI1 = aI 1 := (congrFun eI 1).symm
  rw [es0, es1, es2, es3, ei0, ei1] at hP hD
  clear es0 es1 es2 es3 ei0 ei1 eS eI
  obtain ⟨aG, hG⟩ : ∃ f : Nat → Nat, f = k_adr [h0, bs, bi] := ⟨_, rfl⟩
  have hG0 : h0 = aG 0 := by rw [hG]; rfl
  have hG1 : bs = aG 1 := by rw [hG]; rfl
  have hG2 : bi = aG 2 := by rw [hG]; rfl
  have hP := hP.sub (ws' := wXa q ((aG, aM, aW, aS, aI), zeroC uM)) [0, 15, 24, 25, 26, 27, 28, 16, 17, 18, 19, 20, 21, 22, 23, 10, 11, 12, 13, 14, 1, 2, 3, 4, 5, 6, 7, 8, 9] (by rw [hG0, hG1, hG2]; rfl)
  have hD := hD.sub (ws' := wXa q ((aG, aM, aW, aS, aI), zeroC uM)) [0, 15, 24, 25, 26, 27, 28, 16, 17, 18, 19, 20, 21, 22, 23, 10, 11, 12, 13, 14, 1, 2, 3, 4, 5, 6, 7, 8, 9] (by decide) (by rw [hG0, hG1, hG2]; rfl)
  exact k_vret_a (wf := fun u => wXa q u) (u := ((aG, aM, aW, aS, aI), zeroC uM)) hx hb hr hlocks hK hP hD hS ⟨hG0.symm, hf⟩ dX6_init_98
