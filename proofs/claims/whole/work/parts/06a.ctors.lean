def zeroM : MSt := (0, 0, 0, 0, fun _ => 0, fun _ => 0, fun _ => 0, fun _ => 0, fun _ => 0, fun _ => 0, fun _ => 0, fun _ => 0)
def rmX2_init : Room := { frames := 4, cells := 8, slots := 1331, locals := 89 }
theorem inX2_init_X2 : ∀ w ∈ wsX20, w ∈ wsX2_init := fun w h => List.mem_cons_of_mem _ (List.mem_append_right _ h)
set_option maxRecDepth 100000 in
set_option maxHeartbeats 4000000 in
theorem c_X2_init (l : Launch) (D : va_G) (q : Nat → ClassId) (h0 sz : Nat) (Q : MSt → Prop) (hf : wpX2_startOver zeroM 2 Q) : Met l yX2_init wsX2_init rmX2_init (va_Pc [.ref h0] (kPz D q sz [(h0, .inr (1, [.int 0, .int 0, .int 0, .int 0, .null, .null, .null, .null, .null, .null, .null, .null]))])) (va_Qv (fun u : (Nat → Nat) × MSt => u.1 0 = h0 ∧ Q u.2) (fun u t => kPA D q (va_A [(h0, .inr (1, [.int 0, .int 0, .int 0, .int 0, .null, .null, .null, .null, .null, .null, .null, .null]))] sz) (wM u.1 q u.2) t) (va_A [(h0, .inr (1, [.int 0, .int 0, .int 0, .int 0, .null, .null, .null, .null, .null, .null, .null, .null]))] sz)) 8 1331 (va_A [(h0, .inr (1, [.int 0, .int 0, .int 0, .int 0, .null, .null, .null, .null, .null, .null, .null, .null]))] sz) := by
  refine Met.ofW (cc := cX2_init) (maxL := 1) (ret := none) (by decide) rfl ?_
  intro p e s m args below meth c s₁ B hml hv
  obtain ⟨hargs, hsz, hP, hK, hD⟩ := hv
  have hx := B.exec
  have hb := B.bytes
  have hr := B.returns
  have hts := atoms_spec (ws := wsX2_init) B.pre
  have hown : s.vm.findClass RX2 = some m.cls := findClass_of_methodNamed B.named
  have hlocks := B.notSynchronized
  have hin : meth.name = "<init>" := (name_of_methodNamed B.named B.method).1
  subst hsz
  have hD := hD.self (sz := s.heap.size)
  generalize hAe : va_A [(h0, .inr (1, [.int 0, .int 0, .int 0, .int 0, .null, .null, .null, .null, .null, .null, .null, .null]))] s.heap.size = A at hD ⊢
  have hA : ∀ q : Nat, s.heap.size ≤ q → A q := fun q h => by rw [← hAe]; exact Or.inr h
  have hS : va_S A s.heap s.heap [] := va_S.rf
  refine k_entry hargs (Nat.le_of_ble_eq_true rfl) (fun ls hl => ?_)
  have hl : lv_has ls 1 [(0, .ref h0)] := hl
  refine lv_aload_n hx hb dX2_init_0 rfl (lv_at hl 0 rfl) ?_
  refine W.objInit hx hb hown (hts (.methodLink RX2 3 objectInit) (List.mem_of_getElem? (i := 1) rfl)) (hts (.instanceMethod objectInit) (List.mem_of_getElem? (i := 2) rfl)) (hts (.code objectInit ⟨#[0xb1]⟩ 1 none) (List.mem_of_getElem? (i := 3) rfl)) rfl (by rw [hml]; exact hl.1) rfl dX2_init_1 (Nat.le_of_ble_eq_true rfl) (Nat.le_of_ble_eq_true rfl) ?_
  refine W.eq (g2 := F0 m 4 ls []) rfl ?_
  refine lv_aload_n hx hb dX2_init_4 rfl (lv_at hl 0 rfl) ?_
  refine lv_bipush (v := 60) hx hb dX2_init_5 (by decide) ?_
  refine k_newi hx hb (hts (.arrayClass .int) (List.mem_of_getElem? (i := 4) rfl)) hK hP hD hS hA (N := 60) (by decide) (by decide) (Nat.le_of_ble_eq_true rfl) (Nat.le_of_ble_eq_true rfl) (Nat.le_of_ble_eq_true rfl) dX2_init_7 (fun a1 H hP hD hS => ?_)
  have hP : va_P D vwCl [(h0, .inr (1, [.int 0, .int 0, .int 0, .int 0, .null, .null, .null, .null, .null, .null, .null, .null])), (a1, .inl (q 0, 60, .inl (fun _ => 0)))] H := hP
  have hD : va_D A [(h0, .inr (1, [.int 0, .int 0, .int 0, .int 0, .null, .null, .null, .null, .null, .null, .null, .null])), (a1, .inl (q 0, 60, .inl (fun _ => 0)))] := hD
  refine W.widen (k := 1) (n := 60) (Nat.le_of_ble_eq_true rfl) (Nat.le_of_ble_eq_true rfl) ?_
  refine va_putF (D := D) (ci := 1) (v := .ref a1) (ty := .array .int) (C := RX2) (T := TX2) (N := 12) hx hb hts inX2_init_X2 tyX2 tyX2_ok nmX2 hown hK hP hD hS 0 rfl rfl 4 (by decide) (hts (.fieldLink RX2 9 "GrowingText$Machine" "letters" "[I") (List.mem_of_getElem? (i := 5) rfl)) (fun _ h9 => h9) rfl hin rfl (by decide +kernel) rfl rfl (Nat.le_of_ble_eq_true rfl) dX2_init_9 (fun H locs hP hD hS => ?_)
  have hP : va_P D vwCl [(h0, .inr (1, [.int 0, .int 0, .int 0, .int 0, .ref a1, .null, .null, .null, .null, .null, .null, .null])), (a1, .inl (q 0, 60, .inl (fun _ => 0)))] H := hP
  have hD : va_D A [(h0, .inr (1, [.int 0, .int 0, .int 0, .int 0, .ref a1, .null, .null, .null, .null, .null, .null, .null])), (a1, .inl (q 0, 60, .inl (fun _ => 0)))] := hD
  refine lv_aload_n hx hb dX2_init_12 rfl (lv_at hl 0 rfl) ?_
  refine lv_bipush (v := 61) hx hb dX2_init_13 (by decide) ?_
  refine k_newi hx hb (hts (.arrayClass .int) (List.mem_of_getElem? (i := 4) rfl)) hK hP hD hS hA (N := 61) (by decide) (by decide) (Nat.le_of_ble_eq_true rfl) (Nat.le_of_ble_eq_true rfl) (Nat.le_of_ble_eq_true rfl) dX2_init_15 (fun a2 H hP hD hS => ?_)
  have hP : va_P D vwCl [(h0, .inr (1, [.int 0, .int 0, .int 0, .int 0, .ref a1, .null, .null, .null, .null, .null, .null, .null])), (a1, .inl (q 0, 60, .inl (fun _ => 0))), (a2, .inl (q 0, 61, .inl (fun _ => 0)))] H := hP
  have hD : va_D A [(h0, .inr (1, [.int 0, .int 0, .int 0, .int 0, .ref a1, .null, .null, .null, .null, .null, .null, .null])), (a1, .inl (q 0, 60, .inl (fun _ => 0))), (a2, .inl (q 0, 61, .inl (fun _ => 0)))] := hD
  refine W.widen (k := 2) (n := 121) (Nat.le_of_ble_eq_true rfl) (Nat.le_of_ble_eq_true rfl) ?_
  refine va_putF (D := D) (ci := 1) (v := .ref a2) (ty := .array .int) (C := RX2) (T := TX2) (N := 12) hx hb hts inX2_init_X2 tyX2 tyX2_ok nmX2 hown hK hP hD hS 0 rfl rfl 5 (by decide) (hts (.fieldLink RX2 15 "GrowingText$Machine" "again" "[I") (List.mem_of_getElem? (i := 6) rfl)) (fun _ h9 => h9) rfl hin rfl (by decide +kernel) rfl rfl (Nat.le_of_ble_eq_true rfl) dX2_init_17 (fun H locs hP hD hS => ?_)
  have hP : va_P D vwCl [(h0, .inr (1, [.int 0, .int 0, .int 0, .int 0, .ref a1, .ref a2, .null, .null, .null, .null, .null, .null])), (a1, .inl (q 0, 60, .inl (fun _ => 0))), (a2, .inl (q 0, 61, .inl (fun _ => 0)))] H := hP
  have hD : va_D A [(h0, .inr (1, [.int 0, .int 0, .int 0, .int 0, .ref a1, .ref a2, .null, .null, .null, .null, .null, .null])), (a1, .inl (q 0, 60, .inl (fun _ => 0))), (a2, .inl (q 0, 61, .inl (fun _ => 0)))] := hD
  refine lv_aload_n hx hb dX2_init_20 rfl (lv_at hl 0 rfl) ?_
  refine lv_sipush (v := 605) hx hb dX2_init_21 (by decide) ?_
  refine k_newi hx hb (hts (.arrayClass .int) (List.mem_of_getElem? (i := 4) rfl)) hK hP hD hS hA (N := 605) (by decide) (by decide) (Nat.le_of_ble_eq_true rfl) (Nat.le_of_ble_eq_true rfl) (Nat.le_of_ble_eq_true rfl) dX2_init_24 (fun a3 H hP hD hS => ?_)
  have hP : va_P D vwCl [(h0, .inr (1, [.int 0, .int 0, .int 0, .int 0, .ref a1, .ref a2, .null, .null, .null, .null, .null, .null])), (a1, .inl (q 0, 60, .inl (fun _ => 0))), (a2, .inl (q 0, 61, .inl (fun _ => 0))), (a3, .inl (q 0, 605, .inl (fun _ => 0)))] H := hP
  have hD : va_D A [(h0, .inr (1, [.int 0, .int 0, .int 0, .int 0, .ref a1, .ref a2, .null, .null, .null, .null, .null, .null])), (a1, .inl (q 0, 60, .inl (fun _ => 0))), (a2, .inl (q 0, 61, .inl (fun _ => 0))), (a3, .inl (q 0, 605, .inl (fun _ => 0)))] := hD
  refine W.widen (k := 3) (n := 726) (Nat.le_of_ble_eq_true rfl) (Nat.le_of_ble_eq_true rfl) ?_
  refine va_putF (D := D) (ci := 1) (v := .ref a3) (ty := .array .int) (C := RX2) (T := TX2) (N := 12) hx hb hts inX2_init_X2 tyX2 tyX2_ok nmX2 hown hK hP hD hS 0 rfl rfl 6 (by decide) (hts (.fieldLink RX2 18 "GrowingText$Machine" "moves" "[I") (List.mem_of_getElem? (i := 7) rfl)) (fun _ h9 => h9) rfl hin rfl (by decide +kernel) rfl rfl (Nat.le_of_ble_eq_true rfl) dX2_init_26 (fun H locs hP hD hS => ?_)
  have hP : va_P D vwCl [(h0, .inr (1, [.int 0, .int 0, .int 0, .int 0, .ref a1, .ref a2, .ref a3, .null, .null, .null, .null, .null])), (a1, .inl (q 0, 60, .inl (fun _ => 0))), (a2, .inl (q 0, 61, .inl (fun _ => 0))), (a3, .inl (q 0, 605, .inl (fun _ => 0)))] H := hP
  have hD : va_D A [(h0, .inr (1, [.int 0, .int 0, .int 0, .int 0, .ref a1, .ref a2, .ref a3, .null, .null, .null, .null, .null])), (a1, .inl (q 0, 60, .inl (fun _ => 0))), (a2, .inl (q 0, 61, .inl (fun _ => 0))), (a3, .inl (q 0, 605, .inl (fun _ => 0)))] := hD
  refine lv_aload_n hx hb dX2_init_29 rfl (lv_at hl 0 rfl) ?_
  refine lv_bipush (v := 121) hx hb dX2_init_30 (by decide) ?_
  refine k_newi hx hb (hts (.arrayClass .int) (List.mem_of_getElem? (i := 4) rfl)) hK hP hD hS hA (N := 121) (by decide) (by decide) (Nat.le_of_ble_eq_true rfl) (Nat.le_of_ble_eq_true rfl) (Nat.le_of_ble_eq_true rfl) dX2_init_32 (fun a4 H hP hD hS => ?_)
  have hP : va_P D vwCl [(h0, .inr (1, [.int 0, .int 0, .int 0, .int 0, .ref a1, .ref a2, .ref a3, .null, .null, .null, .null, .null])), (a1, .inl (q 0, 60, .inl (fun _ => 0))), (a2, .inl (q 0, 61, .inl (fun _ => 0))), (a3, .inl (q 0, 605, .inl (fun _ => 0))), (a4, .inl (q 0, 121, .inl (fun _ => 0)))] H := hP
  have hD : va_D A [(h0, .inr (1, [.int 0, .int 0, .int 0, .int 0, .ref a1, .ref a2, .ref a3, .null, .null, .null, .null, .null])), (a1, .inl (q 0, 60, .inl (fun _ => 0))), (a2, .inl (q 0, 61, .inl (fun _ => 0))), (a3, .inl (q 0, 605, .inl (fun _ => 0))), (a4, .inl (q 0, 121, .inl (fun _ => 0)))] := hD
  refine W.widen (k := 4) (n := 847) (Nat.le_of_ble_eq_true rfl) (Nat.le_of_ble_eq_true rfl) ?_
  refine va_putF (D := D) (ci := 1) (v := .ref a4) (ty := .array .int) (C := RX2) (T := TX2) (N := 12) hx hb hts inX2_init_X2 tyX2 tyX2_ok nmX2 hown hK hP hD hS 0 rfl rfl 7 (by decide) (hts (.fieldLink RX2 21 "GrowingText$Machine" "longest" "[I") (List.mem_of_getElem? (i := 8) rfl)) (fun _ h9 => h9) rfl hin rfl (by decide +kernel) rfl rfl (Nat.le_of_ble_eq_true rfl) dX2_init_34 (fun H locs hP hD hS => ?_)
  have hP : va_P D vwCl [(h0, .inr (1, [.int 0, .int 0, .int 0, .int 0, .ref a1, .ref a2, .ref a3, .ref a4, .null, .null, .null, .null])), (a1, .inl (q 0, 60, .inl (fun _ => 0))), (a2, .inl (q 0, 61, .inl (fun _ => 0))), (a3, .inl (q 0, 605, .inl (fun _ => 0))), (a4, .inl (q 0, 121, .inl (fun _ => 0)))] H := hP
  have hD : va_D A [(h0, .inr (1, [.int 0, .int 0, .int 0, .int 0, .ref a1, .ref a2, .ref a3, .ref a4, .null, .null, .null, .null])), (a1, .inl (q 0, 60, .inl (fun _ => 0))), (a2, .inl (q 0, 61, .inl (fun _ => 0))), (a3, .inl (q 0, 605, .inl (fun _ => 0))), (a4, .inl (q 0, 121, .inl (fun _ => 0)))] := hD
  refine lv_aload_n hx hb dX2_init_37 rfl (lv_at hl 0 rfl) ?_
  refine lv_bipush (v := 121) hx hb dX2_init_38 (by decide) ?_
  refine k_newi hx hb (hts (.arrayClass .int) (List.mem_of_getElem? (i := 4) rfl)) hK hP hD hS hA (N := 121) (by decide) (by decide) (Nat.le_of_ble_eq_true rfl) (Nat.le_of_ble_eq_true rfl) (Nat.le_of_ble_eq_true rfl) dX2_init_40 (fun a5 H hP hD hS => ?_)
  have hP : va_P D vwCl [(h0, .inr (1, [.int 0, .int 0, .int 0, .int 0, .ref a1, .ref a2, .ref a3, .ref a4, .null, .null, .null, .null])), (a1, .inl (q 0, 60, .inl (fun _ => 0))), (a2, .inl (q 0, 61, .inl (fun _ => 0))), (a3, .inl (q 0, 605, .inl (fun _ => 0))), (a4, .inl (q 0, 121, .inl (fun _ => 0))), (a5, .inl (q 0, 121, .inl (fun _ => 0)))] H := hP
  have hD : va_D A [(h0, .inr (1, [.int 0, .int 0, .int 0, .int 0, .ref a1, .ref a2, .ref a3, .ref a4, .null, .null, .null, .null])), (a1, .inl (q 0, 60, .inl (fun _ => 0))), (a2, .inl (q 0, 61, .inl (fun _ => 0))), (a3, .inl (q 0, 605, .inl (fun _ => 0))), (a4, .inl (q 0, 121, .inl (fun _ => 0))), (a5, .inl (q 0, 121, .inl (fun _ => 0)))] := hD
  refine W.widen (k := 5) (n := 968) (Nat.le_of_ble_eq_true rfl) (Nat.le_of_ble_eq_true rfl) ?_
  refine va_putF (D := D) (ci := 1) (v := .ref a5) (ty := .array .int) (C := RX2) (T := TX2) (N := 12) hx hb hts inX2_init_X2 tyX2 tyX2_ok nmX2 hown hK hP hD hS 0 rfl rfl 8 (by decide) (hts (.fieldLink RX2 24 "GrowingText$Machine" "link" "[I") (List.mem_of_getElem? (i := 9) rfl)) (fun _ h9 => h9) rfl hin rfl (by decide +kernel) rfl rfl (Nat.le_of_ble_eq_true rfl) dX2_init_42 (fun H locs hP hD hS => ?_)
  have hP : va_P D vwCl [(h0, .inr (1, [.int 0, .int 0, .int 0, .int 0, .ref a1, .ref a2, .ref a3, .ref a4, .ref a5, .null, .null, .null])), (a1, .inl (q 0, 60, .inl (fun _ => 0))), (a2, .inl (q 0, 61, .inl (fun _ => 0))), (a3, .inl (q 0, 605, .inl (fun _ => 0))), (a4, .inl (q 0, 121, .inl (fun _ => 0))), (a5, .inl (q 0, 121, .inl (fun _ => 0)))] H := hP
  have hD : va_D A [(h0, .inr (1, [.int 0, .int 0, .int 0, .int 0, .ref a1, .ref a2, .ref a3, .ref a4, .ref a5, .null, .null, .null])), (a1, .inl (q 0, 60, .inl (fun _ => 0))), (a2, .inl (q 0, 61, .inl (fun _ => 0))), (a3, .inl (q 0, 605, .inl (fun _ => 0))), (a4, .inl (q 0, 121, .inl (fun _ => 0))), (a5, .inl (q 0, 121, .inl (fun _ => 0)))] := hD
  refine lv_aload_n hx hb dX2_init_45 rfl (lv_at hl 0 rfl) ?_
  refine lv_bipush (v := 121) hx hb dX2_init_46 (by decide) ?_
  refine k_newi hx hb (hts (.arrayClass .int) (List.mem_of_getElem? (i := 4) rfl)) hK hP hD hS hA (N := 121) (by decide) (by decide) (Nat.le_of_ble_eq_true rfl) (Nat.le_of_ble_eq_true rfl) (Nat.le_of_ble_eq_true rfl) dX2_init_48 (fun a6 H hP hD hS => ?_)
  have hP : va_P D vwCl [(h0, .inr (1, [.int 0, .int 0, .int 0, .int 0, .ref a1, .ref a2, .ref a3, .ref a4, .ref a5, .null, .null, .null])), (a1, .inl (q 0, 60, .inl (fun _ => 0))), (a2, .inl (q 0, 61, .inl (fun _ => 0))), (a3, .inl (q 0, 605, .inl (fun _ => 0))), (a4, .inl (q 0, 121, .inl (fun _ => 0))), (a5, .inl (q 0, 121, .inl (fun _ => 0))), (a6, .inl (q 0, 121, .inl (fun _ => 0)))] H := hP
  have hD : va_D A [(h0, .inr (1, [.int 0, .int 0, .int 0, .int 0, .ref a1, .ref a2, .ref a3, .ref a4, .ref a5, .null, .null, .null])), (a1, .inl (q 0, 60, .inl (fun _ => 0))), (a2, .inl (q 0, 61, .inl (fun _ => 0))), (a3, .inl (q 0, 605, .inl (fun _ => 0))), (a4, .inl (q 0, 121, .inl (fun _ => 0))), (a5, .inl (q 0, 121, .inl (fun _ => 0))), (a6, .inl (q 0, 121, .inl (fun _ => 0)))] := hD
  refine W.widen (k := 6) (n := 1089) (Nat.le_of_ble_eq_true rfl) (Nat.le_of_ble_eq_true rfl) ?_
  refine va_putF (D := D) (ci := 1) (v := .ref a6) (ty := .array .int) (C := RX2) (T := TX2) (N := 12) hx hb hts inX2_init_X2 tyX2 tyX2_ok nmX2 hown hK hP hD hS 0 rfl rfl 9 (by decide) (hts (.fieldLink RX2 27 "GrowingText$Machine" "made" "[I") (List.mem_of_getElem? (i := 10) rfl)) (fun _ h9 => h9) rfl hin rfl (by decide +kernel) rfl rfl (Nat.le_of_ble_eq_true rfl) dX2_init_50 (fun H locs hP hD hS => ?_)
  have hP : va_P D vwCl [(h0, .inr (1, [.int 0, .int 0, .int 0, .int 0, .ref a1, .ref a2, .ref a3, .ref a4, .ref a5, .ref a6, .null, .null])), (a1, .inl (q 0, 60, .inl (fun _ => 0))), (a2, .inl (q 0, 61, .inl (fun _ => 0))), (a3, .inl (q 0, 605, .inl (fun _ => 0))), (a4, .inl (q 0, 121, .inl (fun _ => 0))), (a5, .inl (q 0, 121, .inl (fun _ => 0))), (a6, .inl (q 0, 121, .inl (fun _ => 0)))] H := hP
  have hD : va_D A [(h0, .inr (1, [.int 0, .int 0, .int 0, .int 0, .ref a1, .ref a2, .ref a3, .ref a4, .ref a5, .ref a6, .null, .null])), (a1, .inl (q 0, 60, .inl (fun _ => 0))), (a2, .inl (q 0, 61, .inl (fun _ => 0))), (a3, .inl (q 0, 605, .inl (fun _ => 0))), (a4, .inl (q 0, 121, .inl (fun _ => 0))), (a5, .inl (q 0, 121, .inl (fun _ => 0))), (a6, .inl (q 0, 121, .inl (fun _ => 0)))] := hD
  refine lv_aload_n hx hb dX2_init_53 rfl (lv_at hl 0 rfl) ?_
  refine lv_bipush (v := 121) hx hb dX2_init_54 (by decide) ?_
  refine k_newi hx hb (hts (.arrayClass .int) (List.mem_of_getElem? (i := 4) rfl)) hK hP hD hS hA (N := 121) (by decide) (by decide) (Nat.le_of_ble_eq_true rfl) (Nat.le_of_ble_eq_true rfl) (Nat.le_of_ble_eq_true rfl) dX2_init_56 (fun a7 H hP hD hS => ?_)
  have hP : va_P D vwCl [(h0, .inr (1, [.int 0, .int 0, .int 0, .int 0, .ref a1, .ref a2, .ref a3, .ref a4, .ref a5, .ref a6, .null, .null])), (a1, .inl (q 0, 60, .inl (fun _ => 0))), (a2, .inl (q 0, 61, .inl (fun _ => 0))), (a3, .inl (q 0, 605, .inl (fun _ => 0))), (a4, .inl (q 0, 121, .inl (fun _ => 0))), (a5, .inl (q 0, 121, .inl (fun _ => 0))), (a6, .inl (q 0, 121, .inl (fun _ => 0))), (a7, .inl (q 0, 121, .inl (fun _ => 0)))] H := hP
  have hD : va_D A [(h0, .inr (1, [.int 0, .int 0, .int 0, .int 0, .ref a1, .ref a2, .ref a3, .ref a4, .ref a5, .ref a6, .null, .null])), (a1, .inl (q 0, 60, .inl (fun _ => 0))), (a2, .inl (q 0, 61, .inl (fun _ => 0))), (a3, .inl (q 0, 605, .inl (fun _ => 0))), (a4, .inl (q 0, 121, .inl (fun _ => 0))), (a5, .inl (q 0, 121, .inl (fun _ => 0))), (a6, .inl (q 0, 121, .inl (fun _ => 0))), (a7, .inl (q 0, 121, .inl (fun _ => 0)))] := hD
  refine W.widen (k := 7) (n := 1210) (Nat.le_of_ble_eq_true rfl) (Nat.le_of_ble_eq_true rfl) ?_
  refine va_putF (D := D) (ci := 1) (v := .ref a7) (ty := .array .int) (C := RX2) (T := TX2) (N := 12) hx hb hts inX2_init_X2 tyX2 tyX2_ok nmX2 hown hK hP hD hS 0 rfl rfl 10 (by decide) (hts (.fieldLink RX2 30 "GrowingText$Machine" "original" "[I") (List.mem_of_getElem? (i := 11) rfl)) (fun _ h9 => h9) rfl hin rfl (by decide +kernel) rfl rfl (Nat.le_of_ble_eq_true rfl) dX2_init_58 (fun H locs hP hD hS => ?_)
  have hP : va_P D vwCl [(h0, .inr (1, [.int 0, .int 0, .int 0, .int 0, .ref a1, .ref a2, .ref a3, .ref a4, .ref a5, .ref a6, .ref a7, .null])), (a1, .inl (q 0, 60, .inl (fun _ => 0))), (a2, .inl (q 0, 61, .inl (fun _ => 0))), (a3, .inl (q 0, 605, .inl (fun _ => 0))), (a4, .inl (q 0, 121, .inl (fun _ => 0))), (a5, .inl (q 0, 121, .inl (fun _ => 0))), (a6, .inl (q 0, 121, .inl (fun _ => 0))), (a7, .inl (q 0, 121, .inl (fun _ => 0)))] H := hP
  have hD : va_D A [(h0, .inr (1, [.int 0, .int 0, .int 0, .int 0, .ref a1, .ref a2, .ref a3, .ref a4, .ref a5, .ref a6, .ref a7, .null])), (a1, .inl (q 0, 60, .inl (fun _ => 0))), (a2, .inl (q 0, 61, .inl (fun _ => 0))), (a3, .inl (q 0, 605, .inl (fun _ => 0))), (a4, .inl (q 0, 121, .inl (fun _ => 0))), (a5, .inl (q 0, 121, .inl (fun _ => 0))), (a6, .inl (q 0, 121, .inl (fun _ => 0))), (a7, .inl (q 0, 121, .inl (fun _ => 0)))] := hD
  refine lv_aload_n hx hb dX2_init_61 rfl (lv_at hl 0 rfl) ?_
  refine lv_bipush (v := 121) hx hb dX2_init_62 (by decide) ?_
  refine k_newl hx hb (hts (.arrayClass .long) (List.mem_of_getElem? (i := 12) rfl)) hK hP hD hS hA (N := 121) (by decide) (by decide) (Nat.le_of_ble_eq_true rfl) (Nat.le_of_ble_eq_true rfl) (Nat.le_of_ble_eq_true rfl) dX2_init_64 (fun a8 H hP hD hS => ?_)
  have hP : va_P D vwCl [(h0, .inr (1, [.int 0, .int 0, .int 0, .int 0, .ref a1, .ref a2, .ref a3, .ref a4, .ref a5, .ref a6, .ref a7, .null])), (a1, .inl (q 0, 60, .inl (fun _ => 0))), (a2, .inl (q 0, 61, .inl (fun _ => 0))), (a3, .inl (q 0, 605, .inl (fun _ => 0))), (a4, .inl (q 0, 121, .inl (fun _ => 0))), (a5, .inl (q 0, 121, .inl (fun _ => 0))), (a6, .inl (q 0, 121, .inl (fun _ => 0))), (a7, .inl (q 0, 121, .inl (fun _ => 0))), (a8, .inl (q 1, 121, .inr (.inl (fun _ => 0))))] H := hP
  have hD : va_D A [(h0, .inr (1, [.int 0, .int 0, .int 0, .int 0, .ref a1, .ref a2, .ref a3, .ref a4, .ref a5, .ref a6, .ref a7, .null])), (a1, .inl (q 0, 60, .inl (fun _ => 0))), (a2, .inl (q 0, 61, .inl (fun _ => 0))), (a3, .inl (q 0, 605, .inl (fun _ => 0))), (a4, .inl (q 0, 121, .inl (fun _ => 0))), (a5, .inl (q 0, 121, .inl (fun _ => 0))), (a6, .inl (q 0, 121, .inl (fun _ => 0))), (a7, .inl (q 0, 121, .inl (fun _ => 0))), (a8, .inl (q 1, 121, .inr (.inl (fun _ => 0))))] := hD
  refine W.widen (k := 8) (n := 1331) (Nat.le_of_ble_eq_true rfl) (Nat.le_of_ble_eq_true rfl) ?_
  refine va_putF (D := D) (ci := 1) (v := .ref a8) (ty := .array .long) (C := RX2) (T := TX2) (N := 12) hx hb hts inX2_init_X2 tyX2 tyX2_ok nmX2 hown hK hP hD hS 0 rfl rfl 11 (by decide) (hts (.fieldLink RX2 33 "GrowingText$Machine" "ends" "[J") (List.mem_of_getElem? (i := 13) rfl)) (fun _ h9 => h9) rfl hin rfl (by decide +kernel) rfl rfl (Nat.le_of_ble_eq_true rfl) dX2_init_66 (fun H locs hP hD hS => ?_)
  have hP : va_P D vwCl [(h0, .inr (1, [.int 0, .int 0, .int 0, .int 0, .ref a1, .ref a2, .ref a3, .ref a4, .ref a5, .ref a6, .ref a7, .ref a8])), (a1, .inl (q 0, 60, .inl (fun _ => 0))), (a2, .inl (q 0, 61, .inl (fun _ => 0))), (a3, .inl (q 0, 605, .inl (fun _ => 0))), (a4, .inl (q 0, 121, .inl (fun _ => 0))), (a5, .inl (q 0, 121, .inl (fun _ => 0))), (a6, .inl (q 0, 121, .inl (fun _ => 0))), (a7, .inl (q 0, 121, .inl (fun _ => 0))), (a8, .inl (q 1, 121, .inr (.inl (fun _ => 0))))] H := hP
  have hD : va_D A [(h0, .inr (1, [.int 0, .int 0, .int 0, .int 0, .ref a1, .ref a2, .ref a3, .ref a4, .ref a5, .ref a6, .ref a7, .ref a8])), (a1, .inl (q 0, 60, .inl (fun _ => 0))), (a2, .inl (q 0, 61, .inl (fun _ => 0))), (a3, .inl (q 0, 605, .inl (fun _ => 0))), (a4, .inl (q 0, 121, .inl (fun _ => 0))), (a5, .inl (q 0, 121, .inl (fun _ => 0))), (a6, .inl (q 0, 121, .inl (fun _ => 0))), (a7, .inl (q 0, 121, .inl (fun _ => 0))), (a8, .inl (q 1, 121, .inr (.inl (fun _ => 0))))] := hD
  refine lv_aload_n hx hb dX2_init_69 rfl (lv_at hl 0 rfl) ?_
  refine lv_iconst (v := 2) hx hb dX2_init_70 (by decide) ?_
  have hP : va_P D vwCl (wM (k_adr [h0, a1, a2, a3, a4, a5, a6, a7, a8]) q zeroM) H := hP
  have hD : va_D A (wM (k_adr [h0, a1, a2, a3, a4, a5, a6, a7, a8]) q zeroM) := hD
  obtain ⟨aM, haM⟩ : ∃ f : Nat → Nat, f = (k_adr [h0, a1, a2, a3, a4, a5, a6, a7, a8]) := ⟨_, rfl⟩
  rw [← haM] at hP hD
  have h00 : aM 0 = h0 := by rw [haM]; rfl
  rw [← h00] at hl ⊢
  refine k_wv (wf := fun u => wM aM q u) (u0 := zeroM) (k_runV (As := [.int 2]) (rest := []) ⟨hx, hb, hml, hown, hts⟩ (c_X2_startOver l D q aM zeroM 2 _ hf) (cwV 1 hts gX2_init_X2_startOver rfl rfl rfl cdX2_startOver ⟨Nat.le_of_ble_eq_true rfl, Nat.le_of_ble_eq_true rfl⟩) hK hP hD 0 rfl rfl rfl hl.1 rfl (Nat.le_of_ble_eq_true rfl) dX2_init_71 ⟨Nat.le_of_ble_eq_true rfl, Nat.le_of_ble_eq_true rfl⟩) ([]) ([]) (fun _ => rfl) hP hD hS (fun u H locs hf hP hD hS => ?_)
  have hP : va_P D vwCl (wM aM q u) H := hP
  have hD : va_D A (wM aM q u) := hD
  exact k_vret_a (wf := fun u : (Nat → Nat) × MSt => wM u.1 q u.2) (u := (aM, u)) hx hb hr hlocks hK hP hD hS ⟨rfl, hf⟩ dX2_init_74
def zeroW : WSt := (fun _ => 0, fun _ => 0, fun _ => 0, fun _ => 0)
def rmX5_init : Room := { frames := 1, cells := 4, slots := 365, locals := 20 }
theorem inX5_init_X5 : ∀ w ∈ wsX50, w ∈ wsX5_init := fun w h => List.mem_cons_of_mem _ (List.mem_append_right _ h)
set_option maxRecDepth 100000 in
set_option maxHeartbeats 4000000 in
theorem c_X5_init (l : Launch) (D : va_G) (q : Nat → ClassId) (h0 sz : Nat) (hm : Nat) (Q : WSt → Prop) (hf : Q zeroW) : Met l yX5_init wsX5_init rmX5_init (va_Pc [.ref h0, .ref hm] (kPz D q sz [(h0, .inr (3, [.null, .null, .null, .null, .null]))])) (va_Qv (fun u : (Nat → Nat) × WSt => u.1 0 = h0 ∧ Q u.2) (fun u t => kPA D q (va_A [(h0, .inr (3, [.null, .null, .null, .null, .null]))] sz) (wW u.1 (fun _ => hm) q u.2) t) (va_A [(h0, .inr (3, [.null, .null, .null, .null, .null]))] sz)) 4 365 (va_A [(h0, .inr (3, [.null, .null, .null, .null, .null]))] sz) := by
  refine Met.ofW (cc := cX5_init) (maxL := 2) (ret := none) (by decide) rfl ?_
  intro p e s m args below meth c s₁ B hml hv
  obtain ⟨hargs, hsz, hP, hK, hD⟩ := hv
  have hx := B.exec
  have hb := B.bytes
  have hr := B.returns
  have hts := atoms_spec (ws := wsX5_init) B.pre
  have hown : s.vm.findClass RX5 = some m.cls := findClass_of_methodNamed B.named
  have hlocks := B.notSynchronized
  have hin : meth.name = "<init>" := (name_of_methodNamed B.named B.method).1
  subst hsz
  have hD := hD.self (sz := s.heap.size)
  generalize hAe : va_A [(h0, .inr (3, [.null, .null, .null, .null, .null]))] s.heap.size = A at hD ⊢
  have hA : ∀ q : Nat, s.heap.size ≤ q → A q := fun q h => by rw [← hAe]; exact Or.inr h
  have hS : va_S A s.heap s.heap [] := va_S.rf
  refine k_entry hargs (Nat.le_of_ble_eq_true rfl) (fun ls hl => ?_)
  have hl : lv_has ls 2 [(0, .ref h0), (1, .ref hm)] := hl
  refine lv_aload_n hx hb dX5_init_0 rfl (lv_at hl 0 rfl) ?_
  refine W.objInit hx hb hown (hts (.methodLink RX5 3 objectInit) (List.mem_of_getElem? (i := 1) rfl)) (hts (.instanceMethod objectInit) (List.mem_of_getElem? (i := 2) rfl)) (hts (.code objectInit ⟨#[0xb1]⟩ 1 none) (List.mem_of_getElem? (i := 3) rfl)) rfl (by rw [hml]; exact hl.1) rfl dX5_init_1 (Nat.le_of_ble_eq_true rfl) (Nat.le_of_ble_eq_true rfl) ?_
  refine W.eq (g2 := F0 m 4 ls []) rfl ?_
  refine lv_aload_n hx hb dX5_init_4 rfl (lv_at hl 0 rfl) ?_
  refine lv_aload_n hx hb dX5_init_5 rfl (lv_at hl 1 rfl) ?_
  refine va_putF (D := D) (ci := 3) (v := .ref hm) (ty := .object "GrowingText$Machine") (C := RX5) (T := TX5) (N := 5) hx hb hts inX5_init_X5 tyX5 tyX5_ok nmX5 hown hK hP hD hS 0 rfl rfl 0 (by decide) (hts (.fieldLink RX5 9 "GrowingText$Words" "machine" "LGrowingText$Machine;") (List.mem_of_getElem? (i := 4) rfl)) (fun _ h9 => h9) rfl hin rfl (by decide +kernel) rfl rfl (Nat.le_of_ble_eq_true rfl) dX5_init_6 (fun H locs hP hD hS => ?_)
  have hP : va_P D vwCl [(h0, .inr (3, [.ref hm, .null, .null, .null, .null]))] H := hP
  have hD : va_D A [(h0, .inr (3, [.ref hm, .null, .null, .null, .null]))] := hD
  refine lv_aload_n hx hb dX5_init_9 rfl (lv_at hl 0 rfl) ?_
  refine lv_bipush (v := 62) hx hb dX5_init_10 (by decide) ?_
  refine k_newi hx hb (hts (.arrayClass .int) (List.mem_of_getElem? (i := 5) rfl)) hK hP hD hS hA (N := 62) (by decide) (by decide) (Nat.le_of_ble_eq_true rfl) (Nat.le_of_ble_eq_true rfl) (Nat.le_of_ble_eq_true rfl) dX5_init_12 (fun a1 H hP hD hS => ?_)
  have hP : va_P D vwCl [(h0, .inr (3, [.ref hm, .null, .null, .null, .null])), (a1, .inl (q 0, 62, .inl (fun _ => 0)))] H := hP
  have hD : va_D A [(h0, .inr (3, [.ref hm, .null, .null, .null, .null])), (a1, .inl (q 0, 62, .inl (fun _ => 0)))] := hD
  refine W.widen (k := 1) (n := 62) (Nat.le_of_ble_eq_true rfl) (Nat.le_of_ble_eq_true rfl) ?_
  refine va_putF (D := D) (ci := 3) (v := .ref a1) (ty := .array .int) (C := RX5) (T := TX5) (N := 5) hx hb hts inX5_init_X5 tyX5 tyX5_ok nmX5 hown hK hP hD hS 0 rfl rfl 1 (by decide) (hts (.fieldLink RX5 15 "GrowingText$Words" "heads" "[I") (List.mem_of_getElem? (i := 6) rfl)) (fun _ h9 => h9) rfl hin rfl (by decide +kernel) rfl rfl (Nat.le_of_ble_eq_true rfl) dX5_init_14 (fun H locs hP hD hS => ?_)
  have hP : va_P D vwCl [(h0, .inr (3, [.ref hm, .ref a1, .null, .null, .null])), (a1, .inl (q 0, 62, .inl (fun _ => 0)))] H := hP
  have hD : va_D A [(h0, .inr (3, [.ref hm, .ref a1, .null, .null, .null])), (a1, .inl (q 0, 62, .inl (fun _ => 0)))] := hD
  refine lv_aload_n hx hb dX5_init_17 rfl (lv_at hl 0 rfl) ?_
  refine lv_bipush (v := 121) hx hb dX5_init_18 (by decide) ?_
  refine k_newi hx hb (hts (.arrayClass .int) (List.mem_of_getElem? (i := 5) rfl)) hK hP hD hS hA (N := 121) (by decide) (by decide) (Nat.le_of_ble_eq_true rfl) (Nat.le_of_ble_eq_true rfl) (Nat.le_of_ble_eq_true rfl) dX5_init_20 (fun a2 H hP hD hS => ?_)
  have hP : va_P D vwCl [(h0, .inr (3, [.ref hm, .ref a1, .null, .null, .null])), (a1, .inl (q 0, 62, .inl (fun _ => 0))), (a2, .inl (q 0, 121, .inl (fun _ => 0)))] H := hP
  have hD : va_D A [(h0, .inr (3, [.ref hm, .ref a1, .null, .null, .null])), (a1, .inl (q 0, 62, .inl (fun _ => 0))), (a2, .inl (q 0, 121, .inl (fun _ => 0)))] := hD
  refine W.widen (k := 2) (n := 183) (Nat.le_of_ble_eq_true rfl) (Nat.le_of_ble_eq_true rfl) ?_
  refine va_putF (D := D) (ci := 3) (v := .ref a2) (ty := .array .int) (C := RX5) (T := TX5) (N := 5) hx hb hts inX5_init_X5 tyX5 tyX5_ok nmX5 hown hK hP hD hS 0 rfl rfl 2 (by decide) (hts (.fieldLink RX5 19 "GrowingText$Words" "order" "[I") (List.mem_of_getElem? (i := 7) rfl)) (fun _ h9 => h9) rfl hin rfl (by decide +kernel) rfl rfl (Nat.le_of_ble_eq_true rfl) dX5_init_22 (fun H locs hP hD hS => ?_)
  have hP : va_P D vwCl [(h0, .inr (3, [.ref hm, .ref a1, .ref a2, .null, .null])), (a1, .inl (q 0, 62, .inl (fun _ => 0))), (a2, .inl (q 0, 121, .inl (fun _ => 0)))] H := hP
  have hD : va_D A [(h0, .inr (3, [.ref hm, .ref a1, .ref a2, .null, .null])), (a1, .inl (q 0, 62, .inl (fun _ => 0))), (a2, .inl (q 0, 121, .inl (fun _ => 0)))] := hD
  refine lv_aload_n hx hb dX5_init_25 rfl (lv_at hl 0 rfl) ?_
  refine lv_bipush (v := 121) hx hb dX5_init_26 (by decide) ?_
  refine k_newi hx hb (hts (.arrayClass .int) (List.mem_of_getElem? (i := 5) rfl)) hK hP hD hS hA (N := 121) (by decide) (by decide) (Nat.le_of_ble_eq_true rfl) (Nat.le_of_ble_eq_true rfl) (Nat.le_of_ble_eq_true rfl) dX5_init_28 (fun a3 H hP hD hS => ?_)
  have hP : va_P D vwCl [(h0, .inr (3, [.ref hm, .ref a1, .ref a2, .null, .null])), (a1, .inl (q 0, 62, .inl (fun _ => 0))), (a2, .inl (q 0, 121, .inl (fun _ => 0))), (a3, .inl (q 0, 121, .inl (fun _ => 0)))] H := hP
  have hD : va_D A [(h0, .inr (3, [.ref hm, .ref a1, .ref a2, .null, .null])), (a1, .inl (q 0, 62, .inl (fun _ => 0))), (a2, .inl (q 0, 121, .inl (fun _ => 0))), (a3, .inl (q 0, 121, .inl (fun _ => 0)))] := hD
  refine W.widen (k := 3) (n := 304) (Nat.le_of_ble_eq_true rfl) (Nat.le_of_ble_eq_true rfl) ?_
  refine va_putF (D := D) (ci := 3) (v := .ref a3) (ty := .array .int) (C := RX5) (T := TX5) (N := 5) hx hb hts inX5_init_X5 tyX5 tyX5_ok nmX5 hown hK hP hD hS 0 rfl rfl 3 (by decide) (hts (.fieldLink RX5 22 "GrowingText$Words" "onward" "[I") (List.mem_of_getElem? (i := 8) rfl)) (fun _ h9 => h9) rfl hin rfl (by decide +kernel) rfl rfl (Nat.le_of_ble_eq_true rfl) dX5_init_30 (fun H locs hP hD hS => ?_)
  have hP : va_P D vwCl [(h0, .inr (3, [.ref hm, .ref a1, .ref a2, .ref a3, .null])), (a1, .inl (q 0, 62, .inl (fun _ => 0))), (a2, .inl (q 0, 121, .inl (fun _ => 0))), (a3, .inl (q 0, 121, .inl (fun _ => 0)))] H := hP
  have hD : va_D A [(h0, .inr (3, [.ref hm, .ref a1, .ref a2, .ref a3, .null])), (a1, .inl (q 0, 62, .inl (fun _ => 0))), (a2, .inl (q 0, 121, .inl (fun _ => 0))), (a3, .inl (q 0, 121, .inl (fun _ => 0)))] := hD
  refine lv_aload_n hx hb dX5_init_33 rfl (lv_at hl 0 rfl) ?_
  refine lv_bipush (v := 61) hx hb dX5_init_34 (by decide) ?_
  refine k_newl hx hb (hts (.arrayClass .long) (List.mem_of_getElem? (i := 9) rfl)) hK hP hD hS hA (N := 61) (by decide) (by decide) (Nat.le_of_ble_eq_true rfl) (Nat.le_of_ble_eq_true rfl) (Nat.le_of_ble_eq_true rfl) dX5_init_36 (fun a4 H hP hD hS => ?_)
  have hP : va_P D vwCl [(h0, .inr (3, [.ref hm, .ref a1, .ref a2, .ref a3, .null])), (a1, .inl (q 0, 62, .inl (fun _ => 0))), (a2, .inl (q 0, 121, .inl (fun _ => 0))), (a3, .inl (q 0, 121, .inl (fun _ => 0))), (a4, .inl (q 1, 61, .inr (.inl (fun _ => 0))))] H := hP
  have hD : va_D A [(h0, .inr (3, [.ref hm, .ref a1, .ref a2, .ref a3, .null])), (a1, .inl (q 0, 62, .inl (fun _ => 0))), (a2, .inl (q 0, 121, .inl (fun _ => 0))), (a3, .inl (q 0, 121, .inl (fun _ => 0))), (a4, .inl (q 1, 61, .inr (.inl (fun _ => 0))))] := hD
  refine W.widen (k := 4) (n := 365) (Nat.le_of_ble_eq_true rfl) (Nat.le_of_ble_eq_true rfl) ?_
  refine va_putF (D := D) (ci := 3) (v := .ref a4) (ty := .array .long) (C := RX5) (T := TX5) (N := 5) hx hb hts inX5_init_X5 tyX5 tyX5_ok nmX5 hown hK hP hD hS 0 rfl rfl 4 (by decide) (hts (.fieldLink RX5 25 "GrowingText$Words" "sums" "[J") (List.mem_of_getElem? (i := 10) rfl)) (fun _ h9 => h9) rfl hin rfl (by decide +kernel) rfl rfl (Nat.le_of_ble_eq_true rfl) dX5_init_38 (fun H locs hP hD hS => ?_)
  have hP : va_P D vwCl [(h0, .inr (3, [.ref hm, .ref a1, .ref a2, .ref a3, .ref a4])), (a1, .inl (q 0, 62, .inl (fun _ => 0))), (a2, .inl (q 0, 121, .inl (fun _ => 0))), (a3, .inl (q 0, 121, .inl (fun _ => 0))), (a4, .inl (q 1, 61, .inr (.inl (fun _ => 0))))] H := hP
  have hD : va_D A [(h0, .inr (3, [.ref hm, .ref a1, .ref a2, .ref a3, .ref a4])), (a1, .inl (q 0, 62, .inl (fun _ => 0))), (a2, .inl (q 0, 121, .inl (fun _ => 0))), (a3, .inl (q 0, 121, .inl (fun _ => 0))), (a4, .inl (q 1, 61, .inr (.inl (fun _ => 0))))] := hD
  have hP : va_P D vwCl (wW (k_adr [h0, a1, a2, a3, a4]) (fun _ => hm) q zeroW) H := hP
  have hD : va_D A (wW (k_adr [h0, a1, a2, a3, a4]) (fun _ => hm) q zeroW) := hD
  exact k_vret_a (wf := fun u : (Nat → Nat) × WSt => wW u.1 (fun _ => hm) q u.2) (u := ((k_adr [h0, a1, a2, a3, a4]), zeroW)) hx hb hr hlocks hK hP hD hS ⟨rfl, hf⟩ dX5_init_41
def zeroS : SSt := (fun _ => 0, 0, 0)
def rmX4_init : Room := { frames := 1, cells := 1, slots := 64, locals := 20 }
theorem inX4_init_X4 : ∀ w ∈ wsX40, w ∈ wsX4_init := fun w h => List.mem_cons_of_mem _ (List.mem_append_right _ h)
set_option maxRecDepth 100000 in
set_option maxHeartbeats 4000000 in
theorem c_X4_init (l : Launch) (D : va_G) (q : Nat → ClassId) (h0 sz : Nat) (Q : SSt → Prop) (hf : Q zeroS) : Met l yX4_init wsX4_init rmX4_init (va_Pc [.ref h0] (kPz D q sz [(h0, .inr (2, [.null, .int 0, .int 0]))])) (va_Qv (fun u : (Nat → Nat) × SSt => u.1 0 = h0 ∧ Q u.2) (fun u t => kPA D q (va_A [(h0, .inr (2, [.null, .int 0, .int 0]))] sz) (wS u.1 q u.2) t) (va_A [(h0, .inr (2, [.null, .int 0, .int 0]))] sz)) 1 64 (va_A [(h0, .inr (2, [.null, .int 0, .int 0]))] sz) := by
  refine Met.ofW (cc := cX4_init) (maxL := 1) (ret := none) (by decide) rfl ?_
  intro p e s m args below meth c s₁ B hml hv
  obtain ⟨hargs, hsz, hP, hK, hD⟩ := hv
  have hx := B.exec
  have hb := B.bytes
  have hr := B.returns
  have hts := atoms_spec (ws := wsX4_init) B.pre
  have hown : s.vm.findClass RX4 = some m.cls := findClass_of_methodNamed B.named
  have hlocks := B.notSynchronized
  have hin : meth.name = "<init>" := (name_of_methodNamed B.named B.method).1
  subst hsz
  have hD := hD.self (sz := s.heap.size)
  generalize hAe : va_A [(h0, .inr (2, [.null, .int 0, .int 0]))] s.heap.size = A at hD ⊢
  have hA : ∀ q : Nat, s.heap.size ≤ q → A q := fun q h => by rw [← hAe]; exact Or.inr h
  have hS : va_S A s.heap s.heap [] := va_S.rf
  refine k_entry hargs (Nat.le_of_ble_eq_true rfl) (fun ls hl => ?_)
  have hl : lv_has ls 1 [(0, .ref h0)] := hl
  refine lv_aload_n hx hb dX4_init_0 rfl (lv_at hl 0 rfl) ?_
  refine W.objInit hx hb hown (hts (.methodLink RX4 3 objectInit) (List.mem_of_getElem? (i := 1) rfl)) (hts (.instanceMethod objectInit) (List.mem_of_getElem? (i := 2) rfl)) (hts (.code objectInit ⟨#[0xb1]⟩ 1 none) (List.mem_of_getElem? (i := 3) rfl)) rfl (by rw [hml]; exact hl.1) rfl dX4_init_1 (Nat.le_of_ble_eq_true rfl) (Nat.le_of_ble_eq_true rfl) ?_
  refine W.eq (g2 := F0 m 4 ls []) rfl ?_
  refine lv_aload_n hx hb dX4_init_4 rfl (lv_at hl 0 rfl) ?_
  refine lv_bipush (v := 64) hx hb dX4_init_5 (by decide) ?_
  refine k_newi hx hb (hts (.arrayClass .int) (List.mem_of_getElem? (i := 4) rfl)) hK hP hD hS hA (N := 64) (by decide) (by decide) (Nat.le_of_ble_eq_true rfl) (Nat.le_of_ble_eq_true rfl) (Nat.le_of_ble_eq_true rfl) dX4_init_7 (fun a1 H hP hD hS => ?_)
  have hP : va_P D vwCl [(h0, .inr (2, [.null, .int 0, .int 0])), (a1, .inl (q 0, 64, .inl (fun _ => 0)))] H := hP
  have hD : va_D A [(h0, .inr (2, [.null, .int 0, .int 0])), (a1, .inl (q 0, 64, .inl (fun _ => 0)))] := hD
  refine W.widen (k := 1) (n := 64) (Nat.le_of_ble_eq_true rfl) (Nat.le_of_ble_eq_true rfl) ?_
  refine va_putF (D := D) (ci := 2) (v := .ref a1) (ty := .array .int) (C := RX4) (T := TX4) (N := 3) hx hb hts inX4_init_X4 tyX4 tyX4_ok nmX4 hown hK hP hD hS 0 rfl rfl 0 (by decide) (hts (.fieldLink RX4 9 "GrowingText$Sheet" "signs" "[I") (List.mem_of_getElem? (i := 5) rfl)) (fun _ h9 => h9) rfl hin rfl (by decide +kernel) rfl rfl (Nat.le_of_ble_eq_true rfl) dX4_init_9 (fun H locs hP hD hS => ?_)
  have hP : va_P D vwCl [(h0, .inr (2, [.ref a1, .int 0, .int 0])), (a1, .inl (q 0, 64, .inl (fun _ => 0)))] H := hP
  have hD : va_D A [(h0, .inr (2, [.ref a1, .int 0, .int 0])), (a1, .inl (q 0, 64, .inl (fun _ => 0)))] := hD
  refine lv_aload_n hx hb dX4_init_12 rfl (lv_at hl 0 rfl) ?_
  refine lv_iconst (v := 0) hx hb dX4_init_13 (by decide) ?_
  refine va_put (D := D) (ci := 2) (v := .int 0) (ty := .boolean) (C := RX4) (T := TX4) (N := 3) hx hb hts inX4_init_X4 tyX4 tyX4_ok nmX4 hown hK hP hD hS 0 rfl rfl 1 (by decide) (hts (.fieldLink RX4 15 "GrowingText$Sheet" "there" "Z") (List.mem_of_getElem? (i := 6) rfl)) (fun _ h9 => h9) rfl (by decide +kernel) rfl rfl (Nat.le_of_ble_eq_true rfl) dX4_init_14 (fun H locs hP hD hS => ?_)
  have hP : va_P D vwCl [(h0, .inr (2, [.ref a1, .int 0, .int 0])), (a1, .inl (q 0, 64, .inl (fun _ => 0)))] H := hP
  have hD : va_D A [(h0, .inr (2, [.ref a1, .int 0, .int 0])), (a1, .inl (q 0, 64, .inl (fun _ => 0)))] := hD
  refine lv_aload_n hx hb dX4_init_17 rfl (lv_at hl 0 rfl) ?_
  refine lv_iconst (v := 0) hx hb dX4_init_18 (by decide) ?_
  refine va_put (D := D) (ci := 2) (v := .int 0) (ty := .int) (C := RX4) (T := TX4) (N := 3) hx hb hts inX4_init_X4 tyX4 tyX4_ok nmX4 hown hK hP hD hS 0 rfl rfl 2 (by decide) (hts (.fieldLink RX4 19 "GrowingText$Sheet" "length" "I") (List.mem_of_getElem? (i := 7) rfl)) (fun _ h9 => h9) rfl (by decide +kernel) rfl rfl (Nat.le_of_ble_eq_true rfl) dX4_init_19 (fun H locs hP hD hS => ?_)
  have hP : va_P D vwCl [(h0, .inr (2, [.ref a1, .int 0, .int 0])), (a1, .inl (q 0, 64, .inl (fun _ => 0)))] H := hP
  have hD : va_D A [(h0, .inr (2, [.ref a1, .int 0, .int 0])), (a1, .inl (q 0, 64, .inl (fun _ => 0)))] := hD
  have hP : va_P D vwCl (wS (k_adr [h0, a1]) q zeroS) H := hP
  have hD : va_D A (wS (k_adr [h0, a1]) q zeroS) := hD
  exact k_vret_a (wf := fun u : (Nat → Nat) × SSt => wS u.1 q u.2) (u := ((k_adr [h0, a1]), zeroS)) hx hb hr hlocks hK hP hD hS ⟨rfl, hf⟩ dX4_init_22
def zeroI : ISt := (fun _ => 0, 0, 0, 0)
def rmX1_init : Room := { frames := 1, cells := 1, slots := 60, locals := 20 }
theorem inX1_init_X1 : ∀ w ∈ wsX10, w ∈ wsX1_init := fun w h => List.mem_cons_of_mem _ (List.mem_append_right _ h)
set_option maxRecDepth 100000 in
set_option maxHeartbeats 4000000 in
theorem c_X1_init (l : Launch) (D : va_G) (q : Nat → ClassId) (h0 sz : Nat) (Q : ISt → Prop) (hf : Q (gI_set_alphabet zeroI 2)) : Met l yX1_init wsX1_init rmX1_init (va_Pc [.ref h0] (kPz D q sz [(h0, .inr (0, [.null, .int 0, .int 0, .int 0]))])) (va_Qv (fun u : (Nat → Nat) × ISt => u.1 0 = h0 ∧ Q u.2) (fun u t => kPA D q (va_A [(h0, .inr (0, [.null, .int 0, .int 0, .int 0]))] sz) (wI u.1 q u.2) t) (va_A [(h0, .inr (0, [.null, .int 0, .int 0, .int 0]))] sz)) 1 60 (va_A [(h0, .inr (0, [.null, .int 0, .int 0, .int 0]))] sz) := by
  refine Met.ofW (cc := cX1_init) (maxL := 1) (ret := none) (by decide) rfl ?_
  intro p e s m args below meth c s₁ B hml hv
  obtain ⟨hargs, hsz, hP, hK, hD⟩ := hv
  have hx := B.exec
  have hb := B.bytes
  have hr := B.returns
  have hts := atoms_spec (ws := wsX1_init) B.pre
  have hown : s.vm.findClass RX1 = some m.cls := findClass_of_methodNamed B.named
  have hlocks := B.notSynchronized
  have hin : meth.name = "<init>" := (name_of_methodNamed B.named B.method).1
  subst hsz
  have hD := hD.self (sz := s.heap.size)
  generalize hAe : va_A [(h0, .inr (0, [.null, .int 0, .int 0, .int 0]))] s.heap.size = A at hD ⊢
  have hA : ∀ q : Nat, s.heap.size ≤ q → A q := fun q h => by rw [← hAe]; exact Or.inr h
  have hS : va_S A s.heap s.heap [] := va_S.rf
  refine k_entry hargs (Nat.le_of_ble_eq_true rfl) (fun ls hl => ?_)
  have hl : lv_has ls 1 [(0, .ref h0)] := hl
  refine lv_aload_n hx hb dX1_init_0 rfl (lv_at hl 0 rfl) ?_
  refine W.objInit hx hb hown (hts (.methodLink RX1 3 objectInit) (List.mem_of_getElem? (i := 1) rfl)) (hts (.instanceMethod objectInit) (List.mem_of_getElem? (i := 2) rfl)) (hts (.code objectInit ⟨#[0xb1]⟩ 1 none) (List.mem_of_getElem? (i := 3) rfl)) rfl (by rw [hml]; exact hl.1) rfl dX1_init_1 (Nat.le_of_ble_eq_true rfl) (Nat.le_of_ble_eq_true rfl) ?_
  refine W.eq (g2 := F0 m 4 ls []) rfl ?_
  refine lv_aload_n hx hb dX1_init_4 rfl (lv_at hl 0 rfl) ?_
  refine lv_bipush (v := 60) hx hb dX1_init_5 (by decide) ?_
  refine k_newi hx hb (hts (.arrayClass .int) (List.mem_of_getElem? (i := 4) rfl)) hK hP hD hS hA (N := 60) (by decide) (by decide) (Nat.le_of_ble_eq_true rfl) (Nat.le_of_ble_eq_true rfl) (Nat.le_of_ble_eq_true rfl) dX1_init_7 (fun a1 H hP hD hS => ?_)
  have hP : va_P D vwCl [(h0, .inr (0, [.null, .int 0, .int 0, .int 0])), (a1, .inl (q 0, 60, .inl (fun _ => 0)))] H := hP
  have hD : va_D A [(h0, .inr (0, [.null, .int 0, .int 0, .int 0])), (a1, .inl (q 0, 60, .inl (fun _ => 0)))] := hD
  refine W.widen (k := 1) (n := 60) (Nat.le_of_ble_eq_true rfl) (Nat.le_of_ble_eq_true rfl) ?_
  refine va_putF (D := D) (ci := 0) (v := .ref a1) (ty := .array .int) (C := RX1) (T := TX1) (N := 4) hx hb hts inX1_init_X1 tyX1 tyX1_ok nmX1 hown hK hP hD hS 0 rfl rfl 0 (by decide) (hts (.fieldLink RX1 9 "GrowingText$Image" "letters" "[I") (List.mem_of_getElem? (i := 5) rfl)) (fun _ h9 => h9) rfl hin rfl (by decide +kernel) rfl rfl (Nat.le_of_ble_eq_true rfl) dX1_init_9 (fun H locs hP hD hS => ?_)
  have hP : va_P D vwCl [(h0, .inr (0, [.ref a1, .int 0, .int 0, .int 0])), (a1, .inl (q 0, 60, .inl (fun _ => 0)))] H := hP
  have hD : va_D A [(h0, .inr (0, [.ref a1, .int 0, .int 0, .int 0])), (a1, .inl (q 0, 60, .inl (fun _ => 0)))] := hD
  refine lv_aload_n hx hb dX1_init_12 rfl (lv_at hl 0 rfl) ?_
  refine lv_iconst (v := 2) hx hb dX1_init_13 (by decide) ?_
  refine va_put (D := D) (ci := 0) (v := .int 2) (ty := .int) (C := RX1) (T := TX1) (N := 4) hx hb hts inX1_init_X1 tyX1 tyX1_ok nmX1 hown hK hP hD hS 0 rfl rfl 1 (by decide) (hts (.fieldLink RX1 15 "GrowingText$Image" "alphabet" "I") (List.mem_of_getElem? (i := 6) rfl)) (fun _ h9 => h9) rfl (by decide +kernel) rfl rfl (Nat.le_of_ble_eq_true rfl) dX1_init_14 (fun H locs hP hD hS => ?_)
  have hP : va_P D vwCl [(h0, .inr (0, [.ref a1, .int 2, .int 0, .int 0])), (a1, .inl (q 0, 60, .inl (fun _ => 0)))] H := hP
  have hD : va_D A [(h0, .inr (0, [.ref a1, .int 2, .int 0, .int 0])), (a1, .inl (q 0, 60, .inl (fun _ => 0)))] := hD
  refine lv_aload_n hx hb dX1_init_17 rfl (lv_at hl 0 rfl) ?_
  refine lv_iconst (v := 0) hx hb dX1_init_18 (by decide) ?_
  refine va_put (D := D) (ci := 0) (v := .int 0) (ty := .int) (C := RX1) (T := TX1) (N := 4) hx hb hts inX1_init_X1 tyX1 tyX1_ok nmX1 hown hK hP hD hS 0 rfl rfl 2 (by decide) (hts (.fieldLink RX1 19 "GrowingText$Image" "length" "I") (List.mem_of_getElem? (i := 7) rfl)) (fun _ h9 => h9) rfl (by decide +kernel) rfl rfl (Nat.le_of_ble_eq_true rfl) dX1_init_19 (fun H locs hP hD hS => ?_)
  have hP : va_P D vwCl [(h0, .inr (0, [.ref a1, .int 2, .int 0, .int 0])), (a1, .inl (q 0, 60, .inl (fun _ => 0)))] H := hP
  have hD : va_D A [(h0, .inr (0, [.ref a1, .int 2, .int 0, .int 0])), (a1, .inl (q 0, 60, .inl (fun _ => 0)))] := hD
  refine lv_aload_n hx hb dX1_init_22 rfl (lv_at hl 0 rfl) ?_
  refine lv_iconst (v := 0) hx hb dX1_init_23 (by decide) ?_
  refine va_put (D := D) (ci := 0) (v := .int 0) (ty := .boolean) (C := RX1) (T := TX1) (N := 4) hx hb hts inX1_init_X1 tyX1 tyX1_ok nmX1 hown hK hP hD hS 0 rfl rfl 3 (by decide) (hts (.fieldLink RX1 22 "GrowingText$Image" "kept" "Z") (List.mem_of_getElem? (i := 8) rfl)) (fun _ h9 => h9) rfl (by decide +kernel) rfl rfl (Nat.le_of_ble_eq_true rfl) dX1_init_24 (fun H locs hP hD hS => ?_)
  have hP : va_P D vwCl [(h0, .inr (0, [.ref a1, .int 2, .int 0, .int 0])), (a1, .inl (q 0, 60, .inl (fun _ => 0)))] H := hP
  have hD : va_D A [(h0, .inr (0, [.ref a1, .int 2, .int 0, .int 0])), (a1, .inl (q 0, 60, .inl (fun _ => 0)))] := hD
  have hP : va_P D vwCl (wI (k_adr [h0, a1]) q (gI_set_alphabet zeroI 2)) H := hP
  have hD : va_D A (wI (k_adr [h0, a1]) q (gI_set_alphabet zeroI 2)) := hD
  exact k_vret_a (wf := fun u : (Nat → Nat) × ISt => wI u.1 q u.2) (u := ((k_adr [h0, a1]), (gI_set_alphabet zeroI 2))) hx hb hr hlocks hK hP hD hS ⟨rfl, hf⟩ dX1_init_27
def zeroR : RSt := (0, 0, fun _ => 0, 0, fun _ => 0, fun _ => 0, fun _ => 0, fun _ => 0, fun _ => 0, fun _ => 0, fun _ => 0, fun _ => 0, fun _ => 0, fun _ => 0)
def rmX7_init : Room := { frames := 1, cells := 11, slots := 1049, locals := 21 }
theorem inX7_init_X7 : ∀ w ∈ wsX70, w ∈ wsX7_init := fun w h => List.mem_cons_of_mem _ (List.mem_append_right _ h)
set_option maxRecDepth 100000 in
set_option maxHeartbeats 4000000 in
theorem c_X7_init (l : Launch) (D : va_G) (q : Nat → ClassId) (h0 sz : Nat) (Q : RSt → Prop) (hf : wpX7_begins zeroR 2 (fun uR => Q (gR_set_sizes uR (upd (upd (upd (upd (gR_sizes uR) 0 (-1)) 1 (-1)) 2 (-1)) 3 (-1))))) : Met l yX7_init wsX7_init rmX7_init (va_Pc [.ref h0] (kPz D q sz [(h0, .inr (5, [.int 0, .int 0, .null, .int 0, .null, .null, .null, .null, .null, .null, .null, .null, .null, .null]))])) (va_Qv (fun u : (Nat → Nat) × RSt => u.1 0 = h0 ∧ Q u.2) (fun u t => kPA D q (va_A [(h0, .inr (5, [.int 0, .int 0, .null, .int 0, .null, .null, .null, .null, .null, .null, .null, .null, .null, .null]))] sz) (wR u.1 q u.2) t) (va_A [(h0, .inr (5, [.int 0, .int 0, .null, .int 0, .null, .null, .null, .null, .null, .null, .null, .null, .null, .null]))] sz)) 11 1049 (va_A [(h0, .inr (5, [.int 0, .int 0, .null, .int 0, .null, .null, .null, .null, .null, .null, .null, .null, .null, .null]))] sz) := by
  refine Met.ofW (cc := cX7_init) (maxL := 2) (ret := none) (by decide) rfl ?_
  intro p e s m args below meth c s₁ B hml hv
  obtain ⟨hargs, hsz, hP, hK, hD⟩ := hv
  have hx := B.exec
  have hb := B.bytes
  have hr := B.returns
  have hts := atoms_spec (ws := wsX7_init) B.pre
  have hown : s.vm.findClass RX7 = some m.cls := findClass_of_methodNamed B.named
  have hlocks := B.notSynchronized
  have hin : meth.name = "<init>" := (name_of_methodNamed B.named B.method).1
  subst hsz
  have hD := hD.self (sz := s.heap.size)
  generalize hAe : va_A [(h0, .inr (5, [.int 0, .int 0, .null, .int 0, .null, .null, .null, .null, .null, .null, .null, .null, .null, .null]))] s.heap.size = A at hD ⊢
  have hA : ∀ q : Nat, s.heap.size ≤ q → A q := fun q h => by rw [← hAe]; exact Or.inr h
  have hS : va_S A s.heap s.heap [] := va_S.rf
  refine k_entry hargs (Nat.le_of_ble_eq_true rfl) (fun ls hl => ?_)
  have hl : lv_has ls 2 [(0, .ref h0)] := hl
  refine lv_aload_n hx hb dX7_init_0 rfl (lv_at hl 0 rfl) ?_
  refine W.objInit hx hb hown (hts (.methodLink RX7 1 objectInit) (List.mem_of_getElem? (i := 1) rfl)) (hts (.instanceMethod objectInit) (List.mem_of_getElem? (i := 2) rfl)) (hts (.code objectInit ⟨#[0xb1]⟩ 1 none) (List.mem_of_getElem? (i := 3) rfl)) rfl (by rw [hml]; exact hl.1) rfl dX7_init_1 (Nat.le_of_ble_eq_true rfl) (Nat.le_of_ble_eq_true rfl) ?_
  refine W.eq (g2 := F0 m 4 ls []) rfl ?_
  refine lv_aload_n hx hb dX7_init_4 rfl (lv_at hl 0 rfl) ?_
  refine lv_bipush (v := 60) hx hb dX7_init_5 (by decide) ?_
  refine k_newi hx hb (hts (.arrayClass .int) (List.mem_of_getElem? (i := 4) rfl)) hK hP hD hS hA (N := 60) (by decide) (by decide) (Nat.le_of_ble_eq_true rfl) (Nat.le_of_ble_eq_true rfl) (Nat.le_of_ble_eq_true rfl) dX7_init_7 (fun a1 H hP hD hS => ?_)
  have hP : va_P D vwCl [(h0, .inr (5, [.int 0, .int 0, .null, .int 0, .null, .null, .null, .null, .null, .null, .null, .null, .null, .null])), (a1, .inl (q 0, 60, .inl (fun _ => 0)))] H := hP
  have hD : va_D A [(h0, .inr (5, [.int 0, .int 0, .null, .int 0, .null, .null, .null, .null, .null, .null, .null, .null, .null, .null])), (a1, .inl (q 0, 60, .inl (fun _ => 0)))] := hD
  refine W.widen (k := 1) (n := 60) (Nat.le_of_ble_eq_true rfl) (Nat.le_of_ble_eq_true rfl) ?_
  refine va_putF (D := D) (ci := 5) (v := .ref a1) (ty := .array .int) (C := RX7) (T := TX7) (N := 14) hx hb hts inX7_init_X7 tyX7 tyX7_ok nmX7 hown hK hP hD hS 0 rfl rfl 2 (by decide) (hts (.fieldLink RX7 7 "GrowingTextModel" "text" "[I") (List.mem_of_getElem? (i := 5) rfl)) (fun _ h9 => h9) rfl hin rfl (by decide +kernel) rfl rfl (Nat.le_of_ble_eq_true rfl) dX7_init_9 (fun H locs hP hD hS => ?_)
  have hP : va_P D vwCl [(h0, .inr (5, [.int 0, .int 0, .ref a1, .int 0, .null, .null, .null, .null, .null, .null, .null, .null, .null, .null])), (a1, .inl (q 0, 60, .inl (fun _ => 0)))] H := hP
  have hD : va_D A [(h0, .inr (5, [.int 0, .int 0, .ref a1, .int 0, .null, .null, .null, .null, .null, .null, .null, .null, .null, .null])), (a1, .inl (q 0, 60, .inl (fun _ => 0)))] := hD
  refine lv_aload_n hx hb dX7_init_12 rfl (lv_at hl 0 rfl) ?_
  refine lv_bipush (v := 121) hx hb dX7_init_13 (by decide) ?_
  refine k_newi hx hb (hts (.arrayClass .int) (List.mem_of_getElem? (i := 4) rfl)) hK hP hD hS hA (N := 121) (by decide) (by decide) (Nat.le_of_ble_eq_true rfl) (Nat.le_of_ble_eq_true rfl) (Nat.le_of_ble_eq_true rfl) dX7_init_15 (fun a2 H hP hD hS => ?_)
  have hP : va_P D vwCl [(h0, .inr (5, [.int 0, .int 0, .ref a1, .int 0, .null, .null, .null, .null, .null, .null, .null, .null, .null, .null])), (a1, .inl (q 0, 60, .inl (fun _ => 0))), (a2, .inl (q 0, 121, .inl (fun _ => 0)))] H := hP
  have hD : va_D A [(h0, .inr (5, [.int 0, .int 0, .ref a1, .int 0, .null, .null, .null, .null, .null, .null, .null, .null, .null, .null])), (a1, .inl (q 0, 60, .inl (fun _ => 0))), (a2, .inl (q 0, 121, .inl (fun _ => 0)))] := hD
  refine W.widen (k := 2) (n := 181) (Nat.le_of_ble_eq_true rfl) (Nat.le_of_ble_eq_true rfl) ?_
  refine va_putF (D := D) (ci := 5) (v := .ref a2) (ty := .array .int) (C := RX7) (T := TX7) (N := 14) hx hb hts inX7_init_X7 tyX7 tyX7_ok nmX7 hown hK hP hD hS 0 rfl rfl 4 (by decide) (hts (.fieldLink RX7 13 "GrowingTextModel" "longest" "[I") (List.mem_of_getElem? (i := 6) rfl)) (fun _ h9 => h9) rfl hin rfl (by decide +kernel) rfl rfl (Nat.le_of_ble_eq_true rfl) dX7_init_17 (fun H locs hP hD hS => ?_)
  have hP : va_P D vwCl [(h0, .inr (5, [.int 0, .int 0, .ref a1, .int 0, .ref a2, .null, .null, .null, .null, .null, .null, .null, .null, .null])), (a1, .inl (q 0, 60, .inl (fun _ => 0))), (a2, .inl (q 0, 121, .inl (fun _ => 0)))] H := hP
  have hD : va_D A [(h0, .inr (5, [.int 0, .int 0, .ref a1, .int 0, .ref a2, .null, .null, .null, .null, .null, .null, .null, .null, .null])), (a1, .inl (q 0, 60, .inl (fun _ => 0))), (a2, .inl (q 0, 121, .inl (fun _ => 0)))] := hD
  refine lv_aload_n hx hb dX7_init_20 rfl (lv_at hl 0 rfl) ?_
  refine lv_bipush (v := 121) hx hb dX7_init_21 (by decide) ?_
  refine k_newi hx hb (hts (.arrayClass .int) (List.mem_of_getElem? (i := 4) rfl)) hK hP hD hS hA (N := 121) (by decide) (by decide) (Nat.le_of_ble_eq_true rfl) (Nat.le_of_ble_eq_true rfl) (Nat.le_of_ble_eq_true rfl) dX7_init_23 (fun a3 H hP hD hS => ?_)
  have hP : va_P D vwCl [(h0, .inr (5, [.int 0, .int 0, .ref a1, .int 0, .ref a2, .null, .null, .null, .null, .null, .null, .null, .null, .null])), (a1, .inl (q 0, 60, .inl (fun _ => 0))), (a2, .inl (q 0, 121, .inl (fun _ => 0))), (a3, .inl (q 0, 121, .inl (fun _ => 0)))] H := hP
  have hD : va_D A [(h0, .inr (5, [.int 0, .int 0, .ref a1, .int 0, .ref a2, .null, .null, .null, .null, .null, .null, .null, .null, .null])), (a1, .inl (q 0, 60, .inl (fun _ => 0))), (a2, .inl (q 0, 121, .inl (fun _ => 0))), (a3, .inl (q 0, 121, .inl (fun _ => 0)))] := hD
  refine W.widen (k := 3) (n := 302) (Nat.le_of_ble_eq_true rfl) (Nat.le_of_ble_eq_true rfl) ?_
  refine va_putF (D := D) (ci := 5) (v := .ref a3) (ty := .array .int) (C := RX7) (T := TX7) (N := 14) hx hb hts inX7_init_X7 tyX7 tyX7_ok nmX7 hown hK hP hD hS 0 rfl rfl 5 (by decide) (hts (.fieldLink RX7 16 "GrowingTextModel" "made" "[I") (List.mem_of_getElem? (i := 7) rfl)) (fun _ h9 => h9) rfl hin rfl (by decide +kernel) rfl rfl (Nat.le_of_ble_eq_true rfl) dX7_init_25 (fun H locs hP hD hS => ?_)
  have hP : va_P D vwCl [(h0, .inr (5, [.int 0, .int 0, .ref a1, .int 0, .ref a2, .ref a3, .null, .null, .null, .null, .null, .null, .null, .null])), (a1, .inl (q 0, 60, .inl (fun _ => 0))), (a2, .inl (q 0, 121, .inl (fun _ => 0))), (a3, .inl (q 0, 121, .inl (fun _ => 0)))] H := hP
  have hD : va_D A [(h0, .inr (5, [.int 0, .int 0, .ref a1, .int 0, .ref a2, .ref a3, .null, .null, .null, .null, .null, .null, .null, .null])), (a1, .inl (q 0, 60, .inl (fun _ => 0))), (a2, .inl (q 0, 121, .inl (fun _ => 0))), (a3, .inl (q 0, 121, .inl (fun _ => 0)))] := hD
  refine lv_aload_n hx hb dX7_init_28 rfl (lv_at hl 0 rfl) ?_
  refine lv_bipush (v := 121) hx hb dX7_init_29 (by decide) ?_
  refine k_newi hx hb (hts (.arrayClass .int) (List.mem_of_getElem? (i := 4) rfl)) hK hP hD hS hA (N := 121) (by decide) (by decide) (Nat.le_of_ble_eq_true rfl) (Nat.le_of_ble_eq_true rfl) (Nat.le_of_ble_eq_true rfl) dX7_init_31 (fun a4 H hP hD hS => ?_)
  have hP : va_P D vwCl [(h0, .inr (5, [.int 0, .int 0, .ref a1, .int 0, .ref a2, .ref a3, .null, .null, .null, .null, .null, .null, .null, .null])), (a1, .inl (q 0, 60, .inl (fun _ => 0))), (a2, .inl (q 0, 121, .inl (fun _ => 0))), (a3, .inl (q 0, 121, .inl (fun _ => 0))), (a4, .inl (q 0, 121, .inl (fun _ => 0)))] H := hP
  have hD : va_D A [(h0, .inr (5, [.int 0, .int 0, .ref a1, .int 0, .ref a2, .ref a3, .null, .null, .null, .null, .null, .null, .null, .null])), (a1, .inl (q 0, 60, .inl (fun _ => 0))), (a2, .inl (q 0, 121, .inl (fun _ => 0))), (a3, .inl (q 0, 121, .inl (fun _ => 0))), (a4, .inl (q 0, 121, .inl (fun _ => 0)))] := hD
  refine W.widen (k := 4) (n := 423) (Nat.le_of_ble_eq_true rfl) (Nat.le_of_ble_eq_true rfl) ?_
  refine va_putF (D := D) (ci := 5) (v := .ref a4) (ty := .array .int) (C := RX7) (T := TX7) (N := 14) hx hb hts inX7_init_X7 tyX7 tyX7_ok nmX7 hown hK hP hD hS 0 rfl rfl 6 (by decide) (hts (.fieldLink RX7 19 "GrowingTextModel" "cloneOf" "[I") (List.mem_of_getElem? (i := 8) rfl)) (fun _ h9 => h9) rfl hin rfl (by decide +kernel) rfl rfl (Nat.le_of_ble_eq_true rfl) dX7_init_33 (fun H locs hP hD hS => ?_)
  have hP : va_P D vwCl [(h0, .inr (5, [.int 0, .int 0, .ref a1, .int 0, .ref a2, .ref a3, .ref a4, .null, .null, .null, .null, .null, .null, .null])), (a1, .inl (q 0, 60, .inl (fun _ => 0))), (a2, .inl (q 0, 121, .inl (fun _ => 0))), (a3, .inl (q 0, 121, .inl (fun _ => 0))), (a4, .inl (q 0, 121, .inl (fun _ => 0)))] H := hP
  have hD : va_D A [(h0, .inr (5, [.int 0, .int 0, .ref a1, .int 0, .ref a2, .ref a3, .ref a4, .null, .null, .null, .null, .null, .null, .null])), (a1, .inl (q 0, 60, .inl (fun _ => 0))), (a2, .inl (q 0, 121, .inl (fun _ => 0))), (a3, .inl (q 0, 121, .inl (fun _ => 0))), (a4, .inl (q 0, 121, .inl (fun _ => 0)))] := hD
  refine lv_aload_n hx hb dX7_init_36 rfl (lv_at hl 0 rfl) ?_
  refine lv_bipush (v := 121) hx hb dX7_init_37 (by decide) ?_
  refine k_newl hx hb (hts (.arrayClass .long) (List.mem_of_getElem? (i := 9) rfl)) hK hP hD hS hA (N := 121) (by decide) (by decide) (Nat.le_of_ble_eq_true rfl) (Nat.le_of_ble_eq_true rfl) (Nat.le_of_ble_eq_true rfl) dX7_init_39 (fun a5 H hP hD hS => ?_)
  have hP : va_P D vwCl [(h0, .inr (5, [.int 0, .int 0, .ref a1, .int 0, .ref a2, .ref a3, .ref a4, .null, .null, .null, .null, .null, .null, .null])), (a1, .inl (q 0, 60, .inl (fun _ => 0))), (a2, .inl (q 0, 121, .inl (fun _ => 0))), (a3, .inl (q 0, 121, .inl (fun _ => 0))), (a4, .inl (q 0, 121, .inl (fun _ => 0))), (a5, .inl (q 1, 121, .inr (.inl (fun _ => 0))))] H := hP
  have hD : va_D A [(h0, .inr (5, [.int 0, .int 0, .ref a1, .int 0, .ref a2, .ref a3, .ref a4, .null, .null, .null, .null, .null, .null, .null])), (a1, .inl (q 0, 60, .inl (fun _ => 0))), (a2, .inl (q 0, 121, .inl (fun _ => 0))), (a3, .inl (q 0, 121, .inl (fun _ => 0))), (a4, .inl (q 0, 121, .inl (fun _ => 0))), (a5, .inl (q 1, 121, .inr (.inl (fun _ => 0))))] := hD
  refine W.widen (k := 5) (n := 544) (Nat.le_of_ble_eq_true rfl) (Nat.le_of_ble_eq_true rfl) ?_
  refine va_putF (D := D) (ci := 5) (v := .ref a5) (ty := .array .long) (C := RX7) (T := TX7) (N := 14) hx hb hts inX7_init_X7 tyX7 tyX7_ok nmX7 hown hK hP hD hS 0 rfl rfl 7 (by decide) (hts (.fieldLink RX7 22 "GrowingTextModel" "ends" "[J") (List.mem_of_getElem? (i := 10) rfl)) (fun _ h9 => h9) rfl hin rfl (by decide +kernel) rfl rfl (Nat.le_of_ble_eq_true rfl) dX7_init_41 (fun H locs hP hD hS => ?_)
  have hP : va_P D vwCl [(h0, .inr (5, [.int 0, .int 0, .ref a1, .int 0, .ref a2, .ref a3, .ref a4, .ref a5, .null, .null, .null, .null, .null, .null])), (a1, .inl (q 0, 60, .inl (fun _ => 0))), (a2, .inl (q 0, 121, .inl (fun _ => 0))), (a3, .inl (q 0, 121, .inl (fun _ => 0))), (a4, .inl (q 0, 121, .inl (fun _ => 0))), (a5, .inl (q 1, 121, .inr (.inl (fun _ => 0))))] H := hP
  have hD : va_D A [(h0, .inr (5, [.int 0, .int 0, .ref a1, .int 0, .ref a2, .ref a3, .ref a4, .ref a5, .null, .null, .null, .null, .null, .null])), (a1, .inl (q 0, 60, .inl (fun _ => 0))), (a2, .inl (q 0, 121, .inl (fun _ => 0))), (a3, .inl (q 0, 121, .inl (fun _ => 0))), (a4, .inl (q 0, 121, .inl (fun _ => 0))), (a5, .inl (q 1, 121, .inr (.inl (fun _ => 0))))] := hD
  refine lv_aload_n hx hb dX7_init_44 rfl (lv_at hl 0 rfl) ?_
  refine lv_iconst (v := 4) hx hb dX7_init_45 (by decide) ?_
  refine k_newi hx hb (hts (.arrayClass .int) (List.mem_of_getElem? (i := 4) rfl)) hK hP hD hS hA (N := 4) (by decide) (by decide) (Nat.le_of_ble_eq_true rfl) (Nat.le_of_ble_eq_true rfl) (Nat.le_of_ble_eq_true rfl) dX7_init_46 (fun a6 H hP hD hS => ?_)
  have hP : va_P D vwCl [(h0, .inr (5, [.int 0, .int 0, .ref a1, .int 0, .ref a2, .ref a3, .ref a4, .ref a5, .null, .null, .null, .null, .null, .null])), (a1, .inl (q 0, 60, .inl (fun _ => 0))), (a2, .inl (q 0, 121, .inl (fun _ => 0))), (a3, .inl (q 0, 121, .inl (fun _ => 0))), (a4, .inl (q 0, 121, .inl (fun _ => 0))), (a5, .inl (q 1, 121, .inr (.inl (fun _ => 0)))), (a6, .inl (q 0, 4, .inl (fun _ => 0)))] H := hP
  have hD : va_D A [(h0, .inr (5, [.int 0, .int 0, .ref a1, .int 0, .ref a2, .ref a3, .ref a4, .ref a5, .null, .null, .null, .null, .null, .null])), (a1, .inl (q 0, 60, .inl (fun _ => 0))), (a2, .inl (q 0, 121, .inl (fun _ => 0))), (a3, .inl (q 0, 121, .inl (fun _ => 0))), (a4, .inl (q 0, 121, .inl (fun _ => 0))), (a5, .inl (q 1, 121, .inr (.inl (fun _ => 0)))), (a6, .inl (q 0, 4, .inl (fun _ => 0)))] := hD
  refine W.widen (k := 6) (n := 548) (Nat.le_of_ble_eq_true rfl) (Nat.le_of_ble_eq_true rfl) ?_
  refine va_putF (D := D) (ci := 5) (v := .ref a6) (ty := .array .int) (C := RX7) (T := TX7) (N := 14) hx hb hts inX7_init_X7 tyX7 tyX7_ok nmX7 hown hK hP hD hS 0 rfl rfl 8 (by decide) (hts (.fieldLink RX7 26 "GrowingTextModel" "sizes" "[I") (List.mem_of_getElem? (i := 11) rfl)) (fun _ h9 => h9) rfl hin rfl (by decide +kernel) rfl rfl (Nat.le_of_ble_eq_true rfl) dX7_init_48 (fun H locs hP hD hS => ?_)
  have hP : va_P D vwCl [(h0, .inr (5, [.int 0, .int 0, .ref a1, .int 0, .ref a2, .ref a3, .ref a4, .ref a5, .ref a6, .null, .null, .null, .null, .null])), (a1, .inl (q 0, 60, .inl (fun _ => 0))), (a2, .inl (q 0, 121, .inl (fun _ => 0))), (a3, .inl (q 0, 121, .inl (fun _ => 0))), (a4, .inl (q 0, 121, .inl (fun _ => 0))), (a5, .inl (q 1, 121, .inr (.inl (fun _ => 0)))), (a6, .inl (q 0, 4, .inl (fun _ => 0)))] H := hP
  have hD : va_D A [(h0, .inr (5, [.int 0, .int 0, .ref a1, .int 0, .ref a2, .ref a3, .ref a4, .ref a5, .ref a6, .null, .null, .null, .null, .null])), (a1, .inl (q 0, 60, .inl (fun _ => 0))), (a2, .inl (q 0, 121, .inl (fun _ => 0))), (a3, .inl (q 0, 121, .inl (fun _ => 0))), (a4, .inl (q 0, 121, .inl (fun _ => 0))), (a5, .inl (q 1, 121, .inr (.inl (fun _ => 0)))), (a6, .inl (q 0, 4, .inl (fun _ => 0)))] := hD
  refine lv_aload_n hx hb dX7_init_51 rfl (lv_at hl 0 rfl) ?_
  refine lv_sipush (v := 256) hx hb dX7_init_52 (by decide) ?_
  refine k_newi hx hb (hts (.arrayClass .int) (List.mem_of_getElem? (i := 4) rfl)) hK hP hD hS hA (N := 256) (by decide) (by decide) (Nat.le_of_ble_eq_true rfl) (Nat.le_of_ble_eq_true rfl) (Nat.le_of_ble_eq_true rfl) dX7_init_55 (fun a7 H hP hD hS => ?_)
  have hP : va_P D vwCl [(h0, .inr (5, [.int 0, .int 0, .ref a1, .int 0, .ref a2, .ref a3, .ref a4, .ref a5, .ref a6, .null, .null, .null, .null, .null])), (a1, .inl (q 0, 60, .inl (fun _ => 0))), (a2, .inl (q 0, 121, .inl (fun _ => 0))), (a3, .inl (q 0, 121, .inl (fun _ => 0))), (a4, .inl (q 0, 121, .inl (fun _ => 0))), (a5, .inl (q 1, 121, .inr (.inl (fun _ => 0)))), (a6, .inl (q 0, 4, .inl (fun _ => 0))), (a7, .inl (q 0, 256, .inl (fun _ => 0)))] H := hP
  have hD : va_D A [(h0, .inr (5, [.int 0, .int 0, .ref a1, .int 0, .ref a2, .ref a3, .ref a4, .ref a5, .ref a6, .null, .null, .null, .null, .null])), (a1, .inl (q 0, 60, .inl (fun _ => 0))), (a2, .inl (q 0, 121, .inl (fun _ => 0))), (a3, .inl (q 0, 121, .inl (fun _ => 0))), (a4, .inl (q 0, 121, .inl (fun _ => 0))), (a5, .inl (q 1, 121, .inr (.inl (fun _ => 0)))), (a6, .inl (q 0, 4, .inl (fun _ => 0))), (a7, .inl (q 0, 256, .inl (fun _ => 0)))] := hD
  refine W.widen (k := 7) (n := 804) (Nat.le_of_ble_eq_true rfl) (Nat.le_of_ble_eq_true rfl) ?_
  refine va_putF (D := D) (ci := 5) (v := .ref a7) (ty := .array .int) (C := RX7) (T := TX7) (N := 14) hx hb hts inX7_init_X7 tyX7 tyX7_ok nmX7 hown hK hP hD hS 0 rfl rfl 9 (by decide) (hts (.fieldLink RX7 29 "GrowingTextModel" "sheets" "[I") (List.mem_of_getElem? (i := 12) rfl)) (fun _ h9 => h9) rfl hin rfl (by decide +kernel) rfl rfl (Nat.le_of_ble_eq_true rfl) dX7_init_57 (fun H locs hP hD hS => ?_)
  have hP : va_P D vwCl [(h0, .inr (5, [.int 0, .int 0, .ref a1, .int 0, .ref a2, .ref a3, .ref a4, .ref a5, .ref a6, .ref a7, .null, .null, .null, .null])), (a1, .inl (q 0, 60, .inl (fun _ => 0))), (a2, .inl (q 0, 121, .inl (fun _ => 0))), (a3, .inl (q 0, 121, .inl (fun _ => 0))), (a4, .inl (q 0, 121, .inl (fun _ => 0))), (a5, .inl (q 1, 121, .inr (.inl (fun _ => 0)))), (a6, .inl (q 0, 4, .inl (fun _ => 0))), (a7, .inl (q 0, 256, .inl (fun _ => 0)))] H := hP
  have hD : va_D A [(h0, .inr (5, [.int 0, .int 0, .ref a1, .int 0, .ref a2, .ref a3, .ref a4, .ref a5, .ref a6, .ref a7, .null, .null, .null, .null])), (a1, .inl (q 0, 60, .inl (fun _ => 0))), (a2, .inl (q 0, 121, .inl (fun _ => 0))), (a3, .inl (q 0, 121, .inl (fun _ => 0))), (a4, .inl (q 0, 121, .inl (fun _ => 0))), (a5, .inl (q 1, 121, .inr (.inl (fun _ => 0)))), (a6, .inl (q 0, 4, .inl (fun _ => 0))), (a7, .inl (q 0, 256, .inl (fun _ => 0)))] := hD
  refine lv_aload_n hx hb dX7_init_60 rfl (lv_at hl 0 rfl) ?_
  refine lv_bipush (v := 121) hx hb dX7_init_61 (by decide) ?_
  refine k_newi hx hb (hts (.arrayClass .int) (List.mem_of_getElem? (i := 4) rfl)) hK hP hD hS hA (N := 121) (by decide) (by decide) (Nat.le_of_ble_eq_true rfl) (Nat.le_of_ble_eq_true rfl) (Nat.le_of_ble_eq_true rfl) dX7_init_63 (fun a8 H hP hD hS => ?_)
  have hP : va_P D vwCl [(h0, .inr (5, [.int 0, .int 0, .ref a1, .int 0, .ref a2, .ref a3, .ref a4, .ref a5, .ref a6, .ref a7, .null, .null, .null, .null])), (a1, .inl (q 0, 60, .inl (fun _ => 0))), (a2, .inl (q 0, 121, .inl (fun _ => 0))), (a3, .inl (q 0, 121, .inl (fun _ => 0))), (a4, .inl (q 0, 121, .inl (fun _ => 0))), (a5, .inl (q 1, 121, .inr (.inl (fun _ => 0)))), (a6, .inl (q 0, 4, .inl (fun _ => 0))), (a7, .inl (q 0, 256, .inl (fun _ => 0))), (a8, .inl (q 0, 121, .inl (fun _ => 0)))] H := hP
  have hD : va_D A [(h0, .inr (5, [.int 0, .int 0, .ref a1, .int 0, .ref a2, .ref a3, .ref a4, .ref a5, .ref a6, .ref a7, .null, .null, .null, .null])), (a1, .inl (q 0, 60, .inl (fun _ => 0))), (a2, .inl (q 0, 121, .inl (fun _ => 0))), (a3, .inl (q 0, 121, .inl (fun _ => 0))), (a4, .inl (q 0, 121, .inl (fun _ => 0))), (a5, .inl (q 1, 121, .inr (.inl (fun _ => 0)))), (a6, .inl (q 0, 4, .inl (fun _ => 0))), (a7, .inl (q 0, 256, .inl (fun _ => 0))), (a8, .inl (q 0, 121, .inl (fun _ => 0)))] := hD
  refine W.widen (k := 8) (n := 925) (Nat.le_of_ble_eq_true rfl) (Nat.le_of_ble_eq_true rfl) ?_
  refine va_putF (D := D) (ci := 5) (v := .ref a8) (ty := .array .int) (C := RX7) (T := TX7) (N := 14) hx hb hts inX7_init_X7 tyX7 tyX7_ok nmX7 hown hK hP hD hS 0 rfl rfl 10 (by decide) (hts (.fieldLink RX7 32 "GrowingTextModel" "paths" "[I") (List.mem_of_getElem? (i := 13) rfl)) (fun _ h9 => h9) rfl hin rfl (by decide +kernel) rfl rfl (Nat.le_of_ble_eq_true rfl) dX7_init_65 (fun H locs hP hD hS => ?_)
  have hP : va_P D vwCl [(h0, .inr (5, [.int 0, .int 0, .ref a1, .int 0, .ref a2, .ref a3, .ref a4, .ref a5, .ref a6, .ref a7, .ref a8, .null, .null, .null])), (a1, .inl (q 0, 60, .inl (fun _ => 0))), (a2, .inl (q 0, 121, .inl (fun _ => 0))), (a3, .inl (q 0, 121, .inl (fun _ => 0))), (a4, .inl (q 0, 121, .inl (fun _ => 0))), (a5, .inl (q 1, 121, .inr (.inl (fun _ => 0)))), (a6, .inl (q 0, 4, .inl (fun _ => 0))), (a7, .inl (q 0, 256, .inl (fun _ => 0))), (a8, .inl (q 0, 121, .inl (fun _ => 0)))] H := hP
  have hD : va_D A [(h0, .inr (5, [.int 0, .int 0, .ref a1, .int 0, .ref a2, .ref a3, .ref a4, .ref a5, .ref a6, .ref a7, .ref a8, .null, .null, .null])), (a1, .inl (q 0, 60, .inl (fun _ => 0))), (a2, .inl (q 0, 121, .inl (fun _ => 0))), (a3, .inl (q 0, 121, .inl (fun _ => 0))), (a4, .inl (q 0, 121, .inl (fun _ => 0))), (a5, .inl (q 1, 121, .inr (.inl (fun _ => 0)))), (a6, .inl (q 0, 4, .inl (fun _ => 0))), (a7, .inl (q 0, 256, .inl (fun _ => 0))), (a8, .inl (q 0, 121, .inl (fun _ => 0)))] := hD
  refine lv_aload_n hx hb dX7_init_68 rfl (lv_at hl 0 rfl) ?_
  refine lv_iconst (v := 2) hx hb dX7_init_69 (by decide) ?_
  refine k_newi hx hb (hts (.arrayClass .int) (List.mem_of_getElem? (i := 4) rfl)) hK hP hD hS hA (N := 2) (by decide) (by decide) (Nat.le_of_ble_eq_true rfl) (Nat.le_of_ble_eq_true rfl) (Nat.le_of_ble_eq_true rfl) dX7_init_70 (fun a9 H hP hD hS => ?_)
  have hP : va_P D vwCl [(h0, .inr (5, [.int 0, .int 0, .ref a1, .int 0, .ref a2, .ref a3, .ref a4, .ref a5, .ref a6, .ref a7, .ref a8, .null, .null, .null])), (a1, .inl (q 0, 60, .inl (fun _ => 0))), (a2, .inl (q 0, 121, .inl (fun _ => 0))), (a3, .inl (q 0, 121, .inl (fun _ => 0))), (a4, .inl (q 0, 121, .inl (fun _ => 0))), (a5, .inl (q 1, 121, .inr (.inl (fun _ => 0)))), (a6, .inl (q 0, 4, .inl (fun _ => 0))), (a7, .inl (q 0, 256, .inl (fun _ => 0))), (a8, .inl (q 0, 121, .inl (fun _ => 0))), (a9, .inl (q 0, 2, .inl (fun _ => 0)))] H := hP
  have hD : va_D A [(h0, .inr (5, [.int 0, .int 0, .ref a1, .int 0, .ref a2, .ref a3, .ref a4, .ref a5, .ref a6, .ref a7, .ref a8, .null, .null, .null])), (a1, .inl (q 0, 60, .inl (fun _ => 0))), (a2, .inl (q 0, 121, .inl (fun _ => 0))), (a3, .inl (q 0, 121, .inl (fun _ => 0))), (a4, .inl (q 0, 121, .inl (fun _ => 0))), (a5, .inl (q 1, 121, .inr (.inl (fun _ => 0)))), (a6, .inl (q 0, 4, .inl (fun _ => 0))), (a7, .inl (q 0, 256, .inl (fun _ => 0))), (a8, .inl (q 0, 121, .inl (fun _ => 0))), (a9, .inl (q 0, 2, .inl (fun _ => 0)))] := hD
  refine W.widen (k := 9) (n := 927) (Nat.le_of_ble_eq_true rfl) (Nat.le_of_ble_eq_true rfl) ?_
  refine va_putF (D := D) (ci := 5) (v := .ref a9) (ty := .array .int) (C := RX7) (T := TX7) (N := 14) hx hb hts inX7_init_X7 tyX7 tyX7_ok nmX7 hown hK hP hD hS 0 rfl rfl 11 (by decide) (hts (.fieldLink RX7 35 "GrowingTextModel" "keptLetters" "[I") (List.mem_of_getElem? (i := 14) rfl)) (fun _ h9 => h9) rfl hin rfl (by decide +kernel) rfl rfl (Nat.le_of_ble_eq_true rfl) dX7_init_72 (fun H locs hP hD hS => ?_)
  have hP : va_P D vwCl [(h0, .inr (5, [.int 0, .int 0, .ref a1, .int 0, .ref a2, .ref a3, .ref a4, .ref a5, .ref a6, .ref a7, .ref a8, .ref a9, .null, .null])), (a1, .inl (q 0, 60, .inl (fun _ => 0))), (a2, .inl (q 0, 121, .inl (fun _ => 0))), (a3, .inl (q 0, 121, .inl (fun _ => 0))), (a4, .inl (q 0, 121, .inl (fun _ => 0))), (a5, .inl (q 1, 121, .inr (.inl (fun _ => 0)))), (a6, .inl (q 0, 4, .inl (fun _ => 0))), (a7, .inl (q 0, 256, .inl (fun _ => 0))), (a8, .inl (q 0, 121, .inl (fun _ => 0))), (a9, .inl (q 0, 2, .inl (fun _ => 0)))] H := hP
  have hD : va_D A [(h0, .inr (5, [.int 0, .int 0, .ref a1, .int 0, .ref a2, .ref a3, .ref a4, .ref a5, .ref a6, .ref a7, .ref a8, .ref a9, .null, .null])), (a1, .inl (q 0, 60, .inl (fun _ => 0))), (a2, .inl (q 0, 121, .inl (fun _ => 0))), (a3, .inl (q 0, 121, .inl (fun _ => 0))), (a4, .inl (q 0, 121, .inl (fun _ => 0))), (a5, .inl (q 1, 121, .inr (.inl (fun _ => 0)))), (a6, .inl (q 0, 4, .inl (fun _ => 0))), (a7, .inl (q 0, 256, .inl (fun _ => 0))), (a8, .inl (q 0, 121, .inl (fun _ => 0))), (a9, .inl (q 0, 2, .inl (fun _ => 0)))] := hD
  refine lv_aload_n hx hb dX7_init_75 rfl (lv_at hl 0 rfl) ?_
  refine lv_iconst (v := 2) hx hb dX7_init_76 (by decide) ?_
  refine k_newi hx hb (hts (.arrayClass .int) (List.mem_of_getElem? (i := 4) rfl)) hK hP hD hS hA (N := 2) (by decide) (by decide) (Nat.le_of_ble_eq_true rfl) (Nat.le_of_ble_eq_true rfl) (Nat.le_of_ble_eq_true rfl) dX7_init_77 (fun a10 H hP hD hS => ?_)
  have hP : va_P D vwCl [(h0, .inr (5, [.int 0, .int 0, .ref a1, .int 0, .ref a2, .ref a3, .ref a4, .ref a5, .ref a6, .ref a7, .ref a8, .ref a9, .null, .null])), (a1, .inl (q 0, 60, .inl (fun _ => 0))), (a2, .inl (q 0, 121, .inl (fun _ => 0))), (a3, .inl (q 0, 121, .inl (fun _ => 0))), (a4, .inl (q 0, 121, .inl (fun _ => 0))), (a5, .inl (q 1, 121, .inr (.inl (fun _ => 0)))), (a6, .inl (q 0, 4, .inl (fun _ => 0))), (a7, .inl (q 0, 256, .inl (fun _ => 0))), (a8, .inl (q 0, 121, .inl (fun _ => 0))), (a9, .inl (q 0, 2, .inl (fun _ => 0))), (a10, .inl (q 0, 2, .inl (fun _ => 0)))] H := hP
  have hD : va_D A [(h0, .inr (5, [.int 0, .int 0, .ref a1, .int 0, .ref a2, .ref a3, .ref a4, .ref a5, .ref a6, .ref a7, .ref a8, .ref a9, .null, .null])), (a1, .inl (q 0, 60, .inl (fun _ => 0))), (a2, .inl (q 0, 121, .inl (fun _ => 0))), (a3, .inl (q 0, 121, .inl (fun _ => 0))), (a4, .inl (q 0, 121, .inl (fun _ => 0))), (a5, .inl (q 1, 121, .inr (.inl (fun _ => 0)))), (a6, .inl (q 0, 4, .inl (fun _ => 0))), (a7, .inl (q 0, 256, .inl (fun _ => 0))), (a8, .inl (q 0, 121, .inl (fun _ => 0))), (a9, .inl (q 0, 2, .inl (fun _ => 0))), (a10, .inl (q 0, 2, .inl (fun _ => 0)))] := hD
  refine W.widen (k := 10) (n := 929) (Nat.le_of_ble_eq_true rfl) (Nat.le_of_ble_eq_true rfl) ?_
  refine va_putF (D := D) (ci := 5) (v := .ref a10) (ty := .array .int) (C := RX7) (T := TX7) (N := 14) hx hb hts inX7_init_X7 tyX7 tyX7_ok nmX7 hown hK hP hD hS 0 rfl rfl 12 (by decide) (hts (.fieldLink RX7 38 "GrowingTextModel" "keptMany" "[I") (List.mem_of_getElem? (i := 15) rfl)) (fun _ h9 => h9) rfl hin rfl (by decide +kernel) rfl rfl (Nat.le_of_ble_eq_true rfl) dX7_init_79 (fun H locs hP hD hS => ?_)
  have hP : va_P D vwCl [(h0, .inr (5, [.int 0, .int 0, .ref a1, .int 0, .ref a2, .ref a3, .ref a4, .ref a5, .ref a6, .ref a7, .ref a8, .ref a9, .ref a10, .null])), (a1, .inl (q 0, 60, .inl (fun _ => 0))), (a2, .inl (q 0, 121, .inl (fun _ => 0))), (a3, .inl (q 0, 121, .inl (fun _ => 0))), (a4, .inl (q 0, 121, .inl (fun _ => 0))), (a5, .inl (q 1, 121, .inr (.inl (fun _ => 0)))), (a6, .inl (q 0, 4, .inl (fun _ => 0))), (a7, .inl (q 0, 256, .inl (fun _ => 0))), (a8, .inl (q 0, 121, .inl (fun _ => 0))), (a9, .inl (q 0, 2, .inl (fun _ => 0))), (a10, .inl (q 0, 2, .inl (fun _ => 0)))] H := hP
  have hD : va_D A [(h0, .inr (5, [.int 0, .int 0, .ref a1, .int 0, .ref a2, .ref a3, .ref a4, .ref a5, .ref a6, .ref a7, .ref a8, .ref a9, .ref a10, .null])), (a1, .inl (q 0, 60, .inl (fun _ => 0))), (a2, .inl (q 0, 121, .inl (fun _ => 0))), (a3, .inl (q 0, 121, .inl (fun _ => 0))), (a4, .inl (q 0, 121, .inl (fun _ => 0))), (a5, .inl (q 1, 121, .inr (.inl (fun _ => 0)))), (a6, .inl (q 0, 4, .inl (fun _ => 0))), (a7, .inl (q 0, 256, .inl (fun _ => 0))), (a8, .inl (q 0, 121, .inl (fun _ => 0))), (a9, .inl (q 0, 2, .inl (fun _ => 0))), (a10, .inl (q 0, 2, .inl (fun _ => 0)))] := hD
  refine lv_aload_n hx hb dX7_init_82 rfl (lv_at hl 0 rfl) ?_
  refine lv_bipush (v := 120) hx hb dX7_init_83 (by decide) ?_
  refine k_newi hx hb (hts (.arrayClass .int) (List.mem_of_getElem? (i := 4) rfl)) hK hP hD hS hA (N := 120) (by decide) (by decide) (Nat.le_of_ble_eq_true rfl) (Nat.le_of_ble_eq_true rfl) (Nat.le_of_ble_eq_true rfl) dX7_init_85 (fun a11 H hP hD hS => ?_)
  have hP : va_P D vwCl [(h0, .inr (5, [.int 0, .int 0, .ref a1, .int 0, .ref a2, .ref a3, .ref a4, .ref a5, .ref a6, .ref a7, .ref a8, .ref a9, .ref a10, .null])), (a1, .inl (q 0, 60, .inl (fun _ => 0))), (a2, .inl (q 0, 121, .inl (fun _ => 0))), (a3, .inl (q 0, 121, .inl (fun _ => 0))), (a4, .inl (q 0, 121, .inl (fun _ => 0))), (a5, .inl (q 1, 121, .inr (.inl (fun _ => 0)))), (a6, .inl (q 0, 4, .inl (fun _ => 0))), (a7, .inl (q 0, 256, .inl (fun _ => 0))), (a8, .inl (q 0, 121, .inl (fun _ => 0))), (a9, .inl (q 0, 2, .inl (fun _ => 0))), (a10, .inl (q 0, 2, .inl (fun _ => 0))), (a11, .inl (q 0, 120, .inl (fun _ => 0)))] H := hP
  have hD : va_D A [(h0, .inr (5, [.int 0, .int 0, .ref a1, .int 0, .ref a2, .ref a3, .ref a4, .ref a5, .ref a6, .ref a7, .ref a8, .ref a9, .ref a10, .null])), (a1, .inl (q 0, 60, .inl (fun _ => 0))), (a2, .inl (q 0, 121, .inl (fun _ => 0))), (a3, .inl (q 0, 121, .inl (fun _ => 0))), (a4, .inl (q 0, 121, .inl (fun _ => 0))), (a5, .inl (q 1, 121, .inr (.inl (fun _ => 0)))), (a6, .inl (q 0, 4, .inl (fun _ => 0))), (a7, .inl (q 0, 256, .inl (fun _ => 0))), (a8, .inl (q 0, 121, .inl (fun _ => 0))), (a9, .inl (q 0, 2, .inl (fun _ => 0))), (a10, .inl (q 0, 2, .inl (fun _ => 0))), (a11, .inl (q 0, 120, .inl (fun _ => 0)))] := hD
  refine W.widen (k := 11) (n := 1049) (Nat.le_of_ble_eq_true rfl) (Nat.le_of_ble_eq_true rfl) ?_
  refine va_putF (D := D) (ci := 5) (v := .ref a11) (ty := .array .int) (C := RX7) (T := TX7) (N := 14) hx hb hts inX7_init_X7 tyX7 tyX7_ok nmX7 hown hK hP hD hS 0 rfl rfl 13 (by decide) (hts (.fieldLink RX7 41 "GrowingTextModel" "keptText" "[I") (List.mem_of_getElem? (i := 16) rfl)) (fun _ h9 => h9) rfl hin rfl (by decide +kernel) rfl rfl (Nat.le_of_ble_eq_true rfl) dX7_init_87 (fun H locs hP hD hS => ?_)
  have hP : va_P D vwCl [(h0, .inr (5, [.int 0, .int 0, .ref a1, .int 0, .ref a2, .ref a3, .ref a4, .ref a5, .ref a6, .ref a7, .ref a8, .ref a9, .ref a10, .ref a11])), (a1, .inl (q 0, 60, .inl (fun _ => 0))), (a2, .inl (q 0, 121, .inl (fun _ => 0))), (a3, .inl (q 0, 121, .inl (fun _ => 0))), (a4, .inl (q 0, 121, .inl (fun _ => 0))), (a5, .inl (q 1, 121, .inr (.inl (fun _ => 0)))), (a6, .inl (q 0, 4, .inl (fun _ => 0))), (a7, .inl (q 0, 256, .inl (fun _ => 0))), (a8, .inl (q 0, 121, .inl (fun _ => 0))), (a9, .inl (q 0, 2, .inl (fun _ => 0))), (a10, .inl (q 0, 2, .inl (fun _ => 0))), (a11, .inl (q 0, 120, .inl (fun _ => 0)))] H := hP
  have hD : va_D A [(h0, .inr (5, [.int 0, .int 0, .ref a1, .int 0, .ref a2, .ref a3, .ref a4, .ref a5, .ref a6, .ref a7, .ref a8, .ref a9, .ref a10, .ref a11])), (a1, .inl (q 0, 60, .inl (fun _ => 0))), (a2, .inl (q 0, 121, .inl (fun _ => 0))), (a3, .inl (q 0, 121, .inl (fun _ => 0))), (a4, .inl (q 0, 121, .inl (fun _ => 0))), (a5, .inl (q 1, 121, .inr (.inl (fun _ => 0)))), (a6, .inl (q 0, 4, .inl (fun _ => 0))), (a7, .inl (q 0, 256, .inl (fun _ => 0))), (a8, .inl (q 0, 121, .inl (fun _ => 0))), (a9, .inl (q 0, 2, .inl (fun _ => 0))), (a10, .inl (q 0, 2, .inl (fun _ => 0))), (a11, .inl (q 0, 120, .inl (fun _ => 0)))] := hD
  refine lv_aload_n hx hb dX7_init_90 rfl (lv_at hl 0 rfl) ?_
  refine lv_iconst (v := 2) hx hb dX7_init_91 (by decide) ?_
  have hP : va_P D vwCl (wR (k_adr [h0, a1, a2, a3, a4, a5, a6, a7, a8, a9, a10, a11]) q zeroR) H := hP
  have hD : va_D A (wR (k_adr [h0, a1, a2, a3, a4, a5, a6, a7, a8, a9, a10, a11]) q zeroR) := hD
  obtain ⟨aR, haR⟩ : ∃ f : Nat → Nat, f = (k_adr [h0, a1, a2, a3, a4, a5, a6, a7, a8, a9, a10, a11]) := ⟨_, rfl⟩
  rw [← haR] at hP hD
  have h00 : aR 0 = h0 := by rw [haR]; rfl
  rw [← h00] at hl ⊢
  refine k_wv (wf := fun u => wR aR q u) (u0 := zeroR) (k_runV (As := [.int 2]) (rest := []) ⟨hx, hb, hml, hown, hts⟩ (c_X7_begins l D q aR zeroR 2 _ hf) (cwV 1 hts gX7_init_X7_begins rfl rfl rfl cdX7_begins ⟨Nat.le_of_ble_eq_true rfl, Nat.le_of_ble_eq_true rfl⟩) hK hP hD 0 rfl rfl rfl hl.1 rfl (Nat.le_of_ble_eq_true rfl) dX7_init_92 ⟨Nat.le_of_ble_eq_true rfl, Nat.le_of_ble_eq_true rfl⟩) ([]) ([]) (fun _ => rfl) hP hD hS (fun u H locs hf hP hD hS => ?_)
  have hP : va_P D vwCl (wR aR q u) H := hP
  have hD : va_D A (wR aR q u) := hD
  refine lv_iconst (v := 0) hx hb dX7_init_95 (by decide) ?_
  refine lv_istore_n (lv' := [(1, .int 0), (0, .ref (aR 0))]) hx hb dX7_init_96 rfl hl (by decide) rfl (fun ls hl => ?_)
  refine lv_iload_n hx hb dX7_init_97 rfl (lv_at hl 0 rfl) ?_
  refine lv_iconst (v := 4) hx hb dX7_init_98 (by decide) ?_
  refine lv_icmp_ge (tgt := 115) hx hb dX7_init_99 (by decide) (fun c1 => absurd c1 (by decide)) (fun c1 => ?_)
  refine lv_aload_n hx hb dX7_init_102 rfl (lv_at hl 1 rfl) ?_
  refine va_get (D := D) (ci := 5) (v := .ref (aR 6)) (C := RX7) (T := TX7) (N := 14) hx hb hts inX7_init_X7 hown hK hP 0 rfl rfl 8 (by decide) (hts (.fieldLink RX7 26 "GrowingTextModel" "sizes" "[I") (List.mem_of_getElem? (i := 11) rfl)) (fun _ h9 => h9) rfl dX7_init_103 ?_
  refine lv_iload_n hx hb dX7_init_106 rfl (lv_at hl 0 rfl) ?_
  refine lv_iconst (v := (-1)) hx hb dX7_init_107 (by decide) ?_
  refine va_iast hx hb hK hP hD hS 6 0 (f := gR_sizes u) rfl rfl (by unfold vp_in; decide) dX7_init_108 (fun H locs hP hD hS => ?_)
  obtain ⟨v1, ev1⟩ : ∃ v : RSt, v = gR_set_sizes u (upd (gR_sizes u) 0 (-1)) := ⟨_, rfl⟩
  have hP : va_P D vwCl (wR aR q v1) H := by rw [ev1]; exact hP
  have hD : va_D A (wR aR q v1) := by rw [ev1]; exact hD
  refine lv_iinc (v := 1) (lv' := [(1, .int 1), (0, .ref (aR 0))]) hx hb dX7_init_109 hl (k := 0) rfl rfl (by decide) rfl (fun ls hl => ?_)
  refine lv_goto (tgt := 97) hx hb dX7_init_112 (by decide) ?_
  refine lv_iload_n hx hb dX7_init_97 rfl (lv_at hl 0 rfl) ?_
  refine lv_iconst (v := 4) hx hb dX7_init_98 (by decide) ?_
  refine lv_icmp_ge (tgt := 115) hx hb dX7_init_99 (by decide) (fun c1 => absurd c1 (by decide)) (fun c1 => ?_)
  refine lv_aload_n hx hb dX7_init_102 rfl (lv_at hl 1 rfl) ?_
  refine va_get (D := D) (ci := 5) (v := .ref (aR 6)) (C := RX7) (T := TX7) (N := 14) hx hb hts inX7_init_X7 hown hK hP 0 rfl rfl 8 (by decide) (hts (.fieldLink RX7 26 "GrowingTextModel" "sizes" "[I") (List.mem_of_getElem? (i := 11) rfl)) (fun _ h9 => h9) rfl dX7_init_103 ?_
  refine lv_iload_n hx hb dX7_init_106 rfl (lv_at hl 0 rfl) ?_
  refine lv_iconst (v := (-1)) hx hb dX7_init_107 (by decide) ?_
  refine va_iast hx hb hK hP hD hS 6 0 (f := gR_sizes v1) rfl rfl (by unfold vp_in; decide) dX7_init_108 (fun H locs hP hD hS => ?_)
  obtain ⟨v2, ev2⟩ : ∃ v : RSt, v = gR_set_sizes v1 (upd (gR_sizes v1) 1 (-1)) := ⟨_, rfl⟩
  have hP : va_P D vwCl (wR aR q v2) H := by rw [ev2]; exact hP
  have hD : va_D A (wR aR q v2) := by rw [ev2]; exact hD
  refine lv_iinc (v := 2) (lv' := [(1, .int 2), (0, .ref (aR 0))]) hx hb dX7_init_109 hl (k := 0) rfl rfl (by decide) rfl (fun ls hl => ?_)
  refine lv_goto (tgt := 97) hx hb dX7_init_112 (by decide) ?_
  refine lv_iload_n hx hb dX7_init_97 rfl (lv_at hl 0 rfl) ?_
  refine lv_iconst (v := 4) hx hb dX7_init_98 (by decide) ?_
  refine lv_icmp_ge (tgt := 115) hx hb dX7_init_99 (by decide) (fun c1 => absurd c1 (by decide)) (fun c1 => ?_)
  refine lv_aload_n hx hb dX7_init_102 rfl (lv_at hl 1 rfl) ?_
  refine va_get (D := D) (ci := 5) (v := .ref (aR 6)) (C := RX7) (T := TX7) (N := 14) hx hb hts inX7_init_X7 hown hK hP 0 rfl rfl 8 (by decide) (hts (.fieldLink RX7 26 "GrowingTextModel" "sizes" "[I") (List.mem_of_getElem? (i := 11) rfl)) (fun _ h9 => h9) rfl dX7_init_103 ?_
  refine lv_iload_n hx hb dX7_init_106 rfl (lv_at hl 0 rfl) ?_
  refine lv_iconst (v := (-1)) hx hb dX7_init_107 (by decide) ?_
  refine va_iast hx hb hK hP hD hS 6 0 (f := gR_sizes v2) rfl rfl (by unfold vp_in; decide) dX7_init_108 (fun H locs hP hD hS => ?_)
  obtain ⟨v3, ev3⟩ : ∃ v : RSt, v = gR_set_sizes v2 (upd (gR_sizes v2) 2 (-1)) := ⟨_, rfl⟩
  have hP : va_P D vwCl (wR aR q v3) H := by rw [ev3]; exact hP
  have hD : va_D A (wR aR q v3) := by rw [ev3]; exact hD
  refine lv_iinc (v := 3) (lv' := [(1, .int 3), (0, .ref (aR 0))]) hx hb dX7_init_109 hl (k := 0) rfl rfl (by decide) rfl (fun ls hl => ?_)
  refine lv_goto (tgt := 97) hx hb dX7_init_112 (by decide) ?_
  refine lv_iload_n hx hb dX7_init_97 rfl (lv_at hl 0 rfl) ?_
  refine lv_iconst (v := 4) hx hb dX7_init_98 (by decide) ?_
  refine lv_icmp_ge (tgt := 115) hx hb dX7_init_99 (by decide) (fun c1 => absurd c1 (by decide)) (fun c1 => ?_)
  refine lv_aload_n hx hb dX7_init_102 rfl (lv_at hl 1 rfl) ?_
  refine va_get (D := D) (ci := 5) (v := .ref (aR 6)) (C := RX7) (T := TX7) (N := 14) hx hb hts inX7_init_X7 hown hK hP 0 rfl rfl 8 (by decide) (hts (.fieldLink RX7 26 "GrowingTextModel" "sizes" "[I") (List.mem_of_getElem? (i := 11) rfl)) (fun _ h9 => h9) rfl dX7_init_103 ?_
  refine lv_iload_n hx hb dX7_init_106 rfl (lv_at hl 0 rfl) ?_
  refine lv_iconst (v := (-1)) hx hb dX7_init_107 (by decide) ?_
  refine va_iast hx hb hK hP hD hS 6 0 (f := gR_sizes v3) rfl rfl (by unfold vp_in; decide) dX7_init_108 (fun H locs hP hD hS => ?_)
  obtain ⟨v4, ev4⟩ : ∃ v : RSt, v = gR_set_sizes v3 (upd (gR_sizes v3) 3 (-1)) := ⟨_, rfl⟩
  have hP : va_P D vwCl (wR aR q v4) H := by rw [ev4]; exact hP
  have hD : va_D A (wR aR q v4) := by rw [ev4]; exact hD
  refine lv_iinc (v := 4) (lv' := [(1, .int 4), (0, .ref (aR 0))]) hx hb dX7_init_109 hl (k := 0) rfl rfl (by decide) rfl (fun ls hl => ?_)
  refine lv_goto (tgt := 97) hx hb dX7_init_112 (by decide) ?_
  refine lv_iload_n hx hb dX7_init_97 rfl (lv_at hl 0 rfl) ?_
  refine lv_iconst (v := 4) hx hb dX7_init_98 (by decide) ?_
  refine lv_icmp_ge (tgt := 115) hx hb dX7_init_99 (by decide) (fun c1 => ?_) (fun c1 => absurd (by decide) c1)
  exact k_vret_a (wf := fun u : (Nat → Nat) × RSt => wR u.1 q u.2) (u := (aR, v4)) hx hb hr hlocks hK hP hD hS ⟨rfl, by rw [ev4, ev3, ev2, ev1]; exact hf⟩ dX7_init_115
