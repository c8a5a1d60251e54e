/-! ends and starts of methods, rows of numbers, switches -/
theorem kd_self {A : Nat → Prop} {w : va_W} (h : va_D A w) : va_D (kIn w) w := ⟨h.1, fun k x hk => ⟨k, x.2, hk⟩⟩
theorem k_nilP {D : va_G} {H : Heap} : va_P D vwCl [] H := fun k x h => by simp at h
theorem k_nilD : va_D (fun _ => True) [] := ⟨fun i j p x h => by simp at h, fun k x h => by simp at h⟩
theorem k_ite {α : Type} {P : α → Prop} {c : Prop} [Decidable c] {a b : α} {A B : Prop} (h : P (if c then a else b)) (ha : P a → A) (hb : P b → B) : (c → A) ∧ (¬ c → B) := ⟨fun hc => ha (by rw [if_pos hc] at h; exact h), fun hc => hb (by rw [if_neg hc] at h; exact h)⟩
section KEND
variable {p : Program} {l : Launch} {e : Env} {R : Room} {s : State} {m : MethodId} {args : Array Value} {below : List Frame} {meth : Method} {c : Code} {H : Heap} {locs : List Loc} {cells slots : Nat} {Q : State → Prop} {cc : ByteArray} {pc n : Nat} {ls : Array Slot} {D : va_G} {q : Nat → ClassId} {A : Nat → Prop} {vs : List Value}
theorem k_entry (hargs : args = vs.toArray) (h : (lg_sl vs).length ≤ n) (kk : ∀ ls : Array Slot, lv_has ls n (lv_args 0 vs) → W p l e R s m args below meth c H locs cells slots Q (F0 m 0 ls [])) : W p l e R s m args below meth c H locs cells slots Q (entryFrame m args n) := by
  subst hargs
  rw [lg_entry_eq]
  exact kk _ (lv_entry vs h)
theorem k_iret_r {post : Int32 → Prop} {v : Int32} (hx : p.tables.exec = Jvm.exec) (hb : c.code = cc) (hr : meth.sig.returnType = some .int) (hlocks : meth.locks = false) (hf : post v) (hdg : decode cc pc = .ok (.ireturn, 1)) : W p l e R s m args below meth c s.heap [] cells slots (MQ below (vp_Si post) args s cells slots (fun _ => False)) (F0 m pc ls [.int v]) :=
  W.iret (v := v) hx hb hr (fun t ht hW => ⟨v, rfl, hf, ht⟩) (fun _ h => by cases h) hdg hlocks
theorem k_iret_w {σ : Type} {wf : σ → va_W} {post : Int32 → σ → Prop} {v : Int32} {u : σ} (hx : p.tables.exec = Jvm.exec) (hb : c.code = cc) (hr : meth.sig.returnType = some .int) (hlocks : meth.locks = false) (hK : va_K D vwCl (kT q) s) (hP : va_P D vwCl (wf u) H) (hD : va_D A (wf u)) (hS : va_S A s.heap H locs) (hf : post v u) (hdg : decode cc pc = .ok (.ireturn, 1)) : W p l e R s m args below meth c H locs cells slots (MQ below (va_Qi post (fun u t => kP D q (wf u) t) A) args s cells slots A) (F0 m pc ls [.int v]) :=
  W.iret (v := v) hx hb hr (fun t ht hW => ⟨⟨v, u, rfl, hf, by rw [ht]; exact hP, va_K.moved hW.alike hK, hD.weaken (fun _ _ _ _ => trivial)⟩, hS.F ht⟩) hS.2.2 hdg hlocks
theorem k_lret_r {post : Int64 → Prop} {v : Int64} (hx : p.tables.exec = Jvm.exec) (hb : c.code = cc) (hr : meth.sig.returnType = some .long) (hlocks : meth.locks = false) (hf : post v) (hdg : decode cc pc = .ok (.lreturn, 1)) : W p l e R s m args below meth c s.heap [] cells slots (MQ below (vp_Sl post) args s cells slots (fun _ => False)) (F0 m pc ls [.long v]) :=
  W.lret (v := v) hx hb hr (fun t ht hW => ⟨v, rfl, hf, ht⟩) (fun _ h => by cases h) hdg hlocks
theorem k_lret_w {σ : Type} {wf : σ → va_W} {post : Int64 → σ → Prop} {v : Int64} {u : σ} (hx : p.tables.exec = Jvm.exec) (hb : c.code = cc) (hr : meth.sig.returnType = some .long) (hlocks : meth.locks = false) (hK : va_K D vwCl (kT q) s) (hP : va_P D vwCl (wf u) H) (hD : va_D A (wf u)) (hS : va_S A s.heap H locs) (hf : post v u) (hdg : decode cc pc = .ok (.lreturn, 1)) : W p l e R s m args below meth c H locs cells slots (MQ below (va_Ql post (fun u t => kP D q (wf u) t) A) args s cells slots A) (F0 m pc ls [.long v]) :=
  W.lret (v := v) hx hb hr (fun t ht hW => ⟨⟨v, u, rfl, hf, by rw [ht]; exact hP, va_K.moved hW.alike hK, hD.weaken (fun _ _ _ _ => trivial)⟩, hS.F ht⟩) hS.2.2 hdg hlocks
theorem k_zret_r {post : Int32 → Prop} {v : Int32} {ty : FieldType} (hx : p.tables.exec = Jvm.exec) (hb : c.code = cc) (hr : meth.sig.returnType = some ty) (hn : narrow ty (.int v) = .int v) (hlocks : meth.locks = false) (hf : post v) (hdg : decode cc pc = .ok (.ireturn, 1)) : W p l e R s m args below meth c s.heap [] cells slots (MQ below (vp_Si post) args s cells slots (fun _ => False)) (F0 m pc ls [.int v]) :=
  W.zret (v := v) hx hb hr hn (fun t ht hW => ⟨v, rfl, hf, ht⟩) (fun _ h => by cases h) hdg hlocks
theorem k_vret_w {σ : Type} {wf : σ → va_W} {post : σ → Prop} {u : σ} (hx : p.tables.exec = Jvm.exec) (hb : c.code = cc) (hr : meth.sig.returnType = none) (hlocks : meth.locks = false) (hK : va_K D vwCl (kT q) s) (hP : va_P D vwCl (wf u) H) (hD : va_D A (wf u)) (hS : va_S A s.heap H locs) (hf : post u) (hdg : decode cc pc = .ok (.return_, 1)) : W p l e R s m args below meth c H locs cells slots (MQ below (va_Qv post (fun u t => kP D q (wf u) t) A) args s cells slots A) (F0 m pc ls []) :=
  W.vret hx hb hr (fun t ht hW => ⟨⟨u, rfl, hf, by rw [ht]; exact hP, va_K.moved hW.alike hK, hD.weaken (fun _ _ _ _ => trivial)⟩, hS.F ht⟩) hS.2.2 hdg hlocks
theorem k_aret {post : Option Nat → Prop} {r : Option Nat} {C : String} (hx : p.tables.exec = Jvm.exec) (hb : c.code = cc) (hr : meth.sig.returnType = some (.object C)) (hlocks : meth.locks = false) (hf : post r) (hdg : decode cc pc = .ok (.areturn, 1)) : W p l e R s m args below meth c s.heap [] cells slots (MQ below (va_Sq post) args s cells slots (fun _ => False)) (F0 m pc ls [va_rf r]) :=
  W.aret (v := va_rf r) hx hb hr (Or.inl ⟨_, rfl⟩) (by cases r with | none => exact Or.inl rfl | some a => exact Or.inr ⟨a, rfl⟩) (fun t ht hW => ⟨r, rfl, hf, ht⟩) (fun _ h => by cases h) hdg hlocks
end KEND
theorem k_cmp_ge (x y : Int64) : (0 ≤ lg_cmp x y) ↔ y ≤ x := lg_cmp_ge x y
theorem k_cmp_le (x y : Int64) : (lg_cmp x y ≤ 0) ↔ x ≤ y := lg_cmp_le x y
theorem k_cmp_gt (x y : Int64) : (0 < lg_cmp x y) ↔ y < x := lg_cmp_gt x y
theorem k_cmp_lt (x y : Int64) : (lg_cmp x y < 0) ↔ x < y := lg_cmp_lt x y
theorem k_cmp_eq (x y : Int64) : (lg_cmp x y = 0) ↔ x = y := lg_cmp_eq x y
theorem k_sw6 {x : Int32} (h0 : ¬ x = 0) (h1 : ¬ x = 1) (h2 : ¬ x = 2) (h3 : ¬ x = 3) (h4 : ¬ x = 4) (h5 : ¬ x = 5) (h6 : ¬ x = 6) : x.toInt < 0 ∨ 6 < x.toInt := by
  have e : ∀ k : Int32, x.toInt = k.toInt → x = k := fun k h => Int32.toInt_inj.mp h
  have g0 : x.toInt ≠ 0 := fun h => h0 (e 0 (h.trans (by decide)))
  have g1 : x.toInt ≠ 1 := fun h => h1 (e 1 (h.trans (by decide)))
  have g2 : x.toInt ≠ 2 := fun h => h2 (e 2 (h.trans (by decide)))
  have g3 : x.toInt ≠ 3 := fun h => h3 (e 3 (h.trans (by decide)))
  have g4 : x.toInt ≠ 4 := fun h => h4 (e 4 (h.trans (by decide)))
  have g5 : x.toInt ≠ 5 := fun h => h5 (e 5 (h.trans (by decide)))
  have g6 : x.toInt ≠ 6 := fun h => h6 (e 6 (h.trans (by decide)))
  omega
theorem k_sw10 {x : Int32} (h0 : ¬ x = 0) (h1 : ¬ x = 1) (h2 : ¬ x = 2) (h3 : ¬ x = 3) (h4 : ¬ x = 4) (h5 : ¬ x = 5) (h6 : ¬ x = 6) (h7 : ¬ x = 7) (h8 : ¬ x = 8) (h9 : ¬ x = 9) (h10 : ¬ x = 10) : x.toInt < 0 ∨ 10 < x.toInt := by
  have e : ∀ k : Int32, x.toInt = k.toInt → x = k := fun k h => Int32.toInt_inj.mp h
  have g0 : x.toInt ≠ 0 := fun h => h0 (e 0 (h.trans (by decide)))
  have g1 : x.toInt ≠ 1 := fun h => h1 (e 1 (h.trans (by decide)))
  have g2 : x.toInt ≠ 2 := fun h => h2 (e 2 (h.trans (by decide)))
  have g3 : x.toInt ≠ 3 := fun h => h3 (e 3 (h.trans (by decide)))
  have g4 : x.toInt ≠ 4 := fun h => h4 (e 4 (h.trans (by decide)))
  have g5 : x.toInt ≠ 5 := fun h => h5 (e 5 (h.trans (by decide)))
  have g6 : x.toInt ≠ 6 := fun h => h6 (e 6 (h.trans (by decide)))
  have g7 : x.toInt ≠ 7 := fun h => h7 (e 7 (h.trans (by decide)))
  have g8 : x.toInt ≠ 8 := fun h => h8 (e 8 (h.trans (by decide)))
  have g9 : x.toInt ≠ 9 := fun h => h9 (e 9 (h.trans (by decide)))
  have g10 : x.toInt ≠ 10 := fun h => h10 (e 10 (h.trans (by decide)))
  omega
/-- Rows.at, Rows.put: beside the row nothing is read or written -/
def kAt (n : Nat) (f : Nat → Int32) (i : Int32) : Int32 := if i < 0 then 0 else if nI n ≤ i then 0 else f i.toNatClampNeg
def kAtL (n : Nat) (f : Nat → Int64) (i : Int32) : Int64 := if i < 0 then 0 else if nI n ≤ i then 0 else f i.toNatClampNeg
def kPut (n : Nat) (f : Nat → Int32) (i v : Int32) : Nat → Int32 := if i < 0 then f else if nI n ≤ i then f else upd f i.toNatClampNeg v
def kPutL (n : Nat) (f : Nat → Int64) (i : Int32) (v : Int64) : Nat → Int64 := if i < 0 then f else if nI n ≤ i then f else vp_updL f i.toNatClampNeg v
theorem k_in {i : Int32} {n : Nat} (hn : n < 2147483648) (h0 : ¬ i < 0) (h1 : ¬ nI n ≤ i) : vp_in i n := by
  obtain ⟨j, hj, rfl⟩ := nI_of h0
  refine vp_in_nI ?_ (by omega)
  rcases Nat.lt_or_ge j n with h | h
  · exact h
  · exact absurd (nI_le h (by omega)) h1
def rmX3_at : Room := { frames := 0, cells := 0, slots := 0, locals := 0 }
def rmX3_at_ : Room := { frames := 0, cells := 0, slots := 0, locals := 0 }
def rmX3_put : Room := { frames := 0, cells := 0, slots := 0, locals := 0 }
def rmX3_put_ : Room := { frames := 0, cells := 0, slots := 0, locals := 0 }
set_option maxRecDepth 100000 in
set_option maxHeartbeats 4000000 in
theorem c_X3_at (l : Launch) (D : va_G) (q : Nat → ClassId) (h n : Nat) (f : Nat → Int32) (i : Int32) (hn : n < 2147483648) : Met l yX3_at wsX3_at rmX3_at (va_Pc [.ref h, .int i] (kP D q [(h, .inl (q 0, n, .inl f))])) (vp_Si (fun r => r = kAt n f i)) 0 0 (fun _ => False) := by
  refine Met.ofW (cc := cX3_at) (maxL := 2) (ret := (some .int)) (by decide) rfl ?_
  intro p e s m args below meth c s₁ B hml hv
  obtain ⟨hargs, hP, hK, hD⟩ := hv
  have hx := B.exec
  have hb := B.bytes
  have hr := B.returns
  have hlocks := B.notSynchronized
  refine k_entry hargs (Nat.le_of_ble_eq_true rfl) (fun ls hl => ?_)
  have hl : lv_has ls 2 [(0, .ref h), (1, .int i)] := hl
  refine lv_aload_n hx hb dX3_at_0 rfl (lv_at hl 0 rfl) ?_
  refine lv_ifnull hx hb dX3_at_1 ?_
  refine lv_iload_n hx hb dX3_at_4 rfl (lv_at hl 1 rfl) ?_
  refine lv_if_lt (tgt := 20) hx hb dX3_at_5 (by decide) (fun c1 => ?_) (fun c1 => ?_)
  · refine lv_iconst (v := 0) hx hb dX3_at_20 (by decide) ?_
    exact k_iret_r (v := 0) hx hb hr hlocks (by unfold kAt; rw [if_pos c1]) dX3_at_21
  refine lv_iload_n hx hb dX3_at_8 rfl (lv_at hl 1 rfl) ?_
  refine lv_aload_n hx hb dX3_at_9 rfl (lv_at hl 0 rfl) ?_
  refine va_alen hx hb hK hP 0 0 rfl rfl (v := nI n) rfl dX3_at_10 ?_
  refine lv_icmp_ge (tgt := 20) hx hb dX3_at_11 (by decide) (fun c2 => ?_) (fun c2 => ?_)
  · refine lv_iconst (v := 0) hx hb dX3_at_20 (by decide) ?_
    exact k_iret_r (v := 0) hx hb hr hlocks (by unfold kAt; rw [if_neg c1, if_pos c2]) dX3_at_21
  refine lv_aload_n hx hb dX3_at_14 rfl (lv_at hl 0 rfl) ?_
  refine lv_iload_n hx hb dX3_at_15 rfl (lv_at hl 1 rfl) ?_
  refine va_iald hx hb hK hP 0 0 (f := f) rfl rfl (k_in hn c1 c2) dX3_at_16 ?_
  refine lv_goto (tgt := 21) hx hb dX3_at_17 (by decide) ?_
  exact k_iret_r (v := f i.toNatClampNeg) hx hb hr hlocks (by unfold kAt; rw [if_neg c1, if_neg c2]) dX3_at_21
set_option maxRecDepth 100000 in
set_option maxHeartbeats 4000000 in
theorem c_X3_at_ (l : Launch) (D : va_G) (q : Nat → ClassId) (h n : Nat) (f : Nat → Int64) (i : Int32) (hn : n < 2147483648) : Met l yX3_at_ wsX3_at_ rmX3_at_ (va_Pc [.ref h, .int i] (kP D q [(h, .inl (q 1, n, .inr (.inl f)))])) (vp_Sl (fun r => r = kAtL n f i)) 0 0 (fun _ => False) := by
  refine Met.ofW (cc := cX3_at_) (maxL := 2) (ret := (some .long)) (by decide) rfl ?_
  intro p e s m args below meth c s₁ B hml hv
  obtain ⟨hargs, hP, hK, hD⟩ := hv
  have hx := B.exec
  have hb := B.bytes
  have hr := B.returns
  have hlocks := B.notSynchronized
  refine k_entry hargs (Nat.le_of_ble_eq_true rfl) (fun ls hl => ?_)
  have hl : lv_has ls 2 [(0, .ref h), (1, .int i)] := hl
  refine lv_aload_n hx hb dX3_at__0 rfl (lv_at hl 0 rfl) ?_
  refine lv_ifnull hx hb dX3_at__1 ?_
  refine lv_iload_n hx hb dX3_at__4 rfl (lv_at hl 1 rfl) ?_
  refine lv_if_lt (tgt := 20) hx hb dX3_at__5 (by decide) (fun c1 => ?_) (fun c1 => ?_)
  · refine lv_lconst (v := 0) hx hb dX3_at__20 (by decide) ?_
    exact k_lret_r (v := 0) hx hb hr hlocks (by unfold kAtL; rw [if_pos c1]) dX3_at__21
  refine lv_iload_n hx hb dX3_at__8 rfl (lv_at hl 1 rfl) ?_
  refine lv_aload_n hx hb dX3_at__9 rfl (lv_at hl 0 rfl) ?_
  refine va_alen hx hb hK hP 0 1 rfl rfl (v := nI n) rfl dX3_at__10 ?_
  refine lv_icmp_ge (tgt := 20) hx hb dX3_at__11 (by decide) (fun c2 => ?_) (fun c2 => ?_)
  · refine lv_lconst (v := 0) hx hb dX3_at__20 (by decide) ?_
    exact k_lret_r (v := 0) hx hb hr hlocks (by unfold kAtL; rw [if_neg c1, if_pos c2]) dX3_at__21
  refine lv_aload_n hx hb dX3_at__14 rfl (lv_at hl 0 rfl) ?_
  refine lv_iload_n hx hb dX3_at__15 rfl (lv_at hl 1 rfl) ?_
  refine va_lald hx hb hK hP 0 1 (f := f) rfl rfl (k_in hn c1 c2) dX3_at__16 ?_
  refine lv_goto (tgt := 21) hx hb dX3_at__17 (by decide) ?_
  exact k_lret_r (v := f i.toNatClampNeg) hx hb hr hlocks (by unfold kAtL; rw [if_neg c1, if_neg c2]) dX3_at__21
set_option maxRecDepth 100000 in
set_option maxHeartbeats 4000000 in
theorem c_X3_put (l : Launch) (D : va_G) (q : Nat → ClassId) (h n : Nat) (f : Nat → Int32) (i : Int32) (v : Int32) (hn : n < 2147483648) : Met l yX3_put wsX3_put rmX3_put (va_Pc [.ref h, .int i, .int v] (kP D q [(h, .inl (q 0, n, .inl f))])) (va_Qv (fun _ : Unit => True) (fun _ t => kP D q [(h, .inl (q 0, n, .inl (kPut n f i v)))] t) (kIn [(h, .inl (q 0, n, .inl f))])) 0 0 (kIn [(h, .inl (q 0, n, .inl f))]) := by
  refine Met.ofW (cc := cX3_put) (maxL := 3) (ret := none) (by decide) rfl ?_
  intro p e s m args below meth c s₁ B hml hv
  obtain ⟨hargs, hP, hK, hD⟩ := hv
  have hx := B.exec
  have hb := B.bytes
  have hr := B.returns
  have hlocks := B.notSynchronized
  have hD := kd_self hD
  generalize kIn [(h, .inl (q 0, n, .inl f))] = A at hD ⊢
  have hS : va_S A s.heap s.heap [] := va_S.rf
  refine k_entry hargs (Nat.le_of_ble_eq_true rfl) (fun ls hl => ?_)
  have hl : lv_has ls 3 [(0, .ref h), (1, .int i), (2, .int v)] := hl
  refine lv_aload_n hx hb dX3_put_0 rfl (lv_at hl 0 rfl) ?_
  refine lv_ifnull hx hb dX3_put_1 ?_
  refine lv_iload_n hx hb dX3_put_4 rfl (lv_at hl 1 rfl) ?_
  refine lv_if_lt (tgt := 18) hx hb dX3_put_5 (by decide) (fun c1 => ?_) (fun c1 => ?_)
  · exact k_vret_w (wf := fun _ : Unit => [(h, .inl (q 0, n, .inl (kPut n f i v)))]) (u := ()) hx hb hr hlocks hK (by unfold kPut; rw [if_pos c1]; exact hP) (by unfold kPut; rw [if_pos c1]; exact hD) hS trivial dX3_put_18
  refine lv_iload_n hx hb dX3_put_8 rfl (lv_at hl 1 rfl) ?_
  refine lv_aload_n hx hb dX3_put_9 rfl (lv_at hl 0 rfl) ?_
  refine va_alen hx hb hK hP 0 0 rfl rfl (v := nI n) rfl dX3_put_10 ?_
  refine lv_icmp_ge (tgt := 18) hx hb dX3_put_11 (by decide) (fun c2 => ?_) (fun c2 => ?_)
  · exact k_vret_w (wf := fun _ : Unit => [(h, .inl (q 0, n, .inl (kPut n f i v)))]) (u := ()) hx hb hr hlocks hK (by unfold kPut; rw [if_neg c1, if_pos c2]; exact hP) (by unfold kPut; rw [if_neg c1, if_pos c2]; exact hD) hS trivial dX3_put_18
  refine lv_aload_n hx hb dX3_put_14 rfl (lv_at hl 0 rfl) ?_
  refine lv_iload_n hx hb dX3_put_15 rfl (lv_at hl 1 rfl) ?_
  refine lv_iload_n hx hb dX3_put_16 rfl (lv_at hl 2 rfl) ?_
  refine va_iast hx hb hK hP hD hS 0 0 (f := f) rfl rfl (k_in hn c1 c2) dX3_put_17 (fun H locs hP hD hS => ?_)
  exact k_vret_w (wf := fun _ : Unit => [(h, .inl (q 0, n, .inl (kPut n f i v)))]) (u := ()) hx hb hr hlocks hK (by unfold kPut; rw [if_neg c1, if_neg c2]; exact hP) (by unfold kPut; rw [if_neg c1, if_neg c2]; exact hD) hS trivial dX3_put_18
set_option maxRecDepth 100000 in
set_option maxHeartbeats 4000000 in
theorem c_X3_put_ (l : Launch) (D : va_G) (q : Nat → ClassId) (h n : Nat) (f : Nat → Int64) (i : Int32) (v : Int64) (hn : n < 2147483648) : Met l yX3_put_ wsX3_put_ rmX3_put_ (va_Pc [.ref h, .int i, .long v] (kP D q [(h, .inl (q 1, n, .inr (.inl f)))])) (va_Qv (fun _ : Unit => True) (fun _ t => kP D q [(h, .inl (q 1, n, .inr (.inl (kPutL n f i v))))] t) (kIn [(h, .inl (q 1, n, .inr (.inl f)))])) 0 0 (kIn [(h, .inl (q 1, n, .inr (.inl f)))]) := by
  refine Met.ofW (cc := cX3_put_) (maxL := 4) (ret := none) (by decide) rfl ?_
  intro p e s m args below meth c s₁ B hml hv
  obtain ⟨hargs, hP, hK, hD⟩ := hv
  have hx := B.exec
  have hb := B.bytes
  have hr := B.returns
  have hlocks := B.notSynchronized
  have hD := kd_self hD
  generalize kIn [(h, .inl (q 1, n, .inr (.inl f)))] = A at hD ⊢
  have hS : va_S A s.heap s.heap [] := va_S.rf
  refine k_entry hargs (Nat.le_of_ble_eq_true rfl) (fun ls hl => ?_)
  have hl : lv_has ls 4 [(0, .ref h), (1, .int i), (2, .long v)] := hl
  refine lv_aload_n hx hb dX3_put__0 rfl (lv_at hl 0 rfl) ?_
  refine lv_ifnull hx hb dX3_put__1 ?_
  refine lv_iload_n hx hb dX3_put__4 rfl (lv_at hl 1 rfl) ?_
  refine lv_if_lt (tgt := 18) hx hb dX3_put__5 (by decide) (fun c1 => ?_) (fun c1 => ?_)
  · exact k_vret_w (wf := fun _ : Unit => [(h, .inl (q 1, n, .inr (.inl (kPutL n f i v))))]) (u := ()) hx hb hr hlocks hK (by unfold kPutL; rw [if_pos c1]; exact hP) (by unfold kPutL; rw [if_pos c1]; exact hD) hS trivial dX3_put__18
  refine lv_iload_n hx hb dX3_put__8 rfl (lv_at hl 1 rfl) ?_
  refine lv_aload_n hx hb dX3_put__9 rfl (lv_at hl 0 rfl) ?_
  refine va_alen hx hb hK hP 0 1 rfl rfl (v := nI n) rfl dX3_put__10 ?_
  refine lv_icmp_ge (tgt := 18) hx hb dX3_put__11 (by decide) (fun c2 => ?_) (fun c2 => ?_)
  · exact k_vret_w (wf := fun _ : Unit => [(h, .inl (q 1, n, .inr (.inl (kPutL n f i v))))]) (u := ()) hx hb hr hlocks hK (by unfold kPutL; rw [if_neg c1, if_pos c2]; exact hP) (by unfold kPutL; rw [if_neg c1, if_pos c2]; exact hD) hS trivial dX3_put__18
  refine lv_aload_n hx hb dX3_put__14 rfl (lv_at hl 0 rfl) ?_
  refine lv_iload_n hx hb dX3_put__15 rfl (lv_at hl 1 rfl) ?_
  refine lv_lload_n hx hb dX3_put__16 rfl (lv_at hl 2 rfl) ?_
  refine va_last hx hb hK hP hD hS 0 1 (f := f) rfl rfl (k_in hn c1 c2) dX3_put__17 (fun H locs hP hD hS => ?_)
  exact k_vret_w (wf := fun _ : Unit => [(h, .inl (q 1, n, .inr (.inl (kPutL n f i v))))]) (u := ()) hx hb hr hlocks hK (by unfold kPutL; rw [if_neg c1, if_neg c2]; exact hP) (by unfold kPutL; rw [if_neg c1, if_neg c2]; exact hD) hS trivial dX3_put__18
