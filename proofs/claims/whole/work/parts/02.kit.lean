/-! the common form of this claim's contracts: worlds of literal cells, blocks of them side by side -/
abbrev kT (q : Nat → ClassId) : List (ClassId × FieldType) := [(q 0, .int), (q 1, .long), (q 2, .object RX4), (q 3, .object RX1)]
def kP (D : va_G) (q : Nat → ClassId) (w : va_W) (U : State) : Prop := va_P D vwCl w U.heap ∧ va_K D vwCl (kT q) U ∧ va_D (fun _ => True) w
def kIn (w : va_W) : Nat → Prop := fun a => ∃ (k : Nat) (e : va_E), w[k]? = some (a, e)
theorem kg_l {a b : va_W} {i : Nat} {x : Nat × va_E} (h : a[i]? = some x) : (a ++ b)[i]? = some x := by
  rw [List.getElem?_append_left (List.getElem?_eq_some_iff.mp h).1]; exact h
theorem kg_r {a b : va_W} {i : Nat} {x : Nat × va_E} (h : b[i]? = some x) : (a ++ b)[a.length + i]? = some x := by
  rw [List.getElem?_append_right (Nat.le_add_right _ _), Nat.add_sub_cancel_left]; exact h
theorem kp_l {D : va_G} {cl : List vw_C} {a b : va_W} {H : Heap} (h : va_P D cl (a ++ b) H) : va_P D cl a H := fun k x hk => h k x (kg_l hk)
theorem kp_r {D : va_G} {cl : List vw_C} {a b : va_W} {H : Heap} (h : va_P D cl (a ++ b) H) : va_P D cl b H := fun k x hk => h (a.length + k) x (kg_r hk)
theorem kp_app {D : va_G} {cl : List vw_C} {a b : va_W} {H : Heap} (h1 : va_P D cl a H) (h2 : va_P D cl b H) : va_P D cl (a ++ b) H := va_P.app h1 h2
theorem kp_1 {D : va_G} {cl : List vw_C} {ws : va_W} {H : Heap} (h : va_P D cl ws H) (k : Nat) {x : Nat × va_E} (hk : ws[k]? = some x) : va_P D cl [x] H := by
  intro j y hy
  have h1 : y ∈ [x] := List.mem_of_getElem? hy
  rw [List.mem_singleton] at h1
  subst h1
  exact h k y hk
theorem kd_l {A : Nat → Prop} {a b : va_W} (h : va_D A (a ++ b)) : va_D A a := ⟨fun i j p q hi hj e => h.1 i j p q (kg_l hi) (kg_l hj) e, fun k q hk => h.2 k q (kg_l hk)⟩
theorem kd_r {A : Nat → Prop} {a b : va_W} (h : va_D A (a ++ b)) : va_D A b := ⟨fun i j p q hi hj e => by have h1 := h.1 _ _ p q (kg_r (a := a) hi) (kg_r (a := a) hj) e; omega, fun k q hk => h.2 _ q (kg_r (a := a) hk)⟩
theorem kd_1 {A : Nat → Prop} {ws : va_W} (h : va_D A ws) (k : Nat) {x : Nat × va_E} (hk : ws[k]? = some x) : va_D A [x] := by
  refine ⟨fun i j p q hi hj _ => ?_, fun j y hy => ?_⟩
  · have h1 := (List.getElem?_eq_some_iff.mp hi).1
    have h2 := (List.getElem?_eq_some_iff.mp hj).1
    simp only [List.length_singleton] at h1 h2
    omega
  · have h1 : y ∈ [x] := List.mem_of_getElem? hy
    rw [List.mem_singleton] at h1
    subst h1
    exact h.2 k y hk
theorem kd_at {w w' : va_W} (e : w'.map (fun x => x.1) = w.map (fun x => x.1)) {i : Nat} {x : Nat × va_E} (hx : w'[i]? = some x) : ∃ x' : Nat × va_E, w[i]? = some x' ∧ x'.1 = x.1 := by
  have h1 : (w'.map (fun x => x.1))[i]? = some x.1 := by rw [List.getElem?_map, hx]; rfl
  rw [e, List.getElem?_map] at h1
  cases hw : w[i]? with
  | none => rw [hw] at h1; cases h1
  | some x' => rw [hw] at h1; exact ⟨x', rfl, Option.some.inj h1⟩
theorem kd_eq {A : Nat → Prop} {w w' : va_W} (e : w'.map (fun x => x.1) = w.map (fun x => x.1)) (h : va_D A w) : va_D A w' := by
  refine ⟨fun i j p q hi hj e2 => ?_, fun k q hk => ?_⟩
  · obtain ⟨p', a1, a2⟩ := kd_at e hi
    obtain ⟨q', b1, b2⟩ := kd_at e hj
    exact h.1 i j p' q' a1 b1 (by rw [a2, b2]; exact e2)
  · obtain ⟨q', a1, a2⟩ := kd_at e hk
    rw [← a2]
    exact h.2 k q' a1
theorem kIn_eq {w w' : va_W} (e : w'.map (fun x => x.1) = w.map (fun x => x.1)) {a : Nat} (h : kIn w' a) : kIn w a := by
  obtain ⟨k, x, h⟩ := h
  obtain ⟨x', h1, h2⟩ := kd_at e h
  exact ⟨k, x'.2, by rw [h1, show x' = (a, x'.2) from Prod.ext h2 rfl]⟩
theorem kp_set {D : va_G} {cl : List vw_C} {A : Nat → Prop} {X Y w w' : va_W} {H H1 : Heap} (hP : va_P D cl (X ++ (w ++ Y)) H) (hD : va_D A (X ++ (w ++ Y))) (hk : ∀ a : Nat, a < H.size → ¬ kIn w a → H1[a]? = H[a]?) (hP1 : va_P D cl w' H1) : va_P D cl (X ++ (w' ++ Y)) H1 := by
  refine kp_app (fun i x hi => ?_) (kp_app hP1 (fun j y hj => ?_))
  · have h1 := kg_l (b := w ++ Y) hi
    refine (hP i x h1).kept (hk x.1 (hP i x h1).lt fun ⟨k, e, h2⟩ => ?_)
    have h3 := hD.1 _ _ _ _ h1 (kg_r (a := X) (kg_l (b := Y) h2)) rfl
    have h4 := (List.getElem?_eq_some_iff.mp hi).1
    omega
  · have h1 := kg_r (a := X) (kg_r (a := w) hj)
    refine (hP _ y h1).kept (hk y.1 (hP _ y h1).lt fun ⟨k, e, h2⟩ => ?_)
    have h3 := hD.1 _ _ _ _ h1 (kg_r (a := X) (kg_l (b := Y) h2)) rfl
    have h4 := (List.getElem?_eq_some_iff.mp h2).1
    omega
theorem kd_set {A : Nat → Prop} {X Y w w' : va_W} (e : w'.map (fun x => x.1) = w.map (fun x => x.1)) (hD : va_D A (X ++ (w ++ Y))) : va_D A (X ++ (w' ++ Y)) := kd_eq (by rw [List.map_append, List.map_append, List.map_append, List.map_append, e]) hD
theorem k_blind {D : va_G} {q : Nat → ClassId} {w : va_W} {As : List Value} : FrameBlind (va_Pc As (kP D q w)) := fun a U g mk h => by
  obtain ⟨h0, hP, hK, hD⟩ := h
  exact ⟨h0, hP, va_K.moved (u := U) (U := U.calling g mk a) (Vm.Alike.refl U.vm) hK, hD⟩
theorem k_pre {s : State} {H : Heap} {D : va_G} {q : Nat → ClassId} {w : va_W} {A : Nat → Prop} {As : List Value} (hP : va_P D vwCl w H) (hK : va_K D vwCl (kT q) s) (hD : va_D A w) : ∀ U : State, U.heap = H → s.WarmedH U.vm → va_Pc As (kP D q w) As.toArray U := fun U hU hW => ⟨rfl, by rw [hU]; exact hP, va_K.moved hW.alike hK, hD.weaken (fun _ _ _ _ => trivial)⟩
section KCALL
variable {p : Program} {l : Launch} {e : Env} {R : Room} {s : State} {m : MethodId} {args : Array Value} {below : List Frame} {meth : Method} {c : Code} {H H0 : Heap} {locs : List Loc} {cells slots : Nat} {Q : State → Prop}
variable {y : MethodName} {bytes cc : ByteArray} {maxL nL n index pc ci N : Nat} {ret : Option FieldType} {ws : List Cond} {rm : Room} {Qc : Array Value → State → Outcome → State → Prop} {free : Addr → Prop} {Ts : List Cond} {own C : String} {b : Addr} {As rest st : List Value} {ls : Array Slot} {D : va_G} {q : Nat → ClassId} {w : va_W} {A : Nat → Prop} {fs : List Value} {T : u_T} {a : Array Value}
theorem k_runV (S : CallFix p m c cc nL s args Ts own) (hM : Met l y ws rm (va_Pc (.ref b :: As) (kP D q w)) Qc 0 0 free) (cw : CallW R s args own C index y bytes maxL ret ws rm 0 0 n) (hK : va_K D vwCl (kT q) s) (hP : va_P D vwCl w H) (hD : va_D A w) (k0 : Nat) (he : w[k0]? = some (b, .inr (ci, fs))) (hc : vwCl[ci]? = some (C, T, N)) (hn : As.length = n) (hsize : ls.size = nL) (hstack : st = As.reverse ++ .ref b :: rest) (hW : (rest.map fun v => v.category).sum ≤ 8) (hdg : decode cc pc = .ok (.invokevirtual index, 3)) (hf : cells ≤ R.cells ∧ slots ≤ R.slots) : va_Run p l e R s m args below meth c H locs cells slots 0 0 (F0 m pc ls st) rest (Qc (Value.ref b :: As).toArray) free :=
  va_runV S hM cw ⟨k_blind, va_recv hK hP hc he, k_pre hP hK hD⟩ rfl hn hsize hstack (lv_room hW) hdg hf
theorem k_runS (S : CallFix p m c cc nL s args Ts own) (hM : Met l y ws rm (va_Pc As (kP D q w)) Qc 0 0 free) (cw : CallB R s args own index y bytes maxL ret ws rm 0 0 n ∧ (Cond.static y).before args s = true) (hK : va_K D vwCl (kT q) s) (hP : va_P D vwCl w H) (hD : va_D A w) (hn : As.length = n) (hsize : ls.size = nL) (hstack : st = As.reverse ++ rest) (hW : (rest.map fun v => v.category).sum ≤ 8) (hdg : decode cc pc = .ok (.invokestatic index, 3)) (hf : cells ≤ R.cells ∧ slots ≤ R.slots) : va_Run p l e R s m args below meth c H locs cells slots 0 0 (F0 m pc ls st) rest (Qc As.toArray) free :=
  va_runS S hM cw ⟨k_blind, k_pre hP hK hD⟩ rfl hn hsize hstack (lv_room hW) hdg hf
theorem k_si {post : Int32 → Prop} (hr : va_Run p l e R s m args below meth c H locs cells slots 0 0 (F0 m pc ls st) rest (vp_Si post a) (fun _ => False)) (kk : ∀ r : Int32, post r → W p l e R s m args below meth c H locs cells slots Q (F0 m (pc + 3) ls (.int r :: rest))) : W p l e R s m args below meth c H locs cells slots Q (F0 m pc ls st) := by
  intro T hT X
  obtain ⟨v, st₀, t, T', L, h0, X', hL, e1, e2, ⟨r, hv, hp, hh⟩, st⟩ := hr T hT X
  cases hv
  obtain ⟨t2, a1, b1⟩ := kk r hp T' (by rw [e1, hh, h0]) (Stand.forget X' (fun q h => (hL q h).elim))
  exact ⟨t2, st t2 a1, b1⟩
theorem k_sl {post : Int64 → Prop} (hr : va_Run p l e R s m args below meth c H locs cells slots 0 0 (F0 m pc ls st) rest (vp_Sl post a) (fun _ => False)) (kk : ∀ r : Int64, post r → W p l e R s m args below meth c H locs cells slots Q (F0 m (pc + 3) ls (.long r :: rest))) : W p l e R s m args below meth c H locs cells slots Q (F0 m pc ls st) := by
  intro T hT X
  obtain ⟨v, st₀, t, T', L, h0, X', hL, e1, e2, ⟨r, hv, hp, hh⟩, st⟩ := hr T hT X
  cases hv
  obtain ⟨t2, a1, b1⟩ := kk r hp T' (by rw [e1, hh, h0]) (Stand.forget X' (fun q h => (hL q h).elim))
  exact ⟨t2, st t2 a1, b1⟩
theorem k_sq {post : Option Nat → Prop} (hr : va_Run p l e R s m args below meth c H locs cells slots 0 0 (F0 m pc ls st) rest (va_Sq post a) (fun _ => False)) (kk : ∀ r : Option Nat, post r → W p l e R s m args below meth c H locs cells slots Q (F0 m (pc + 3) ls (va_rf r :: rest))) : W p l e R s m args below meth c H locs cells slots Q (F0 m pc ls st) := by
  intro T hT X
  obtain ⟨v, st₀, t, T', L, h0, X', hL, e1, e2, ⟨r, hv, hp, hh⟩, st⟩ := hr T hT X
  cases hv
  obtain ⟨t2, a1, b1⟩ := kk r hp T' (by rw [e1, hh, h0]) (Stand.forget X' (fun q h => (hL q h).elim))
  exact ⟨t2, st t2 a1, b1⟩
theorem k_wi {σ : Type} {wf : σ → va_W} {u0 : σ} {post : Int32 → σ → Prop} (hr : va_Run p l e R s m args below meth c H locs cells slots 0 0 (F0 m pc ls st) rest (va_Qi post (fun u t => kP D q (wf u) t) (kIn (wf u0)) a) (kIn (wf u0))) (X Y : va_W) (haddr : ∀ u, (wf u).map (fun x => x.1) = (wf u0).map (fun x => x.1)) (hP : va_P D vwCl (X ++ (wf u0 ++ Y)) H) (hD : va_D A (X ++ (wf u0 ++ Y))) (hS : va_S A H0 H locs)
    (kk : ∀ (r : Int32) (u : σ) (H1 : Heap) (locs1 : List Loc), post r u → va_P D vwCl (X ++ (wf u ++ Y)) H1 → va_D A (X ++ (wf u ++ Y)) → va_S A H0 H1 locs1 → W p l e R s m args below meth c H1 locs1 cells slots Q (F0 m (pc + 3) ls (.int r :: rest))) : W p l e R s m args below meth c H locs cells slots Q (F0 m pc ls st) := by
  have hfr : ∀ a, kIn (wf u0) a → A a := fun a ⟨k, e, h⟩ => hD.2 _ _ (kg_r (a := X) (kg_l (b := Y) h))
  exact va_calli hr hS (fun q _ h => hfr q h) hfr (fun r u t H1 locs1 ht hvm hw hB hz hk hS => kk r u H1 locs1 hw (kp_set hP hD (fun a h1 h2 => hk a h1 h2) (by rw [← ht]; exact hB.1)) (kd_set (haddr u) hD) hS)
theorem k_wl {σ : Type} {wf : σ → va_W} {u0 : σ} {post : Int64 → σ → Prop} (hr : va_Run p l e R s m args below meth c H locs cells slots 0 0 (F0 m pc ls st) rest (va_Ql post (fun u t => kP D q (wf u) t) (kIn (wf u0)) a) (kIn (wf u0))) (X Y : va_W) (haddr : ∀ u, (wf u).map (fun x => x.1) = (wf u0).map (fun x => x.1)) (hP : va_P D vwCl (X ++ (wf u0 ++ Y)) H) (hD : va_D A (X ++ (wf u0 ++ Y))) (hS : va_S A H0 H locs)
    (kk : ∀ (r : Int64) (u : σ) (H1 : Heap) (locs1 : List Loc), post r u → va_P D vwCl (X ++ (wf u ++ Y)) H1 → va_D A (X ++ (wf u ++ Y)) → va_S A H0 H1 locs1 → W p l e R s m args below meth c H1 locs1 cells slots Q (F0 m (pc + 3) ls (.long r :: rest))) : W p l e R s m args below meth c H locs cells slots Q (F0 m pc ls st) := by
  have hfr : ∀ a, kIn (wf u0) a → A a := fun a ⟨k, e, h⟩ => hD.2 _ _ (kg_r (a := X) (kg_l (b := Y) h))
  exact va_calll hr hS (fun q _ h => hfr q h) hfr (fun r u t H1 locs1 ht hvm hw hB hz hk hS => kk r u H1 locs1 hw (kp_set hP hD (fun a h1 h2 => hk a h1 h2) (by rw [← ht]; exact hB.1)) (kd_set (haddr u) hD) hS)
theorem k_wv {σ : Type} {wf : σ → va_W} {u0 : σ} {post : σ → Prop} (hr : va_Run p l e R s m args below meth c H locs cells slots 0 0 (F0 m pc ls st) rest (va_Qv post (fun u t => kP D q (wf u) t) (kIn (wf u0)) a) (kIn (wf u0))) (X Y : va_W) (haddr : ∀ u, (wf u).map (fun x => x.1) = (wf u0).map (fun x => x.1)) (hP : va_P D vwCl (X ++ (wf u0 ++ Y)) H) (hD : va_D A (X ++ (wf u0 ++ Y))) (hS : va_S A H0 H locs)
    (kk : ∀ (u : σ) (H1 : Heap) (locs1 : List Loc), post u → va_P D vwCl (X ++ (wf u ++ Y)) H1 → va_D A (X ++ (wf u ++ Y)) → va_S A H0 H1 locs1 → W p l e R s m args below meth c H1 locs1 cells slots Q (F0 m (pc + 3) ls rest)) : W p l e R s m args below meth c H locs cells slots Q (F0 m pc ls st) := by
  have hfr : ∀ a, kIn (wf u0) a → A a := fun a ⟨k, e, h⟩ => hD.2 _ _ (kg_r (a := X) (kg_l (b := Y) h))
  exact va_callv hr hS (fun q _ h => hfr q h) hfr (fun u t H1 locs1 ht hvm hw hB hz hk hS => kk u H1 locs1 hw (kp_set hP hD (fun a h1 h2 => hk a h1 h2) (by rw [← ht]; exact hB.1)) (kd_set (haddr u) hD) hS)
/-- a static call that writes one array cell of the caller's world -/
theorem k_wp {x0 x1 : Nat × va_E} {post : Unit → Prop} {ws0 : va_W} {k : Nat} (hr : va_Run p l e R s m args below meth c H locs cells slots 0 0 (F0 m pc ls st) rest (va_Qv post (fun _ t => kP D q [x1] t) (kIn [x0]) a) (kIn [x0])) (hk : ws0[k]? = some x0) (h01 : x1.1 = x0.1) (hP : va_P D vwCl ws0 H) (hD : va_D A ws0) (hS : va_S A H0 H locs)
    (kk : ∀ (H1 : Heap) (locs1 : List Loc), post () → va_P D vwCl (ws0.set k x1) H1 → va_D A (ws0.set k x1) → va_S A H0 H1 locs1 → W p l e R s m args below meth c H1 locs1 cells slots Q (F0 m (pc + 3) ls rest)) : W p l e R s m args below meth c H locs cells slots Q (F0 m pc ls st) := by
  have hin : ∀ a, kIn [x0] a → a = x0.1 := fun a ⟨j, e, h⟩ => by
    have h1 : (a, e) ∈ [x0] := List.mem_of_getElem? h
    rw [List.mem_singleton] at h1
    rw [← h1]
  have hfr : ∀ a, kIn [x0] a → A a := fun a h => by rw [hin a h]; exact hD.2 _ _ hk
  have hmp : (ws0.set k x1).map (fun x => x.1) = ws0.map (fun x => x.1) := by
    rw [List.map_set, h01]
    refine List.ext_getElem? fun j => ?_
    by_cases hj : k = j
    · subst hj
      have hlt := (List.getElem?_eq_some_iff.mp hk).1
      rw [List.getElem?_set_self (by rw [List.length_map]; exact hlt), List.getElem?_map, hk]
      rfl
    · rw [List.getElem?_set_ne hj]
  refine va_callv hr hS (fun q _ h => hfr q h) hfr (fun u t H1 locs1 ht hvm hw hB hz hkk hS => kk H1 locs1 hw ?_ (kd_eq hmp hD) hS)
  intro j x hx
  by_cases hj : k = j
  · subst hj
    have hlt := (List.getElem?_eq_some_iff.mp hk).1
    rw [List.getElem?_set_self hlt] at hx
    have hx := Option.some.inj hx
    subst hx
    have h2 := hB.1 0 x1 rfl
    rwa [ht] at h2
  · rw [List.getElem?_set_ne hj] at hx
    refine (hP j x hx).kept (hkk x.1 (hP j x hx).lt fun h => ?_)
    have h3 := hD.1 _ _ _ _ hx hk (hin _ h)
    exact hj h3.symm
end KCALL
