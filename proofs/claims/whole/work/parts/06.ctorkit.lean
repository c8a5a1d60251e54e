/-! constructors: cells come; their addresses are named by a list -/
def k_adr (l : List Nat) (k : Nat) : Nat := l.getD k 0
def kPA (D : va_G) (q : Nat → ClassId) (A : Nat → Prop) (w : va_W) (U : State) : Prop := va_P D vwCl w U.heap ∧ va_K D vwCl (kT q) U ∧ va_D A w
def kPz (D : va_G) (q : Nat → ClassId) (sz : Nat) (w : va_W) (U : State) : Prop := U.heap.size = sz ∧ kP D q w U
theorem k_blindz {D : va_G} {q : Nat → ClassId} {sz : Nat} {w : va_W} {As : List Value} : FrameBlind (va_Pc As (kPz D q sz w)) := fun a U g mk h => by
  obtain ⟨h0, hz, hP, hK, hD⟩ := h
  exact ⟨h0, hz, hP, va_K.moved (u := U) (U := U.calling g mk a) (Vm.Alike.refl U.vm) hK, hD⟩
section KCTOR
variable {p : Program} {l : Launch} {e : Env} {R : Room} {s : State} {m : MethodId} {args : Array Value} {below : List Frame} {meth : Method} {c : Code} {H H0 : Heap} {locs : List Loc} {cells slots : Nat} {Q : State → Prop}
variable {y : MethodName} {bytes cc : ByteArray} {maxL nL n index pc mc ms sz : Nat} {ret : Option FieldType} {ws : List Cond} {rm : Room} {Qc : Array Value → State → Outcome → State → Prop} {free : Addr → Prop} {Ts : List Cond} {own : String} {b : Addr} {As rest st : List Value} {ls : Array Slot} {D : va_G} {q : Nat → ClassId} {w : va_W} {A : Nat → Prop}
theorem k_runI (S : CallFix p m c cc nL s args Ts own) (hM : Met l y ws rm (va_Pc (.ref b :: As) (kPz D q sz w)) Qc mc ms free) (cw : CallB R s args own index y bytes maxL none ws rm mc ms n ∧ y.name = "<init>" ∧ (Cond.instanceMethod y).before args s = true) (hsz : H.size = sz) (hK : va_K D vwCl (kT q) s) (hP : va_P D vwCl w H) (hD : va_D A w) (hn : As.length = n) (hsize : ls.size = nL) (hstack : st = As.reverse ++ .ref b :: rest) (hW : (rest.map fun v => v.category).sum ≤ 8) (hdg : decode cc pc = .ok (.invokespecial index, 3)) (hf : cells + mc ≤ R.cells ∧ slots + ms ≤ R.slots) : va_Run p l e R s m args below meth c H locs cells slots mc ms (F0 m pc ls st) rest (Qc (Value.ref b :: As).toArray) free :=
  va_runI S hM cw ⟨k_blindz, fun U hU hW => ⟨rfl, by rw [hU]; exact hsz, by rw [hU]; exact hP, va_K.moved hW.alike hK, hD.weaken (fun _ _ _ _ => trivial)⟩⟩ rfl hn hsize hstack (lv_room hW) hdg hf
theorem k_newi (hx : p.tables.exec = Jvm.exec) (hb : c.code = cc) (harr : (Cond.arrayClass .int).before args s = true) (hK : va_K D vwCl (kT q) s) (hP : va_P D vwCl w H) (hD : va_D A w) (hS : va_S A H0 H locs) (hA : ∀ q, H0.size ≤ q → A q) {k : Int32} {N : Nat} (hn : ¬ k < 0) (hN : k.toNatClampNeg = N) (hby : N * 4 ≤ 536870912) (hcells : cells + 1 ≤ R.cells) (hslots : slots + N ≤ R.slots) (hdg : decode cc pc = .ok (.newarray .int, 2))
    (kk : ∀ (a : Nat) (H1 : Heap), va_P D vwCl (w ++ [(a, .inl (q 0, N, .inl (fun _ => 0)))]) H1 → va_D A (w ++ [(a, .inl (q 0, N, .inl (fun _ => 0)))]) → va_S A H0 H1 locs → W p l e R s m args below meth c H1 locs (cells + 1) (slots + N) Q (F0 m (pc + 2) ls (.ref a :: rest))) : W p l e R s m args below meth c H locs cells slots Q (F0 m pc ls (.int k :: rest)) :=
  va_newa (atype := .int) (ty := .int) hx hb harr rfl hK hP hD hS hA (a0 := (N, .inl (fun _ => 0))) (fun cA => by rw [vp_cell_i]; rfl) hn hN hby hcells hslots hdg (fun a cA H1 hK' hP hD hS => by
    have h1 : s.vm.findClass ("[" ++ (FieldType.int).toString) = some cA := (hK'.2 4 (cA, .int) rfl).2
    have h2 : s.vm.findClass ("[" ++ (FieldType.int).toString) = some (q 0) := (hK.2 0 (q 0, .int) rfl).2
    have e1 : cA = q 0 := Option.some.inj (h1.symm.trans h2)
    rw [e1] at hP hD
    exact kk a H1 hP hD hS)
theorem k_newl (hx : p.tables.exec = Jvm.exec) (hb : c.code = cc) (harr : (Cond.arrayClass .long).before args s = true) (hK : va_K D vwCl (kT q) s) (hP : va_P D vwCl w H) (hD : va_D A w) (hS : va_S A H0 H locs) (hA : ∀ q, H0.size ≤ q → A q) {k : Int32} {N : Nat} (hn : ¬ k < 0) (hN : k.toNatClampNeg = N) (hby : N * 8 ≤ 536870912) (hcells : cells + 1 ≤ R.cells) (hslots : slots + N ≤ R.slots) (hdg : decode cc pc = .ok (.newarray .long, 2))
    (kk : ∀ (a : Nat) (H1 : Heap), va_P D vwCl (w ++ [(a, .inl (q 1, N, .inr (.inl (fun _ => 0))))]) H1 → va_D A (w ++ [(a, .inl (q 1, N, .inr (.inl (fun _ => 0))))]) → va_S A H0 H1 locs → W p l e R s m args below meth c H1 locs (cells + 1) (slots + N) Q (F0 m (pc + 2) ls (.ref a :: rest))) : W p l e R s m args below meth c H locs cells slots Q (F0 m pc ls (.int k :: rest)) :=
  va_newa (atype := .long) (ty := .long) hx hb harr rfl hK hP hD hS hA (a0 := (N, .inr (.inl (fun _ => 0)))) (fun cA => by rw [vp_cell_l]; rfl) hn hN hby hcells hslots hdg (fun a cA H1 hK' hP hD hS => by
    have h1 : s.vm.findClass ("[" ++ (FieldType.long).toString) = some cA := (hK'.2 4 (cA, .long) rfl).2
    have h2 : s.vm.findClass ("[" ++ (FieldType.long).toString) = some (q 1) := (hK.2 1 (q 1, .long) rfl).2
    have e1 : cA = q 1 := Option.some.inj (h1.symm.trans h2)
    rw [e1] at hP hD
    exact kk a H1 hP hD hS)
theorem k_newq {C : String} (t0 : Nat) (ht : (kT q)[t0]? = some (q t0, .object C)) (hx : p.tables.exec = Jvm.exec) (hb : c.code = cc) (hown : s.vm.findClass own = some m.cls) (hclink : (Cond.classLink own index C).before args s = true) (hover : va_AO C s) (hK : va_K D vwCl (kT q) s) (hP : va_P D vwCl w H) (hD : va_D A w) (hS : va_S A H0 H locs) (hA : ∀ q, H0.size ≤ q → A q) {k : Int32} {N : Nat} (hn : ¬ k < 0) (hN : k.toNatClampNeg = N) (hby : N * 4 ≤ 536870912) (hcells : cells + 1 ≤ R.cells) (hslots : slots + N ≤ R.slots) (hdg : decode cc pc = .ok (.anewarray index, 3))
    (kk : ∀ (a : Nat) (H1 : Heap), va_P D vwCl (w ++ [(a, .inl (q t0, N, .inr (.inr (.inr (.inr (fun _ => none))))))]) H1 → va_D A (w ++ [(a, .inl (q t0, N, .inr (.inr (.inr (.inr (fun _ => none))))))]) → va_S A H0 H1 locs → W p l e R s m args below meth c H1 locs (cells + 1) (slots + N) Q (F0 m (pc + 3) ls (.ref a :: rest))) : W p l e R s m args below meth c H locs cells slots Q (F0 m pc ls (.int k :: rest)) :=
  va_newq hx hb hown hclink hover hK hP hD hS hA hn hN hby hcells hslots hdg (fun a cA H1 hK' hP hD hS => by
    obtain ⟨-, -, -, -, -, -, h1⟩ := hK'.2 4 (cA, .object C) rfl
    obtain ⟨-, -, -, -, -, -, h2⟩ := hK.2 t0 _ ht
    have e1 : cA = q t0 := Option.some.inj (h1.symm.trans h2)
    rw [e1] at hP hD
    exact kk a H1 hP hD hS)
theorem k_vret_a {σ : Type} {wf : σ → va_W} {post : σ → Prop} {u : σ} (hx : p.tables.exec = Jvm.exec) (hb : c.code = cc) (hr : meth.sig.returnType = none) (hlocks : meth.locks = false) (hK : va_K D vwCl (kT q) s) (hP : va_P D vwCl (wf u) H) (hD : va_D A (wf u)) (hS : va_S A s.heap H locs) (hf : post u) (hdg : decode cc pc = .ok (.return_, 1)) : W p l e R s m args below meth c H locs cells slots (MQ below (va_Qv post (fun u t => kPA D q A (wf u) t) A) args s cells slots A) (F0 m pc ls []) :=
  W.vret hx hb hr (fun t ht hW => ⟨⟨u, rfl, hf, by rw [ht]; exact hP, va_K.moved hW.alike hK, hD⟩, hS.F ht⟩) hS.2.2 hdg hlocks
end KCTOR
