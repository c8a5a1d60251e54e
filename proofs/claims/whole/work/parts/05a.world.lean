abbrev CSt : Type := MSt × WSt × (Nat → SSt) × (Nat → ISt)
abbrev wG (aG aM aW : Nat → Nat) (aS aI : Nat → Nat → Nat) (q : Nat → ClassId) : va_W := [(aG 0, .inr (4, [.ref (aM 0), .ref (aW 0), .ref (aG 1), .ref (aG 2)])), (aG 1, .inl (q 2, 4, .inr (.inr (.inr (.inr (fun i => some (aS i 0))))))), (aG 2, .inl (q 3, 2, .inr (.inr (.inr (.inr (fun i => some (aI i 0)))))))]
abbrev wZ (aG aM aW : Nat → Nat) (aS aI : Nat → Nat → Nat) (q : Nat → ClassId) (sh : Nat → SSt) (im : Nat → ISt) : va_W := wG aG aM aW aS aI q ++ (wI (aI 0) q (im 0) ++ (wI (aI 1) q (im 1) ++ (wS (aS 0) q (sh 0) ++ (wS (aS 1) q (sh 1) ++ (wS (aS 2) q (sh 2) ++ wS (aS 3) q (sh 3))))))
abbrev wY (i : Nat) (aG aM aW : Nat → Nat) (aS aI : Nat → Nat → Nat) (q : Nat → ClassId) (sh : Nat → SSt) (im : Nat → ISt) : va_W := wG aG aM aW aS aI q ++ (wI (aI 0) q (im 0) ++ (wI (aI 1) q (im 1) ++ (match i with | 0 => wS (aS 1) q (sh 1) ++ (wS (aS 2) q (sh 2) ++ wS (aS 3) q (sh 3)) | 1 => wS (aS 0) q (sh 0) ++ (wS (aS 2) q (sh 2) ++ wS (aS 3) q (sh 3)) | 2 => wS (aS 0) q (sh 0) ++ (wS (aS 1) q (sh 1) ++ wS (aS 3) q (sh 3)) | _ => wS (aS 0) q (sh 0) ++ (wS (aS 1) q (sh 1) ++ wS (aS 2) q (sh 2)))))
abbrev wV (i : Nat) (aG aM aW : Nat → Nat) (aS aI : Nat → Nat → Nat) (q : Nat → ClassId) (sh : Nat → SSt) (im : Nat → ISt) : va_W := wG aG aM aW aS aI q ++ ((match i with | 0 => wI (aI 1) q (im 1) | _ => wI (aI 0) q (im 0)) ++ (wS (aS 0) q (sh 0) ++ (wS (aS 1) q (sh 1) ++ (wS (aS 2) q (sh 2) ++ wS (aS 3) q (sh 3)))))
abbrev wX (aG aM aW : Nat → Nat) (aS aI : Nat → Nat → Nat) (q : Nat → ClassId) (g : CSt) : va_W := wZ aG aM aW aS aI q g.2.2.1 g.2.2.2 ++ (wW aW aM q g.2.1 ++ wM aM q g.1)
theorem z_osP {D : va_G} {q : Nat → ClassId} {aG aM aW : Nat → Nat} {aS aI : Nat → Nat → Nat} {sh : Nat → SSt} {im : Nat → ISt} {uW : WSt} {uM : MSt} {H : Heap} {i : Nat} (hi : i < 4) (h : va_P D vwCl (wZ aG aM aW aS aI q sh im ++ (wW aW aM q uW ++ wM aM q uM)) H) : va_P D vwCl (wY i aG aM aW aS aI q sh im ++ (wW aW aM q uW ++ (wM aM q uM ++ wS (aS i) q (sh i)))) H := by
  match i, hi with
  | 0, _ => exact h.sub [0, 1, 2, 3, 4, 5, 6, 9, 10, 11, 12, 13, 14, 15, 16, 17, 18, 19, 20, 21, 22, 23, 24, 25, 26, 27, 28, 7, 8] rfl
  | 1, _ => exact h.sub [0, 1, 2, 3, 4, 5, 6, 7, 8, 11, 12, 13, 14, 15, 16, 17, 18, 19, 20, 21, 22, 23, 24, 25, 26, 27, 28, 9, 10] rfl
  | 2, _ => exact h.sub [0, 1, 2, 3, 4, 5, 6, 7, 8, 9, 10, 13, 14, 15, 16, 17, 18, 19, 20, 21, 22, 23, 24, 25, 26, 27, 28, 11, 12] rfl
  | 3, _ => exact h.sub [0, 1, 2, 3, 4, 5, 6, 7, 8, 9, 10, 11, 12, 15, 16, 17, 18, 19, 20, 21, 22, 23, 24, 25, 26, 27, 28, 13, 14] rfl
theorem z_osD {q : Nat → ClassId} {aG aM aW : Nat → Nat} {aS aI : Nat → Nat → Nat} {sh : Nat → SSt} {im : Nat → ISt} {uW : WSt} {uM : MSt} {A : Nat → Prop} {i : Nat} (hi : i < 4) (h : va_D A (wZ aG aM aW aS aI q sh im ++ (wW aW aM q uW ++ wM aM q uM))) : va_D A (wY i aG aM aW aS aI q sh im ++ (wW aW aM q uW ++ (wM aM q uM ++ wS (aS i) q (sh i)))) := by
  match i, hi with
  | 0, _ => exact h.sub [0, 1, 2, 3, 4, 5, 6, 9, 10, 11, 12, 13, 14, 15, 16, 17, 18, 19, 20, 21, 22, 23, 24, 25, 26, 27, 28, 7, 8] (by decide) rfl
  | 1, _ => exact h.sub [0, 1, 2, 3, 4, 5, 6, 7, 8, 11, 12, 13, 14, 15, 16, 17, 18, 19, 20, 21, 22, 23, 24, 25, 26, 27, 28, 9, 10] (by decide) rfl
  | 2, _ => exact h.sub [0, 1, 2, 3, 4, 5, 6, 7, 8, 9, 10, 13, 14, 15, 16, 17, 18, 19, 20, 21, 22, 23, 24, 25, 26, 27, 28, 11, 12] (by decide) rfl
  | 3, _ => exact h.sub [0, 1, 2, 3, 4, 5, 6, 7, 8, 9, 10, 11, 12, 15, 16, 17, 18, 19, 20, 21, 22, 23, 24, 25, 26, 27, 28, 13, 14] (by decide) rfl
theorem z_csP {D : va_G} {q : Nat → ClassId} {aG aM aW : Nat → Nat} {aS aI : Nat → Nat → Nat} {sh : Nat → SSt} {im : Nat → ISt} {uW : WSt} {uM : MSt} {H : Heap} {i : Nat} (hi : i < 4) {u : SSt} (h : va_P D vwCl (wY i aG aM aW aS aI q sh im ++ (wW aW aM q uW ++ (wM aM q uM ++ wS (aS i) q u))) H) : va_P D vwCl (wZ aG aM aW aS aI q (va_up sh i u) im ++ (wW aW aM q uW ++ wM aM q uM)) H := by
  match i, hi with
  | 0, _ => exact h.sub [0, 1, 2, 3, 4, 5, 6, 27, 28, 7, 8, 9, 10, 11, 12, 13, 14, 15, 16, 17, 18, 19, 20, 21, 22, 23, 24, 25, 26] rfl
  | 1, _ => exact h.sub [0, 1, 2, 3, 4, 5, 6, 7, 8, 27, 28, 9, 10, 11, 12, 13, 14, 15, 16, 17, 18, 19, 20, 21, 22, 23, 24, 25, 26] rfl
  | 2, _ => exact h.sub [0, 1, 2, 3, 4, 5, 6, 7, 8, 9, 10, 27, 28, 11, 12, 13, 14, 15, 16, 17, 18, 19, 20, 21, 22, 23, 24, 25, 26] rfl
  | 3, _ => exact h.sub [0, 1, 2, 3, 4, 5, 6, 7, 8, 9, 10, 11, 12, 27, 28, 13, 14, 15, 16, 17, 18, 19, 20, 21, 22, 23, 24, 25, 26] rfl
theorem z_csD {q : Nat → ClassId} {aG aM aW : Nat → Nat} {aS aI : Nat → Nat → Nat} {sh : Nat → SSt} {im : Nat → ISt} {uW : WSt} {uM : MSt} {A : Nat → Prop} {i : Nat} (hi : i < 4) {u : SSt} (h : va_D A (wY i aG aM aW aS aI q sh im ++ (wW aW aM q uW ++ (wM aM q uM ++ wS (aS i) q u)))) : va_D A (wZ aG aM aW aS aI q (va_up sh i u) im ++ (wW aW aM q uW ++ wM aM q uM)) := by
  match i, hi with
  | 0, _ => exact h.sub [0, 1, 2, 3, 4, 5, 6, 27, 28, 7, 8, 9, 10, 11, 12, 13, 14, 15, 16, 17, 18, 19, 20, 21, 22, 23, 24, 25, 26] (by decide) rfl
  | 1, _ => exact h.sub [0, 1, 2, 3, 4, 5, 6, 7, 8, 27, 28, 9, 10, 11, 12, 13, 14, 15, 16, 17, 18, 19, 20, 21, 22, 23, 24, 25, 26] (by decide) rfl
  | 2, _ => exact h.sub [0, 1, 2, 3, 4, 5, 6, 7, 8, 9, 10, 27, 28, 11, 12, 13, 14, 15, 16, 17, 18, 19, 20, 21, 22, 23, 24, 25, 26] (by decide) rfl
  | 3, _ => exact h.sub [0, 1, 2, 3, 4, 5, 6, 7, 8, 9, 10, 11, 12, 27, 28, 13, 14, 15, 16, 17, 18, 19, 20, 21, 22, 23, 24, 25, 26] (by decide) rfl
theorem z_cs0P {D : va_G} {q : Nat → ClassId} {aG aM aW : Nat → Nat} {aS aI : Nat → Nat → Nat} {sh : Nat → SSt} {im : Nat → ISt} {uW : WSt} {uM : MSt} {H : Heap} {i : Nat} (hi : i < 4) (h : va_P D vwCl (wY i aG aM aW aS aI q sh im ++ (wW aW aM q uW ++ (wM aM q uM ++ wS (aS i) q (sh i)))) H) : va_P D vwCl (wZ aG aM aW aS aI q sh im ++ (wW aW aM q uW ++ wM aM q uM)) H := by
  match i, hi with
  | 0, _ => exact h.sub [0, 1, 2, 3, 4, 5, 6, 27, 28, 7, 8, 9, 10, 11, 12, 13, 14, 15, 16, 17, 18, 19, 20, 21, 22, 23, 24, 25, 26] rfl
  | 1, _ => exact h.sub [0, 1, 2, 3, 4, 5, 6, 7, 8, 27, 28, 9, 10, 11, 12, 13, 14, 15, 16, 17, 18, 19, 20, 21, 22, 23, 24, 25, 26] rfl
  | 2, _ => exact h.sub [0, 1, 2, 3, 4, 5, 6, 7, 8, 9, 10, 27, 28, 11, 12, 13, 14, 15, 16, 17, 18, 19, 20, 21, 22, 23, 24, 25, 26] rfl
  | 3, _ => exact h.sub [0, 1, 2, 3, 4, 5, 6, 7, 8, 9, 10, 11, 12, 27, 28, 13, 14, 15, 16, 17, 18, 19, 20, 21, 22, 23, 24, 25, 26] rfl
theorem z_cs0D {q : Nat → ClassId} {aG aM aW : Nat → Nat} {aS aI : Nat → Nat → Nat} {sh : Nat → SSt} {im : Nat → ISt} {uW : WSt} {uM : MSt} {A : Nat → Prop} {i : Nat} (hi : i < 4) (h : va_D A (wY i aG aM aW aS aI q sh im ++ (wW aW aM q uW ++ (wM aM q uM ++ wS (aS i) q (sh i))))) : va_D A (wZ aG aM aW aS aI q sh im ++ (wW aW aM q uW ++ wM aM q uM)) := by
  match i, hi with
  | 0, _ => exact h.sub [0, 1, 2, 3, 4, 5, 6, 27, 28, 7, 8, 9, 10, 11, 12, 13, 14, 15, 16, 17, 18, 19, 20, 21, 22, 23, 24, 25, 26] (by decide) rfl
  | 1, _ => exact h.sub [0, 1, 2, 3, 4, 5, 6, 7, 8, 27, 28, 9, 10, 11, 12, 13, 14, 15, 16, 17, 18, 19, 20, 21, 22, 23, 24, 25, 26] (by decide) rfl
  | 2, _ => exact h.sub [0, 1, 2, 3, 4, 5, 6, 7, 8, 9, 10, 27, 28, 11, 12, 13, 14, 15, 16, 17, 18, 19, 20, 21, 22, 23, 24, 25, 26] (by decide) rfl
  | 3, _ => exact h.sub [0, 1, 2, 3, 4, 5, 6, 7, 8, 9, 10, 11, 12, 27, 28, 13, 14, 15, 16, 17, 18, 19, 20, 21, 22, 23, 24, 25, 26] (by decide) rfl
theorem z_oiP {D : va_G} {q : Nat → ClassId} {aG aM aW : Nat → Nat} {aS aI : Nat → Nat → Nat} {sh : Nat → SSt} {im : Nat → ISt} {uW : WSt} {uM : MSt} {H : Heap} {i : Nat} (hi : i < 2) (h : va_P D vwCl (wZ aG aM aW aS aI q sh im ++ (wW aW aM q uW ++ wM aM q uM)) H) : va_P D vwCl (wV i aG aM aW aS aI q sh im ++ (wW aW aM q uW ++ (wM aM q uM ++ wI (aI i) q (im i)))) H := by
  match i, hi with
  | 0, _ => exact h.sub [0, 1, 2, 5, 6, 7, 8, 9, 10, 11, 12, 13, 14, 15, 16, 17, 18, 19, 20, 21, 22, 23, 24, 25, 26, 27, 28, 3, 4] rfl
  | 1, _ => exact h.sub [0, 1, 2, 3, 4, 7, 8, 9, 10, 11, 12, 13, 14, 15, 16, 17, 18, 19, 20, 21, 22, 23, 24, 25, 26, 27, 28, 5, 6] rfl
theorem z_oiD {q : Nat → ClassId} {aG aM aW : Nat → Nat} {aS aI : Nat → Nat → Nat} {sh : Nat → SSt} {im : Nat → ISt} {uW : WSt} {uM : MSt} {A : Nat → Prop} {i : Nat} (hi : i < 2) (h : va_D A (wZ aG aM aW aS aI q sh im ++ (wW aW aM q uW ++ wM aM q uM))) : va_D A (wV i aG aM aW aS aI q sh im ++ (wW aW aM q uW ++ (wM aM q uM ++ wI (aI i) q (im i)))) := by
  match i, hi with
  | 0, _ => exact h.sub [0, 1, 2, 5, 6, 7, 8, 9, 10, 11, 12, 13, 14, 15, 16, 17, 18, 19, 20, 21, 22, 23, 24, 25, 26, 27, 28, 3, 4] (by decide) rfl
  | 1, _ => exact h.sub [0, 1, 2, 3, 4, 7, 8, 9, 10, 11, 12, 13, 14, 15, 16, 17, 18, 19, 20, 21, 22, 23, 24, 25, 26, 27, 28, 5, 6] (by decide) rfl
theorem z_ciP {D : va_G} {q : Nat → ClassId} {aG aM aW : Nat → Nat} {aS aI : Nat → Nat → Nat} {sh : Nat → SSt} {im : Nat → ISt} {uW : WSt} {uM : MSt} {H : Heap} {i : Nat} (hi : i < 2) {u : ISt} (h : va_P D vwCl (wV i aG aM aW aS aI q sh im ++ (wW aW aM q uW ++ (wM aM q uM ++ wI (aI i) q u))) H) : va_P D vwCl (wZ aG aM aW aS aI q sh (va_up im i u) ++ (wW aW aM q uW ++ wM aM q uM)) H := by
  match i, hi with
  | 0, _ => exact h.sub [0, 1, 2, 27, 28, 3, 4, 5, 6, 7, 8, 9, 10, 11, 12, 13, 14, 15, 16, 17, 18, 19, 20, 21, 22, 23, 24, 25, 26] rfl
  | 1, _ => exact h.sub [0, 1, 2, 3, 4, 27, 28, 5, 6, 7, 8, 9, 10, 11, 12, 13, 14, 15, 16, 17, 18, 19, 20, 21, 22, 23, 24, 25, 26] rfl
theorem z_ciD {q : Nat → ClassId} {aG aM aW : Nat → Nat} {aS aI : Nat → Nat → Nat} {sh : Nat → SSt} {im : Nat → ISt} {uW : WSt} {uM : MSt} {A : Nat → Prop} {i : Nat} (hi : i < 2) {u : ISt} (h : va_D A (wV i aG aM aW aS aI q sh im ++ (wW aW aM q uW ++ (wM aM q uM ++ wI (aI i) q u)))) : va_D A (wZ aG aM aW aS aI q sh (va_up im i u) ++ (wW aW aM q uW ++ wM aM q uM)) := by
  match i, hi with
  | 0, _ => exact h.sub [0, 1, 2, 27, 28, 3, 4, 5, 6, 7, 8, 9, 10, 11, 12, 13, 14, 15, 16, 17, 18, 19, 20, 21, 22, 23, 24, 25, 26] (by decide) rfl
  | 1, _ => exact h.sub [0, 1, 2, 3, 4, 27, 28, 5, 6, 7, 8, 9, 10, 11, 12, 13, 14, 15, 16, 17, 18, 19, 20, 21, 22, 23, 24, 25, 26] (by decide) rfl
theorem z_ci0P {D : va_G} {q : Nat → ClassId} {aG aM aW : Nat → Nat} {aS aI : Nat → Nat → Nat} {sh : Nat → SSt} {im : Nat → ISt} {uW : WSt} {uM : MSt} {H : Heap} {i : Nat} (hi : i < 2) (h : va_P D vwCl (wV i aG aM aW aS aI q sh im ++ (wW aW aM q uW ++ (wM aM q uM ++ wI (aI i) q (im i)))) H) : va_P D vwCl (wZ aG aM aW aS aI q sh im ++ (wW aW aM q uW ++ wM aM q uM)) H := by
  match i, hi with
  | 0, _ => exact h.sub [0, 1, 2, 27, 28, 3, 4, 5, 6, 7, 8, 9, 10, 11, 12, 13, 14, 15, 16, 17, 18, 19, 20, 21, 22, 23, 24, 25, 26] rfl
  | 1, _ => exact h.sub [0, 1, 2, 3, 4, 27, 28, 5, 6, 7, 8, 9, 10, 11, 12, 13, 14, 15, 16, 17, 18, 19, 20, 21, 22, 23, 24, 25, 26] rfl
theorem z_ci0D {q : Nat → ClassId} {aG aM aW : Nat → Nat} {aS aI : Nat → Nat → Nat} {sh : Nat → SSt} {im : Nat → ISt} {uW : WSt} {uM : MSt} {A : Nat → Prop} {i : Nat} (hi : i < 2) (h : va_D A (wV i aG aM aW aS aI q sh im ++ (wW aW aM q uW ++ (wM aM q uM ++ wI (aI i) q (im i))))) : va_D A (wZ aG aM aW aS aI q sh im ++ (wW aW aM q uW ++ wM aM q uM)) := by
  match i, hi with
  | 0, _ => exact h.sub [0, 1, 2, 27, 28, 3, 4, 5, 6, 7, 8, 9, 10, 11, 12, 13, 14, 15, 16, 17, 18, 19, 20, 21, 22, 23, 24, 25, 26] (by decide) rfl
  | 1, _ => exact h.sub [0, 1, 2, 3, 4, 27, 28, 5, 6, 7, 8, 9, 10, 11, 12, 13, 14, 15, 16, 17, 18, 19, 20, 21, 22, 23, 24, 25, 26] (by decide) rfl
def rmX6_pageAt : Room := { frames := 0, cells := 0, slots := 0, locals := 0 }
theorem inX6_pageAt_X6 : ∀ w ∈ wsX60, w ∈ wsX6_pageAt := fun w h => List.mem_cons_of_mem _ (List.mem_append_right _ h)
set_option maxRecDepth 100000 in
set_option maxHeartbeats 4000000 in
theorem c_X6_pageAt (l : Launch) (D : va_G) (q : Nat → ClassId) (aG aM aW : Nat → Nat) (aS aI : Nat → Nat → Nat) (x1 : Int32) : Met l yX6_pageAt wsX6_pageAt rmX6_pageAt (va_Pc [.ref (aG 0), .int x1] (kP D q (wG aG aM aW aS aI q))) (va_Sq (fun r => ((x1 < 0 ∨ 4 ≤ x1) ∧ r = none) ∨ ∃ i : Nat, i < 4 ∧ x1 = nI i ∧ r = some (aS i 0))) 0 0 (fun _ => False) := by
  refine Met.ofW (cc := cX6_pageAt) (maxL := 2) (ret := (some (.object "GrowingText$Sheet"))) (by decide) rfl ?_
  intro p e s m args below meth c s₁ B hml hv
  obtain ⟨hargs, hP, hK, hD⟩ := hv
  have hx := B.exec
  have hb := B.bytes
  have hr := B.returns
  have hts := atoms_spec (ws := wsX6_pageAt) B.pre
  have hown : s.vm.findClass RX6 = some m.cls := findClass_of_methodNamed B.named
  have hlocks := B.notSynchronized
  refine k_entry hargs (Nat.le_of_ble_eq_true rfl) (fun ls hl => ?_)
  have hl : lv_has ls 2 [(0, .ref (aG 0)), (1, .int x1)] := hl
  refine lv_iload_n hx hb dX6_pageAt_0 rfl (lv_at hl 1 rfl) ?_
  refine lv_if_lt (tgt := 22) hx hb dX6_pageAt_1 (by decide) (fun c1 => ?_) (fun c1 => ?_)
  · refine lv_null hx hb dX6_pageAt_22 ?_
    exact k_aret hx hb hr hlocks (r := none) (Or.inl ⟨Or.inl c1, rfl⟩) dX6_pageAt_23
  refine lv_iload_n hx hb dX6_pageAt_4 rfl (lv_at hl 1 rfl) ?_
  refine lv_aload_n hx hb dX6_pageAt_5 rfl (lv_at hl 0 rfl) ?_
  refine va_get (D := D) (ci := 4) (v := .ref (aG 1)) (C := RX6) (T := TX6) (N := 4) hx hb hts inX6_pageAt_X6 hown hK hP 0 rfl rfl 2 (by decide) (hts (.fieldLink RX6 27 "GrowingText" "sheets" "[LGrowingText$Sheet;") (List.mem_of_getElem? (i := 1) rfl)) (fun _ h9 => h9) rfl dX6_pageAt_6 ?_
  refine va_alen hx hb hK hP 1 2 rfl rfl (v := 4) rfl dX6_pageAt_9 ?_
  refine lv_icmp_ge (tgt := 22) hx hb dX6_pageAt_10 (by decide) (fun c2 => ?_) (fun c2 => ?_)
  · refine lv_null hx hb dX6_pageAt_22 ?_
    exact k_aret hx hb hr hlocks (r := none) (Or.inl ⟨Or.inr c2, rfl⟩) dX6_pageAt_23
  have hin : vp_in x1 4 := k_in (by decide) c1 c2
  obtain ⟨i, hi, rfl⟩ := vp_in_of hin (by decide)
  refine lv_aload_n hx hb dX6_pageAt_13 rfl (lv_at hl 0 rfl) ?_
  refine va_get (D := D) (ci := 4) (v := .ref (aG 1)) (C := RX6) (T := TX6) (N := 4) hx hb hts inX6_pageAt_X6 hown hK hP 0 rfl rfl 2 (by decide) (hts (.fieldLink RX6 27 "GrowingText" "sheets" "[LGrowingText$Sheet;") (List.mem_of_getElem? (i := 1) rfl)) (fun _ h9 => h9) rfl dX6_pageAt_14 ?_
  refine lv_iload_n hx hb dX6_pageAt_17 rfl (lv_at hl 1 rfl) ?_
  refine va_aldq hx hb hK hP 1 2 rfl rfl hin dX6_pageAt_18 ?_
  refine lv_goto (tgt := 23) hx hb dX6_pageAt_19 (by decide) ?_
  rw [nI_clamp (show i < 2 ^ 31 by omega)]
  exact k_aret hx hb hr hlocks (r := some (aS i 0)) (Or.inr ⟨i, hi, rfl, rfl⟩) dX6_pageAt_23
def rmX6_imageAt : Room := { frames := 0, cells := 0, slots := 0, locals := 0 }
theorem inX6_imageAt_X6 : ∀ w ∈ wsX60, w ∈ wsX6_imageAt := fun w h => List.mem_cons_of_mem _ (List.mem_append_right _ h)
set_option maxRecDepth 100000 in
set_option maxHeartbeats 4000000 in
theorem c_X6_imageAt (l : Launch) (D : va_G) (q : Nat → ClassId) (aG aM aW : Nat → Nat) (aS aI : Nat → Nat → Nat) (x1 : Int32) : Met l yX6_imageAt wsX6_imageAt rmX6_imageAt (va_Pc [.ref (aG 0), .int x1] (kP D q (wG aG aM aW aS aI q))) (va_Sq (fun r => ((x1 < 0 ∨ 2 ≤ x1) ∧ r = none) ∨ ∃ i : Nat, i < 2 ∧ x1 = nI i ∧ r = some (aI i 0))) 0 0 (fun _ => False) := by
  refine Met.ofW (cc := cX6_imageAt) (maxL := 2) (ret := (some (.object "GrowingText$Image"))) (by decide) rfl ?_
  intro p e s m args below meth c s₁ B hml hv
  obtain ⟨hargs, hP, hK, hD⟩ := hv
  have hx := B.exec
  have hb := B.bytes
  have hr := B.returns
  have hts := atoms_spec (ws := wsX6_imageAt) B.pre
  have hown : s.vm.findClass RX6 = some m.cls := findClass_of_methodNamed B.named
  have hlocks := B.notSynchronized
  refine k_entry hargs (Nat.le_of_ble_eq_true rfl) (fun ls hl => ?_)
  have hl : lv_has ls 2 [(0, .ref (aG 0)), (1, .int x1)] := hl
  refine lv_iload_n hx hb dX6_imageAt_0 rfl (lv_at hl 1 rfl) ?_
  refine lv_if_lt (tgt := 22) hx hb dX6_imageAt_1 (by decide) (fun c1 => ?_) (fun c1 => ?_)
  · refine lv_null hx hb dX6_imageAt_22 ?_
    exact k_aret hx hb hr hlocks (r := none) (Or.inl ⟨Or.inl c1, rfl⟩) dX6_imageAt_23
  refine lv_iload_n hx hb dX6_imageAt_4 rfl (lv_at hl 1 rfl) ?_
  refine lv_aload_n hx hb dX6_imageAt_5 rfl (lv_at hl 0 rfl) ?_
  refine va_get (D := D) (ci := 4) (v := .ref (aG 2)) (C := RX6) (T := TX6) (N := 4) hx hb hts inX6_imageAt_X6 hown hK hP 0 rfl rfl 3 (by decide) (hts (.fieldLink RX6 34 "GrowingText" "images" "[LGrowingText$Image;") (List.mem_of_getElem? (i := 1) rfl)) (fun _ h9 => h9) rfl dX6_imageAt_6 ?_
  refine va_alen hx hb hK hP 2 3 rfl rfl (v := 2) rfl dX6_imageAt_9 ?_
  refine lv_icmp_ge (tgt := 22) hx hb dX6_imageAt_10 (by decide) (fun c2 => ?_) (fun c2 => ?_)
  · refine lv_null hx hb dX6_imageAt_22 ?_
    exact k_aret hx hb hr hlocks (r := none) (Or.inl ⟨Or.inr c2, rfl⟩) dX6_imageAt_23
  have hin : vp_in x1 2 := k_in (by decide) c1 c2
  obtain ⟨i, hi, rfl⟩ := vp_in_of hin (by decide)
  refine lv_aload_n hx hb dX6_imageAt_13 rfl (lv_at hl 0 rfl) ?_
  refine va_get (D := D) (ci := 4) (v := .ref (aG 2)) (C := RX6) (T := TX6) (N := 4) hx hb hts inX6_imageAt_X6 hown hK hP 0 rfl rfl 3 (by decide) (hts (.fieldLink RX6 34 "GrowingText" "images" "[LGrowingText$Image;") (List.mem_of_getElem? (i := 1) rfl)) (fun _ h9 => h9) rfl dX6_imageAt_14 ?_
  refine lv_iload_n hx hb dX6_imageAt_17 rfl (lv_at hl 1 rfl) ?_
  refine va_aldq hx hb hK hP 2 3 rfl rfl hin dX6_imageAt_18 ?_
  refine lv_goto (tgt := 23) hx hb dX6_imageAt_19 (by decide) ?_
  rw [nI_clamp (show i < 2 ^ 31 by omega)]
  exact k_aret hx hb hr hlocks (r := some (aI i 0)) (Or.inr ⟨i, hi, rfl, rfl⟩) dX6_imageAt_23
theorem k_zs {D : va_G} {q : Nat → ClassId} {aG aM aW : Nat → Nat} {aS aI : Nat → Nat → Nat} {sh : Nat → SSt} {im : Nat → ISt} {H : Heap} {i : Nat} (hi : i < 4) (h : va_P D vwCl (wZ aG aM aW aS aI q sh im) H) : va_P D vwCl (wS (aS i) q (sh i)) H := by
  match i, hi with
  | 0, _ => exact h.sub [7, 8] rfl
  | 1, _ => exact h.sub [9, 10] rfl
  | 2, _ => exact h.sub [11, 12] rfl
  | 3, _ => exact h.sub [13, 14] rfl
def cThere (sh : Nat → SSt) : Nat → Int32
  | 0 => 0
  | k + 1 => if gS_there (sh k) = 0 then cThere sh k else cThere sh k + 1
def rmX6_sheetsThere : Room := { frames := 0, cells := 0, slots := 0, locals := 0 }
theorem inX6_sheetsThere_X6 : ∀ w ∈ wsX60, w ∈ wsX6_sheetsThere := fun w h => List.mem_cons_of_mem _ (List.mem_append_left _ (List.mem_append_right _ h))
theorem inX6_sheetsThere_X4 : ∀ w ∈ wsX40, w ∈ wsX6_sheetsThere := fun w h => List.mem_cons_of_mem _ (List.mem_append_right _ h)
set_option maxRecDepth 100000 in
set_option maxHeartbeats 4000000 in
theorem c_X6_sheetsThere (l : Launch) (D : va_G) (q : Nat → ClassId) (aG aM aW : Nat → Nat) (aS aI : Nat → Nat → Nat) (sh : Nat → SSt) (im : Nat → ISt) : Met l yX6_sheetsThere wsX6_sheetsThere rmX6_sheetsThere (va_Pc [.ref (aG 0)] (kP D q (wZ aG aM aW aS aI q sh im))) (vp_Si (fun r => r = cThere sh 4)) 0 0 (fun _ => False) := by
  refine Met.ofW (cc := cX6_sheetsThere) (maxL := 3) (ret := (some .int)) (by decide) rfl ?_
  intro p e s m args below meth c s₁ B hml hv
  obtain ⟨hargs, hP, hK, hD⟩ := hv
  have hx := B.exec
  have hb := B.bytes
  have hr := B.returns
  have hts := atoms_spec (ws := wsX6_sheetsThere) B.pre
  have hown : s.vm.findClass RX6 = some m.cls := findClass_of_methodNamed B.named
  have hlocks := B.notSynchronized
  refine k_entry hargs (Nat.le_of_ble_eq_true rfl) (fun ls hl => ?_)
  have hl : lv_has ls 3 [(0, .ref (aG 0))] := hl
  change W p l e rmX6_sheetsThere s m args below meth c s.heap [] 0 0 (MQ below (vp_Si (fun r => r = cThere sh 4)) args s 0 0 (fun _ => False)) _
  have loop : ∀ (n i : Nat), i + n = 4 → ∀ ls : Array Slot, lv_has ls 3 [(0, .ref (aG 0)), (1, .int (cThere sh i)), (2, .int (nI i))] → W p l e rmX6_sheetsThere s m args below meth c s.heap [] 0 0 (MQ below (vp_Si (fun r => r = cThere sh 4)) args s 0 0 (fun _ => False)) (F0 m 4 ls []) := by
    intro n
    induction n with
    | zero =>
      intro i hin ls hl
      have hi : i = 4 := by omega
      subst hi
      refine lv_iload_n hx hb dX6_sheetsThere_4 rfl (lv_at hl 2 rfl) ?_
      refine lv_aload_n hx hb dX6_sheetsThere_5 rfl (lv_at hl 0 rfl) ?_
      refine va_get (D := D) (ci := 4) (v := .ref (aG 1)) (C := RX6) (T := TX6) (N := 4) hx hb hts inX6_sheetsThere_X6 hown hK hP 0 rfl rfl 2 (by decide) (hts (.fieldLink RX6 27 "GrowingText" "sheets" "[LGrowingText$Sheet;") (List.mem_of_getElem? (i := 1) rfl)) (fun _ h9 => h9) rfl dX6_sheetsThere_6 ?_
      refine va_alen hx hb hK hP 1 2 rfl rfl (v := 4) rfl dX6_sheetsThere_9 ?_
      refine lv_icmp_ge (tgt := 43) hx hb dX6_sheetsThere_10 (by decide) (fun c1 => ?_) (fun c1 => ?_)
      · refine lv_iload_n hx hb dX6_sheetsThere_43 rfl (lv_at hl 1 rfl) ?_
        exact k_iret_r (v := cThere sh 4) hx hb hr hlocks rfl dX6_sheetsThere_44
      · exact absurd (show (4 : Int32) ≤ nI 4 by decide) c1
    | succ n ih =>
      intro i hin ls hl
      have hi : i < 4 := by omega
      have hvin : vp_in (nI i) 4 := vp_in_nI hi (by decide)
      refine lv_iload_n hx hb dX6_sheetsThere_4 rfl (lv_at hl 2 rfl) ?_
      refine lv_aload_n hx hb dX6_sheetsThere_5 rfl (lv_at hl 0 rfl) ?_
      refine va_get (D := D) (ci := 4) (v := .ref (aG 1)) (C := RX6) (T := TX6) (N := 4) hx hb hts inX6_sheetsThere_X6 hown hK hP 0 rfl rfl 2 (by decide) (hts (.fieldLink RX6 27 "GrowingText" "sheets" "[LGrowingText$Sheet;") (List.mem_of_getElem? (i := 1) rfl)) (fun _ h9 => h9) rfl dX6_sheetsThere_6 ?_
      refine va_alen hx hb hK hP 1 2 rfl rfl (v := 4) rfl dX6_sheetsThere_9 ?_
      refine lv_icmp_ge (tgt := 43) hx hb dX6_sheetsThere_10 (by decide) (fun c1 => ?_) (fun c1 => ?_)
      · exact absurd c1 (nI_ge (b := 4) hi (by decide))
      refine lv_aload_n hx hb dX6_sheetsThere_13 rfl (lv_at hl 0 rfl) ?_
      refine va_get (D := D) (ci := 4) (v := .ref (aG 1)) (C := RX6) (T := TX6) (N := 4) hx hb hts inX6_sheetsThere_X6 hown hK hP 0 rfl rfl 2 (by decide) (hts (.fieldLink RX6 27 "GrowingText" "sheets" "[LGrowingText$Sheet;") (List.mem_of_getElem? (i := 1) rfl)) (fun _ h9 => h9) rfl dX6_sheetsThere_14 ?_
      refine lv_iload_n hx hb dX6_sheetsThere_17 rfl (lv_at hl 2 rfl) ?_
      refine va_aldq hx hb hK hP 1 2 rfl rfl hvin dX6_sheetsThere_18 ?_
      rw [nI_clamp (show i < 2 ^ 31 by omega)]
      refine lv_ifnull (x := aS i 0) hx hb dX6_sheetsThere_19 ?_
      refine lv_aload_n hx hb dX6_sheetsThere_22 rfl (lv_at hl 0 rfl) ?_
      refine va_get (D := D) (ci := 4) (v := .ref (aG 1)) (C := RX6) (T := TX6) (N := 4) hx hb hts inX6_sheetsThere_X6 hown hK hP 0 rfl rfl 2 (by decide) (hts (.fieldLink RX6 27 "GrowingText" "sheets" "[LGrowingText$Sheet;") (List.mem_of_getElem? (i := 1) rfl)) (fun _ h9 => h9) rfl dX6_sheetsThere_23 ?_
      refine lv_iload_n hx hb dX6_sheetsThere_26 rfl (lv_at hl 2 rfl) ?_
      refine va_aldq hx hb hK hP 1 2 rfl rfl hvin dX6_sheetsThere_27 ?_
      rw [nI_clamp (show i < 2 ^ 31 by omega)]
      refine va_get (a := aS i 0) (D := D) (ci := 2) (v := .int (gS_there (sh i))) (C := RX4) (T := TX4) (N := 3) hx hb hts inX6_sheetsThere_X4 hown hK (k_zs hi hP) 0 rfl rfl 1 (by decide) (hts (.fieldLink RX6 64 "GrowingText$Sheet" "there" "Z") (List.mem_of_getElem? (i := 2) rfl)) (fun _ h9 => h9) rfl dX6_sheetsThere_28 ?_
      refine lv_if_eq (tgt := 37) hx hb dX6_sheetsThere_31 (by decide) (fun c2 => ?_) (fun c2 => ?_)
      · refine lv_iinc (v := nI (i + 1)) (lv' := [(2, .int (nI (i + 1))), (0, .ref (aG 0)), (1, .int (cThere sh i))]) hx hb dX6_sheetsThere_37 hl (k := 2) rfl (nI_1 i) (by decide) rfl (fun ls hl => ?_)
        refine lv_goto (tgt := 4) hx hb dX6_sheetsThere_40 (by decide) ?_
        refine ih (i + 1) (by omega) ls ?_
        rw [show cThere sh (i + 1) = cThere sh i from if_pos c2]
        exact lv_sub hl [1, 2, 0] rfl
      · refine lv_iinc (v := cThere sh i + 1) (lv' := [(1, .int (cThere sh i + 1)), (0, .ref (aG 0)), (2, .int (nI i))]) hx hb dX6_sheetsThere_34 hl (k := 1) rfl rfl (by decide) rfl (fun ls hl => ?_)
        refine lv_iinc (v := nI (i + 1)) (lv' := [(2, .int (nI (i + 1))), (1, .int (cThere sh i + 1)), (0, .ref (aG 0))]) hx hb dX6_sheetsThere_37 hl (k := 2) rfl (nI_1 i) (by decide) rfl (fun ls hl => ?_)
        refine lv_goto (tgt := 4) hx hb dX6_sheetsThere_40 (by decide) ?_
        refine ih (i + 1) (by omega) ls ?_
        rw [show cThere sh (i + 1) = cThere sh i + 1 from if_neg c2]
        exact lv_sub hl [2, 1, 0] rfl
  refine lv_iconst (v := 0) hx hb dX6_sheetsThere_0 (by decide) ?_
  refine lv_istore_n (lv' := [(1, .int 0), (0, .ref (aG 0))]) hx hb dX6_sheetsThere_1 rfl hl (by decide) rfl (fun ls hl => ?_)
  refine lv_iconst (v := 0) hx hb dX6_sheetsThere_2 (by decide) ?_
  refine lv_istore_n (lv' := [(2, .int 0), (1, .int 0), (0, .ref (aG 0))]) hx hb dX6_sheetsThere_3 rfl hl (by decide) rfl (fun ls hl => ?_)
  exact loop 4 0 rfl ls (lv_sub hl [2, 1, 0] rfl)
