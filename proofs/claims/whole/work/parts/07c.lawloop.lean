theorem wl {w : Cond} (i : Nat) (h : wsL_law[i]? = some w) : w ∈ wsL_law := List.mem_of_getElem? h
theorem k_sw33 {x : Int32} (h0 : ¬ x = 0) (h1 : ¬ x = 1) (h2 : ¬ x = 2) (h3 : ¬ x = 3) (h4 : ¬ x = 4) (h5 : ¬ x = 5) (h6 : ¬ x = 6) (h7 : ¬ x = 7) (h8 : ¬ x = 8) (h9 : ¬ x = 9) (h10 : ¬ x = 10) (h11 : ¬ x = 11) (h12 : ¬ x = 12) (h13 : ¬ x = 13) (h14 : ¬ x = 14) (h15 : ¬ x = 15) (h16 : ¬ x = 16) (h17 : ¬ x = 17) (h18 : ¬ x = 18) (h19 : ¬ x = 19) (h20 : ¬ x = 20) (h21 : ¬ x = 21) (h22 : ¬ x = 22) (h23 : ¬ x = 23) (h24 : ¬ x = 24) (h25 : ¬ x = 25) (h26 : ¬ x = 26) (h27 : ¬ x = 27) (h28 : ¬ x = 28) (h29 : ¬ x = 29) (h30 : ¬ x = 30) (h31 : ¬ x = 31) (h32 : ¬ x = 32) (h33 : ¬ x = 33) : x.toInt < 0 ∨ 33 < x.toInt := by
  have e : ∀ k : Int32, x.toInt = k.toInt → x = k := fun k h => Int32.toInt_inj.mp h
  have g0 : x.toInt ≠ 0 := fun h => h0 (e 0 (h.trans (by decide)))
  have g1 : x.toInt ≠ 1 := fun h => h1 (e 1 (h.trans (by decide)))
  have g2 : x.toInt ≠ 2 := fun h => h2 (e 2 (h.trans (by decide)))
  have g3 : x.toInt ≠ 3 := fun h => h3 (e 3 (h.trans (by decide)))
  have g4 : x.toInt ≠ 4 := fun h => h4 (e 4 (h.trans (by decide)))
  have g5 : x.toInt ≠ 5 := fun h => h5 (e 5 (h.trans (by decide)))
  have g6 : x.toInt ≠ 6 := fun h => h6 (e 6 (h.trans (by decide)))
  have g7 : x.toInt ≠ 7 := fun h => h7 (e 7 (h.trans (by decide)))
  have g8 : x.toInt ≠ 8 := fun h => h8 (e 8 (h.trans (by decide)))
  have g9 : x.toInt ≠ 9 := fun h => h9 (e 9 (h.trans (by decide)))
  have g10 : x.toInt ≠ 10 := fun h => h10 (e 10 (h.trans (by decide)))
  have g11 : x.toInt ≠ 11 := fun h => h11 (e 11 (h.trans (by decide)))
  have g12 : x.toInt ≠ 12 := fun h => h12 (e 12 (h.trans (by decide)))
  have g13 : x.toInt ≠ 13 := fun h => h13 (e 13 (h.trans (by decide)))
  have g14 : x.toInt ≠ 14 := fun h => h14 (e 14 (h.trans (by decide)))
  have g15 : x.toInt ≠ 15 := fun h => h15 (e 15 (h.trans (by decide)))
  have g16 : x.toInt ≠ 16 := fun h => h16 (e 16 (h.trans (by decide)))
  have g17 : x.toInt ≠ 17 := fun h => h17 (e 17 (h.trans (by decide)))
  have g18 : x.toInt ≠ 18 := fun h => h18 (e 18 (h.trans (by decide)))
  have g19 : x.toInt ≠ 19 := fun h => h19 (e 19 (h.trans (by decide)))
  have g20 : x.toInt ≠ 20 := fun h => h20 (e 20 (h.trans (by decide)))
  have g21 : x.toInt ≠ 21 := fun h => h21 (e 21 (h.trans (by decide)))
  have g22 : x.toInt ≠ 22 := fun h => h22 (e 22 (h.trans (by decide)))
  have g23 : x.toInt ≠ 23 := fun h => h23 (e 23 (h.trans (by decide)))
  have g24 : x.toInt ≠ 24 := fun h => h24 (e 24 (h.trans (by decide)))
  have g25 : x.toInt ≠ 25 := fun h => h25 (e 25 (h.trans (by decide)))
  have g26 : x.toInt ≠ 26 := fun h => h26 (e 26 (h.trans (by decide)))
  have g27 : x.toInt ≠ 27 := fun h => h27 (e 27 (h.trans (by decide)))
  have g28 : x.toInt ≠ 28 := fun h => h28 (e 28 (h.trans (by decide)))
  have g29 : x.toInt ≠ 29 := fun h => h29 (e 29 (h.trans (by decide)))
  have g30 : x.toInt ≠ 30 := fun h => h30 (e 30 (h.trans (by decide)))
  have g31 : x.toInt ≠ 31 := fun h => h31 (e 31 (h.trans (by decide)))
  have g32 : x.toInt ≠ 32 := fun h => h32 (e 32 (h.trans (by decide)))
  have g33 : x.toInt ≠ 33 := fun h => h33 (e 33 (h.trans (by decide)))
  omega
theorem law_in {L i : Nat} (hL : L ≤ 2048) (hi : i ≤ 4096) (h : ¬ (nI L - 4 < nI i)) : i + 4 ≤ L := by
  rcases Nat.lt_or_ge L (i + 4) with h1 | h1
  · refine absurd ?_ h
    have e : (nI L - nI 4).toInt = (L : Int) - (4 : Nat) := pk_sub_toInt (by omega) (by omega)
    have e4 : (4 : Int32) = nI 4 := by decide
    rw [Int32.lt_iff_toInt_lt, e4, e, nI_toInt (by omega)]
    omega
  · exact h1
theorem law_st {L i k : Nat} (hL : L ≤ 2048) (h : i + 4 ≤ L) (hk : k < 4) : vp_in (nI i + nI k) L := by
  rw [nI_add]
  exact vp_in_nI (by omega) (by omega)
set_option maxRecDepth 100000 in
set_option maxHeartbeats 4000000 in
theorem law_0 (Rel : CSt → RSt → Prop) (hs : LS0 Rel) {p : Program} {l : Launch} {e : Env} {s : State} {m : MethodId} {below : List Frame} {meth : Method} {c : Code} {D : va_G} {q : Nat → ClassId} {aG aM aW aR : Nat → Nat} {aS aI : Nat → Nat → Nat} {b L : Nat} {xs : Nat → Int32} (hL : L ≤ 2048) (C0 : lw_At p s m meth c b L xs) (hK : va_K D vwCl (kT q) s) {i : Nat} (hi : i + 4 ≤ L) {g : CSt} {r : RSt} (hrel : Rel g r) {H : Heap} {locs : List Loc} (hP : va_P D vwCl (wX aG aM aW aS aI q g ++ wR aR q r) H) (hD : va_D (fun q : Nat => s.heap.size ≤ q) (wX aG aM aW aS aI q g ++ wR aR q r)) (hS : va_S (fun q : Nat => s.heap.size ≤ q) s.heap H locs) {ls : Array Slot} (hl : lv_has ls 4 [(0, .ref b), (1, .ref (aG 0)), (2, .ref (aR 0)), (3, .int (nI i))]) (next : ∀ (g : CSt) (r : RSt), Rel g r → ∀ (H : Heap) (locs : List Loc), va_P D vwCl (wX aG aM aW aS aI q g ++ wR aR q r) H → va_D (fun q : Nat => s.heap.size ≤ q) (wX aG aM aW aS aI q g ++ wR aR q r) → va_S (fun q : Nat => s.heap.size ≤ q) s.heap H locs → ∀ (ls : Array Slot), lv_has ls 4 [(0, .ref b), (1, .ref (aG 0)), (2, .ref (aR 0)), (3, .int (nI i))] → W p l e room_1 s m #[Value.ref b] below meth c H locs 41 3182 (lw_Z below #[Value.ref b] s) (F0 m 1076 ls [])) : W p l e room_1 s m #[Value.ref b] below meth c H locs 41 3182 (lw_Z below #[Value.ref b] s) (F0 m 184 ls []) := by
  obtain ⟨hx, hb, hr, hml, hown, hts, hX, hbl, hlocks, hgv⟩ := C0
  have hts : ∀ w ∈ wsL_law, w.before #[Value.ref b] s = true := fun w h => hts w (wsL_law_in w h)
  have hbA : ¬ (fun q : Nat => s.heap.size ≤ q) b := Nat.not_le.mpr hbl
  have hf := hs g r (xs (nI i + 1).toNatClampNeg) hrel
  refine lv_aload_n hx hb dL_law_184 rfl (lv_at hl 1 rfl) ?_
  refine lv_aload_n hx hb dL_law_185 rfl (lv_at hl 0 rfl) ?_
  refine lv_iload_n hx hb dL_law_186 rfl (lv_at hl 3 rfl) ?_
  refine lv_iconst (v := 1) hx hb dL_law_187 (by decide) ?_
  refine lv_iadd hx hb dL_law_188 ?_
  refine va_sld hx hb hX hbl hbA hS (law_st (k := 1) hL hi (by decide)) dL_law_189 ?_
  refine k_wi (wf := fun u => wX aG aM aW aS aI q u) (u0 := g) (k_runV (As := [.int (xs (nI i + 1).toNatClampNeg)]) (rest := []) ⟨hx, hb, hml, hown, hts⟩ (c_X6_begin l D q aG aM aW aS aI g.1 g.2.1 g.2.2.1 g.2.2.2 (xs (nI i + 1).toNatClampNeg) _ hf) (cwV 1 hts gL_law_X6_begin rfl rfl rfl cdX6_begin ⟨Nat.le_of_ble_eq_true rfl, Nat.le_of_ble_eq_true rfl⟩) hK (kp_l hP) (kd_l hD) 0 rfl rfl rfl hl.1 rfl (Nat.le_of_ble_eq_true rfl) dL_law_190 ⟨Nat.le_of_ble_eq_true rfl, Nat.le_of_ble_eq_true rfl⟩) ([]) (wR aR q r) (fun _ => rfl) hP hD hS (fun a g' H locs hf hP hD hS => ?_)
  have hP : va_P D vwCl (wX aG aM aW aS aI q g' ++ wR aR q r) H := hP
  have hD : va_D (fun q : Nat => s.heap.size ≤ q) (wX aG aM aW aS aI q g' ++ wR aR q r) := hD
  refine lv_aload_n hx hb dL_law_193 rfl (lv_at hl 2 rfl) ?_
  refine lv_aload_n hx hb dL_law_194 rfl (lv_at hl 0 rfl) ?_
  refine lv_iload_n hx hb dL_law_195 rfl (lv_at hl 3 rfl) ?_
  refine lv_iconst (v := 1) hx hb dL_law_196 (by decide) ?_
  refine lv_iadd hx hb dL_law_197 ?_
  refine va_sld hx hb hX hbl hbA hS (law_st (k := 1) hL hi (by decide)) dL_law_198 ?_
  refine k_wi (wf := fun u => wR aR q u) (u0 := r) (k_runV (As := [.int (xs (nI i + 1).toNatClampNeg)]) (rest := [.int a]) ⟨hx, hb, hml, hown, hts⟩ (c_X7_begin l D q aR r (xs (nI i + 1).toNatClampNeg) _ hf) (cwV 1 hts gL_law_X7_begin rfl rfl rfl cdX7_begin ⟨Nat.le_of_ble_eq_true rfl, Nat.le_of_ble_eq_true rfl⟩) hK (kp_r hP) (kd_r hD) 0 rfl rfl rfl hl.1 rfl (Nat.le_of_ble_eq_true rfl) dL_law_199 ⟨Nat.le_of_ble_eq_true rfl, Nat.le_of_ble_eq_true rfl⟩) (wX aG aM aW aS aI q g') ([]) (fun _ => rfl) hP hD hS (fun b' r' H locs hf hP hD hS => ?_)
  have hP : va_P D vwCl (wX aG aM aW aS aI q g' ++ wR aR q r') H := hP
  have hD : va_D (fun q : Nat => s.heap.size ≤ q) (wX aG aM aW aS aI q g' ++ wR aR q r') := hD
  refine lv_icmp_eq (tgt := 1076) hx hb dL_law_202 (by decide) (fun c1 => ?_) (fun c1 => absurd hf.1 c1)
  exact next g' r' hf.2 H locs hP hD hS ls hl
set_option maxRecDepth 100000 in
set_option maxHeartbeats 4000000 in
theorem law_1 (Rel : CSt → RSt → Prop) (hs : LS1 Rel) {p : Program} {l : Launch} {e : Env} {s : State} {m : MethodId} {below : List Frame} {meth : Method} {c : Code} {D : va_G} {q : Nat → ClassId} {aG aM aW aR : Nat → Nat} {aS aI : Nat → Nat → Nat} {b L : Nat} {xs : Nat → Int32} (hL : L ≤ 2048) (C0 : lw_At p s m meth c b L xs) (hK : va_K D vwCl (kT q) s) {i : Nat} (hi : i + 4 ≤ L) {g : CSt} {r : RSt} (hrel : Rel g r) {H : Heap} {locs : List Loc} (hP : va_P D vwCl (wX aG aM aW aS aI q g ++ wR aR q r) H) (hD : va_D (fun q : Nat => s.heap.size ≤ q) (wX aG aM aW aS aI q g ++ wR aR q r)) (hS : va_S (fun q : Nat => s.heap.size ≤ q) s.heap H locs) {ls : Array Slot} (hl : lv_has ls 4 [(0, .ref b), (1, .ref (aG 0)), (2, .ref (aR 0)), (3, .int (nI i))]) (next : ∀ (g : CSt) (r : RSt), Rel g r → ∀ (H : Heap) (locs : List Loc), va_P D vwCl (wX aG aM aW aS aI q g ++ wR aR q r) H → va_D (fun q : Nat => s.heap.size ≤ q) (wX aG aM aW aS aI q g ++ wR aR q r) → va_S (fun q : Nat => s.heap.size ≤ q) s.heap H locs → ∀ (ls : Array Slot), lv_has ls 4 [(0, .ref b), (1, .ref (aG 0)), (2, .ref (aR 0)), (3, .int (nI i))] → W p l e room_1 s m #[Value.ref b] below meth c H locs 41 3182 (lw_Z below #[Value.ref b] s) (F0 m 1076 ls [])) : W p l e room_1 s m #[Value.ref b] below meth c H locs 41 3182 (lw_Z below #[Value.ref b] s) (F0 m 207 ls []) := by
  obtain ⟨hx, hb, hr, hml, hown, hts, hX, hbl, hlocks, hgv⟩ := C0
  have hts : ∀ w ∈ wsL_law, w.before #[Value.ref b] s = true := fun w h => hts w (wsL_law_in w h)
  have hbA : ¬ (fun q : Nat => s.heap.size ≤ q) b := Nat.not_le.mpr hbl
  have hf := hs g r (xs (nI i + 1).toNatClampNeg) hrel
  refine lv_aload_n hx hb dL_law_207 rfl (lv_at hl 1 rfl) ?_
  refine lv_aload_n hx hb dL_law_208 rfl (lv_at hl 0 rfl) ?_
  refine lv_iload_n hx hb dL_law_209 rfl (lv_at hl 3 rfl) ?_
  refine lv_iconst (v := 1) hx hb dL_law_210 (by decide) ?_
  refine lv_iadd hx hb dL_law_211 ?_
  refine va_sld hx hb hX hbl hbA hS (law_st (k := 1) hL hi (by decide)) dL_law_212 ?_
  refine k_wi (wf := fun u => wX aG aM aW aS aI q u) (u0 := g) (k_runV (As := [.int (xs (nI i + 1).toNatClampNeg)]) (rest := []) ⟨hx, hb, hml, hown, hts⟩ (c_X6_grow l D q aG aM aW aS aI g.1 g.2.1 g.2.2.1 g.2.2.2 (xs (nI i + 1).toNatClampNeg) _ hf) (cwV 1 hts gL_law_X6_grow rfl rfl rfl cdX6_grow ⟨Nat.le_of_ble_eq_true rfl, Nat.le_of_ble_eq_true rfl⟩) hK (kp_l hP) (kd_l hD) 0 rfl rfl rfl hl.1 rfl (Nat.le_of_ble_eq_true rfl) dL_law_213 ⟨Nat.le_of_ble_eq_true rfl, Nat.le_of_ble_eq_true rfl⟩) ([]) (wR aR q r) (fun _ => rfl) hP hD hS (fun a g' H locs hf hP hD hS => ?_)
  have hP : va_P D vwCl (wX aG aM aW aS aI q g' ++ wR aR q r) H := hP
  have hD : va_D (fun q : Nat => s.heap.size ≤ q) (wX aG aM aW aS aI q g' ++ wR aR q r) := hD
  refine lv_aload_n hx hb dL_law_216 rfl (lv_at hl 2 rfl) ?_
  refine lv_aload_n hx hb dL_law_217 rfl (lv_at hl 0 rfl) ?_
  refine lv_iload_n hx hb dL_law_218 rfl (lv_at hl 3 rfl) ?_
  refine lv_iconst (v := 1) hx hb dL_law_219 (by decide) ?_
  refine lv_iadd hx hb dL_law_220 ?_
  refine va_sld hx hb hX hbl hbA hS (law_st (k := 1) hL hi (by decide)) dL_law_221 ?_
  refine k_wi (wf := fun u => wR aR q u) (u0 := r) (k_runV (As := [.int (xs (nI i + 1).toNatClampNeg)]) (rest := [.int a]) ⟨hx, hb, hml, hown, hts⟩ (c_X7_grow l D q aR r (xs (nI i + 1).toNatClampNeg) _ hf) (cwV 1 hts gL_law_X7_grow rfl rfl rfl cdX7_grow ⟨Nat.le_of_ble_eq_true rfl, Nat.le_of_ble_eq_true rfl⟩) hK (kp_r hP) (kd_r hD) 0 rfl rfl rfl hl.1 rfl (Nat.le_of_ble_eq_true rfl) dL_law_222 ⟨Nat.le_of_ble_eq_true rfl, Nat.le_of_ble_eq_true rfl⟩) (wX aG aM aW aS aI q g') ([]) (fun _ => rfl) hP hD hS (fun b' r' H locs hf hP hD hS => ?_)
  have hP : va_P D vwCl (wX aG aM aW aS aI q g' ++ wR aR q r') H := hP
  have hD : va_D (fun q : Nat => s.heap.size ≤ q) (wX aG aM aW aS aI q g' ++ wR aR q r') := hD
  refine lv_icmp_eq (tgt := 1076) hx hb dL_law_225 (by decide) (fun c1 => ?_) (fun c1 => absurd hf.1 c1)
  exact next g' r' hf.2 H locs hP hD hS ls hl
set_option maxRecDepth 100000 in
set_option maxHeartbeats 4000000 in
theorem law_2 (Rel : CSt → RSt → Prop) (hs : LS2 Rel) {p : Program} {l : Launch} {e : Env} {s : State} {m : MethodId} {below : List Frame} {meth : Method} {c : Code} {D : va_G} {q : Nat → ClassId} {aG aM aW aR : Nat → Nat} {aS aI : Nat → Nat → Nat} {b L : Nat} {xs : Nat → Int32} (hL : L ≤ 2048) (C0 : lw_At p s m meth c b L xs) (hK : va_K D vwCl (kT q) s) {i : Nat} (hi : i + 4 ≤ L) {g : CSt} {r : RSt} (hrel : Rel g r) {H : Heap} {locs : List Loc} (hP : va_P D vwCl (wX aG aM aW aS aI q g ++ wR aR q r) H) (hD : va_D (fun q : Nat => s.heap.size ≤ q) (wX aG aM aW aS aI q g ++ wR aR q r)) (hS : va_S (fun q : Nat => s.heap.size ≤ q) s.heap H locs) {ls : Array Slot} (hl : lv_has ls 4 [(0, .ref b), (1, .ref (aG 0)), (2, .ref (aR 0)), (3, .int (nI i))]) (next : ∀ (g : CSt) (r : RSt), Rel g r → ∀ (H : Heap) (locs : List Loc), va_P D vwCl (wX aG aM aW aS aI q g ++ wR aR q r) H → va_D (fun q : Nat => s.heap.size ≤ q) (wX aG aM aW aS aI q g ++ wR aR q r) → va_S (fun q : Nat => s.heap.size ≤ q) s.heap H locs → ∀ (ls : Array Slot), lv_has ls 4 [(0, .ref b), (1, .ref (aG 0)), (2, .ref (aR 0)), (3, .int (nI i))] → W p l e room_1 s m #[Value.ref b] below meth c H locs 41 3182 (lw_Z below #[Value.ref b] s) (F0 m 1076 ls [])) : W p l e room_1 s m #[Value.ref b] below meth c H locs 41 3182 (lw_Z below #[Value.ref b] s) (F0 m 230 ls []) := by
  obtain ⟨hx, hb, hr, hml, hown, hts, hX, hbl, hlocks, hgv⟩ := C0
  have hts : ∀ w ∈ wsL_law, w.before #[Value.ref b] s = true := fun w h => hts w (wsL_law_in w h)
  have hbA : ¬ (fun q : Nat => s.heap.size ≤ q) b := Nat.not_le.mpr hbl
  have hf := hs g r (xs (nI i + 1).toNatClampNeg) hrel
  refine lv_aload_n hx hb dL_law_230 rfl (lv_at hl 1 rfl) ?_
  refine lv_aload_n hx hb dL_law_231 rfl (lv_at hl 0 rfl) ?_
  refine lv_iload_n hx hb dL_law_232 rfl (lv_at hl 3 rfl) ?_
  refine lv_iconst (v := 1) hx hb dL_law_233 (by decide) ?_
  refine lv_iadd hx hb dL_law_234 ?_
  refine va_sld hx hb hX hbl hbA hS (law_st (k := 1) hL hi (by decide)) dL_law_235 ?_
  refine k_wi (wf := fun u => wX aG aM aW aS aI q u) (u0 := g) (k_runV (As := [.int (xs (nI i + 1).toNatClampNeg)]) (rest := []) ⟨hx, hb, hml, hown, hts⟩ (c_X6_growBy l D q aG aM aW aS aI g.1 g.2.1 g.2.2.1 g.2.2.2 (xs (nI i + 1).toNatClampNeg) _ hf) (cwV 1 hts gL_law_X6_growBy rfl rfl rfl cdX6_growBy ⟨Nat.le_of_ble_eq_true rfl, Nat.le_of_ble_eq_true rfl⟩) hK (kp_l hP) (kd_l hD) 0 rfl rfl rfl hl.1 rfl (Nat.le_of_ble_eq_true rfl) dL_law_236 ⟨Nat.le_of_ble_eq_true rfl, Nat.le_of_ble_eq_true rfl⟩) ([]) (wR aR q r) (fun _ => rfl) hP hD hS (fun a g' H locs hf hP hD hS => ?_)
  have hP : va_P D vwCl (wX aG aM aW aS aI q g' ++ wR aR q r) H := hP
  have hD : va_D (fun q : Nat => s.heap.size ≤ q) (wX aG aM aW aS aI q g' ++ wR aR q r) := hD
  refine lv_aload_n hx hb dL_law_239 rfl (lv_at hl 2 rfl) ?_
  refine lv_aload_n hx hb dL_law_240 rfl (lv_at hl 0 rfl) ?_
  refine lv_iload_n hx hb dL_law_241 rfl (lv_at hl 3 rfl) ?_
  refine lv_iconst (v := 1) hx hb dL_law_242 (by decide) ?_
  refine lv_iadd hx hb dL_law_243 ?_
  refine va_sld hx hb hX hbl hbA hS (law_st (k := 1) hL hi (by decide)) dL_law_244 ?_
  refine k_wi (wf := fun u => wR aR q u) (u0 := r) (k_runV (As := [.int (xs (nI i + 1).toNatClampNeg)]) (rest := [.int a]) ⟨hx, hb, hml, hown, hts⟩ (c_X7_growBy l D q aR r (xs (nI i + 1).toNatClampNeg) _ hf) (cwV 1 hts gL_law_X7_growBy rfl rfl rfl cdX7_growBy ⟨Nat.le_of_ble_eq_true rfl, Nat.le_of_ble_eq_true rfl⟩) hK (kp_r hP) (kd_r hD) 0 rfl rfl rfl hl.1 rfl (Nat.le_of_ble_eq_true rfl) dL_law_245 ⟨Nat.le_of_ble_eq_true rfl, Nat.le_of_ble_eq_true rfl⟩) (wX aG aM aW aS aI q g') ([]) (fun _ => rfl) hP hD hS (fun b' r' H locs hf hP hD hS => ?_)
  have hP : va_P D vwCl (wX aG aM aW aS aI q g' ++ wR aR q r') H := hP
  have hD : va_D (fun q : Nat => s.heap.size ≤ q) (wX aG aM aW aS aI q g' ++ wR aR q r') := hD
  refine lv_icmp_eq (tgt := 1076) hx hb dL_law_248 (by decide) (fun c1 => ?_) (fun c1 => absurd hf.1 c1)
  exact next g' r' hf.2 H locs hP hD hS ls hl
set_option maxRecDepth 100000 in
set_option maxHeartbeats 4000000 in
theorem law_3 (Rel : CSt → RSt → Prop) (hs : LS3 Rel) {p : Program} {l : Launch} {e : Env} {s : State} {m : MethodId} {below : List Frame} {meth : Method} {c : Code} {D : va_G} {q : Nat → ClassId} {aG aM aW aR : Nat → Nat} {aS aI : Nat → Nat → Nat} {b L : Nat} {xs : Nat → Int32} (hL : L ≤ 2048) (C0 : lw_At p s m meth c b L xs) (hK : va_K D vwCl (kT q) s) {i : Nat} (hi : i + 4 ≤ L) {g : CSt} {r : RSt} (hrel : Rel g r) {H : Heap} {locs : List Loc} (hP : va_P D vwCl (wX aG aM aW aS aI q g ++ wR aR q r) H) (hD : va_D (fun q : Nat => s.heap.size ≤ q) (wX aG aM aW aS aI q g ++ wR aR q r)) (hS : va_S (fun q : Nat => s.heap.size ≤ q) s.heap H locs) {ls : Array Slot} (hl : lv_has ls 4 [(0, .ref b), (1, .ref (aG 0)), (2, .ref (aR 0)), (3, .int (nI i))]) (next : ∀ (g : CSt) (r : RSt), Rel g r → ∀ (H : Heap) (locs : List Loc), va_P D vwCl (wX aG aM aW aS aI q g ++ wR aR q r) H → va_D (fun q : Nat => s.heap.size ≤ q) (wX aG aM aW aS aI q g ++ wR aR q r) → va_S (fun q : Nat => s.heap.size ≤ q) s.heap H locs → ∀ (ls : Array Slot), lv_has ls 4 [(0, .ref b), (1, .ref (aG 0)), (2, .ref (aR 0)), (3, .int (nI i))] → W p l e room_1 s m #[Value.ref b] below meth c H locs 41 3182 (lw_Z below #[Value.ref b] s) (F0 m 1076 ls [])) : W p l e room_1 s m #[Value.ref b] below meth c H locs 41 3182 (lw_Z below #[Value.ref b] s) (F0 m 253 ls []) := by
  obtain ⟨hx, hb, hr, hml, hown, hts, hX, hbl, hlocks, hgv⟩ := C0
  have hts : ∀ w ∈ wsL_law, w.before #[Value.ref b] s = true := fun w h => hts w (wsL_law_in w h)
  have hbA : ¬ (fun q : Nat => s.heap.size ≤ q) b := Nat.not_le.mpr hbl
  have hf := hs g r (xs (nI i + 1).toNatClampNeg) hrel
  refine lv_aload_n hx hb dL_law_253 rfl (lv_at hl 1 rfl) ?_
  refine lv_aload_n hx hb dL_law_254 rfl (lv_at hl 0 rfl) ?_
  refine lv_iload_n hx hb dL_law_255 rfl (lv_at hl 3 rfl) ?_
  refine lv_iconst (v := 1) hx hb dL_law_256 (by decide) ?_
  refine lv_iadd hx hb dL_law_257 ?_
  refine va_sld hx hb hX hbl hbA hS (law_st (k := 1) hL hi (by decide)) dL_law_258 ?_
  refine k_wi (wf := fun u => wX aG aM aW aS aI q u) (u0 := g) (k_runV (As := [.int (xs (nI i + 1).toNatClampNeg)]) (rest := []) ⟨hx, hb, hml, hown, hts⟩ (c_X6_cut l D q aG aM aW aS aI g.1 g.2.1 g.2.2.1 g.2.2.2 (xs (nI i + 1).toNatClampNeg) _ hf) (cwV 1 hts gL_law_X6_cut rfl rfl rfl cdX6_cut ⟨Nat.le_of_ble_eq_true rfl, Nat.le_of_ble_eq_true rfl⟩) hK (kp_l hP) (kd_l hD) 0 rfl rfl rfl hl.1 rfl (Nat.le_of_ble_eq_true rfl) dL_law_259 ⟨Nat.le_of_ble_eq_true rfl, Nat.le_of_ble_eq_true rfl⟩) ([]) (wR aR q r) (fun _ => rfl) hP hD hS (fun a g' H locs hf hP hD hS => ?_)
  have hP : va_P D vwCl (wX aG aM aW aS aI q g' ++ wR aR q r) H := hP
  have hD : va_D (fun q : Nat => s.heap.size ≤ q) (wX aG aM aW aS aI q g' ++ wR aR q r) := hD
  refine lv_aload_n hx hb dL_law_262 rfl (lv_at hl 2 rfl) ?_
  refine lv_aload_n hx hb dL_law_263 rfl (lv_at hl 0 rfl) ?_
  refine lv_iload_n hx hb dL_law_264 rfl (lv_at hl 3 rfl) ?_
  refine lv_iconst (v := 1) hx hb dL_law_265 (by decide) ?_
  refine lv_iadd hx hb dL_law_266 ?_
  refine va_sld hx hb hX hbl hbA hS (law_st (k := 1) hL hi (by decide)) dL_law_267 ?_
  refine k_wi (wf := fun u => wR aR q u) (u0 := r) (k_runV (As := [.int (xs (nI i + 1).toNatClampNeg)]) (rest := [.int a]) ⟨hx, hb, hml, hown, hts⟩ (c_X7_cut l D q aR r (xs (nI i + 1).toNatClampNeg) _ hf) (cwV 1 hts gL_law_X7_cut rfl rfl rfl cdX7_cut ⟨Nat.le_of_ble_eq_true rfl, Nat.le_of_ble_eq_true rfl⟩) hK (kp_r hP) (kd_r hD) 0 rfl rfl rfl hl.1 rfl (Nat.le_of_ble_eq_true rfl) dL_law_268 ⟨Nat.le_of_ble_eq_true rfl, Nat.le_of_ble_eq_true rfl⟩) (wX aG aM aW aS aI q g') ([]) (fun _ => rfl) hP hD hS (fun b' r' H locs hf hP hD hS => ?_)
  have hP : va_P D vwCl (wX aG aM aW aS aI q g' ++ wR aR q r') H := hP
  have hD : va_D (fun q : Nat => s.heap.size ≤ q) (wX aG aM aW aS aI q g' ++ wR aR q r') := hD
  refine lv_icmp_eq (tgt := 1076) hx hb dL_law_271 (by decide) (fun c1 => ?_) (fun c1 => absurd hf.1 c1)
  exact next g' r' hf.2 H locs hP hD hS ls hl
set_option maxRecDepth 100000 in
set_option maxHeartbeats 4000000 in
theorem law_4 (Rel : CSt → RSt → Prop) (hs : LS4 Rel) {p : Program} {l : Launch} {e : Env} {s : State} {m : MethodId} {below : List Frame} {meth : Method} {c : Code} {D : va_G} {q : Nat → ClassId} {aG aM aW aR : Nat → Nat} {aS aI : Nat → Nat → Nat} {b L : Nat} {xs : Nat → Int32} (hL : L ≤ 2048) (C0 : lw_At p s m meth c b L xs) (hK : va_K D vwCl (kT q) s) {i : Nat} (hi : i + 4 ≤ L) {g : CSt} {r : RSt} (hrel : Rel g r) {H : Heap} {locs : List Loc} (hP : va_P D vwCl (wX aG aM aW aS aI q g ++ wR aR q r) H) (hD : va_D (fun q : Nat => s.heap.size ≤ q) (wX aG aM aW aS aI q g ++ wR aR q r)) (hS : va_S (fun q : Nat => s.heap.size ≤ q) s.heap H locs) {ls : Array Slot} (hl : lv_has ls 4 [(0, .ref b), (1, .ref (aG 0)), (2, .ref (aR 0)), (3, .int (nI i))]) (next : ∀ (g : CSt) (r : RSt), Rel g r → ∀ (H : Heap) (locs : List Loc), va_P D vwCl (wX aG aM aW aS aI q g ++ wR aR q r) H → va_D (fun q : Nat => s.heap.size ≤ q) (wX aG aM aW aS aI q g ++ wR aR q r) → va_S (fun q : Nat => s.heap.size ≤ q) s.heap H locs → ∀ (ls : Array Slot), lv_has ls 4 [(0, .ref b), (1, .ref (aG 0)), (2, .ref (aR 0)), (3, .int (nI i))] → W p l e room_1 s m #[Value.ref b] below meth c H locs 41 3182 (lw_Z below #[Value.ref b] s) (F0 m 1076 ls [])) : W p l e room_1 s m #[Value.ref b] below meth c H locs 41 3182 (lw_Z below #[Value.ref b] s) (F0 m 276 ls []) := by
  obtain ⟨hx, hb, hr, hml, hown, hts, hX, hbl, hlocks, hgv⟩ := C0
  have hts : ∀ w ∈ wsL_law, w.before #[Value.ref b] s = true := fun w h => hts w (wsL_law_in w h)
  have hbA : ¬ (fun q : Nat => s.heap.size ≤ q) b := Nat.not_le.mpr hbl
  have hf := hs g r (xs (nI i + 1).toNatClampNeg) (xs (nI i + 2).toNatClampNeg) hrel
  refine lv_aload_n hx hb dL_law_276 rfl (lv_at hl 1 rfl) ?_
  refine lv_aload_n hx hb dL_law_277 rfl (lv_at hl 0 rfl) ?_
  refine lv_iload_n hx hb dL_law_278 rfl (lv_at hl 3 rfl) ?_
  refine lv_iconst (v := 1) hx hb dL_law_279 (by decide) ?_
  refine lv_iadd hx hb dL_law_280 ?_
  refine va_sld hx hb hX hbl hbA hS (law_st (k := 1) hL hi (by decide)) dL_law_281 ?_
  refine lv_aload_n hx hb dL_law_282 rfl (lv_at hl 0 rfl) ?_
  refine lv_iload_n hx hb dL_law_283 rfl (lv_at hl 3 rfl) ?_
  refine lv_iconst (v := 2) hx hb dL_law_284 (by decide) ?_
  refine lv_iadd hx hb dL_law_285 ?_
  refine va_sld hx hb hX hbl hbA hS (law_st (k := 2) hL hi (by decide)) dL_law_286 ?_
  refine k_wi (wf := fun u => wX aG aM aW aS aI q u) (u0 := g) (k_runV (As := [.int (xs (nI i + 1).toNatClampNeg), .int (xs (nI i + 2).toNatClampNeg)]) (rest := []) ⟨hx, hb, hml, hown, hts⟩ (c_X6_drift l D q aG aM aW aS aI g.1 g.2.1 g.2.2.1 g.2.2.2 (xs (nI i + 1).toNatClampNeg) (xs (nI i + 2).toNatClampNeg) _ hf) (cwV 2 hts gL_law_X6_drift rfl rfl rfl cdX6_drift ⟨Nat.le_of_ble_eq_true rfl, Nat.le_of_ble_eq_true rfl⟩) hK (kp_l hP) (kd_l hD) 0 rfl rfl rfl hl.1 rfl (Nat.le_of_ble_eq_true rfl) dL_law_287 ⟨Nat.le_of_ble_eq_true rfl, Nat.le_of_ble_eq_true rfl⟩) ([]) (wR aR q r) (fun _ => rfl) hP hD hS (fun a g' H locs hf hP hD hS => ?_)
  have hP : va_P D vwCl (wX aG aM aW aS aI q g' ++ wR aR q r) H := hP
  have hD : va_D (fun q : Nat => s.heap.size ≤ q) (wX aG aM aW aS aI q g' ++ wR aR q r) := hD
  refine lv_aload_n hx hb dL_law_290 rfl (lv_at hl 2 rfl) ?_
  refine lv_aload_n hx hb dL_law_291 rfl (lv_at hl 0 rfl) ?_
  refine lv_iload_n hx hb dL_law_292 rfl (lv_at hl 3 rfl) ?_
  refine lv_iconst (v := 1) hx hb dL_law_293 (by decide) ?_
  refine lv_iadd hx hb dL_law_294 ?_
  refine va_sld hx hb hX hbl hbA hS (law_st (k := 1) hL hi (by decide)) dL_law_295 ?_
  refine lv_aload_n hx hb dL_law_296 rfl (lv_at hl 0 rfl) ?_
  refine lv_iload_n hx hb dL_law_297 rfl (lv_at hl 3 rfl) ?_
  refine lv_iconst (v := 2) hx hb dL_law_298 (by decide) ?_
  refine lv_iadd hx hb dL_law_299 ?_
  refine va_sld hx hb hX hbl hbA hS (law_st (k := 2) hL hi (by decide)) dL_law_300 ?_
  refine k_wi (wf := fun u => wR aR q u) (u0 := r) (k_runV (As := [.int (xs (nI i + 1).toNatClampNeg), .int (xs (nI i + 2).toNatClampNeg)]) (rest := [.int a]) ⟨hx, hb, hml, hown, hts⟩ (c_X7_drift l D q aR r (xs (nI i + 1).toNatClampNeg) (xs (nI i + 2).toNatClampNeg) _ hf) (cwV 2 hts gL_law_X7_drift rfl rfl rfl cdX7_drift ⟨Nat.le_of_ble_eq_true rfl, Nat.le_of_ble_eq_true rfl⟩) hK (kp_r hP) (kd_r hD) 0 rfl rfl rfl hl.1 rfl (Nat.le_of_ble_eq_true rfl) dL_law_301 ⟨Nat.le_of_ble_eq_true rfl, Nat.le_of_ble_eq_true rfl⟩) (wX aG aM aW aS aI q g') ([]) (fun _ => rfl) hP hD hS (fun b' r' H locs hf hP hD hS => ?_)
  have hP : va_P D vwCl (wX aG aM aW aS aI q g' ++ wR aR q r') H := hP
  have hD : va_D (fun q : Nat => s.heap.size ≤ q) (wX aG aM aW aS aI q g' ++ wR aR q r') := hD
  refine lv_icmp_eq (tgt := 1076) hx hb dL_law_304 (by decide) (fun c1 => ?_) (fun c1 => absurd hf.1 c1)
  exact next g' r' hf.2 H locs hP hD hS ls hl
set_option maxRecDepth 100000 in
set_option maxHeartbeats 4000000 in
theorem law_5 (Rel : CSt → RSt → Prop) (hs : LS5 Rel) {p : Program} {l : Launch} {e : Env} {s : State} {m : MethodId} {below : List Frame} {meth : Method} {c : Code} {D : va_G} {q : Nat → ClassId} {aG aM aW aR : Nat → Nat} {aS aI : Nat → Nat → Nat} {b L : Nat} {xs : Nat → Int32} (hL : L ≤ 2048) (C0 : lw_At p s m meth c b L xs) (hK : va_K D vwCl (kT q) s) {i : Nat} (hi : i + 4 ≤ L) {g : CSt} {r : RSt} (hrel : Rel g r) {H : Heap} {locs : List Loc} (hP : va_P D vwCl (wX aG aM aW aS aI q g ++ wR aR q r) H) (hD : va_D (fun q : Nat => s.heap.size ≤ q) (wX aG aM aW aS aI q g ++ wR aR q r)) (hS : va_S (fun q : Nat => s.heap.size ≤ q) s.heap H locs) {ls : Array Slot} (hl : lv_has ls 4 [(0, .ref b), (1, .ref (aG 0)), (2, .ref (aR 0)), (3, .int (nI i))]) (next : ∀ (g : CSt) (r : RSt), Rel g r → ∀ (H : Heap) (locs : List Loc), va_P D vwCl (wX aG aM aW aS aI q g ++ wR aR q r) H → va_D (fun q : Nat => s.heap.size ≤ q) (wX aG aM aW aS aI q g ++ wR aR q r) → va_S (fun q : Nat => s.heap.size ≤ q) s.heap H locs → ∀ (ls : Array Slot), lv_has ls 4 [(0, .ref b), (1, .ref (aG 0)), (2, .ref (aR 0)), (3, .int (nI i))] → W p l e room_1 s m #[Value.ref b] below meth c H locs 41 3182 (lw_Z below #[Value.ref b] s) (F0 m 1076 ls [])) : W p l e room_1 s m #[Value.ref b] below meth c H locs 41 3182 (lw_Z below #[Value.ref b] s) (F0 m 309 ls []) := by
  obtain ⟨hx, hb, hr, hml, hown, hts, hX, hbl, hlocks, hgv⟩ := C0
  have hts : ∀ w ∈ wsL_law, w.before #[Value.ref b] s = true := fun w h => hts w (wsL_law_in w h)
  have hbA : ¬ (fun q : Nat => s.heap.size ≤ q) b := Nat.not_le.mpr hbl
  have hf := hs g r (xs (nI i + 1).toNatClampNeg) hrel
  refine lv_aload_n hx hb dL_law_309 rfl (lv_at hl 1 rfl) ?_
  refine lv_aload_n hx hb dL_law_310 rfl (lv_at hl 0 rfl) ?_
  refine lv_iload_n hx hb dL_law_311 rfl (lv_at hl 3 rfl) ?_
  refine lv_iconst (v := 1) hx hb dL_law_312 (by decide) ?_
  refine lv_iadd hx hb dL_law_313 ?_
  refine va_sld hx hb hX hbl hbA hS (law_st (k := 1) hL hi (by decide)) dL_law_314 ?_
  refine k_wi (wf := fun u => wX aG aM aW aS aI q u) (u0 := g) (k_runV (As := [.int (xs (nI i + 1).toNatClampNeg)]) (rest := []) ⟨hx, hb, hml, hown, hts⟩ (c_X6_letter l D q aG aM aW aS aI g.1 g.2.1 g.2.2.1 g.2.2.2 (xs (nI i + 1).toNatClampNeg) _ hf) (cwV 1 hts gL_law_X6_letter rfl rfl rfl cdX6_letter ⟨Nat.le_of_ble_eq_true rfl, Nat.le_of_ble_eq_true rfl⟩) hK (kp_l hP) (kd_l hD) 0 rfl rfl rfl hl.1 rfl (Nat.le_of_ble_eq_true rfl) dL_law_315 ⟨Nat.le_of_ble_eq_true rfl, Nat.le_of_ble_eq_true rfl⟩) ([]) (wR aR q r) (fun _ => rfl) hP hD hS (fun a g' H locs hf hP hD hS => ?_)
  have hP : va_P D vwCl (wX aG aM aW aS aI q g' ++ wR aR q r) H := hP
  have hD : va_D (fun q : Nat => s.heap.size ≤ q) (wX aG aM aW aS aI q g' ++ wR aR q r) := hD
  refine lv_aload_n hx hb dL_law_318 rfl (lv_at hl 2 rfl) ?_
  refine lv_aload_n hx hb dL_law_319 rfl (lv_at hl 0 rfl) ?_
  refine lv_iload_n hx hb dL_law_320 rfl (lv_at hl 3 rfl) ?_
  refine lv_iconst (v := 1) hx hb dL_law_321 (by decide) ?_
  refine lv_iadd hx hb dL_law_322 ?_
  refine va_sld hx hb hX hbl hbA hS (law_st (k := 1) hL hi (by decide)) dL_law_323 ?_
  refine k_si (k_runV (As := [.int (xs (nI i + 1).toNatClampNeg)]) (rest := [.int a]) ⟨hx, hb, hml, hown, hts⟩ (c_X7_letter l D q aR r (xs (nI i + 1).toNatClampNeg) _ hf) (cwV 1 hts gL_law_X7_letter rfl rfl rfl cdX7_letter ⟨Nat.le_of_ble_eq_true rfl, Nat.le_of_ble_eq_true rfl⟩) hK (kp_r hP) (kd_r hD) 0 rfl rfl rfl hl.1 rfl (Nat.le_of_ble_eq_true rfl) dL_law_324 ⟨Nat.le_of_ble_eq_true rfl, Nat.le_of_ble_eq_true rfl⟩) (fun b' hf => ?_)
  refine lv_icmp_eq (tgt := 1076) hx hb dL_law_327 (by decide) (fun c1 => ?_) (fun c1 => absurd hf.1 c1)
  exact next g' r hf.2 H locs hP hD hS ls hl
set_option maxRecDepth 100000 in
set_option maxHeartbeats 4000000 in
theorem law_6 (Rel : CSt → RSt → Prop) (hs : LS6 Rel) {p : Program} {l : Launch} {e : Env} {s : State} {m : MethodId} {below : List Frame} {meth : Method} {c : Code} {D : va_G} {q : Nat → ClassId} {aG aM aW aR : Nat → Nat} {aS aI : Nat → Nat → Nat} {b L : Nat} {xs : Nat → Int32} (hL : L ≤ 2048) (C0 : lw_At p s m meth c b L xs) (hK : va_K D vwCl (kT q) s) {i : Nat} (hi : i + 4 ≤ L) {g : CSt} {r : RSt} (hrel : Rel g r) {H : Heap} {locs : List Loc} (hP : va_P D vwCl (wX aG aM aW aS aI q g ++ wR aR q r) H) (hD : va_D (fun q : Nat => s.heap.size ≤ q) (wX aG aM aW aS aI q g ++ wR aR q r)) (hS : va_S (fun q : Nat => s.heap.size ≤ q) s.heap H locs) {ls : Array Slot} (hl : lv_has ls 4 [(0, .ref b), (1, .ref (aG 0)), (2, .ref (aR 0)), (3, .int (nI i))]) (next : ∀ (g : CSt) (r : RSt), Rel g r → ∀ (H : Heap) (locs : List Loc), va_P D vwCl (wX aG aM aW aS aI q g ++ wR aR q r) H → va_D (fun q : Nat => s.heap.size ≤ q) (wX aG aM aW aS aI q g ++ wR aR q r) → va_S (fun q : Nat => s.heap.size ≤ q) s.heap H locs → ∀ (ls : Array Slot), lv_has ls 4 [(0, .ref b), (1, .ref (aG 0)), (2, .ref (aR 0)), (3, .int (nI i))] → W p l e room_1 s m #[Value.ref b] below meth c H locs 41 3182 (lw_Z below #[Value.ref b] s) (F0 m 1076 ls [])) : W p l e room_1 s m #[Value.ref b] below meth c H locs 41 3182 (lw_Z below #[Value.ref b] s) (F0 m 332 ls []) := by
  obtain ⟨hx, hb, hr, hml, hown, hts, hX, hbl, hlocks, hgv⟩ := C0
  have hts : ∀ w ∈ wsL_law, w.before #[Value.ref b] s = true := fun w h => hts w (wsL_law_in w h)
  have hbA : ¬ (fun q : Nat => s.heap.size ≤ q) b := Nat.not_le.mpr hbl
  have hf := hs g r (xs (nI i + 1).toNatClampNeg) hrel
  refine lv_aload_n hx hb dL_law_332 rfl (lv_at hl 1 rfl) ?_
  refine lv_aload_n hx hb dL_law_333 rfl (lv_at hl 0 rfl) ?_
  refine lv_iload_n hx hb dL_law_334 rfl (lv_at hl 3 rfl) ?_
  refine lv_iconst (v := 1) hx hb dL_law_335 (by decide) ?_
  refine lv_iadd hx hb dL_law_336 ?_
  refine va_sld hx hb hX hbl hbA hS (law_st (k := 1) hL hi (by decide)) dL_law_337 ?_
  refine k_wi (wf := fun u => wX aG aM aW aS aI q u) (u0 := g) (k_runV (As := [.int (xs (nI i + 1).toNatClampNeg)]) (rest := []) ⟨hx, hb, hml, hown, hts⟩ (c_X6_count l D q aG aM aW aS aI g.1 g.2.1 g.2.2.1 g.2.2.2 (xs (nI i + 1).toNatClampNeg) _ hf) (cwV 1 hts gL_law_X6_count rfl rfl rfl cdX6_count ⟨Nat.le_of_ble_eq_true rfl, Nat.le_of_ble_eq_true rfl⟩) hK (kp_l hP) (kd_l hD) 0 rfl rfl rfl hl.1 rfl (Nat.le_of_ble_eq_true rfl) dL_law_338 ⟨Nat.le_of_ble_eq_true rfl, Nat.le_of_ble_eq_true rfl⟩) ([]) (wR aR q r) (fun _ => rfl) hP hD hS (fun a g' H locs hf hP hD hS => ?_)
  have hP : va_P D vwCl (wX aG aM aW aS aI q g' ++ wR aR q r) H := hP
  have hD : va_D (fun q : Nat => s.heap.size ≤ q) (wX aG aM aW aS aI q g' ++ wR aR q r) := hD
  refine lv_aload_n hx hb dL_law_341 rfl (lv_at hl 2 rfl) ?_
  refine lv_aload_n hx hb dL_law_342 rfl (lv_at hl 0 rfl) ?_
  refine lv_iload_n hx hb dL_law_343 rfl (lv_at hl 3 rfl) ?_
  refine lv_iconst (v := 1) hx hb dL_law_344 (by decide) ?_
  refine lv_iadd hx hb dL_law_345 ?_
  refine va_sld hx hb hX hbl hbA hS (law_st (k := 1) hL hi (by decide)) dL_law_346 ?_
  refine k_si (k_runV (As := [.int (xs (nI i + 1).toNatClampNeg)]) (rest := [.int a]) ⟨hx, hb, hml, hown, hts⟩ (c_X7_count l D q aR r (xs (nI i + 1).toNatClampNeg) _ hf) (cwV 1 hts gL_law_X7_count rfl rfl rfl cdX7_count ⟨Nat.le_of_ble_eq_true rfl, Nat.le_of_ble_eq_true rfl⟩) hK (kp_r hP) (kd_r hD) 0 rfl rfl rfl hl.1 rfl (Nat.le_of_ble_eq_true rfl) dL_law_347 ⟨Nat.le_of_ble_eq_true rfl, Nat.le_of_ble_eq_true rfl⟩) (fun b' hf => ?_)
  refine lv_icmp_eq (tgt := 1076) hx hb dL_law_350 (by decide) (fun c1 => ?_) (fun c1 => absurd hf.1 c1)
  exact next g' r hf.2 H locs hP hD hS ls hl
set_option maxRecDepth 100000 in
set_option maxHeartbeats 4000000 in
theorem law_7 (Rel : CSt → RSt → Prop) (hs : LS7 Rel) {p : Program} {l : Launch} {e : Env} {s : State} {m : MethodId} {below : List Frame} {meth : Method} {c : Code} {D : va_G} {q : Nat → ClassId} {aG aM aW aR : Nat → Nat} {aS aI : Nat → Nat → Nat} {b L : Nat} {xs : Nat → Int32} (hL : L ≤ 2048) (C0 : lw_At p s m meth c b L xs) (hK : va_K D vwCl (kT q) s) {i : Nat} (hi : i + 4 ≤ L) {g : CSt} {r : RSt} (hrel : Rel g r) {H : Heap} {locs : List Loc} (hP : va_P D vwCl (wX aG aM aW aS aI q g ++ wR aR q r) H) (hD : va_D (fun q : Nat => s.heap.size ≤ q) (wX aG aM aW aS aI q g ++ wR aR q r)) (hS : va_S (fun q : Nat => s.heap.size ≤ q) s.heap H locs) {ls : Array Slot} (hl : lv_has ls 4 [(0, .ref b), (1, .ref (aG 0)), (2, .ref (aR 0)), (3, .int (nI i))]) (next : ∀ (g : CSt) (r : RSt), Rel g r → ∀ (H : Heap) (locs : List Loc), va_P D vwCl (wX aG aM aW aS aI q g ++ wR aR q r) H → va_D (fun q : Nat => s.heap.size ≤ q) (wX aG aM aW aS aI q g ++ wR aR q r) → va_S (fun q : Nat => s.heap.size ≤ q) s.heap H locs → ∀ (ls : Array Slot), lv_has ls 4 [(0, .ref b), (1, .ref (aG 0)), (2, .ref (aR 0)), (3, .int (nI i))] → W p l e room_1 s m #[Value.ref b] below meth c H locs 41 3182 (lw_Z below #[Value.ref b] s) (F0 m 1076 ls [])) : W p l e room_1 s m #[Value.ref b] below meth c H locs 41 3182 (lw_Z below #[Value.ref b] s) (F0 m 355 ls []) := by
  obtain ⟨hx, hb, hr, hml, hown, hts, hX, hbl, hlocks, hgv⟩ := C0
  have hts : ∀ w ∈ wsL_law, w.before #[Value.ref b] s = true := fun w h => hts w (wsL_law_in w h)
  have hbA : ¬ (fun q : Nat => s.heap.size ≤ q) b := Nat.not_le.mpr hbl
  have hf := hs g r (xs (nI i + 1).toNatClampNeg) (xs (nI i + 2).toNatClampNeg) hrel
  refine lv_aload_n hx hb dL_law_355 rfl (lv_at hl 1 rfl) ?_
  refine lv_aload_n hx hb dL_law_356 rfl (lv_at hl 0 rfl) ?_
  refine lv_iload_n hx hb dL_law_357 rfl (lv_at hl 3 rfl) ?_
  refine lv_iconst (v := 1) hx hb dL_law_358 (by decide) ?_
  refine lv_iadd hx hb dL_law_359 ?_
  refine va_sld hx hb hX hbl hbA hS (law_st (k := 1) hL hi (by decide)) dL_law_360 ?_
  refine lv_aload_n hx hb dL_law_361 rfl (lv_at hl 0 rfl) ?_
  refine lv_iload_n hx hb dL_law_362 rfl (lv_at hl 3 rfl) ?_
  refine lv_iconst (v := 2) hx hb dL_law_363 (by decide) ?_
  refine lv_iadd hx hb dL_law_364 ?_
  refine va_sld hx hb hX hbl hbA hS (law_st (k := 2) hL hi (by decide)) dL_law_365 ?_
  refine k_wi (wf := fun u => wX aG aM aW aS aI q u) (u0 := g) (k_runV (As := [.int (xs (nI i + 1).toNatClampNeg), .int (xs (nI i + 2).toNatClampNeg)]) (rest := []) ⟨hx, hb, hml, hown, hts⟩ (c_X6_state l D q aG aM aW aS aI g.1 g.2.1 g.2.2.1 g.2.2.2 (xs (nI i + 1).toNatClampNeg) (xs (nI i + 2).toNatClampNeg) _ hf) (cwV 2 hts gL_law_X6_state rfl rfl rfl cdX6_state ⟨Nat.le_of_ble_eq_true rfl, Nat.le_of_ble_eq_true rfl⟩) hK (kp_l hP) (kd_l hD) 0 rfl rfl rfl hl.1 rfl (Nat.le_of_ble_eq_true rfl) dL_law_366 ⟨Nat.le_of_ble_eq_true rfl, Nat.le_of_ble_eq_true rfl⟩) ([]) (wR aR q r) (fun _ => rfl) hP hD hS (fun a g' H locs hf hP hD hS => ?_)
  have hP : va_P D vwCl (wX aG aM aW aS aI q g' ++ wR aR q r) H := hP
  have hD : va_D (fun q : Nat => s.heap.size ≤ q) (wX aG aM aW aS aI q g' ++ wR aR q r) := hD
  refine lv_aload_n hx hb dL_law_369 rfl (lv_at hl 2 rfl) ?_
  refine lv_aload_n hx hb dL_law_370 rfl (lv_at hl 0 rfl) ?_
  refine lv_iload_n hx hb dL_law_371 rfl (lv_at hl 3 rfl) ?_
  refine lv_iconst (v := 1) hx hb dL_law_372 (by decide) ?_
  refine lv_iadd hx hb dL_law_373 ?_
  refine va_sld hx hb hX hbl hbA hS (law_st (k := 1) hL hi (by decide)) dL_law_374 ?_
  refine lv_aload_n hx hb dL_law_375 rfl (lv_at hl 0 rfl) ?_
  refine lv_iload_n hx hb dL_law_376 rfl (lv_at hl 3 rfl) ?_
  refine lv_iconst (v := 2) hx hb dL_law_377 (by decide) ?_
  refine lv_iadd hx hb dL_law_378 ?_
  refine va_sld hx hb hX hbl hbA hS (law_st (k := 2) hL hi (by decide)) dL_law_379 ?_
  refine k_si (k_runV (As := [.int (xs (nI i + 1).toNatClampNeg), .int (xs (nI i + 2).toNatClampNeg)]) (rest := [.int a]) ⟨hx, hb, hml, hown, hts⟩ (c_X7_state l D q aR r (xs (nI i + 1).toNatClampNeg) (xs (nI i + 2).toNatClampNeg) _ hf) (cwV 2 hts gL_law_X7_state rfl rfl rfl cdX7_state ⟨Nat.le_of_ble_eq_true rfl, Nat.le_of_ble_eq_true rfl⟩) hK (kp_r hP) (kd_r hD) 0 rfl rfl rfl hl.1 rfl (Nat.le_of_ble_eq_true rfl) dL_law_380 ⟨Nat.le_of_ble_eq_true rfl, Nat.le_of_ble_eq_true rfl⟩) (fun b' hf => ?_)
  refine lv_icmp_eq (tgt := 1076) hx hb dL_law_383 (by decide) (fun c1 => ?_) (fun c1 => absurd hf.1 c1)
  exact next g' r hf.2 H locs hP hD hS ls hl
set_option maxRecDepth 100000 in
set_option maxHeartbeats 4000000 in
theorem law_8 (Rel : CSt → RSt → Prop) (hs : LS8 Rel) {p : Program} {l : Launch} {e : Env} {s : State} {m : MethodId} {below : List Frame} {meth : Method} {c : Code} {D : va_G} {q : Nat → ClassId} {aG aM aW aR : Nat → Nat} {aS aI : Nat → Nat → Nat} {b L : Nat} {xs : Nat → Int32} (hL : L ≤ 2048) (C0 : lw_At p s m meth c b L xs) (hK : va_K D vwCl (kT q) s) {i : Nat} (hi : i + 4 ≤ L) {g : CSt} {r : RSt} (hrel : Rel g r) {H : Heap} {locs : List Loc} (hP : va_P D vwCl (wX aG aM aW aS aI q g ++ wR aR q r) H) (hD : va_D (fun q : Nat => s.heap.size ≤ q) (wX aG aM aW aS aI q g ++ wR aR q r)) (hS : va_S (fun q : Nat => s.heap.size ≤ q) s.heap H locs) {ls : Array Slot} (hl : lv_has ls 4 [(0, .ref b), (1, .ref (aG 0)), (2, .ref (aR 0)), (3, .int (nI i))]) (next : ∀ (g : CSt) (r : RSt), Rel g r → ∀ (H : Heap) (locs : List Loc), va_P D vwCl (wX aG aM aW aS aI q g ++ wR aR q r) H → va_D (fun q : Nat => s.heap.size ≤ q) (wX aG aM aW aS aI q g ++ wR aR q r) → va_S (fun q : Nat => s.heap.size ≤ q) s.heap H locs → ∀ (ls : Array Slot), lv_has ls 4 [(0, .ref b), (1, .ref (aG 0)), (2, .ref (aR 0)), (3, .int (nI i))] → W p l e room_1 s m #[Value.ref b] below meth c H locs 41 3182 (lw_Z below #[Value.ref b] s) (F0 m 1076 ls [])) : W p l e room_1 s m #[Value.ref b] below meth c H locs 41 3182 (lw_Z below #[Value.ref b] s) (F0 m 388 ls []) := by
  obtain ⟨hx, hb, hr, hml, hown, hts, hX, hbl, hlocks, hgv⟩ := C0
  have hts : ∀ w ∈ wsL_law, w.before #[Value.ref b] s = true := fun w h => hts w (wsL_law_in w h)
  have hbA : ¬ (fun q : Nat => s.heap.size ≤ q) b := Nat.not_le.mpr hbl
  have hf := hs g r (xs (nI i + 1).toNatClampNeg) (xs (nI i + 2).toNatClampNeg) hrel
  refine lv_aload_n hx hb dL_law_388 rfl (lv_at hl 1 rfl) ?_
  refine lv_aload_n hx hb dL_law_389 rfl (lv_at hl 0 rfl) ?_
  refine lv_iload_n hx hb dL_law_390 rfl (lv_at hl 3 rfl) ?_
  refine lv_iconst (v := 1) hx hb dL_law_391 (by decide) ?_
  refine lv_iadd hx hb dL_law_392 ?_
  refine va_sld hx hb hX hbl hbA hS (law_st (k := 1) hL hi (by decide)) dL_law_393 ?_
  refine lv_aload_n hx hb dL_law_394 rfl (lv_at hl 0 rfl) ?_
  refine lv_iload_n hx hb dL_law_395 rfl (lv_at hl 3 rfl) ?_
  refine lv_iconst (v := 2) hx hb dL_law_396 (by decide) ?_
  refine lv_iadd hx hb dL_law_397 ?_
  refine va_sld hx hb hX hbl hbA hS (law_st (k := 2) hL hi (by decide)) dL_law_398 ?_
  refine k_wi (wf := fun u => wX aG aM aW aS aI q u) (u0 := g) (k_runV (As := [.int (xs (nI i + 1).toNatClampNeg), .int (xs (nI i + 2).toNatClampNeg)]) (rest := []) ⟨hx, hb, hml, hown, hts⟩ (c_X6_move l D q aG aM aW aS aI g.1 g.2.1 g.2.2.1 g.2.2.2 (xs (nI i + 1).toNatClampNeg) (xs (nI i + 2).toNatClampNeg) _ hf) (cwV 2 hts gL_law_X6_move rfl rfl rfl cdX6_move ⟨Nat.le_of_ble_eq_true rfl, Nat.le_of_ble_eq_true rfl⟩) hK (kp_l hP) (kd_l hD) 0 rfl rfl rfl hl.1 rfl (Nat.le_of_ble_eq_true rfl) dL_law_399 ⟨Nat.le_of_ble_eq_true rfl, Nat.le_of_ble_eq_true rfl⟩) ([]) (wR aR q r) (fun _ => rfl) hP hD hS (fun a g' H locs hf hP hD hS => ?_)
  have hP : va_P D vwCl (wX aG aM aW aS aI q g' ++ wR aR q r) H := hP
  have hD : va_D (fun q : Nat => s.heap.size ≤ q) (wX aG aM aW aS aI q g' ++ wR aR q r) := hD
  refine lv_aload_n hx hb dL_law_402 rfl (lv_at hl 2 rfl) ?_
  refine lv_aload_n hx hb dL_law_403 rfl (lv_at hl 0 rfl) ?_
  refine lv_iload_n hx hb dL_law_404 rfl (lv_at hl 3 rfl) ?_
  refine lv_iconst (v := 1) hx hb dL_law_405 (by decide) ?_
  refine lv_iadd hx hb dL_law_406 ?_
  refine va_sld hx hb hX hbl hbA hS (law_st (k := 1) hL hi (by decide)) dL_law_407 ?_
  refine lv_aload_n hx hb dL_law_408 rfl (lv_at hl 0 rfl) ?_
  refine lv_iload_n hx hb dL_law_409 rfl (lv_at hl 3 rfl) ?_
  refine lv_iconst (v := 2) hx hb dL_law_410 (by decide) ?_
  refine lv_iadd hx hb dL_law_411 ?_
  refine va_sld hx hb hX hbl hbA hS (law_st (k := 2) hL hi (by decide)) dL_law_412 ?_
  refine k_si (k_runV (As := [.int (xs (nI i + 1).toNatClampNeg), .int (xs (nI i + 2).toNatClampNeg)]) (rest := [.int a]) ⟨hx, hb, hml, hown, hts⟩ (c_X7_move l D q aR r (xs (nI i + 1).toNatClampNeg) (xs (nI i + 2).toNatClampNeg) _ hf) (cwV 2 hts gL_law_X7_move rfl rfl rfl cdX7_move ⟨Nat.le_of_ble_eq_true rfl, Nat.le_of_ble_eq_true rfl⟩) hK (kp_r hP) (kd_r hD) 0 rfl rfl rfl hl.1 rfl (Nat.le_of_ble_eq_true rfl) dL_law_413 ⟨Nat.le_of_ble_eq_true rfl, Nat.le_of_ble_eq_true rfl⟩) (fun b' hf => ?_)
  refine lv_icmp_eq (tgt := 1076) hx hb dL_law_416 (by decide) (fun c1 => ?_) (fun c1 => absurd hf.1 c1)
  exact next g' r hf.2 H locs hP hD hS ls hl
set_option maxRecDepth 100000 in
set_option maxHeartbeats 4000000 in
theorem law_9 (Rel : CSt → RSt → Prop) (hs : LS9 Rel) {p : Program} {l : Launch} {e : Env} {s : State} {m : MethodId} {below : List Frame} {meth : Method} {c : Code} {D : va_G} {q : Nat → ClassId} {aG aM aW aR : Nat → Nat} {aS aI : Nat → Nat → Nat} {b L : Nat} {xs : Nat → Int32} (hL : L ≤ 2048) (C0 : lw_At p s m meth c b L xs) (hK : va_K D vwCl (kT q) s) {i : Nat} (hi : i + 4 ≤ L) {g : CSt} {r : RSt} (hrel : Rel g r) {H : Heap} {locs : List Loc} (hP : va_P D vwCl (wX aG aM aW aS aI q g ++ wR aR q r) H) (hD : va_D (fun q : Nat => s.heap.size ≤ q) (wX aG aM aW aS aI q g ++ wR aR q r)) (hS : va_S (fun q : Nat => s.heap.size ≤ q) s.heap H locs) {ls : Array Slot} (hl : lv_has ls 4 [(0, .ref b), (1, .ref (aG 0)), (2, .ref (aR 0)), (3, .int (nI i))]) (next : ∀ (g : CSt) (r : RSt), Rel g r → ∀ (H : Heap) (locs : List Loc), va_P D vwCl (wX aG aM aW aS aI q g ++ wR aR q r) H → va_D (fun q : Nat => s.heap.size ≤ q) (wX aG aM aW aS aI q g ++ wR aR q r) → va_S (fun q : Nat => s.heap.size ≤ q) s.heap H locs → ∀ (ls : Array Slot), lv_has ls 4 [(0, .ref b), (1, .ref (aG 0)), (2, .ref (aR 0)), (3, .int (nI i))] → W p l e room_1 s m #[Value.ref b] below meth c H locs 41 3182 (lw_Z below #[Value.ref b] s) (F0 m 1076 ls [])) : W p l e room_1 s m #[Value.ref b] below meth c H locs 41 3182 (lw_Z below #[Value.ref b] s) (F0 m 421 ls []) := by
  obtain ⟨hx, hb, hr, hml, hown, hts, hX, hbl, hlocks, hgv⟩ := C0
  have hts : ∀ w ∈ wsL_law, w.before #[Value.ref b] s = true := fun w h => hts w (wsL_law_in w h)
  have hbA : ¬ (fun q : Nat => s.heap.size ≤ q) b := Nat.not_le.mpr hbl
  have hf := hs g r (xs (nI i + 1).toNatClampNeg) (xs (nI i + 2).toNatClampNeg) hrel
  refine lv_aload_n hx hb dL_law_421 rfl (lv_at hl 1 rfl) ?_
  refine lv_aload_n hx hb dL_law_422 rfl (lv_at hl 0 rfl) ?_
  refine lv_iload_n hx hb dL_law_423 rfl (lv_at hl 3 rfl) ?_
  refine lv_iconst (v := 1) hx hb dL_law_424 (by decide) ?_
  refine lv_iadd hx hb dL_law_425 ?_
  refine va_sld hx hb hX hbl hbA hS (law_st (k := 1) hL hi (by decide)) dL_law_426 ?_
  refine lv_aload_n hx hb dL_law_427 rfl (lv_at hl 0 rfl) ?_
  refine lv_iload_n hx hb dL_law_428 rfl (lv_at hl 3 rfl) ?_
  refine lv_iconst (v := 2) hx hb dL_law_429 (by decide) ?_
  refine lv_iadd hx hb dL_law_430 ?_
  refine va_sld hx hb hX hbl hbA hS (law_st (k := 2) hL hi (by decide)) dL_law_431 ?_
  refine k_wi (wf := fun u => wX aG aM aW aS aI q u) (u0 := g) (k_runV (As := [.int (xs (nI i + 1).toNatClampNeg), .int (xs (nI i + 2).toNatClampNeg)]) (rest := []) ⟨hx, hb, hml, hown, hts⟩ (c_X6_end l D q aG aM aW aS aI g.1 g.2.1 g.2.2.1 g.2.2.2 (xs (nI i + 1).toNatClampNeg) (xs (nI i + 2).toNatClampNeg) _ hf) (cwV 2 hts gL_law_X6_end rfl rfl rfl cdX6_end ⟨Nat.le_of_ble_eq_true rfl, Nat.le_of_ble_eq_true rfl⟩) hK (kp_l hP) (kd_l hD) 0 rfl rfl rfl hl.1 rfl (Nat.le_of_ble_eq_true rfl) dL_law_432 ⟨Nat.le_of_ble_eq_true rfl, Nat.le_of_ble_eq_true rfl⟩) ([]) (wR aR q r) (fun _ => rfl) hP hD hS (fun a g' H locs hf hP hD hS => ?_)
  have hP : va_P D vwCl (wX aG aM aW aS aI q g' ++ wR aR q r) H := hP
  have hD : va_D (fun q : Nat => s.heap.size ≤ q) (wX aG aM aW aS aI q g' ++ wR aR q r) := hD
  refine lv_aload_n hx hb dL_law_435 rfl (lv_at hl 2 rfl) ?_
  refine lv_aload_n hx hb dL_law_436 rfl (lv_at hl 0 rfl) ?_
  refine lv_iload_n hx hb dL_law_437 rfl (lv_at hl 3 rfl) ?_
  refine lv_iconst (v := 1) hx hb dL_law_438 (by decide) ?_
  refine lv_iadd hx hb dL_law_439 ?_
  refine va_sld hx hb hX hbl hbA hS (law_st (k := 1) hL hi (by decide)) dL_law_440 ?_
  refine lv_aload_n hx hb dL_law_441 rfl (lv_at hl 0 rfl) ?_
  refine lv_iload_n hx hb dL_law_442 rfl (lv_at hl 3 rfl) ?_
  refine lv_iconst (v := 2) hx hb dL_law_443 (by decide) ?_
  refine lv_iadd hx hb dL_law_444 ?_
  refine va_sld hx hb hX hbl hbA hS (law_st (k := 2) hL hi (by decide)) dL_law_445 ?_
  refine k_si (k_runV (As := [.int (xs (nI i + 1).toNatClampNeg), .int (xs (nI i + 2).toNatClampNeg)]) (rest := [.int a]) ⟨hx, hb, hml, hown, hts⟩ (c_X7_end l D q aR r (xs (nI i + 1).toNatClampNeg) (xs (nI i + 2).toNatClampNeg) _ hf) (cwV 2 hts gL_law_X7_end rfl rfl rfl cdX7_end ⟨Nat.le_of_ble_eq_true rfl, Nat.le_of_ble_eq_true rfl⟩) hK (kp_r hP) (kd_r hD) 0 rfl rfl rfl hl.1 rfl (Nat.le_of_ble_eq_true rfl) dL_law_446 ⟨Nat.le_of_ble_eq_true rfl, Nat.le_of_ble_eq_true rfl⟩) (fun b' hf => ?_)
  refine lv_icmp_eq (tgt := 1076) hx hb dL_law_449 (by decide) (fun c1 => ?_) (fun c1 => absurd hf.1 c1)
  exact next g' r hf.2 H locs hP hD hS ls hl
set_option maxRecDepth 100000 in
set_option maxHeartbeats 4000000 in
theorem law_10 (Rel : CSt → RSt → Prop) (hs : LS10 Rel) {p : Program} {l : Launch} {e : Env} {s : State} {m : MethodId} {below : List Frame} {meth : Method} {c : Code} {D : va_G} {q : Nat → ClassId} {aG aM aW aR : Nat → Nat} {aS aI : Nat → Nat → Nat} {b L : Nat} {xs : Nat → Int32} (hL : L ≤ 2048) (C0 : lw_At p s m meth c b L xs) (hK : va_K D vwCl (kT q) s) {i : Nat} (hi : i + 4 ≤ L) {g : CSt} {r : RSt} (hrel : Rel g r) {H : Heap} {locs : List Loc} (hP : va_P D vwCl (wX aG aM aW aS aI q g ++ wR aR q r) H) (hD : va_D (fun q : Nat => s.heap.size ≤ q) (wX aG aM aW aS aI q g ++ wR aR q r)) (hS : va_S (fun q : Nat => s.heap.size ≤ q) s.heap H locs) {ls : Array Slot} (hl : lv_has ls 4 [(0, .ref b), (1, .ref (aG 0)), (2, .ref (aR 0)), (3, .int (nI i))]) (next : ∀ (g : CSt) (r : RSt), Rel g r → ∀ (H : Heap) (locs : List Loc), va_P D vwCl (wX aG aM aW aS aI q g ++ wR aR q r) H → va_D (fun q : Nat => s.heap.size ≤ q) (wX aG aM aW aS aI q g ++ wR aR q r) → va_S (fun q : Nat => s.heap.size ≤ q) s.heap H locs → ∀ (ls : Array Slot), lv_has ls 4 [(0, .ref b), (1, .ref (aG 0)), (2, .ref (aR 0)), (3, .int (nI i))] → W p l e room_1 s m #[Value.ref b] below meth c H locs 41 3182 (lw_Z below #[Value.ref b] s) (F0 m 1076 ls [])) : W p l e room_1 s m #[Value.ref b] below meth c H locs 41 3182 (lw_Z below #[Value.ref b] s) (F0 m 454 ls []) := by
  obtain ⟨hx, hb, hr, hml, hown, hts, hX, hbl, hlocks, hgv⟩ := C0
  have hts : ∀ w ∈ wsL_law, w.before #[Value.ref b] s = true := fun w h => hts w (wsL_law_in w h)
  have hbA : ¬ (fun q : Nat => s.heap.size ≤ q) b := Nat.not_le.mpr hbl
  have hf := hs g r (xs (nI i + 1).toNatClampNeg) (xs (nI i + 2).toNatClampNeg) hrel
  refine lv_aload_n hx hb dL_law_454 rfl (lv_at hl 1 rfl) ?_
  refine lv_aload_n hx hb dL_law_455 rfl (lv_at hl 0 rfl) ?_
  refine lv_iload_n hx hb dL_law_456 rfl (lv_at hl 3 rfl) ?_
  refine lv_iconst (v := 1) hx hb dL_law_457 (by decide) ?_
  refine lv_iadd hx hb dL_law_458 ?_
  refine va_sld hx hb hX hbl hbA hS (law_st (k := 1) hL hi (by decide)) dL_law_459 ?_
  refine lv_aload_n hx hb dL_law_460 rfl (lv_at hl 0 rfl) ?_
  refine lv_iload_n hx hb dL_law_461 rfl (lv_at hl 3 rfl) ?_
  refine lv_iconst (v := 2) hx hb dL_law_462 (by decide) ?_
  refine lv_iadd hx hb dL_law_463 ?_
  refine va_sld hx hb hX hbl hbA hS (law_st (k := 2) hL hi (by decide)) dL_law_464 ?_
  refine k_wi (wf := fun u => wX aG aM aW aS aI q u) (u0 := g) (k_runV (As := [.int (xs (nI i + 1).toNatClampNeg), .int (xs (nI i + 2).toNatClampNeg)]) (rest := []) ⟨hx, hb, hml, hown, hts⟩ (c_X6_sheet l D q aG aM aW aS aI g.1 g.2.1 g.2.2.1 g.2.2.2 (xs (nI i + 1).toNatClampNeg) (xs (nI i + 2).toNatClampNeg) _ hf) (cwV 2 hts gL_law_X6_sheet rfl rfl rfl cdX6_sheet ⟨Nat.le_of_ble_eq_true rfl, Nat.le_of_ble_eq_true rfl⟩) hK (kp_l hP) (kd_l hD) 0 rfl rfl rfl hl.1 rfl (Nat.le_of_ble_eq_true rfl) dL_law_465 ⟨Nat.le_of_ble_eq_true rfl, Nat.le_of_ble_eq_true rfl⟩) ([]) (wR aR q r) (fun _ => rfl) hP hD hS (fun a g' H locs hf hP hD hS => ?_)
  have hP : va_P D vwCl (wX aG aM aW aS aI q g' ++ wR aR q r) H := hP
  have hD : va_D (fun q : Nat => s.heap.size ≤ q) (wX aG aM aW aS aI q g' ++ wR aR q r) := hD
  refine lv_aload_n hx hb dL_law_468 rfl (lv_at hl 2 rfl) ?_
  refine lv_aload_n hx hb dL_law_469 rfl (lv_at hl 0 rfl) ?_
  refine lv_iload_n hx hb dL_law_470 rfl (lv_at hl 3 rfl) ?_
  refine lv_iconst (v := 1) hx hb dL_law_471 (by decide) ?_
  refine lv_iadd hx hb dL_law_472 ?_
  refine va_sld hx hb hX hbl hbA hS (law_st (k := 1) hL hi (by decide)) dL_law_473 ?_
  refine lv_aload_n hx hb dL_law_474 rfl (lv_at hl 0 rfl) ?_
  refine lv_iload_n hx hb dL_law_475 rfl (lv_at hl 3 rfl) ?_
  refine lv_iconst (v := 2) hx hb dL_law_476 (by decide) ?_
  refine lv_iadd hx hb dL_law_477 ?_
  refine va_sld hx hb hX hbl hbA hS (law_st (k := 2) hL hi (by decide)) dL_law_478 ?_
  refine k_wi (wf := fun u => wR aR q u) (u0 := r) (k_runV (As := [.int (xs (nI i + 1).toNatClampNeg), .int (xs (nI i + 2).toNatClampNeg)]) (rest := [.int a]) ⟨hx, hb, hml, hown, hts⟩ (c_X7_sheet l D q aR r (xs (nI i + 1).toNatClampNeg) (xs (nI i + 2).toNatClampNeg) _ hf) (cwV 2 hts gL_law_X7_sheet rfl rfl rfl cdX7_sheet ⟨Nat.le_of_ble_eq_true rfl, Nat.le_of_ble_eq_true rfl⟩) hK (kp_r hP) (kd_r hD) 0 rfl rfl rfl hl.1 rfl (Nat.le_of_ble_eq_true rfl) dL_law_479 ⟨Nat.le_of_ble_eq_true rfl, Nat.le_of_ble_eq_true rfl⟩) (wX aG aM aW aS aI q g') ([]) (fun _ => rfl) hP hD hS (fun b' r' H locs hf hP hD hS => ?_)
  have hP : va_P D vwCl (wX aG aM aW aS aI q g' ++ wR aR q r') H := hP
  have hD : va_D (fun q : Nat => s.heap.size ≤ q) (wX aG aM aW aS aI q g' ++ wR aR q r') := hD
  refine lv_icmp_eq (tgt := 1076) hx hb dL_law_482 (by decide) (fun c1 => ?_) (fun c1 => absurd hf.1 c1)
  exact next g' r' hf.2 H locs hP hD hS ls hl
set_option maxRecDepth 100000 in
set_option maxHeartbeats 4000000 in
theorem law_11 (Rel : CSt → RSt → Prop) (hs : LS11 Rel) {p : Program} {l : Launch} {e : Env} {s : State} {m : MethodId} {below : List Frame} {meth : Method} {c : Code} {D : va_G} {q : Nat → ClassId} {aG aM aW aR : Nat → Nat} {aS aI : Nat → Nat → Nat} {b L : Nat} {xs : Nat → Int32} (hL : L ≤ 2048) (C0 : lw_At p s m meth c b L xs) (hK : va_K D vwCl (kT q) s) {i : Nat} (hi : i + 4 ≤ L) {g : CSt} {r : RSt} (hrel : Rel g r) {H : Heap} {locs : List Loc} (hP : va_P D vwCl (wX aG aM aW aS aI q g ++ wR aR q r) H) (hD : va_D (fun q : Nat => s.heap.size ≤ q) (wX aG aM aW aS aI q g ++ wR aR q r)) (hS : va_S (fun q : Nat => s.heap.size ≤ q) s.heap H locs) {ls : Array Slot} (hl : lv_has ls 4 [(0, .ref b), (1, .ref (aG 0)), (2, .ref (aR 0)), (3, .int (nI i))]) (next : ∀ (g : CSt) (r : RSt), Rel g r → ∀ (H : Heap) (locs : List Loc), va_P D vwCl (wX aG aM aW aS aI q g ++ wR aR q r) H → va_D (fun q : Nat => s.heap.size ≤ q) (wX aG aM aW aS aI q g ++ wR aR q r) → va_S (fun q : Nat => s.heap.size ≤ q) s.heap H locs → ∀ (ls : Array Slot), lv_has ls 4 [(0, .ref b), (1, .ref (aG 0)), (2, .ref (aR 0)), (3, .int (nI i))] → W p l e room_1 s m #[Value.ref b] below meth c H locs 41 3182 (lw_Z below #[Value.ref b] s) (F0 m 1076 ls [])) : W p l e room_1 s m #[Value.ref b] below meth c H locs 41 3182 (lw_Z below #[Value.ref b] s) (F0 m 487 ls []) := by
  obtain ⟨hx, hb, hr, hml, hown, hts, hX, hbl, hlocks, hgv⟩ := C0
  have hts : ∀ w ∈ wsL_law, w.before #[Value.ref b] s = true := fun w h => hts w (wsL_law_in w h)
  have hbA : ¬ (fun q : Nat => s.heap.size ≤ q) b := Nat.not_le.mpr hbl
  have hf := hs g r (xs (nI i + 1).toNatClampNeg) (xs (nI i + 2).toNatClampNeg) (xs (nI i + 3).toNatClampNeg) hrel
  refine lv_aload_n hx hb dL_law_487 rfl (lv_at hl 1 rfl) ?_
  refine lv_aload_n hx hb dL_law_488 rfl (lv_at hl 0 rfl) ?_
  refine lv_iload_n hx hb dL_law_489 rfl (lv_at hl 3 rfl) ?_
  refine lv_iconst (v := 1) hx hb dL_law_490 (by decide) ?_
  refine lv_iadd hx hb dL_law_491 ?_
  refine va_sld hx hb hX hbl hbA hS (law_st (k := 1) hL hi (by decide)) dL_law_492 ?_
  refine lv_aload_n hx hb dL_law_493 rfl (lv_at hl 0 rfl) ?_
  refine lv_iload_n hx hb dL_law_494 rfl (lv_at hl 3 rfl) ?_
  refine lv_iconst (v := 2) hx hb dL_law_495 (by decide) ?_
  refine lv_iadd hx hb dL_law_496 ?_
  refine va_sld hx hb hX hbl hbA hS (law_st (k := 2) hL hi (by decide)) dL_law_497 ?_
  refine lv_aload_n hx hb dL_law_498 rfl (lv_at hl 0 rfl) ?_
  refine lv_iload_n hx hb dL_law_499 rfl (lv_at hl 3 rfl) ?_
  refine lv_iconst (v := 3) hx hb dL_law_500 (by decide) ?_
  refine lv_iadd hx hb dL_law_501 ?_
  refine va_sld hx hb hX hbl hbA hS (law_st (k := 3) hL hi (by decide)) dL_law_502 ?_
  refine k_wi (wf := fun u => wX aG aM aW aS aI q u) (u0 := g) (k_runV (As := [.int (xs (nI i + 1).toNatClampNeg), .int (xs (nI i + 2).toNatClampNeg), .int (xs (nI i + 3).toNatClampNeg)]) (rest := []) ⟨hx, hb, hml, hown, hts⟩ (c_X6_set l D q aG aM aW aS aI g.1 g.2.1 g.2.2.1 g.2.2.2 (xs (nI i + 1).toNatClampNeg) (xs (nI i + 2).toNatClampNeg) (xs (nI i + 3).toNatClampNeg) _ hf) (cwV 3 hts gL_law_X6_set rfl rfl rfl cdX6_set ⟨Nat.le_of_ble_eq_true rfl, Nat.le_of_ble_eq_true rfl⟩) hK (kp_l hP) (kd_l hD) 0 rfl rfl rfl hl.1 rfl (Nat.le_of_ble_eq_true rfl) dL_law_503 ⟨Nat.le_of_ble_eq_true rfl, Nat.le_of_ble_eq_true rfl⟩) ([]) (wR aR q r) (fun _ => rfl) hP hD hS (fun a g' H locs hf hP hD hS => ?_)
  have hP : va_P D vwCl (wX aG aM aW aS aI q g' ++ wR aR q r) H := hP
  have hD : va_D (fun q : Nat => s.heap.size ≤ q) (wX aG aM aW aS aI q g' ++ wR aR q r) := hD
  refine lv_aload_n hx hb dL_law_506 rfl (lv_at hl 2 rfl) ?_
  refine lv_aload_n hx hb dL_law_507 rfl (lv_at hl 0 rfl) ?_
  refine lv_iload_n hx hb dL_law_508 rfl (lv_at hl 3 rfl) ?_
  refine lv_iconst (v := 1) hx hb dL_law_509 (by decide) ?_
  refine lv_iadd hx hb dL_law_510 ?_
  refine va_sld hx hb hX hbl hbA hS (law_st (k := 1) hL hi (by decide)) dL_law_511 ?_
  refine lv_aload_n hx hb dL_law_512 rfl (lv_at hl 0 rfl) ?_
  refine lv_iload_n hx hb dL_law_513 rfl (lv_at hl 3 rfl) ?_
  refine lv_iconst (v := 2) hx hb dL_law_514 (by decide) ?_
  refine lv_iadd hx hb dL_law_515 ?_
  refine va_sld hx hb hX hbl hbA hS (law_st (k := 2) hL hi (by decide)) dL_law_516 ?_
  refine lv_aload_n hx hb dL_law_517 rfl (lv_at hl 0 rfl) ?_
  refine lv_iload_n hx hb dL_law_518 rfl (lv_at hl 3 rfl) ?_
  refine lv_iconst (v := 3) hx hb dL_law_519 (by decide) ?_
  refine lv_iadd hx hb dL_law_520 ?_
  refine va_sld hx hb hX hbl hbA hS (law_st (k := 3) hL hi (by decide)) dL_law_521 ?_
  refine k_wi (wf := fun u => wR aR q u) (u0 := r) (k_runV (As := [.int (xs (nI i + 1).toNatClampNeg), .int (xs (nI i + 2).toNatClampNeg), .int (xs (nI i + 3).toNatClampNeg)]) (rest := [.int a]) ⟨hx, hb, hml, hown, hts⟩ (c_X7_set l D q aR r (xs (nI i + 1).toNatClampNeg) (xs (nI i + 2).toNatClampNeg) (xs (nI i + 3).toNatClampNeg) _ hf) (cwV 3 hts gL_law_X7_set rfl rfl rfl cdX7_set ⟨Nat.le_of_ble_eq_true rfl, Nat.le_of_ble_eq_true rfl⟩) hK (kp_r hP) (kd_r hD) 0 rfl rfl rfl hl.1 rfl (Nat.le_of_ble_eq_true rfl) dL_law_522 ⟨Nat.le_of_ble_eq_true rfl, Nat.le_of_ble_eq_true rfl⟩) (wX aG aM aW aS aI q g') ([]) (fun _ => rfl) hP hD hS (fun b' r' H locs hf hP hD hS => ?_)
  have hP : va_P D vwCl (wX aG aM aW aS aI q g' ++ wR aR q r') H := hP
  have hD : va_D (fun q : Nat => s.heap.size ≤ q) (wX aG aM aW aS aI q g' ++ wR aR q r') := hD
  refine lv_icmp_eq (tgt := 1076) hx hb dL_law_525 (by decide) (fun c1 => ?_) (fun c1 => absurd hf.1 c1)
  exact next g' r' hf.2 H locs hP hD hS ls hl
set_option maxRecDepth 100000 in
set_option maxHeartbeats 4000000 in
theorem law_12 (Rel : CSt → RSt → Prop) (hs : LS12 Rel) {p : Program} {l : Launch} {e : Env} {s : State} {m : MethodId} {below : List Frame} {meth : Method} {c : Code} {D : va_G} {q : Nat → ClassId} {aG aM aW aR : Nat → Nat} {aS aI : Nat → Nat → Nat} {b L : Nat} {xs : Nat → Int32} (hL : L ≤ 2048) (C0 : lw_At p s m meth c b L xs) (hK : va_K D vwCl (kT q) s) {i : Nat} (hi : i + 4 ≤ L) {g : CSt} {r : RSt} (hrel : Rel g r) {H : Heap} {locs : List Loc} (hP : va_P D vwCl (wX aG aM aW aS aI q g ++ wR aR q r) H) (hD : va_D (fun q : Nat => s.heap.size ≤ q) (wX aG aM aW aS aI q g ++ wR aR q r)) (hS : va_S (fun q : Nat => s.heap.size ≤ q) s.heap H locs) {ls : Array Slot} (hl : lv_has ls 4 [(0, .ref b), (1, .ref (aG 0)), (2, .ref (aR 0)), (3, .int (nI i))]) (next : ∀ (g : CSt) (r : RSt), Rel g r → ∀ (H : Heap) (locs : List Loc), va_P D vwCl (wX aG aM aW aS aI q g ++ wR aR q r) H → va_D (fun q : Nat => s.heap.size ≤ q) (wX aG aM aW aS aI q g ++ wR aR q r) → va_S (fun q : Nat => s.heap.size ≤ q) s.heap H locs → ∀ (ls : Array Slot), lv_has ls 4 [(0, .ref b), (1, .ref (aG 0)), (2, .ref (aR 0)), (3, .int (nI i))] → W p l e room_1 s m #[Value.ref b] below meth c H locs 41 3182 (lw_Z below #[Value.ref b] s) (F0 m 1076 ls [])) : W p l e room_1 s m #[Value.ref b] below meth c H locs 41 3182 (lw_Z below #[Value.ref b] s) (F0 m 530 ls []) := by
  obtain ⟨hx, hb, hr, hml, hown, hts, hX, hbl, hlocks, hgv⟩ := C0
  have hts : ∀ w ∈ wsL_law, w.before #[Value.ref b] s = true := fun w h => hts w (wsL_law_in w h)
  have hbA : ¬ (fun q : Nat => s.heap.size ≤ q) b := Nat.not_le.mpr hbl
  have hf := hs g r (xs (nI i + 1).toNatClampNeg) (xs (nI i + 2).toNatClampNeg) hrel
  refine lv_aload_n hx hb dL_law_530 rfl (lv_at hl 1 rfl) ?_
  refine lv_aload_n hx hb dL_law_531 rfl (lv_at hl 0 rfl) ?_
  refine lv_iload_n hx hb dL_law_532 rfl (lv_at hl 3 rfl) ?_
  refine lv_iconst (v := 1) hx hb dL_law_533 (by decide) ?_
  refine lv_iadd hx hb dL_law_534 ?_
  refine va_sld hx hb hX hbl hbA hS (law_st (k := 1) hL hi (by decide)) dL_law_535 ?_
  refine lv_aload_n hx hb dL_law_536 rfl (lv_at hl 0 rfl) ?_
  refine lv_iload_n hx hb dL_law_537 rfl (lv_at hl 3 rfl) ?_
  refine lv_iconst (v := 2) hx hb dL_law_538 (by decide) ?_
  refine lv_iadd hx hb dL_law_539 ?_
  refine va_sld hx hb hX hbl hbA hS (law_st (k := 2) hL hi (by decide)) dL_law_540 ?_
  refine k_wi (wf := fun u => wX aG aM aW aS aI q u) (u0 := g) (k_runV (As := [.int (xs (nI i + 1).toNatClampNeg), .int (xs (nI i + 2).toNatClampNeg)]) (rest := []) ⟨hx, hb, hml, hown, hts⟩ (c_X6_get l D q aG aM aW aS aI g.1 g.2.1 g.2.2.1 g.2.2.2 (xs (nI i + 1).toNatClampNeg) (xs (nI i + 2).toNatClampNeg) _ hf) (cwV 2 hts gL_law_X6_get rfl rfl rfl cdX6_get ⟨Nat.le_of_ble_eq_true rfl, Nat.le_of_ble_eq_true rfl⟩) hK (kp_l hP) (kd_l hD) 0 rfl rfl rfl hl.1 rfl (Nat.le_of_ble_eq_true rfl) dL_law_541 ⟨Nat.le_of_ble_eq_true rfl, Nat.le_of_ble_eq_true rfl⟩) ([]) (wR aR q r) (fun _ => rfl) hP hD hS (fun a g' H locs hf hP hD hS => ?_)
  have hP : va_P D vwCl (wX aG aM aW aS aI q g' ++ wR aR q r) H := hP
  have hD : va_D (fun q : Nat => s.heap.size ≤ q) (wX aG aM aW aS aI q g' ++ wR aR q r) := hD
  refine lv_aload_n hx hb dL_law_544 rfl (lv_at hl 2 rfl) ?_
  refine lv_aload_n hx hb dL_law_545 rfl (lv_at hl 0 rfl) ?_
  refine lv_iload_n hx hb dL_law_546 rfl (lv_at hl 3 rfl) ?_
  refine lv_iconst (v := 1) hx hb dL_law_547 (by decide) ?_
  refine lv_iadd hx hb dL_law_548 ?_
  refine va_sld hx hb hX hbl hbA hS (law_st (k := 1) hL hi (by decide)) dL_law_549 ?_
  refine lv_aload_n hx hb dL_law_550 rfl (lv_at hl 0 rfl) ?_
  refine lv_iload_n hx hb dL_law_551 rfl (lv_at hl 3 rfl) ?_
  refine lv_iconst (v := 2) hx hb dL_law_552 (by decide) ?_
  refine lv_iadd hx hb dL_law_553 ?_
  refine va_sld hx hb hX hbl hbA hS (law_st (k := 2) hL hi (by decide)) dL_law_554 ?_
  refine k_si (k_runV (As := [.int (xs (nI i + 1).toNatClampNeg), .int (xs (nI i + 2).toNatClampNeg)]) (rest := [.int a]) ⟨hx, hb, hml, hown, hts⟩ (c_X7_get l D q aR r (xs (nI i + 1).toNatClampNeg) (xs (nI i + 2).toNatClampNeg) _ hf) (cwV 2 hts gL_law_X7_get rfl rfl rfl cdX7_get ⟨Nat.le_of_ble_eq_true rfl, Nat.le_of_ble_eq_true rfl⟩) hK (kp_r hP) (kd_r hD) 0 rfl rfl rfl hl.1 rfl (Nat.le_of_ble_eq_true rfl) dL_law_555 ⟨Nat.le_of_ble_eq_true rfl, Nat.le_of_ble_eq_true rfl⟩) (fun b' hf => ?_)
  refine lv_icmp_eq (tgt := 1076) hx hb dL_law_558 (by decide) (fun c1 => ?_) (fun c1 => absurd hf.1 c1)
  exact next g' r hf.2 H locs hP hD hS ls hl
set_option maxRecDepth 100000 in
set_option maxHeartbeats 4000000 in
theorem law_13 (Rel : CSt → RSt → Prop) (hs : LS13 Rel) {p : Program} {l : Launch} {e : Env} {s : State} {m : MethodId} {below : List Frame} {meth : Method} {c : Code} {D : va_G} {q : Nat → ClassId} {aG aM aW aR : Nat → Nat} {aS aI : Nat → Nat → Nat} {b L : Nat} {xs : Nat → Int32} (hL : L ≤ 2048) (C0 : lw_At p s m meth c b L xs) (hK : va_K D vwCl (kT q) s) {i : Nat} (hi : i + 4 ≤ L) {g : CSt} {r : RSt} (hrel : Rel g r) {H : Heap} {locs : List Loc} (hP : va_P D vwCl (wX aG aM aW aS aI q g ++ wR aR q r) H) (hD : va_D (fun q : Nat => s.heap.size ≤ q) (wX aG aM aW aS aI q g ++ wR aR q r)) (hS : va_S (fun q : Nat => s.heap.size ≤ q) s.heap H locs) {ls : Array Slot} (hl : lv_has ls 4 [(0, .ref b), (1, .ref (aG 0)), (2, .ref (aR 0)), (3, .int (nI i))]) (next : ∀ (g : CSt) (r : RSt), Rel g r → ∀ (H : Heap) (locs : List Loc), va_P D vwCl (wX aG aM aW aS aI q g ++ wR aR q r) H → va_D (fun q : Nat => s.heap.size ≤ q) (wX aG aM aW aS aI q g ++ wR aR q r) → va_S (fun q : Nat => s.heap.size ≤ q) s.heap H locs → ∀ (ls : Array Slot), lv_has ls 4 [(0, .ref b), (1, .ref (aG 0)), (2, .ref (aR 0)), (3, .int (nI i))] → W p l e room_1 s m #[Value.ref b] below meth c H locs 41 3182 (lw_Z below #[Value.ref b] s) (F0 m 1076 ls [])) : W p l e room_1 s m #[Value.ref b] below meth c H locs 41 3182 (lw_Z below #[Value.ref b] s) (F0 m 563 ls []) := by
  obtain ⟨hx, hb, hr, hml, hown, hts, hX, hbl, hlocks, hgv⟩ := C0
  have hts : ∀ w ∈ wsL_law, w.before #[Value.ref b] s = true := fun w h => hts w (wsL_law_in w h)
  have hbA : ¬ (fun q : Nat => s.heap.size ≤ q) b := Nat.not_le.mpr hbl
  have hf := hs g r (xs (nI i + 1).toNatClampNeg) hrel
  refine lv_aload_n hx hb dL_law_563 rfl (lv_at hl 1 rfl) ?_
  refine lv_aload_n hx hb dL_law_564 rfl (lv_at hl 0 rfl) ?_
  refine lv_iload_n hx hb dL_law_565 rfl (lv_at hl 3 rfl) ?_
  refine lv_iconst (v := 1) hx hb dL_law_566 (by decide) ?_
  refine lv_iadd hx hb dL_law_567 ?_
  refine va_sld hx hb hX hbl hbA hS (law_st (k := 1) hL hi (by decide)) dL_law_568 ?_
  refine k_wi (wf := fun u => wX aG aM aW aS aI q u) (u0 := g) (k_runV (As := [.int (xs (nI i + 1).toNatClampNeg)]) (rest := []) ⟨hx, hb, hml, hown, hts⟩ (c_X6_size l D q aG aM aW aS aI g.1 g.2.1 g.2.2.1 g.2.2.2 (xs (nI i + 1).toNatClampNeg) _ hf) (cwV 1 hts gL_law_X6_size rfl rfl rfl cdX6_size ⟨Nat.le_of_ble_eq_true rfl, Nat.le_of_ble_eq_true rfl⟩) hK (kp_l hP) (kd_l hD) 0 rfl rfl rfl hl.1 rfl (Nat.le_of_ble_eq_true rfl) dL_law_569 ⟨Nat.le_of_ble_eq_true rfl, Nat.le_of_ble_eq_true rfl⟩) ([]) (wR aR q r) (fun _ => rfl) hP hD hS (fun a g' H locs hf hP hD hS => ?_)
  have hP : va_P D vwCl (wX aG aM aW aS aI q g' ++ wR aR q r) H := hP
  have hD : va_D (fun q : Nat => s.heap.size ≤ q) (wX aG aM aW aS aI q g' ++ wR aR q r) := hD
  refine lv_aload_n hx hb dL_law_572 rfl (lv_at hl 2 rfl) ?_
  refine lv_aload_n hx hb dL_law_573 rfl (lv_at hl 0 rfl) ?_
  refine lv_iload_n hx hb dL_law_574 rfl (lv_at hl 3 rfl) ?_
  refine lv_iconst (v := 1) hx hb dL_law_575 (by decide) ?_
  refine lv_iadd hx hb dL_law_576 ?_
  refine va_sld hx hb hX hbl hbA hS (law_st (k := 1) hL hi (by decide)) dL_law_577 ?_
  refine k_si (k_runV (As := [.int (xs (nI i + 1).toNatClampNeg)]) (rest := [.int a]) ⟨hx, hb, hml, hown, hts⟩ (c_X7_size l D q aR r (xs (nI i + 1).toNatClampNeg) _ hf) (cwV 1 hts gL_law_X7_size rfl rfl rfl cdX7_size ⟨Nat.le_of_ble_eq_true rfl, Nat.le_of_ble_eq_true rfl⟩) hK (kp_r hP) (kd_r hD) 0 rfl rfl rfl hl.1 rfl (Nat.le_of_ble_eq_true rfl) dL_law_578 ⟨Nat.le_of_ble_eq_true rfl, Nat.le_of_ble_eq_true rfl⟩) (fun b' hf => ?_)
  refine lv_icmp_eq (tgt := 1076) hx hb dL_law_581 (by decide) (fun c1 => ?_) (fun c1 => absurd hf.1 c1)
  exact next g' r hf.2 H locs hP hD hS ls hl
set_option maxRecDepth 100000 in
set_option maxHeartbeats 4000000 in
theorem law_14 (Rel : CSt → RSt → Prop) (hs : LS14 Rel) {p : Program} {l : Launch} {e : Env} {s : State} {m : MethodId} {below : List Frame} {meth : Method} {c : Code} {D : va_G} {q : Nat → ClassId} {aG aM aW aR : Nat → Nat} {aS aI : Nat → Nat → Nat} {b L : Nat} {xs : Nat → Int32} (hL : L ≤ 2048) (C0 : lw_At p s m meth c b L xs) (hK : va_K D vwCl (kT q) s) {i : Nat} (hi : i + 4 ≤ L) {g : CSt} {r : RSt} (hrel : Rel g r) {H : Heap} {locs : List Loc} (hP : va_P D vwCl (wX aG aM aW aS aI q g ++ wR aR q r) H) (hD : va_D (fun q : Nat => s.heap.size ≤ q) (wX aG aM aW aS aI q g ++ wR aR q r)) (hS : va_S (fun q : Nat => s.heap.size ≤ q) s.heap H locs) {ls : Array Slot} (hl : lv_has ls 4 [(0, .ref b), (1, .ref (aG 0)), (2, .ref (aR 0)), (3, .int (nI i))]) (next : ∀ (g : CSt) (r : RSt), Rel g r → ∀ (H : Heap) (locs : List Loc), va_P D vwCl (wX aG aM aW aS aI q g ++ wR aR q r) H → va_D (fun q : Nat => s.heap.size ≤ q) (wX aG aM aW aS aI q g ++ wR aR q r) → va_S (fun q : Nat => s.heap.size ≤ q) s.heap H locs → ∀ (ls : Array Slot), lv_has ls 4 [(0, .ref b), (1, .ref (aG 0)), (2, .ref (aR 0)), (3, .int (nI i))] → W p l e room_1 s m #[Value.ref b] below meth c H locs 41 3182 (lw_Z below #[Value.ref b] s) (F0 m 1076 ls [])) : W p l e room_1 s m #[Value.ref b] below meth c H locs 41 3182 (lw_Z below #[Value.ref b] s) (F0 m 586 ls []) := by
  obtain ⟨hx, hb, hr, hml, hown, hts, hX, hbl, hlocks, hgv⟩ := C0
  have hts : ∀ w ∈ wsL_law, w.before #[Value.ref b] s = true := fun w h => hts w (wsL_law_in w h)
  have hbA : ¬ (fun q : Nat => s.heap.size ≤ q) b := Nat.not_le.mpr hbl
  have hf := hs g r (xs (nI i + 1).toNatClampNeg) hrel
  refine lv_aload_n hx hb dL_law_586 rfl (lv_at hl 1 rfl) ?_
  refine lv_aload_n hx hb dL_law_587 rfl (lv_at hl 0 rfl) ?_
  refine lv_iload_n hx hb dL_law_588 rfl (lv_at hl 3 rfl) ?_
  refine lv_iconst (v := 1) hx hb dL_law_589 (by decide) ?_
  refine lv_iadd hx hb dL_law_590 ?_
  refine va_sld hx hb hX hbl hbA hS (law_st (k := 1) hL hi (by decide)) dL_law_591 ?_
  refine k_wi (wf := fun u => wX aG aM aW aS aI q u) (u0 := g) (k_runV (As := [.int (xs (nI i + 1).toNatClampNeg)]) (rest := []) ⟨hx, hb, hml, hown, hts⟩ (c_X6_drop l D q aG aM aW aS aI g.1 g.2.1 g.2.2.1 g.2.2.2 (xs (nI i + 1).toNatClampNeg) _ hf) (cwV 1 hts gL_law_X6_drop rfl rfl rfl cdX6_drop ⟨Nat.le_of_ble_eq_true rfl, Nat.le_of_ble_eq_true rfl⟩) hK (kp_l hP) (kd_l hD) 0 rfl rfl rfl hl.1 rfl (Nat.le_of_ble_eq_true rfl) dL_law_592 ⟨Nat.le_of_ble_eq_true rfl, Nat.le_of_ble_eq_true rfl⟩) ([]) (wR aR q r) (fun _ => rfl) hP hD hS (fun a g' H locs hf hP hD hS => ?_)
  have hP : va_P D vwCl (wX aG aM aW aS aI q g' ++ wR aR q r) H := hP
  have hD : va_D (fun q : Nat => s.heap.size ≤ q) (wX aG aM aW aS aI q g' ++ wR aR q r) := hD
  refine lv_aload_n hx hb dL_law_595 rfl (lv_at hl 2 rfl) ?_
  refine lv_aload_n hx hb dL_law_596 rfl (lv_at hl 0 rfl) ?_
  refine lv_iload_n hx hb dL_law_597 rfl (lv_at hl 3 rfl) ?_
  refine lv_iconst (v := 1) hx hb dL_law_598 (by decide) ?_
  refine lv_iadd hx hb dL_law_599 ?_
  refine va_sld hx hb hX hbl hbA hS (law_st (k := 1) hL hi (by decide)) dL_law_600 ?_
  refine k_wi (wf := fun u => wR aR q u) (u0 := r) (k_runV (As := [.int (xs (nI i + 1).toNatClampNeg)]) (rest := [.int a]) ⟨hx, hb, hml, hown, hts⟩ (c_X7_drop l D q aR r (xs (nI i + 1).toNatClampNeg) _ hf) (cwV 1 hts gL_law_X7_drop rfl rfl rfl cdX7_drop ⟨Nat.le_of_ble_eq_true rfl, Nat.le_of_ble_eq_true rfl⟩) hK (kp_r hP) (kd_r hD) 0 rfl rfl rfl hl.1 rfl (Nat.le_of_ble_eq_true rfl) dL_law_601 ⟨Nat.le_of_ble_eq_true rfl, Nat.le_of_ble_eq_true rfl⟩) (wX aG aM aW aS aI q g') ([]) (fun _ => rfl) hP hD hS (fun b' r' H locs hf hP hD hS => ?_)
  have hP : va_P D vwCl (wX aG aM aW aS aI q g' ++ wR aR q r') H := hP
  have hD : va_D (fun q : Nat => s.heap.size ≤ q) (wX aG aM aW aS aI q g' ++ wR aR q r') := hD
  refine lv_icmp_eq (tgt := 1076) hx hb dL_law_604 (by decide) (fun c1 => ?_) (fun c1 => absurd hf.1 c1)
  exact next g' r' hf.2 H locs hP hD hS ls hl
set_option maxRecDepth 100000 in
set_option maxHeartbeats 4000000 in
theorem law_15 (Rel : CSt → RSt → Prop) (hs : LS15 Rel) {p : Program} {l : Launch} {e : Env} {s : State} {m : MethodId} {below : List Frame} {meth : Method} {c : Code} {D : va_G} {q : Nat → ClassId} {aG aM aW aR : Nat → Nat} {aS aI : Nat → Nat → Nat} {b L : Nat} {xs : Nat → Int32} (hL : L ≤ 2048) (C0 : lw_At p s m meth c b L xs) (hK : va_K D vwCl (kT q) s) {i : Nat} (hi : i + 4 ≤ L) {g : CSt} {r : RSt} (hrel : Rel g r) {H : Heap} {locs : List Loc} (hP : va_P D vwCl (wX aG aM aW aS aI q g ++ wR aR q r) H) (hD : va_D (fun q : Nat => s.heap.size ≤ q) (wX aG aM aW aS aI q g ++ wR aR q r)) (hS : va_S (fun q : Nat => s.heap.size ≤ q) s.heap H locs) {ls : Array Slot} (hl : lv_has ls 4 [(0, .ref b), (1, .ref (aG 0)), (2, .ref (aR 0)), (3, .int (nI i))]) (next : ∀ (g : CSt) (r : RSt), Rel g r → ∀ (H : Heap) (locs : List Loc), va_P D vwCl (wX aG aM aW aS aI q g ++ wR aR q r) H → va_D (fun q : Nat => s.heap.size ≤ q) (wX aG aM aW aS aI q g ++ wR aR q r) → va_S (fun q : Nat => s.heap.size ≤ q) s.heap H locs → ∀ (ls : Array Slot), lv_has ls 4 [(0, .ref b), (1, .ref (aG 0)), (2, .ref (aR 0)), (3, .int (nI i))] → W p l e room_1 s m #[Value.ref b] below meth c H locs 41 3182 (lw_Z below #[Value.ref b] s) (F0 m 1076 ls [])) : W p l e room_1 s m #[Value.ref b] below meth c H locs 41 3182 (lw_Z below #[Value.ref b] s) (F0 m 609 ls []) := by
  obtain ⟨hx, hb, hr, hml, hown, hts, hX, hbl, hlocks, hgv⟩ := C0
  have hts : ∀ w ∈ wsL_law, w.before #[Value.ref b] s = true := fun w h => hts w (wsL_law_in w h)
  have hbA : ¬ (fun q : Nat => s.heap.size ≤ q) b := Nat.not_le.mpr hbl
  have hf := hs g r (xs (nI i + 1).toNatClampNeg) hrel
  refine lv_aload_n hx hb dL_law_609 rfl (lv_at hl 1 rfl) ?_
  refine lv_aload_n hx hb dL_law_610 rfl (lv_at hl 0 rfl) ?_
  refine lv_iload_n hx hb dL_law_611 rfl (lv_at hl 3 rfl) ?_
  refine lv_iconst (v := 1) hx hb dL_law_612 (by decide) ?_
  refine lv_iadd hx hb dL_law_613 ?_
  refine va_sld hx hb hX hbl hbA hS (law_st (k := 1) hL hi (by decide)) dL_law_614 ?_
  refine k_wi (wf := fun u => wX aG aM aW aS aI q u) (u0 := g) (k_runV (As := [.int (xs (nI i + 1).toNatClampNeg)]) (rest := []) ⟨hx, hb, hml, hown, hts⟩ (c_X6_walk l D q aG aM aW aS aI g.1 g.2.1 g.2.2.1 g.2.2.2 (xs (nI i + 1).toNatClampNeg) _ hf) (cwV 1 hts gL_law_X6_walk rfl rfl rfl cdX6_walk ⟨Nat.le_of_ble_eq_true rfl, Nat.le_of_ble_eq_true rfl⟩) hK (kp_l hP) (kd_l hD) 0 rfl rfl rfl hl.1 rfl (Nat.le_of_ble_eq_true rfl) dL_law_615 ⟨Nat.le_of_ble_eq_true rfl, Nat.le_of_ble_eq_true rfl⟩) ([]) (wR aR q r) (fun _ => rfl) hP hD hS (fun a g' H locs hf hP hD hS => ?_)
  have hP : va_P D vwCl (wX aG aM aW aS aI q g' ++ wR aR q r) H := hP
  have hD : va_D (fun q : Nat => s.heap.size ≤ q) (wX aG aM aW aS aI q g' ++ wR aR q r) := hD
  refine lv_aload_n hx hb dL_law_618 rfl (lv_at hl 2 rfl) ?_
  refine lv_aload_n hx hb dL_law_619 rfl (lv_at hl 0 rfl) ?_
  refine lv_iload_n hx hb dL_law_620 rfl (lv_at hl 3 rfl) ?_
  refine lv_iconst (v := 1) hx hb dL_law_621 (by decide) ?_
  refine lv_iadd hx hb dL_law_622 ?_
  refine va_sld hx hb hX hbl hbA hS (law_st (k := 1) hL hi (by decide)) dL_law_623 ?_
  refine k_si (k_runV (As := [.int (xs (nI i + 1).toNatClampNeg)]) (rest := [.int a]) ⟨hx, hb, hml, hown, hts⟩ (c_X7_walk l D q aR r (xs (nI i + 1).toNatClampNeg) _ hf) (cwV 1 hts gL_law_X7_walk rfl rfl rfl cdX7_walk ⟨Nat.le_of_ble_eq_true rfl, Nat.le_of_ble_eq_true rfl⟩) hK (kp_r hP) (kd_r hD) 0 rfl rfl rfl hl.1 rfl (Nat.le_of_ble_eq_true rfl) dL_law_624 ⟨Nat.le_of_ble_eq_true rfl, Nat.le_of_ble_eq_true rfl⟩) (fun b' hf => ?_)
  refine lv_icmp_eq (tgt := 1076) hx hb dL_law_627 (by decide) (fun c1 => ?_) (fun c1 => absurd hf.1 c1)
  exact next g' r hf.2 H locs hP hD hS ls hl
set_option maxRecDepth 100000 in
set_option maxHeartbeats 4000000 in
theorem law_16 (Rel : CSt → RSt → Prop) (hs : LS16 Rel) {p : Program} {l : Launch} {e : Env} {s : State} {m : MethodId} {below : List Frame} {meth : Method} {c : Code} {D : va_G} {q : Nat → ClassId} {aG aM aW aR : Nat → Nat} {aS aI : Nat → Nat → Nat} {b L : Nat} {xs : Nat → Int32} (hL : L ≤ 2048) (C0 : lw_At p s m meth c b L xs) (hK : va_K D vwCl (kT q) s) {i : Nat} (hi : i + 4 ≤ L) {g : CSt} {r : RSt} (hrel : Rel g r) {H : Heap} {locs : List Loc} (hP : va_P D vwCl (wX aG aM aW aS aI q g ++ wR aR q r) H) (hD : va_D (fun q : Nat => s.heap.size ≤ q) (wX aG aM aW aS aI q g ++ wR aR q r)) (hS : va_S (fun q : Nat => s.heap.size ≤ q) s.heap H locs) {ls : Array Slot} (hl : lv_has ls 4 [(0, .ref b), (1, .ref (aG 0)), (2, .ref (aR 0)), (3, .int (nI i))]) (next : ∀ (g : CSt) (r : RSt), Rel g r → ∀ (H : Heap) (locs : List Loc), va_P D vwCl (wX aG aM aW aS aI q g ++ wR aR q r) H → va_D (fun q : Nat => s.heap.size ≤ q) (wX aG aM aW aS aI q g ++ wR aR q r) → va_S (fun q : Nat => s.heap.size ≤ q) s.heap H locs → ∀ (ls : Array Slot), lv_has ls 4 [(0, .ref b), (1, .ref (aG 0)), (2, .ref (aR 0)), (3, .int (nI i))] → W p l e room_1 s m #[Value.ref b] below meth c H locs 41 3182 (lw_Z below #[Value.ref b] s) (F0 m 1076 ls [])) : W p l e room_1 s m #[Value.ref b] below meth c H locs 41 3182 (lw_Z below #[Value.ref b] s) (F0 m 632 ls []) := by
  obtain ⟨hx, hb, hr, hml, hown, hts, hX, hbl, hlocks, hgv⟩ := C0
  have hts : ∀ w ∈ wsL_law, w.before #[Value.ref b] s = true := fun w h => hts w (wsL_law_in w h)
  have hbA : ¬ (fun q : Nat => s.heap.size ≤ q) b := Nat.not_le.mpr hbl
  have hf := hs g r (xs (nI i + 1).toNatClampNeg) (xs (nI i + 2).toNatClampNeg) hrel
  refine lv_aload_n hx hb dL_law_632 rfl (lv_at hl 1 rfl) ?_
  refine lv_aload_n hx hb dL_law_633 rfl (lv_at hl 0 rfl) ?_
  refine lv_iload_n hx hb dL_law_634 rfl (lv_at hl 3 rfl) ?_
  refine lv_iconst (v := 1) hx hb dL_law_635 (by decide) ?_
  refine lv_iadd hx hb dL_law_636 ?_
  refine va_sld hx hb hX hbl hbA hS (law_st (k := 1) hL hi (by decide)) dL_law_637 ?_
  refine lv_aload_n hx hb dL_law_638 rfl (lv_at hl 0 rfl) ?_
  refine lv_iload_n hx hb dL_law_639 rfl (lv_at hl 3 rfl) ?_
  refine lv_iconst (v := 2) hx hb dL_law_640 (by decide) ?_
  refine lv_iadd hx hb dL_law_641 ?_
  refine va_sld hx hb hX hbl hbA hS (law_st (k := 2) hL hi (by decide)) dL_law_642 ?_
  refine k_wi (wf := fun u => wX aG aM aW aS aI q u) (u0 := g) (k_runV (As := [.int (xs (nI i + 1).toNatClampNeg), .int (xs (nI i + 2).toNatClampNeg)]) (rest := []) ⟨hx, hb, hml, hown, hts⟩ (c_X6_times l D q aG aM aW aS aI g.1 g.2.1 g.2.2.1 g.2.2.2 (xs (nI i + 1).toNatClampNeg) (xs (nI i + 2).toNatClampNeg) _ hf) (cwV 2 hts gL_law_X6_times rfl rfl rfl cdX6_times ⟨Nat.le_of_ble_eq_true rfl, Nat.le_of_ble_eq_true rfl⟩) hK (kp_l hP) (kd_l hD) 0 rfl rfl rfl hl.1 rfl (Nat.le_of_ble_eq_true rfl) dL_law_643 ⟨Nat.le_of_ble_eq_true rfl, Nat.le_of_ble_eq_true rfl⟩) ([]) (wR aR q r) (fun _ => rfl) hP hD hS (fun a g' H locs hf hP hD hS => ?_)
  have hP : va_P D vwCl (wX aG aM aW aS aI q g' ++ wR aR q r) H := hP
  have hD : va_D (fun q : Nat => s.heap.size ≤ q) (wX aG aM aW aS aI q g' ++ wR aR q r) := hD
  refine lv_aload_n hx hb dL_law_646 rfl (lv_at hl 2 rfl) ?_
  refine lv_aload_n hx hb dL_law_647 rfl (lv_at hl 0 rfl) ?_
  refine lv_iload_n hx hb dL_law_648 rfl (lv_at hl 3 rfl) ?_
  refine lv_iconst (v := 1) hx hb dL_law_649 (by decide) ?_
  refine lv_iadd hx hb dL_law_650 ?_
  refine va_sld hx hb hX hbl hbA hS (law_st (k := 1) hL hi (by decide)) dL_law_651 ?_
  refine lv_aload_n hx hb dL_law_652 rfl (lv_at hl 0 rfl) ?_
  refine lv_iload_n hx hb dL_law_653 rfl (lv_at hl 3 rfl) ?_
  refine lv_iconst (v := 2) hx hb dL_law_654 (by decide) ?_
  refine lv_iadd hx hb dL_law_655 ?_
  refine va_sld hx hb hX hbl hbA hS (law_st (k := 2) hL hi (by decide)) dL_law_656 ?_
  refine k_si (k_runV (As := [.int (xs (nI i + 1).toNatClampNeg), .int (xs (nI i + 2).toNatClampNeg)]) (rest := [.int a]) ⟨hx, hb, hml, hown, hts⟩ (c_X7_times l D q aR r (xs (nI i + 1).toNatClampNeg) (xs (nI i + 2).toNatClampNeg) _ hf) (cwV 2 hts gL_law_X7_times rfl rfl rfl cdX7_times ⟨Nat.le_of_ble_eq_true rfl, Nat.le_of_ble_eq_true rfl⟩) hK (kp_r hP) (kd_r hD) 0 rfl rfl rfl hl.1 rfl (Nat.le_of_ble_eq_true rfl) dL_law_657 ⟨Nat.le_of_ble_eq_true rfl, Nat.le_of_ble_eq_true rfl⟩) (fun b' hf => ?_)
  refine lv_icmp_eq (tgt := 1076) hx hb dL_law_660 (by decide) (fun c1 => ?_) (fun c1 => absurd hf.1 c1)
  exact next g' r hf.2 H locs hP hD hS ls hl
set_option maxRecDepth 100000 in
set_option maxHeartbeats 4000000 in
theorem law_17 (Rel : CSt → RSt → Prop) (hs : LS17 Rel) {p : Program} {l : Launch} {e : Env} {s : State} {m : MethodId} {below : List Frame} {meth : Method} {c : Code} {D : va_G} {q : Nat → ClassId} {aG aM aW aR : Nat → Nat} {aS aI : Nat → Nat → Nat} {b L : Nat} {xs : Nat → Int32} (hL : L ≤ 2048) (C0 : lw_At p s m meth c b L xs) (hK : va_K D vwCl (kT q) s) {i : Nat} (hi : i + 4 ≤ L) {g : CSt} {r : RSt} (hrel : Rel g r) {H : Heap} {locs : List Loc} (hP : va_P D vwCl (wX aG aM aW aS aI q g ++ wR aR q r) H) (hD : va_D (fun q : Nat => s.heap.size ≤ q) (wX aG aM aW aS aI q g ++ wR aR q r)) (hS : va_S (fun q : Nat => s.heap.size ≤ q) s.heap H locs) {ls : Array Slot} (hl : lv_has ls 4 [(0, .ref b), (1, .ref (aG 0)), (2, .ref (aR 0)), (3, .int (nI i))]) (next : ∀ (g : CSt) (r : RSt), Rel g r → ∀ (H : Heap) (locs : List Loc), va_P D vwCl (wX aG aM aW aS aI q g ++ wR aR q r) H → va_D (fun q : Nat => s.heap.size ≤ q) (wX aG aM aW aS aI q g ++ wR aR q r) → va_S (fun q : Nat => s.heap.size ≤ q) s.heap H locs → ∀ (ls : Array Slot), lv_has ls 4 [(0, .ref b), (1, .ref (aG 0)), (2, .ref (aR 0)), (3, .int (nI i))] → W p l e room_1 s m #[Value.ref b] below meth c H locs 41 3182 (lw_Z below #[Value.ref b] s) (F0 m 1076 ls [])) : W p l e room_1 s m #[Value.ref b] below meth c H locs 41 3182 (lw_Z below #[Value.ref b] s) (F0 m 665 ls []) := by
  obtain ⟨hx, hb, hr, hml, hown, hts, hX, hbl, hlocks, hgv⟩ := C0
  have hts : ∀ w ∈ wsL_law, w.before #[Value.ref b] s = true := fun w h => hts w (wsL_law_in w h)
  have hbA : ¬ (fun q : Nat => s.heap.size ≤ q) b := Nat.not_le.mpr hbl
  have hf := hs g r (xs (nI i + 1).toNatClampNeg) (xs (nI i + 2).toNatClampNeg) hrel
  refine lv_aload_n hx hb dL_law_665 rfl (lv_at hl 1 rfl) ?_
  refine lv_aload_n hx hb dL_law_666 rfl (lv_at hl 0 rfl) ?_
  refine lv_iload_n hx hb dL_law_667 rfl (lv_at hl 3 rfl) ?_
  refine lv_iconst (v := 1) hx hb dL_law_668 (by decide) ?_
  refine lv_iadd hx hb dL_law_669 ?_
  refine va_sld hx hb hX hbl hbA hS (law_st (k := 1) hL hi (by decide)) dL_law_670 ?_
  refine lv_aload_n hx hb dL_law_671 rfl (lv_at hl 0 rfl) ?_
  refine lv_iload_n hx hb dL_law_672 rfl (lv_at hl 3 rfl) ?_
  refine lv_iconst (v := 2) hx hb dL_law_673 (by decide) ?_
  refine lv_iadd hx hb dL_law_674 ?_
  refine va_sld hx hb hX hbl hbA hS (law_st (k := 2) hL hi (by decide)) dL_law_675 ?_
  refine k_wi (wf := fun u => wX aG aM aW aS aI q u) (u0 := g) (k_runV (As := [.int (xs (nI i + 1).toNatClampNeg), .int (xs (nI i + 2).toNatClampNeg)]) (rest := []) ⟨hx, hb, hml, hown, hts⟩ (c_X6_kth l D q aG aM aW aS aI g.1 g.2.1 g.2.2.1 g.2.2.2 (xs (nI i + 1).toNatClampNeg) (xs (nI i + 2).toNatClampNeg) _ hf) (cwV 2 hts gL_law_X6_kth rfl rfl rfl cdX6_kth ⟨Nat.le_of_ble_eq_true rfl, Nat.le_of_ble_eq_true rfl⟩) hK (kp_l hP) (kd_l hD) 0 rfl rfl rfl hl.1 rfl (Nat.le_of_ble_eq_true rfl) dL_law_676 ⟨Nat.le_of_ble_eq_true rfl, Nat.le_of_ble_eq_true rfl⟩) ([]) (wR aR q r) (fun _ => rfl) hP hD hS (fun a g' H locs hf hP hD hS => ?_)
  have hP : va_P D vwCl (wX aG aM aW aS aI q g' ++ wR aR q r) H := hP
  have hD : va_D (fun q : Nat => s.heap.size ≤ q) (wX aG aM aW aS aI q g' ++ wR aR q r) := hD
  refine lv_aload_n hx hb dL_law_679 rfl (lv_at hl 2 rfl) ?_
  refine lv_aload_n hx hb dL_law_680 rfl (lv_at hl 0 rfl) ?_
  refine lv_iload_n hx hb dL_law_681 rfl (lv_at hl 3 rfl) ?_
  refine lv_iconst (v := 1) hx hb dL_law_682 (by decide) ?_
  refine lv_iadd hx hb dL_law_683 ?_
  refine va_sld hx hb hX hbl hbA hS (law_st (k := 1) hL hi (by decide)) dL_law_684 ?_
  refine lv_aload_n hx hb dL_law_685 rfl (lv_at hl 0 rfl) ?_
  refine lv_iload_n hx hb dL_law_686 rfl (lv_at hl 3 rfl) ?_
  refine lv_iconst (v := 2) hx hb dL_law_687 (by decide) ?_
  refine lv_iadd hx hb dL_law_688 ?_
  refine va_sld hx hb hX hbl hbA hS (law_st (k := 2) hL hi (by decide)) dL_law_689 ?_
  refine k_wi (wf := fun u => wR aR q u) (u0 := r) (k_runV (As := [.int (xs (nI i + 1).toNatClampNeg), .int (xs (nI i + 2).toNatClampNeg)]) (rest := [.int a]) ⟨hx, hb, hml, hown, hts⟩ (c_X7_kth l D q aR r (xs (nI i + 1).toNatClampNeg) (xs (nI i + 2).toNatClampNeg) _ hf) (cwV 2 hts gL_law_X7_kth rfl rfl rfl cdX7_kth ⟨Nat.le_of_ble_eq_true rfl, Nat.le_of_ble_eq_true rfl⟩) hK (kp_r hP) (kd_r hD) 0 rfl rfl rfl hl.1 rfl (Nat.le_of_ble_eq_true rfl) dL_law_690 ⟨Nat.le_of_ble_eq_true rfl, Nat.le_of_ble_eq_true rfl⟩) (wX aG aM aW aS aI q g') ([]) (fun _ => rfl) hP hD hS (fun b' r' H locs hf hP hD hS => ?_)
  have hP : va_P D vwCl (wX aG aM aW aS aI q g' ++ wR aR q r') H := hP
  have hD : va_D (fun q : Nat => s.heap.size ≤ q) (wX aG aM aW aS aI q g' ++ wR aR q r') := hD
  refine lv_icmp_eq (tgt := 1076) hx hb dL_law_693 (by decide) (fun c1 => ?_) (fun c1 => absurd hf.1 c1)
  exact next g' r' hf.2 H locs hP hD hS ls hl
set_option maxRecDepth 100000 in
set_option maxHeartbeats 4000000 in
theorem law_18 (Rel : CSt → RSt → Prop) (hs : LS18 Rel) {p : Program} {l : Launch} {e : Env} {s : State} {m : MethodId} {below : List Frame} {meth : Method} {c : Code} {D : va_G} {q : Nat → ClassId} {aG aM aW aR : Nat → Nat} {aS aI : Nat → Nat → Nat} {b L : Nat} {xs : Nat → Int32} (hL : L ≤ 2048) (C0 : lw_At p s m meth c b L xs) (hK : va_K D vwCl (kT q) s) {i : Nat} (hi : i + 4 ≤ L) {g : CSt} {r : RSt} (hrel : Rel g r) {H : Heap} {locs : List Loc} (hP : va_P D vwCl (wX aG aM aW aS aI q g ++ wR aR q r) H) (hD : va_D (fun q : Nat => s.heap.size ≤ q) (wX aG aM aW aS aI q g ++ wR aR q r)) (hS : va_S (fun q : Nat => s.heap.size ≤ q) s.heap H locs) {ls : Array Slot} (hl : lv_has ls 4 [(0, .ref b), (1, .ref (aG 0)), (2, .ref (aR 0)), (3, .int (nI i))]) (next : ∀ (g : CSt) (r : RSt), Rel g r → ∀ (H : Heap) (locs : List Loc), va_P D vwCl (wX aG aM aW aS aI q g ++ wR aR q r) H → va_D (fun q : Nat => s.heap.size ≤ q) (wX aG aM aW aS aI q g ++ wR aR q r) → va_S (fun q : Nat => s.heap.size ≤ q) s.heap H locs → ∀ (ls : Array Slot), lv_has ls 4 [(0, .ref b), (1, .ref (aG 0)), (2, .ref (aR 0)), (3, .int (nI i))] → W p l e room_1 s m #[Value.ref b] below meth c H locs 41 3182 (lw_Z below #[Value.ref b] s) (F0 m 1076 ls [])) : W p l e room_1 s m #[Value.ref b] below meth c H locs 41 3182 (lw_Z below #[Value.ref b] s) (F0 m 698 ls []) := by
  obtain ⟨hx, hb, hr, hml, hown, hts, hX, hbl, hlocks, hgv⟩ := C0
  have hts : ∀ w ∈ wsL_law, w.before #[Value.ref b] s = true := fun w h => hts w (wsL_law_in w h)
  have hbA : ¬ (fun q : Nat => s.heap.size ≤ q) b := Nat.not_le.mpr hbl
  have hf := hs g r (xs (nI i + 1).toNatClampNeg) hrel
  refine lv_aload_n hx hb dL_law_698 rfl (lv_at hl 1 rfl) ?_
  refine lv_aload_n hx hb dL_law_699 rfl (lv_at hl 0 rfl) ?_
  refine lv_iload_n hx hb dL_law_700 rfl (lv_at hl 3 rfl) ?_
  refine lv_iconst (v := 1) hx hb dL_law_701 (by decide) ?_
  refine lv_iadd hx hb dL_law_702 ?_
  refine va_sld hx hb hX hbl hbA hS (law_st (k := 1) hL hi (by decide)) dL_law_703 ?_
  refine k_wi (wf := fun u => wX aG aM aW aS aI q u) (u0 := g) (k_runV (As := [.int (xs (nI i + 1).toNatClampNeg)]) (rest := []) ⟨hx, hb, hml, hown, hts⟩ (c_X6_rank l D q aG aM aW aS aI g.1 g.2.1 g.2.2.1 g.2.2.2 (xs (nI i + 1).toNatClampNeg) _ hf) (cwV 1 hts gL_law_X6_rank rfl rfl rfl cdX6_rank ⟨Nat.le_of_ble_eq_true rfl, Nat.le_of_ble_eq_true rfl⟩) hK (kp_l hP) (kd_l hD) 0 rfl rfl rfl hl.1 rfl (Nat.le_of_ble_eq_true rfl) dL_law_704 ⟨Nat.le_of_ble_eq_true rfl, Nat.le_of_ble_eq_true rfl⟩) ([]) (wR aR q r) (fun _ => rfl) hP hD hS (fun a g' H locs hf hP hD hS => ?_)
  have hP : va_P D vwCl (wX aG aM aW aS aI q g' ++ wR aR q r) H := hP
  have hD : va_D (fun q : Nat => s.heap.size ≤ q) (wX aG aM aW aS aI q g' ++ wR aR q r) := hD
  refine lv_aload_n hx hb dL_law_707 rfl (lv_at hl 2 rfl) ?_
  refine lv_aload_n hx hb dL_law_708 rfl (lv_at hl 0 rfl) ?_
  refine lv_iload_n hx hb dL_law_709 rfl (lv_at hl 3 rfl) ?_
  refine lv_iconst (v := 1) hx hb dL_law_710 (by decide) ?_
  refine lv_iadd hx hb dL_law_711 ?_
  refine va_sld hx hb hX hbl hbA hS (law_st (k := 1) hL hi (by decide)) dL_law_712 ?_
  refine k_wi (wf := fun u => wR aR q u) (u0 := r) (k_runV (As := [.int (xs (nI i + 1).toNatClampNeg)]) (rest := [.int a]) ⟨hx, hb, hml, hown, hts⟩ (c_X7_rank l D q aR r (xs (nI i + 1).toNatClampNeg) _ hf) (cwV 1 hts gL_law_X7_rank rfl rfl rfl cdX7_rank ⟨Nat.le_of_ble_eq_true rfl, Nat.le_of_ble_eq_true rfl⟩) hK (kp_r hP) (kd_r hD) 0 rfl rfl rfl hl.1 rfl (Nat.le_of_ble_eq_true rfl) dL_law_713 ⟨Nat.le_of_ble_eq_true rfl, Nat.le_of_ble_eq_true rfl⟩) (wX aG aM aW aS aI q g') ([]) (fun _ => rfl) hP hD hS (fun b' r' H locs hf hP hD hS => ?_)
  have hP : va_P D vwCl (wX aG aM aW aS aI q g' ++ wR aR q r') H := hP
  have hD : va_D (fun q : Nat => s.heap.size ≤ q) (wX aG aM aW aS aI q g' ++ wR aR q r') := hD
  refine lv_icmp_eq (tgt := 1076) hx hb dL_law_716 (by decide) (fun c1 => ?_) (fun c1 => absurd hf.1 c1)
  exact next g' r' hf.2 H locs hP hD hS ls hl
set_option maxRecDepth 100000 in
set_option maxHeartbeats 4000000 in
theorem law_19 (Rel : CSt → RSt → Prop) (hs : LS19 Rel) {p : Program} {l : Launch} {e : Env} {s : State} {m : MethodId} {below : List Frame} {meth : Method} {c : Code} {D : va_G} {q : Nat → ClassId} {aG aM aW aR : Nat → Nat} {aS aI : Nat → Nat → Nat} {b L : Nat} {xs : Nat → Int32} (hL : L ≤ 2048) (C0 : lw_At p s m meth c b L xs) (hK : va_K D vwCl (kT q) s) {i : Nat} (hi : i + 4 ≤ L) {g : CSt} {r : RSt} (hrel : Rel g r) {H : Heap} {locs : List Loc} (hP : va_P D vwCl (wX aG aM aW aS aI q g ++ wR aR q r) H) (hD : va_D (fun q : Nat => s.heap.size ≤ q) (wX aG aM aW aS aI q g ++ wR aR q r)) (hS : va_S (fun q : Nat => s.heap.size ≤ q) s.heap H locs) {ls : Array Slot} (hl : lv_has ls 4 [(0, .ref b), (1, .ref (aG 0)), (2, .ref (aR 0)), (3, .int (nI i))]) (next : ∀ (g : CSt) (r : RSt), Rel g r → ∀ (H : Heap) (locs : List Loc), va_P D vwCl (wX aG aM aW aS aI q g ++ wR aR q r) H → va_D (fun q : Nat => s.heap.size ≤ q) (wX aG aM aW aS aI q g ++ wR aR q r) → va_S (fun q : Nat => s.heap.size ≤ q) s.heap H locs → ∀ (ls : Array Slot), lv_has ls 4 [(0, .ref b), (1, .ref (aG 0)), (2, .ref (aR 0)), (3, .int (nI i))] → W p l e room_1 s m #[Value.ref b] below meth c H locs 41 3182 (lw_Z below #[Value.ref b] s) (F0 m 1076 ls [])) : W p l e room_1 s m #[Value.ref b] below meth c H locs 41 3182 (lw_Z below #[Value.ref b] s) (F0 m 721 ls []) := by
  obtain ⟨hx, hb, hr, hml, hown, hts, hX, hbl, hlocks, hgv⟩ := C0
  have hts : ∀ w ∈ wsL_law, w.before #[Value.ref b] s = true := fun w h => hts w (wsL_law_in w h)
  have hbA : ¬ (fun q : Nat => s.heap.size ≤ q) b := Nat.not_le.mpr hbl
  have hf := hs g r (xs (nI i + 1).toNatClampNeg) hrel
  refine lv_aload_n hx hb dL_law_721 rfl (lv_at hl 1 rfl) ?_
  refine lv_aload_n hx hb dL_law_722 rfl (lv_at hl 0 rfl) ?_
  refine lv_iload_n hx hb dL_law_723 rfl (lv_at hl 3 rfl) ?_
  refine lv_iconst (v := 1) hx hb dL_law_724 (by decide) ?_
  refine lv_iadd hx hb dL_law_725 ?_
  refine va_sld hx hb hX hbl hbA hS (law_st (k := 1) hL hi (by decide)) dL_law_726 ?_
  refine k_wi (wf := fun u => wX aG aM aW aS aI q u) (u0 := g) (k_runV (As := [.int (xs (nI i + 1).toNatClampNeg)]) (rest := []) ⟨hx, hb, hml, hown, hts⟩ (c_X6_absent l D q aG aM aW aS aI g.1 g.2.1 g.2.2.1 g.2.2.2 (xs (nI i + 1).toNatClampNeg) _ hf) (cwV 1 hts gL_law_X6_absent rfl rfl rfl cdX6_absent ⟨Nat.le_of_ble_eq_true rfl, Nat.le_of_ble_eq_true rfl⟩) hK (kp_l hP) (kd_l hD) 0 rfl rfl rfl hl.1 rfl (Nat.le_of_ble_eq_true rfl) dL_law_727 ⟨Nat.le_of_ble_eq_true rfl, Nat.le_of_ble_eq_true rfl⟩) ([]) (wR aR q r) (fun _ => rfl) hP hD hS (fun a g' H locs hf hP hD hS => ?_)
  have hP : va_P D vwCl (wX aG aM aW aS aI q g' ++ wR aR q r) H := hP
  have hD : va_D (fun q : Nat => s.heap.size ≤ q) (wX aG aM aW aS aI q g' ++ wR aR q r) := hD
  refine lv_aload_n hx hb dL_law_730 rfl (lv_at hl 2 rfl) ?_
  refine lv_aload_n hx hb dL_law_731 rfl (lv_at hl 0 rfl) ?_
  refine lv_iload_n hx hb dL_law_732 rfl (lv_at hl 3 rfl) ?_
  refine lv_iconst (v := 1) hx hb dL_law_733 (by decide) ?_
  refine lv_iadd hx hb dL_law_734 ?_
  refine va_sld hx hb hX hbl hbA hS (law_st (k := 1) hL hi (by decide)) dL_law_735 ?_
  refine k_wi (wf := fun u => wR aR q u) (u0 := r) (k_runV (As := [.int (xs (nI i + 1).toNatClampNeg)]) (rest := [.int a]) ⟨hx, hb, hml, hown, hts⟩ (c_X7_absent l D q aR r (xs (nI i + 1).toNatClampNeg) _ hf) (cwV 1 hts gL_law_X7_absent rfl rfl rfl cdX7_absent ⟨Nat.le_of_ble_eq_true rfl, Nat.le_of_ble_eq_true rfl⟩) hK (kp_r hP) (kd_r hD) 0 rfl rfl rfl hl.1 rfl (Nat.le_of_ble_eq_true rfl) dL_law_736 ⟨Nat.le_of_ble_eq_true rfl, Nat.le_of_ble_eq_true rfl⟩) (wX aG aM aW aS aI q g') ([]) (fun _ => rfl) hP hD hS (fun b' r' H locs hf hP hD hS => ?_)
  have hP : va_P D vwCl (wX aG aM aW aS aI q g' ++ wR aR q r') H := hP
  have hD : va_D (fun q : Nat => s.heap.size ≤ q) (wX aG aM aW aS aI q g' ++ wR aR q r') := hD
  refine lv_icmp_eq (tgt := 1076) hx hb dL_law_739 (by decide) (fun c1 => ?_) (fun c1 => absurd hf.1 c1)
  exact next g' r' hf.2 H locs hP hD hS ls hl
set_option maxRecDepth 100000 in
set_option maxHeartbeats 4000000 in
theorem law_20 (Rel : CSt → RSt → Prop) (hs : LS20 Rel) {p : Program} {l : Launch} {e : Env} {s : State} {m : MethodId} {below : List Frame} {meth : Method} {c : Code} {D : va_G} {q : Nat → ClassId} {aG aM aW aR : Nat → Nat} {aS aI : Nat → Nat → Nat} {b L : Nat} {xs : Nat → Int32} (hL : L ≤ 2048) (C0 : lw_At p s m meth c b L xs) (hK : va_K D vwCl (kT q) s) {i : Nat} (hi : i + 4 ≤ L) {g : CSt} {r : RSt} (hrel : Rel g r) {H : Heap} {locs : List Loc} (hP : va_P D vwCl (wX aG aM aW aS aI q g ++ wR aR q r) H) (hD : va_D (fun q : Nat => s.heap.size ≤ q) (wX aG aM aW aS aI q g ++ wR aR q r)) (hS : va_S (fun q : Nat => s.heap.size ≤ q) s.heap H locs) {ls : Array Slot} (hl : lv_has ls 4 [(0, .ref b), (1, .ref (aG 0)), (2, .ref (aR 0)), (3, .int (nI i))]) (next : ∀ (g : CSt) (r : RSt), Rel g r → ∀ (H : Heap) (locs : List Loc), va_P D vwCl (wX aG aM aW aS aI q g ++ wR aR q r) H → va_D (fun q : Nat => s.heap.size ≤ q) (wX aG aM aW aS aI q g ++ wR aR q r) → va_S (fun q : Nat => s.heap.size ≤ q) s.heap H locs → ∀ (ls : Array Slot), lv_has ls 4 [(0, .ref b), (1, .ref (aG 0)), (2, .ref (aR 0)), (3, .int (nI i))] → W p l e room_1 s m #[Value.ref b] below meth c H locs 41 3182 (lw_Z below #[Value.ref b] s) (F0 m 1076 ls [])) : W p l e room_1 s m #[Value.ref b] below meth c H locs 41 3182 (lw_Z below #[Value.ref b] s) (F0 m 744 ls []) := by
  obtain ⟨hx, hb, hr, hml, hown, hts, hX, hbl, hlocks, hgv⟩ := C0
  have hts : ∀ w ∈ wsL_law, w.before #[Value.ref b] s = true := fun w h => hts w (wsL_law_in w h)
  have hbA : ¬ (fun q : Nat => s.heap.size ≤ q) b := Nat.not_le.mpr hbl
  have hf := hs g r (xs (nI i + 1).toNatClampNeg) hrel
  refine lv_aload_n hx hb dL_law_744 rfl (lv_at hl 1 rfl) ?_
  refine lv_aload_n hx hb dL_law_745 rfl (lv_at hl 0 rfl) ?_
  refine lv_iload_n hx hb dL_law_746 rfl (lv_at hl 3 rfl) ?_
  refine lv_iconst (v := 1) hx hb dL_law_747 (by decide) ?_
  refine lv_iadd hx hb dL_law_748 ?_
  refine va_sld hx hb hX hbl hbA hS (law_st (k := 1) hL hi (by decide)) dL_law_749 ?_
  refine k_wi (wf := fun u => wX aG aM aW aS aI q u) (u0 := g) (k_runV (As := [.int (xs (nI i + 1).toNatClampNeg)]) (rest := []) ⟨hx, hb, hml, hown, hts⟩ (c_X6_missing l D q aG aM aW aS aI g.1 g.2.1 g.2.2.1 g.2.2.2 (xs (nI i + 1).toNatClampNeg) _ hf) (cwV 1 hts gL_law_X6_missing rfl rfl rfl cdX6_missing ⟨Nat.le_of_ble_eq_true rfl, Nat.le_of_ble_eq_true rfl⟩) hK (kp_l hP) (kd_l hD) 0 rfl rfl rfl hl.1 rfl (Nat.le_of_ble_eq_true rfl) dL_law_750 ⟨Nat.le_of_ble_eq_true rfl, Nat.le_of_ble_eq_true rfl⟩) ([]) (wR aR q r) (fun _ => rfl) hP hD hS (fun a g' H locs hf hP hD hS => ?_)
  have hP : va_P D vwCl (wX aG aM aW aS aI q g' ++ wR aR q r) H := hP
  have hD : va_D (fun q : Nat => s.heap.size ≤ q) (wX aG aM aW aS aI q g' ++ wR aR q r) := hD
  refine lv_aload_n hx hb dL_law_753 rfl (lv_at hl 2 rfl) ?_
  refine lv_aload_n hx hb dL_law_754 rfl (lv_at hl 0 rfl) ?_
  refine lv_iload_n hx hb dL_law_755 rfl (lv_at hl 3 rfl) ?_
  refine lv_iconst (v := 1) hx hb dL_law_756 (by decide) ?_
  refine lv_iadd hx hb dL_law_757 ?_
  refine va_sld hx hb hX hbl hbA hS (law_st (k := 1) hL hi (by decide)) dL_law_758 ?_
  refine k_si (k_runV (As := [.int (xs (nI i + 1).toNatClampNeg)]) (rest := [.int a]) ⟨hx, hb, hml, hown, hts⟩ (c_X7_missing l D q aR r (xs (nI i + 1).toNatClampNeg) _ hf) (cwV 1 hts gL_law_X7_missing rfl rfl rfl cdX7_missing ⟨Nat.le_of_ble_eq_true rfl, Nat.le_of_ble_eq_true rfl⟩) hK (kp_r hP) (kd_r hD) 0 rfl rfl rfl hl.1 rfl (Nat.le_of_ble_eq_true rfl) dL_law_759 ⟨Nat.le_of_ble_eq_true rfl, Nat.le_of_ble_eq_true rfl⟩) (fun b' hf => ?_)
  refine lv_icmp_eq (tgt := 1076) hx hb dL_law_762 (by decide) (fun c1 => ?_) (fun c1 => absurd hf.1 c1)
  exact next g' r hf.2 H locs hP hD hS ls hl
set_option maxRecDepth 100000 in
set_option maxHeartbeats 4000000 in
theorem law_21 (Rel : CSt → RSt → Prop) (hs : LS21 Rel) {p : Program} {l : Launch} {e : Env} {s : State} {m : MethodId} {below : List Frame} {meth : Method} {c : Code} {D : va_G} {q : Nat → ClassId} {aG aM aW aR : Nat → Nat} {aS aI : Nat → Nat → Nat} {b L : Nat} {xs : Nat → Int32} (hL : L ≤ 2048) (C0 : lw_At p s m meth c b L xs) (hK : va_K D vwCl (kT q) s) {i : Nat} (hi : i + 4 ≤ L) {g : CSt} {r : RSt} (hrel : Rel g r) {H : Heap} {locs : List Loc} (hP : va_P D vwCl (wX aG aM aW aS aI q g ++ wR aR q r) H) (hD : va_D (fun q : Nat => s.heap.size ≤ q) (wX aG aM aW aS aI q g ++ wR aR q r)) (hS : va_S (fun q : Nat => s.heap.size ≤ q) s.heap H locs) {ls : Array Slot} (hl : lv_has ls 4 [(0, .ref b), (1, .ref (aG 0)), (2, .ref (aR 0)), (3, .int (nI i))]) (next : ∀ (g : CSt) (r : RSt), Rel g r → ∀ (H : Heap) (locs : List Loc), va_P D vwCl (wX aG aM aW aS aI q g ++ wR aR q r) H → va_D (fun q : Nat => s.heap.size ≤ q) (wX aG aM aW aS aI q g ++ wR aR q r) → va_S (fun q : Nat => s.heap.size ≤ q) s.heap H locs → ∀ (ls : Array Slot), lv_has ls 4 [(0, .ref b), (1, .ref (aG 0)), (2, .ref (aR 0)), (3, .int (nI i))] → W p l e room_1 s m #[Value.ref b] below meth c H locs 41 3182 (lw_Z below #[Value.ref b] s) (F0 m 1076 ls [])) : W p l e room_1 s m #[Value.ref b] below meth c H locs 41 3182 (lw_Z below #[Value.ref b] s) (F0 m 767 ls []) := by
  obtain ⟨hx, hb, hr, hml, hown, hts, hX, hbl, hlocks, hgv⟩ := C0
  have hts : ∀ w ∈ wsL_law, w.before #[Value.ref b] s = true := fun w h => hts w (wsL_law_in w h)
  have hbA : ¬ (fun q : Nat => s.heap.size ≤ q) b := Nat.not_le.mpr hbl
  have hf := hs g r (xs (nI i + 1).toNatClampNeg) (xs (nI i + 2).toNatClampNeg) hrel
  refine lv_aload_n hx hb dL_law_767 rfl (lv_at hl 1 rfl) ?_
  refine lv_aload_n hx hb dL_law_768 rfl (lv_at hl 0 rfl) ?_
  refine lv_iload_n hx hb dL_law_769 rfl (lv_at hl 3 rfl) ?_
  refine lv_iconst (v := 1) hx hb dL_law_770 (by decide) ?_
  refine lv_iadd hx hb dL_law_771 ?_
  refine va_sld hx hb hX hbl hbA hS (law_st (k := 1) hL hi (by decide)) dL_law_772 ?_
  refine lv_aload_n hx hb dL_law_773 rfl (lv_at hl 0 rfl) ?_
  refine lv_iload_n hx hb dL_law_774 rfl (lv_at hl 3 rfl) ?_
  refine lv_iconst (v := 2) hx hb dL_law_775 (by decide) ?_
  refine lv_iadd hx hb dL_law_776 ?_
  refine va_sld hx hb hX hbl hbA hS (law_st (k := 2) hL hi (by decide)) dL_law_777 ?_
  refine k_wi (wf := fun u => wX aG aM aW aS aI q u) (u0 := g) (k_runV (As := [.int (xs (nI i + 1).toNatClampNeg), .int (xs (nI i + 2).toNatClampNeg)]) (rest := []) ⟨hx, hb, hml, hown, hts⟩ (c_X6_often l D q aG aM aW aS aI g.1 g.2.1 g.2.2.1 g.2.2.2 (xs (nI i + 1).toNatClampNeg) (xs (nI i + 2).toNatClampNeg) _ hf) (cwV 2 hts gL_law_X6_often rfl rfl rfl cdX6_often ⟨Nat.le_of_ble_eq_true rfl, Nat.le_of_ble_eq_true rfl⟩) hK (kp_l hP) (kd_l hD) 0 rfl rfl rfl hl.1 rfl (Nat.le_of_ble_eq_true rfl) dL_law_778 ⟨Nat.le_of_ble_eq_true rfl, Nat.le_of_ble_eq_true rfl⟩) ([]) (wR aR q r) (fun _ => rfl) hP hD hS (fun a g' H locs hf hP hD hS => ?_)
  have hP : va_P D vwCl (wX aG aM aW aS aI q g' ++ wR aR q r) H := hP
  have hD : va_D (fun q : Nat => s.heap.size ≤ q) (wX aG aM aW aS aI q g' ++ wR aR q r) := hD
  refine lv_aload_n hx hb dL_law_781 rfl (lv_at hl 2 rfl) ?_
  refine lv_aload_n hx hb dL_law_782 rfl (lv_at hl 0 rfl) ?_
  refine lv_iload_n hx hb dL_law_783 rfl (lv_at hl 3 rfl) ?_
  refine lv_iconst (v := 1) hx hb dL_law_784 (by decide) ?_
  refine lv_iadd hx hb dL_law_785 ?_
  refine va_sld hx hb hX hbl hbA hS (law_st (k := 1) hL hi (by decide)) dL_law_786 ?_
  refine lv_aload_n hx hb dL_law_787 rfl (lv_at hl 0 rfl) ?_
  refine lv_iload_n hx hb dL_law_788 rfl (lv_at hl 3 rfl) ?_
  refine lv_iconst (v := 2) hx hb dL_law_789 (by decide) ?_
  refine lv_iadd hx hb dL_law_790 ?_
  refine va_sld hx hb hX hbl hbA hS (law_st (k := 2) hL hi (by decide)) dL_law_791 ?_
  refine k_wi (wf := fun u => wR aR q u) (u0 := r) (k_runV (As := [.int (xs (nI i + 1).toNatClampNeg), .int (xs (nI i + 2).toNatClampNeg)]) (rest := [.int a]) ⟨hx, hb, hml, hown, hts⟩ (c_X7_often l D q aR r (xs (nI i + 1).toNatClampNeg) (xs (nI i + 2).toNatClampNeg) _ hf) (cwV 2 hts gL_law_X7_often rfl rfl rfl cdX7_often ⟨Nat.le_of_ble_eq_true rfl, Nat.le_of_ble_eq_true rfl⟩) hK (kp_r hP) (kd_r hD) 0 rfl rfl rfl hl.1 rfl (Nat.le_of_ble_eq_true rfl) dL_law_792 ⟨Nat.le_of_ble_eq_true rfl, Nat.le_of_ble_eq_true rfl⟩) (wX aG aM aW aS aI q g') ([]) (fun _ => rfl) hP hD hS (fun b' r' H locs hf hP hD hS => ?_)
  have hP : va_P D vwCl (wX aG aM aW aS aI q g' ++ wR aR q r') H := hP
  have hD : va_D (fun q : Nat => s.heap.size ≤ q) (wX aG aM aW aS aI q g' ++ wR aR q r') := hD
  refine lv_icmp_eq (tgt := 1076) hx hb dL_law_795 (by decide) (fun c1 => ?_) (fun c1 => absurd hf.1 c1)
  exact next g' r' hf.2 H locs hP hD hS ls hl
set_option maxRecDepth 100000 in
set_option maxHeartbeats 4000000 in
theorem law_22 (Rel : CSt → RSt → Prop) (hs : LS22 Rel) {p : Program} {l : Launch} {e : Env} {s : State} {m : MethodId} {below : List Frame} {meth : Method} {c : Code} {D : va_G} {q : Nat → ClassId} {aG aM aW aR : Nat → Nat} {aS aI : Nat → Nat → Nat} {b L : Nat} {xs : Nat → Int32} (hL : L ≤ 2048) (C0 : lw_At p s m meth c b L xs) (hK : va_K D vwCl (kT q) s) {i : Nat} (hi : i + 4 ≤ L) {g : CSt} {r : RSt} (hrel : Rel g r) {H : Heap} {locs : List Loc} (hP : va_P D vwCl (wX aG aM aW aS aI q g ++ wR aR q r) H) (hD : va_D (fun q : Nat => s.heap.size ≤ q) (wX aG aM aW aS aI q g ++ wR aR q r)) (hS : va_S (fun q : Nat => s.heap.size ≤ q) s.heap H locs) {ls : Array Slot} (hl : lv_has ls 4 [(0, .ref b), (1, .ref (aG 0)), (2, .ref (aR 0)), (3, .int (nI i))]) (next : ∀ (g : CSt) (r : RSt), Rel g r → ∀ (H : Heap) (locs : List Loc), va_P D vwCl (wX aG aM aW aS aI q g ++ wR aR q r) H → va_D (fun q : Nat => s.heap.size ≤ q) (wX aG aM aW aS aI q g ++ wR aR q r) → va_S (fun q : Nat => s.heap.size ≤ q) s.heap H locs → ∀ (ls : Array Slot), lv_has ls 4 [(0, .ref b), (1, .ref (aG 0)), (2, .ref (aR 0)), (3, .int (nI i))] → W p l e room_1 s m #[Value.ref b] below meth c H locs 41 3182 (lw_Z below #[Value.ref b] s) (F0 m 1076 ls [])) : W p l e room_1 s m #[Value.ref b] below meth c H locs 41 3182 (lw_Z below #[Value.ref b] s) (F0 m 800 ls []) := by
  obtain ⟨hx, hb, hr, hml, hown, hts, hX, hbl, hlocks, hgv⟩ := C0
  have hts : ∀ w ∈ wsL_law, w.before #[Value.ref b] s = true := fun w h => hts w (wsL_law_in w h)
  have hbA : ¬ (fun q : Nat => s.heap.size ≤ q) b := Nat.not_le.mpr hbl
  have hf := hs g r (xs (nI i + 1).toNatClampNeg) hrel
  refine lv_aload_n hx hb dL_law_800 rfl (lv_at hl 1 rfl) ?_
  refine lv_aload_n hx hb dL_law_801 rfl (lv_at hl 0 rfl) ?_
  refine lv_iload_n hx hb dL_law_802 rfl (lv_at hl 3 rfl) ?_
  refine lv_iconst (v := 1) hx hb dL_law_803 (by decide) ?_
  refine lv_iadd hx hb dL_law_804 ?_
  refine va_sld hx hb hX hbl hbA hS (law_st (k := 1) hL hi (by decide)) dL_law_805 ?_
  refine k_wi (wf := fun u => wX aG aM aW aS aI q u) (u0 := g) (k_runV (As := [.int (xs (nI i + 1).toNatClampNeg)]) (rest := []) ⟨hx, hb, hml, hown, hts⟩ (c_X6_twice l D q aG aM aW aS aI g.1 g.2.1 g.2.2.1 g.2.2.2 (xs (nI i + 1).toNatClampNeg) _ hf) (cwV 1 hts gL_law_X6_twice rfl rfl rfl cdX6_twice ⟨Nat.le_of_ble_eq_true rfl, Nat.le_of_ble_eq_true rfl⟩) hK (kp_l hP) (kd_l hD) 0 rfl rfl rfl hl.1 rfl (Nat.le_of_ble_eq_true rfl) dL_law_806 ⟨Nat.le_of_ble_eq_true rfl, Nat.le_of_ble_eq_true rfl⟩) ([]) (wR aR q r) (fun _ => rfl) hP hD hS (fun a g' H locs hf hP hD hS => ?_)
  have hP : va_P D vwCl (wX aG aM aW aS aI q g' ++ wR aR q r) H := hP
  have hD : va_D (fun q : Nat => s.heap.size ≤ q) (wX aG aM aW aS aI q g' ++ wR aR q r) := hD
  refine lv_aload_n hx hb dL_law_809 rfl (lv_at hl 2 rfl) ?_
  refine lv_aload_n hx hb dL_law_810 rfl (lv_at hl 0 rfl) ?_
  refine lv_iload_n hx hb dL_law_811 rfl (lv_at hl 3 rfl) ?_
  refine lv_iconst (v := 1) hx hb dL_law_812 (by decide) ?_
  refine lv_iadd hx hb dL_law_813 ?_
  refine va_sld hx hb hX hbl hbA hS (law_st (k := 1) hL hi (by decide)) dL_law_814 ?_
  refine k_si (k_runV (As := [.int (xs (nI i + 1).toNatClampNeg)]) (rest := [.int a]) ⟨hx, hb, hml, hown, hts⟩ (c_X7_twice l D q aR r (xs (nI i + 1).toNatClampNeg) _ hf) (cwV 1 hts gL_law_X7_twice rfl rfl rfl cdX7_twice ⟨Nat.le_of_ble_eq_true rfl, Nat.le_of_ble_eq_true rfl⟩) hK (kp_r hP) (kd_r hD) 0 rfl rfl rfl hl.1 rfl (Nat.le_of_ble_eq_true rfl) dL_law_815 ⟨Nat.le_of_ble_eq_true rfl, Nat.le_of_ble_eq_true rfl⟩) (fun b' hf => ?_)
  refine lv_icmp_eq (tgt := 1076) hx hb dL_law_818 (by decide) (fun c1 => ?_) (fun c1 => absurd hf.1 c1)
  exact next g' r hf.2 H locs hP hD hS ls hl
set_option maxRecDepth 100000 in
set_option maxHeartbeats 4000000 in
theorem law_23 (Rel : CSt → RSt → Prop) (hs : LS23 Rel) {p : Program} {l : Launch} {e : Env} {s : State} {m : MethodId} {below : List Frame} {meth : Method} {c : Code} {D : va_G} {q : Nat → ClassId} {aG aM aW aR : Nat → Nat} {aS aI : Nat → Nat → Nat} {b L : Nat} {xs : Nat → Int32} (hL : L ≤ 2048) (C0 : lw_At p s m meth c b L xs) (hK : va_K D vwCl (kT q) s) {i : Nat} (hi : i + 4 ≤ L) {g : CSt} {r : RSt} (hrel : Rel g r) {H : Heap} {locs : List Loc} (hP : va_P D vwCl (wX aG aM aW aS aI q g ++ wR aR q r) H) (hD : va_D (fun q : Nat => s.heap.size ≤ q) (wX aG aM aW aS aI q g ++ wR aR q r)) (hS : va_S (fun q : Nat => s.heap.size ≤ q) s.heap H locs) {ls : Array Slot} (hl : lv_has ls 4 [(0, .ref b), (1, .ref (aG 0)), (2, .ref (aR 0)), (3, .int (nI i))]) (next : ∀ (g : CSt) (r : RSt), Rel g r → ∀ (H : Heap) (locs : List Loc), va_P D vwCl (wX aG aM aW aS aI q g ++ wR aR q r) H → va_D (fun q : Nat => s.heap.size ≤ q) (wX aG aM aW aS aI q g ++ wR aR q r) → va_S (fun q : Nat => s.heap.size ≤ q) s.heap H locs → ∀ (ls : Array Slot), lv_has ls 4 [(0, .ref b), (1, .ref (aG 0)), (2, .ref (aR 0)), (3, .int (nI i))] → W p l e room_1 s m #[Value.ref b] below meth c H locs 41 3182 (lw_Z below #[Value.ref b] s) (F0 m 1076 ls [])) : W p l e room_1 s m #[Value.ref b] below meth c H locs 41 3182 (lw_Z below #[Value.ref b] s) (F0 m 823 ls []) := by
  obtain ⟨hx, hb, hr, hml, hown, hts, hX, hbl, hlocks, hgv⟩ := C0
  have hts : ∀ w ∈ wsL_law, w.before #[Value.ref b] s = true := fun w h => hts w (wsL_law_in w h)
  have hbA : ¬ (fun q : Nat => s.heap.size ≤ q) b := Nat.not_le.mpr hbl
  have hf := hs g r (xs (nI i + 1).toNatClampNeg) hrel
  refine lv_aload_n hx hb dL_law_823 rfl (lv_at hl 1 rfl) ?_
  refine lv_aload_n hx hb dL_law_824 rfl (lv_at hl 0 rfl) ?_
  refine lv_iload_n hx hb dL_law_825 rfl (lv_at hl 3 rfl) ?_
  refine lv_iconst (v := 1) hx hb dL_law_826 (by decide) ?_
  refine lv_iadd hx hb dL_law_827 ?_
  refine va_sld hx hb hX hbl hbA hS (law_st (k := 1) hL hi (by decide)) dL_law_828 ?_
  refine k_wi (wf := fun u => wX aG aM aW aS aI q u) (u0 := g) (k_runV (As := [.int (xs (nI i + 1).toNatClampNeg)]) (rest := []) ⟨hx, hb, hml, hown, hts⟩ (c_X6_unlike l D q aG aM aW aS aI g.1 g.2.1 g.2.2.1 g.2.2.2 (xs (nI i + 1).toNatClampNeg) _ hf) (cwV 1 hts gL_law_X6_unlike rfl rfl rfl cdX6_unlike ⟨Nat.le_of_ble_eq_true rfl, Nat.le_of_ble_eq_true rfl⟩) hK (kp_l hP) (kd_l hD) 0 rfl rfl rfl hl.1 rfl (Nat.le_of_ble_eq_true rfl) dL_law_829 ⟨Nat.le_of_ble_eq_true rfl, Nat.le_of_ble_eq_true rfl⟩) ([]) (wR aR q r) (fun _ => rfl) hP hD hS (fun a g' H locs hf hP hD hS => ?_)
  have hP : va_P D vwCl (wX aG aM aW aS aI q g' ++ wR aR q r) H := hP
  have hD : va_D (fun q : Nat => s.heap.size ≤ q) (wX aG aM aW aS aI q g' ++ wR aR q r) := hD
  refine lv_aload_n hx hb dL_law_832 rfl (lv_at hl 2 rfl) ?_
  refine lv_aload_n hx hb dL_law_833 rfl (lv_at hl 0 rfl) ?_
  refine lv_iload_n hx hb dL_law_834 rfl (lv_at hl 3 rfl) ?_
  refine lv_iconst (v := 1) hx hb dL_law_835 (by decide) ?_
  refine lv_iadd hx hb dL_law_836 ?_
  refine va_sld hx hb hX hbl hbA hS (law_st (k := 1) hL hi (by decide)) dL_law_837 ?_
  refine k_si (k_runV (As := [.int (xs (nI i + 1).toNatClampNeg)]) (rest := [.int a]) ⟨hx, hb, hml, hown, hts⟩ (c_X7_unlike l D q aR r (xs (nI i + 1).toNatClampNeg) _ hf) (cwV 1 hts gL_law_X7_unlike rfl rfl rfl cdX7_unlike ⟨Nat.le_of_ble_eq_true rfl, Nat.le_of_ble_eq_true rfl⟩) hK (kp_r hP) (kd_r hD) 0 rfl rfl rfl hl.1 rfl (Nat.le_of_ble_eq_true rfl) dL_law_838 ⟨Nat.le_of_ble_eq_true rfl, Nat.le_of_ble_eq_true rfl⟩) (fun b' hf => ?_)
  refine lv_icmp_eq (tgt := 1076) hx hb dL_law_841 (by decide) (fun c1 => ?_) (fun c1 => absurd hf.1 c1)
  exact next g' r hf.2 H locs hP hD hS ls hl
set_option maxRecDepth 100000 in
set_option maxHeartbeats 4000000 in
theorem law_24 (Rel : CSt → RSt → Prop) (hs : LS24 Rel) {p : Program} {l : Launch} {e : Env} {s : State} {m : MethodId} {below : List Frame} {meth : Method} {c : Code} {D : va_G} {q : Nat → ClassId} {aG aM aW aR : Nat → Nat} {aS aI : Nat → Nat → Nat} {b L : Nat} {xs : Nat → Int32} (hL : L ≤ 2048) (C0 : lw_At p s m meth c b L xs) (hK : va_K D vwCl (kT q) s) {i : Nat} (hi : i + 4 ≤ L) {g : CSt} {r : RSt} (hrel : Rel g r) {H : Heap} {locs : List Loc} (hP : va_P D vwCl (wX aG aM aW aS aI q g ++ wR aR q r) H) (hD : va_D (fun q : Nat => s.heap.size ≤ q) (wX aG aM aW aS aI q g ++ wR aR q r)) (hS : va_S (fun q : Nat => s.heap.size ≤ q) s.heap H locs) {ls : Array Slot} (hl : lv_has ls 4 [(0, .ref b), (1, .ref (aG 0)), (2, .ref (aR 0)), (3, .int (nI i))]) (next : ∀ (g : CSt) (r : RSt), Rel g r → ∀ (H : Heap) (locs : List Loc), va_P D vwCl (wX aG aM aW aS aI q g ++ wR aR q r) H → va_D (fun q : Nat => s.heap.size ≤ q) (wX aG aM aW aS aI q g ++ wR aR q r) → va_S (fun q : Nat => s.heap.size ≤ q) s.heap H locs → ∀ (ls : Array Slot), lv_has ls 4 [(0, .ref b), (1, .ref (aG 0)), (2, .ref (aR 0)), (3, .int (nI i))] → W p l e room_1 s m #[Value.ref b] below meth c H locs 41 3182 (lw_Z below #[Value.ref b] s) (F0 m 1076 ls [])) : W p l e room_1 s m #[Value.ref b] below meth c H locs 41 3182 (lw_Z below #[Value.ref b] s) (F0 m 846 ls []) := by
  obtain ⟨hx, hb, hr, hml, hown, hts, hX, hbl, hlocks, hgv⟩ := C0
  have hts : ∀ w ∈ wsL_law, w.before #[Value.ref b] s = true := fun w h => hts w (wsL_law_in w h)
  have hbA : ¬ (fun q : Nat => s.heap.size ≤ q) b := Nat.not_le.mpr hbl
  have hf := hs g r (xs (nI i + 1).toNatClampNeg) hrel
  refine lv_aload_n hx hb dL_law_846 rfl (lv_at hl 1 rfl) ?_
  refine lv_aload_n hx hb dL_law_847 rfl (lv_at hl 0 rfl) ?_
  refine lv_iload_n hx hb dL_law_848 rfl (lv_at hl 3 rfl) ?_
  refine lv_iconst (v := 1) hx hb dL_law_849 (by decide) ?_
  refine lv_iadd hx hb dL_law_850 ?_
  refine va_sld hx hb hX hbl hbA hS (law_st (k := 1) hL hi (by decide)) dL_law_851 ?_
  refine k_wi (wf := fun u => wX aG aM aW aS aI q u) (u0 := g) (k_runV (As := [.int (xs (nI i + 1).toNatClampNeg)]) (rest := []) ⟨hx, hb, hml, hown, hts⟩ (c_X6_single l D q aG aM aW aS aI g.1 g.2.1 g.2.2.1 g.2.2.2 (xs (nI i + 1).toNatClampNeg) _ hf) (cwV 1 hts gL_law_X6_single rfl rfl rfl cdX6_single ⟨Nat.le_of_ble_eq_true rfl, Nat.le_of_ble_eq_true rfl⟩) hK (kp_l hP) (kd_l hD) 0 rfl rfl rfl hl.1 rfl (Nat.le_of_ble_eq_true rfl) dL_law_852 ⟨Nat.le_of_ble_eq_true rfl, Nat.le_of_ble_eq_true rfl⟩) ([]) (wR aR q r) (fun _ => rfl) hP hD hS (fun a g' H locs hf hP hD hS => ?_)
  have hP : va_P D vwCl (wX aG aM aW aS aI q g' ++ wR aR q r) H := hP
  have hD : va_D (fun q : Nat => s.heap.size ≤ q) (wX aG aM aW aS aI q g' ++ wR aR q r) := hD
  refine lv_aload_n hx hb dL_law_855 rfl (lv_at hl 2 rfl) ?_
  refine lv_aload_n hx hb dL_law_856 rfl (lv_at hl 0 rfl) ?_
  refine lv_iload_n hx hb dL_law_857 rfl (lv_at hl 3 rfl) ?_
  refine lv_iconst (v := 1) hx hb dL_law_858 (by decide) ?_
  refine lv_iadd hx hb dL_law_859 ?_
  refine va_sld hx hb hX hbl hbA hS (law_st (k := 1) hL hi (by decide)) dL_law_860 ?_
  refine k_wi (wf := fun u => wR aR q u) (u0 := r) (k_runV (As := [.int (xs (nI i + 1).toNatClampNeg)]) (rest := [.int a]) ⟨hx, hb, hml, hown, hts⟩ (c_X7_single l D q aR r (xs (nI i + 1).toNatClampNeg) _ hf) (cwV 1 hts gL_law_X7_single rfl rfl rfl cdX7_single ⟨Nat.le_of_ble_eq_true rfl, Nat.le_of_ble_eq_true rfl⟩) hK (kp_r hP) (kd_r hD) 0 rfl rfl rfl hl.1 rfl (Nat.le_of_ble_eq_true rfl) dL_law_861 ⟨Nat.le_of_ble_eq_true rfl, Nat.le_of_ble_eq_true rfl⟩) (wX aG aM aW aS aI q g') ([]) (fun _ => rfl) hP hD hS (fun b' r' H locs hf hP hD hS => ?_)
  have hP : va_P D vwCl (wX aG aM aW aS aI q g' ++ wR aR q r') H := hP
  have hD : va_D (fun q : Nat => s.heap.size ≤ q) (wX aG aM aW aS aI q g' ++ wR aR q r') := hD
  refine lv_icmp_eq (tgt := 1076) hx hb dL_law_864 (by decide) (fun c1 => ?_) (fun c1 => absurd hf.1 c1)
  exact next g' r' hf.2 H locs hP hD hS ls hl
set_option maxRecDepth 100000 in
set_option maxHeartbeats 4000000 in
theorem law_25 (Rel : CSt → RSt → Prop) (hs : LS25 Rel) {p : Program} {l : Launch} {e : Env} {s : State} {m : MethodId} {below : List Frame} {meth : Method} {c : Code} {D : va_G} {q : Nat → ClassId} {aG aM aW aR : Nat → Nat} {aS aI : Nat → Nat → Nat} {b L : Nat} {xs : Nat → Int32} (hL : L ≤ 2048) (C0 : lw_At p s m meth c b L xs) (hK : va_K D vwCl (kT q) s) {i : Nat} (hi : i + 4 ≤ L) {g : CSt} {r : RSt} (hrel : Rel g r) {H : Heap} {locs : List Loc} (hP : va_P D vwCl (wX aG aM aW aS aI q g ++ wR aR q r) H) (hD : va_D (fun q : Nat => s.heap.size ≤ q) (wX aG aM aW aS aI q g ++ wR aR q r)) (hS : va_S (fun q : Nat => s.heap.size ≤ q) s.heap H locs) {ls : Array Slot} (hl : lv_has ls 4 [(0, .ref b), (1, .ref (aG 0)), (2, .ref (aR 0)), (3, .int (nI i))]) (next : ∀ (g : CSt) (r : RSt), Rel g r → ∀ (H : Heap) (locs : List Loc), va_P D vwCl (wX aG aM aW aS aI q g ++ wR aR q r) H → va_D (fun q : Nat => s.heap.size ≤ q) (wX aG aM aW aS aI q g ++ wR aR q r) → va_S (fun q : Nat => s.heap.size ≤ q) s.heap H locs → ∀ (ls : Array Slot), lv_has ls 4 [(0, .ref b), (1, .ref (aG 0)), (2, .ref (aR 0)), (3, .int (nI i))] → W p l e room_1 s m #[Value.ref b] below meth c H locs 41 3182 (lw_Z below #[Value.ref b] s) (F0 m 1076 ls [])) : W p l e room_1 s m #[Value.ref b] below meth c H locs 41 3182 (lw_Z below #[Value.ref b] s) (F0 m 869 ls []) := by
  obtain ⟨hx, hb, hr, hml, hown, hts, hX, hbl, hlocks, hgv⟩ := C0
  have hts : ∀ w ∈ wsL_law, w.before #[Value.ref b] s = true := fun w h => hts w (wsL_law_in w h)
  have hbA : ¬ (fun q : Nat => s.heap.size ≤ q) b := Nat.not_le.mpr hbl
  have hf := hs g r (xs (nI i + 1).toNatClampNeg) hrel
  refine lv_aload_n hx hb dL_law_869 rfl (lv_at hl 1 rfl) ?_
  refine lv_aload_n hx hb dL_law_870 rfl (lv_at hl 0 rfl) ?_
  refine lv_iload_n hx hb dL_law_871 rfl (lv_at hl 3 rfl) ?_
  refine lv_iconst (v := 1) hx hb dL_law_872 (by decide) ?_
  refine lv_iadd hx hb dL_law_873 ?_
  refine va_sld hx hb hX hbl hbA hS (law_st (k := 1) hL hi (by decide)) dL_law_874 ?_
  refine k_wi (wf := fun u => wX aG aM aW aS aI q u) (u0 := g) (k_runV (As := [.int (xs (nI i + 1).toNatClampNeg)]) (rest := []) ⟨hx, hb, hml, hown, hts⟩ (c_X6_gap l D q aG aM aW aS aI g.1 g.2.1 g.2.2.1 g.2.2.2 (xs (nI i + 1).toNatClampNeg) _ hf) (cwV 1 hts gL_law_X6_gap rfl rfl rfl cdX6_gap ⟨Nat.le_of_ble_eq_true rfl, Nat.le_of_ble_eq_true rfl⟩) hK (kp_l hP) (kd_l hD) 0 rfl rfl rfl hl.1 rfl (Nat.le_of_ble_eq_true rfl) dL_law_875 ⟨Nat.le_of_ble_eq_true rfl, Nat.le_of_ble_eq_true rfl⟩) ([]) (wR aR q r) (fun _ => rfl) hP hD hS (fun a g' H locs hf hP hD hS => ?_)
  have hP : va_P D vwCl (wX aG aM aW aS aI q g' ++ wR aR q r) H := hP
  have hD : va_D (fun q : Nat => s.heap.size ≤ q) (wX aG aM aW aS aI q g' ++ wR aR q r) := hD
  refine lv_aload_n hx hb dL_law_878 rfl (lv_at hl 2 rfl) ?_
  refine lv_aload_n hx hb dL_law_879 rfl (lv_at hl 0 rfl) ?_
  refine lv_iload_n hx hb dL_law_880 rfl (lv_at hl 3 rfl) ?_
  refine lv_iconst (v := 1) hx hb dL_law_881 (by decide) ?_
  refine lv_iadd hx hb dL_law_882 ?_
  refine va_sld hx hb hX hbl hbA hS (law_st (k := 1) hL hi (by decide)) dL_law_883 ?_
  refine k_si (k_runV (As := [.int (xs (nI i + 1).toNatClampNeg)]) (rest := [.int a]) ⟨hx, hb, hml, hown, hts⟩ (c_X7_gap l D q aR r (xs (nI i + 1).toNatClampNeg) _ hf) (cwV 1 hts gL_law_X7_gap rfl rfl rfl cdX7_gap ⟨Nat.le_of_ble_eq_true rfl, Nat.le_of_ble_eq_true rfl⟩) hK (kp_r hP) (kd_r hD) 0 rfl rfl rfl hl.1 rfl (Nat.le_of_ble_eq_true rfl) dL_law_884 ⟨Nat.le_of_ble_eq_true rfl, Nat.le_of_ble_eq_true rfl⟩) (fun b' hf => ?_)
  refine lv_icmp_eq (tgt := 1076) hx hb dL_law_887 (by decide) (fun c1 => ?_) (fun c1 => absurd hf.1 c1)
  exact next g' r hf.2 H locs hP hD hS ls hl
set_option maxRecDepth 100000 in
set_option maxHeartbeats 4000000 in
theorem law_26 (Rel : CSt → RSt → Prop) (hs : LS26 Rel) {p : Program} {l : Launch} {e : Env} {s : State} {m : MethodId} {below : List Frame} {meth : Method} {c : Code} {D : va_G} {q : Nat → ClassId} {aG aM aW aR : Nat → Nat} {aS aI : Nat → Nat → Nat} {b L : Nat} {xs : Nat → Int32} (hL : L ≤ 2048) (C0 : lw_At p s m meth c b L xs) (hK : va_K D vwCl (kT q) s) {i : Nat} (hi : i + 4 ≤ L) {g : CSt} {r : RSt} (hrel : Rel g r) {H : Heap} {locs : List Loc} (hP : va_P D vwCl (wX aG aM aW aS aI q g ++ wR aR q r) H) (hD : va_D (fun q : Nat => s.heap.size ≤ q) (wX aG aM aW aS aI q g ++ wR aR q r)) (hS : va_S (fun q : Nat => s.heap.size ≤ q) s.heap H locs) {ls : Array Slot} (hl : lv_has ls 4 [(0, .ref b), (1, .ref (aG 0)), (2, .ref (aR 0)), (3, .int (nI i))]) (next : ∀ (g : CSt) (r : RSt), Rel g r → ∀ (H : Heap) (locs : List Loc), va_P D vwCl (wX aG aM aW aS aI q g ++ wR aR q r) H → va_D (fun q : Nat => s.heap.size ≤ q) (wX aG aM aW aS aI q g ++ wR aR q r) → va_S (fun q : Nat => s.heap.size ≤ q) s.heap H locs → ∀ (ls : Array Slot), lv_has ls 4 [(0, .ref b), (1, .ref (aG 0)), (2, .ref (aR 0)), (3, .int (nI i))] → W p l e room_1 s m #[Value.ref b] below meth c H locs 41 3182 (lw_Z below #[Value.ref b] s) (F0 m 1076 ls [])) : W p l e room_1 s m #[Value.ref b] below meth c H locs 41 3182 (lw_Z below #[Value.ref b] s) (F0 m 892 ls []) := by
  obtain ⟨hx, hb, hr, hml, hown, hts, hX, hbl, hlocks, hgv⟩ := C0
  have hts : ∀ w ∈ wsL_law, w.before #[Value.ref b] s = true := fun w h => hts w (wsL_law_in w h)
  have hbA : ¬ (fun q : Nat => s.heap.size ≤ q) b := Nat.not_le.mpr hbl
  have hf := hs g r  hrel
  refine lv_aload_n hx hb dL_law_892 rfl (lv_at hl 1 rfl) ?_
  refine k_wi (wf := fun u => wX aG aM aW aS aI q u) (u0 := g) (k_runV (As := []) (rest := []) ⟨hx, hb, hml, hown, hts⟩ (c_X6_cover l D q aG aM aW aS aI g.1 g.2.1 g.2.2.1 g.2.2.2  _ hf) (cwV 0 hts gL_law_X6_cover rfl rfl rfl cdX6_cover ⟨Nat.le_of_ble_eq_true rfl, Nat.le_of_ble_eq_true rfl⟩) hK (kp_l hP) (kd_l hD) 0 rfl rfl rfl hl.1 rfl (Nat.le_of_ble_eq_true rfl) dL_law_893 ⟨Nat.le_of_ble_eq_true rfl, Nat.le_of_ble_eq_true rfl⟩) ([]) (wR aR q r) (fun _ => rfl) hP hD hS (fun a g' H locs hf hP hD hS => ?_)
  have hP : va_P D vwCl (wX aG aM aW aS aI q g' ++ wR aR q r) H := hP
  have hD : va_D (fun q : Nat => s.heap.size ≤ q) (wX aG aM aW aS aI q g' ++ wR aR q r) := hD
  refine lv_aload_n hx hb dL_law_896 rfl (lv_at hl 2 rfl) ?_
  refine k_si (k_runV (As := []) (rest := [.int a]) ⟨hx, hb, hml, hown, hts⟩ (c_X7_cover l D q aR r  _ hf) (cwV 0 hts gL_law_X7_cover rfl rfl rfl cdX7_cover ⟨Nat.le_of_ble_eq_true rfl, Nat.le_of_ble_eq_true rfl⟩) hK (kp_r hP) (kd_r hD) 0 rfl rfl rfl hl.1 rfl (Nat.le_of_ble_eq_true rfl) dL_law_897 ⟨Nat.le_of_ble_eq_true rfl, Nat.le_of_ble_eq_true rfl⟩) (fun b' hf => ?_)
  refine lv_icmp_eq (tgt := 1076) hx hb dL_law_900 (by decide) (fun c1 => ?_) (fun c1 => absurd hf.1 c1)
  exact next g' r hf.2 H locs hP hD hS ls hl
set_option maxRecDepth 100000 in
set_option maxHeartbeats 4000000 in
theorem law_27 (Rel : CSt → RSt → Prop) (hs : LS27 Rel) {p : Program} {l : Launch} {e : Env} {s : State} {m : MethodId} {below : List Frame} {meth : Method} {c : Code} {D : va_G} {q : Nat → ClassId} {aG aM aW aR : Nat → Nat} {aS aI : Nat → Nat → Nat} {b L : Nat} {xs : Nat → Int32} (hL : L ≤ 2048) (C0 : lw_At p s m meth c b L xs) (hK : va_K D vwCl (kT q) s) {i : Nat} (hi : i + 4 ≤ L) {g : CSt} {r : RSt} (hrel : Rel g r) {H : Heap} {locs : List Loc} (hP : va_P D vwCl (wX aG aM aW aS aI q g ++ wR aR q r) H) (hD : va_D (fun q : Nat => s.heap.size ≤ q) (wX aG aM aW aS aI q g ++ wR aR q r)) (hS : va_S (fun q : Nat => s.heap.size ≤ q) s.heap H locs) {ls : Array Slot} (hl : lv_has ls 4 [(0, .ref b), (1, .ref (aG 0)), (2, .ref (aR 0)), (3, .int (nI i))]) (next : ∀ (g : CSt) (r : RSt), Rel g r → ∀ (H : Heap) (locs : List Loc), va_P D vwCl (wX aG aM aW aS aI q g ++ wR aR q r) H → va_D (fun q : Nat => s.heap.size ≤ q) (wX aG aM aW aS aI q g ++ wR aR q r) → va_S (fun q : Nat => s.heap.size ≤ q) s.heap H locs → ∀ (ls : Array Slot), lv_has ls 4 [(0, .ref b), (1, .ref (aG 0)), (2, .ref (aR 0)), (3, .int (nI i))] → W p l e room_1 s m #[Value.ref b] below meth c H locs 41 3182 (lw_Z below #[Value.ref b] s) (F0 m 1076 ls [])) : W p l e room_1 s m #[Value.ref b] below meth c H locs 41 3182 (lw_Z below #[Value.ref b] s) (F0 m 905 ls []) := by
  obtain ⟨hx, hb, hr, hml, hown, hts, hX, hbl, hlocks, hgv⟩ := C0
  have hts : ∀ w ∈ wsL_law, w.before #[Value.ref b] s = true := fun w h => hts w (wsL_law_in w h)
  have hbA : ¬ (fun q : Nat => s.heap.size ≤ q) b := Nat.not_le.mpr hbl
  have hf := hs g r (xs (nI i + 1).toNatClampNeg) hrel
  refine lv_aload_n hx hb dL_law_905 rfl (lv_at hl 1 rfl) ?_
  refine lv_aload_n hx hb dL_law_906 rfl (lv_at hl 0 rfl) ?_
  refine lv_iload_n hx hb dL_law_907 rfl (lv_at hl 3 rfl) ?_
  refine lv_iconst (v := 1) hx hb dL_law_908 (by decide) ?_
  refine lv_iadd hx hb dL_law_909 ?_
  refine va_sld hx hb hX hbl hbA hS (law_st (k := 1) hL hi (by decide)) dL_law_910 ?_
  refine k_wi (wf := fun u => wX aG aM aW aS aI q u) (u0 := g) (k_runV (As := [.int (xs (nI i + 1).toNatClampNeg)]) (rest := []) ⟨hx, hb, hml, hown, hts⟩ (c_X6_part l D q aG aM aW aS aI g.1 g.2.1 g.2.2.1 g.2.2.2 (xs (nI i + 1).toNatClampNeg) _ hf) (cwV 1 hts gL_law_X6_part rfl rfl rfl cdX6_part ⟨Nat.le_of_ble_eq_true rfl, Nat.le_of_ble_eq_true rfl⟩) hK (kp_l hP) (kd_l hD) 0 rfl rfl rfl hl.1 rfl (Nat.le_of_ble_eq_true rfl) dL_law_911 ⟨Nat.le_of_ble_eq_true rfl, Nat.le_of_ble_eq_true rfl⟩) ([]) (wR aR q r) (fun _ => rfl) hP hD hS (fun a g' H locs hf hP hD hS => ?_)
  have hP : va_P D vwCl (wX aG aM aW aS aI q g' ++ wR aR q r) H := hP
  have hD : va_D (fun q : Nat => s.heap.size ≤ q) (wX aG aM aW aS aI q g' ++ wR aR q r) := hD
  refine lv_aload_n hx hb dL_law_914 rfl (lv_at hl 2 rfl) ?_
  refine lv_aload_n hx hb dL_law_915 rfl (lv_at hl 0 rfl) ?_
  refine lv_iload_n hx hb dL_law_916 rfl (lv_at hl 3 rfl) ?_
  refine lv_iconst (v := 1) hx hb dL_law_917 (by decide) ?_
  refine lv_iadd hx hb dL_law_918 ?_
  refine va_sld hx hb hX hbl hbA hS (law_st (k := 1) hL hi (by decide)) dL_law_919 ?_
  refine k_si (k_runV (As := [.int (xs (nI i + 1).toNatClampNeg)]) (rest := [.int a]) ⟨hx, hb, hml, hown, hts⟩ (c_X7_part l D q aR r (xs (nI i + 1).toNatClampNeg) _ hf) (cwV 1 hts gL_law_X7_part rfl rfl rfl cdX7_part ⟨Nat.le_of_ble_eq_true rfl, Nat.le_of_ble_eq_true rfl⟩) hK (kp_r hP) (kd_r hD) 0 rfl rfl rfl hl.1 rfl (Nat.le_of_ble_eq_true rfl) dL_law_920 ⟨Nat.le_of_ble_eq_true rfl, Nat.le_of_ble_eq_true rfl⟩) (fun b' hf => ?_)
  refine lv_icmp_eq (tgt := 1076) hx hb dL_law_923 (by decide) (fun c1 => ?_) (fun c1 => absurd hf.1 c1)
  exact next g' r hf.2 H locs hP hD hS ls hl
set_option maxRecDepth 100000 in
set_option maxHeartbeats 4000000 in
theorem law_28 (Rel : CSt → RSt → Prop) (hs : LS28 Rel) {p : Program} {l : Launch} {e : Env} {s : State} {m : MethodId} {below : List Frame} {meth : Method} {c : Code} {D : va_G} {q : Nat → ClassId} {aG aM aW aR : Nat → Nat} {aS aI : Nat → Nat → Nat} {b L : Nat} {xs : Nat → Int32} (hL : L ≤ 2048) (C0 : lw_At p s m meth c b L xs) (hK : va_K D vwCl (kT q) s) {i : Nat} (hi : i + 4 ≤ L) {g : CSt} {r : RSt} (hrel : Rel g r) {H : Heap} {locs : List Loc} (hP : va_P D vwCl (wX aG aM aW aS aI q g ++ wR aR q r) H) (hD : va_D (fun q : Nat => s.heap.size ≤ q) (wX aG aM aW aS aI q g ++ wR aR q r)) (hS : va_S (fun q : Nat => s.heap.size ≤ q) s.heap H locs) {ls : Array Slot} (hl : lv_has ls 4 [(0, .ref b), (1, .ref (aG 0)), (2, .ref (aR 0)), (3, .int (nI i))]) (next : ∀ (g : CSt) (r : RSt), Rel g r → ∀ (H : Heap) (locs : List Loc), va_P D vwCl (wX aG aM aW aS aI q g ++ wR aR q r) H → va_D (fun q : Nat => s.heap.size ≤ q) (wX aG aM aW aS aI q g ++ wR aR q r) → va_S (fun q : Nat => s.heap.size ≤ q) s.heap H locs → ∀ (ls : Array Slot), lv_has ls 4 [(0, .ref b), (1, .ref (aG 0)), (2, .ref (aR 0)), (3, .int (nI i))] → W p l e room_1 s m #[Value.ref b] below meth c H locs 41 3182 (lw_Z below #[Value.ref b] s) (F0 m 1076 ls [])) : W p l e room_1 s m #[Value.ref b] below meth c H locs 41 3182 (lw_Z below #[Value.ref b] s) (F0 m 928 ls []) := by
  obtain ⟨hx, hb, hr, hml, hown, hts, hX, hbl, hlocks, hgv⟩ := C0
  have hts : ∀ w ∈ wsL_law, w.before #[Value.ref b] s = true := fun w h => hts w (wsL_law_in w h)
  have hbA : ¬ (fun q : Nat => s.heap.size ≤ q) b := Nat.not_le.mpr hbl
  have hf := hs g r (xs (nI i + 1).toNatClampNeg) (xs (nI i + 2).toNatClampNeg) hrel
  refine lv_aload_n hx hb dL_law_928 rfl (lv_at hl 1 rfl) ?_
  refine lv_aload_n hx hb dL_law_929 rfl (lv_at hl 0 rfl) ?_
  refine lv_iload_n hx hb dL_law_930 rfl (lv_at hl 3 rfl) ?_
  refine lv_iconst (v := 1) hx hb dL_law_931 (by decide) ?_
  refine lv_iadd hx hb dL_law_932 ?_
  refine va_sld hx hb hX hbl hbA hS (law_st (k := 1) hL hi (by decide)) dL_law_933 ?_
  refine lv_aload_n hx hb dL_law_934 rfl (lv_at hl 0 rfl) ?_
  refine lv_iload_n hx hb dL_law_935 rfl (lv_at hl 3 rfl) ?_
  refine lv_iconst (v := 2) hx hb dL_law_936 (by decide) ?_
  refine lv_iadd hx hb dL_law_937 ?_
  refine va_sld hx hb hX hbl hbA hS (law_st (k := 2) hL hi (by decide)) dL_law_938 ?_
  refine k_wi (wf := fun u => wX aG aM aW aS aI q u) (u0 := g) (k_runV (As := [.int (xs (nI i + 1).toNatClampNeg), .int (xs (nI i + 2).toNatClampNeg)]) (rest := []) ⟨hx, hb, hml, hown, hts⟩ (c_X6_common l D q aG aM aW aS aI g.1 g.2.1 g.2.2.1 g.2.2.2 (xs (nI i + 1).toNatClampNeg) (xs (nI i + 2).toNatClampNeg) _ hf) (cwV 2 hts gL_law_X6_common rfl rfl rfl cdX6_common ⟨Nat.le_of_ble_eq_true rfl, Nat.le_of_ble_eq_true rfl⟩) hK (kp_l hP) (kd_l hD) 0 rfl rfl rfl hl.1 rfl (Nat.le_of_ble_eq_true rfl) dL_law_939 ⟨Nat.le_of_ble_eq_true rfl, Nat.le_of_ble_eq_true rfl⟩) ([]) (wR aR q r) (fun _ => rfl) hP hD hS (fun a g' H locs hf hP hD hS => ?_)
  have hP : va_P D vwCl (wX aG aM aW aS aI q g' ++ wR aR q r) H := hP
  have hD : va_D (fun q : Nat => s.heap.size ≤ q) (wX aG aM aW aS aI q g' ++ wR aR q r) := hD
  refine lv_aload_n hx hb dL_law_942 rfl (lv_at hl 2 rfl) ?_
  refine lv_aload_n hx hb dL_law_943 rfl (lv_at hl 0 rfl) ?_
  refine lv_iload_n hx hb dL_law_944 rfl (lv_at hl 3 rfl) ?_
  refine lv_iconst (v := 1) hx hb dL_law_945 (by decide) ?_
  refine lv_iadd hx hb dL_law_946 ?_
  refine va_sld hx hb hX hbl hbA hS (law_st (k := 1) hL hi (by decide)) dL_law_947 ?_
  refine lv_aload_n hx hb dL_law_948 rfl (lv_at hl 0 rfl) ?_
  refine lv_iload_n hx hb dL_law_949 rfl (lv_at hl 3 rfl) ?_
  refine lv_iconst (v := 2) hx hb dL_law_950 (by decide) ?_
  refine lv_iadd hx hb dL_law_951 ?_
  refine va_sld hx hb hX hbl hbA hS (law_st (k := 2) hL hi (by decide)) dL_law_952 ?_
  refine k_si (k_runV (As := [.int (xs (nI i + 1).toNatClampNeg), .int (xs (nI i + 2).toNatClampNeg)]) (rest := [.int a]) ⟨hx, hb, hml, hown, hts⟩ (c_X7_common l D q aR r (xs (nI i + 1).toNatClampNeg) (xs (nI i + 2).toNatClampNeg) _ hf) (cwV 2 hts gL_law_X7_common rfl rfl rfl cdX7_common ⟨Nat.le_of_ble_eq_true rfl, Nat.le_of_ble_eq_true rfl⟩) hK (kp_r hP) (kd_r hD) 0 rfl rfl rfl hl.1 rfl (Nat.le_of_ble_eq_true rfl) dL_law_953 ⟨Nat.le_of_ble_eq_true rfl, Nat.le_of_ble_eq_true rfl⟩) (fun b' hf => ?_)
  refine lv_icmp_eq (tgt := 1076) hx hb dL_law_956 (by decide) (fun c1 => ?_) (fun c1 => absurd hf.1 c1)
  exact next g' r hf.2 H locs hP hD hS ls hl
set_option maxRecDepth 100000 in
set_option maxHeartbeats 4000000 in
theorem law_29 (Rel : CSt → RSt → Prop) (hs : LS29 Rel) {p : Program} {l : Launch} {e : Env} {s : State} {m : MethodId} {below : List Frame} {meth : Method} {c : Code} {D : va_G} {q : Nat → ClassId} {aG aM aW aR : Nat → Nat} {aS aI : Nat → Nat → Nat} {b L : Nat} {xs : Nat → Int32} (hL : L ≤ 2048) (C0 : lw_At p s m meth c b L xs) (hK : va_K D vwCl (kT q) s) {i : Nat} (hi : i + 4 ≤ L) {g : CSt} {r : RSt} (hrel : Rel g r) {H : Heap} {locs : List Loc} (hP : va_P D vwCl (wX aG aM aW aS aI q g ++ wR aR q r) H) (hD : va_D (fun q : Nat => s.heap.size ≤ q) (wX aG aM aW aS aI q g ++ wR aR q r)) (hS : va_S (fun q : Nat => s.heap.size ≤ q) s.heap H locs) {ls : Array Slot} (hl : lv_has ls 4 [(0, .ref b), (1, .ref (aG 0)), (2, .ref (aR 0)), (3, .int (nI i))]) (next : ∀ (g : CSt) (r : RSt), Rel g r → ∀ (H : Heap) (locs : List Loc), va_P D vwCl (wX aG aM aW aS aI q g ++ wR aR q r) H → va_D (fun q : Nat => s.heap.size ≤ q) (wX aG aM aW aS aI q g ++ wR aR q r) → va_S (fun q : Nat => s.heap.size ≤ q) s.heap H locs → ∀ (ls : Array Slot), lv_has ls 4 [(0, .ref b), (1, .ref (aG 0)), (2, .ref (aR 0)), (3, .int (nI i))] → W p l e room_1 s m #[Value.ref b] below meth c H locs 41 3182 (lw_Z below #[Value.ref b] s) (F0 m 1076 ls [])) : W p l e room_1 s m #[Value.ref b] below meth c H locs 41 3182 (lw_Z below #[Value.ref b] s) (F0 m 961 ls []) := by
  obtain ⟨hx, hb, hr, hml, hown, hts, hX, hbl, hlocks, hgv⟩ := C0
  have hts : ∀ w ∈ wsL_law, w.before #[Value.ref b] s = true := fun w h => hts w (wsL_law_in w h)
  have hbA : ¬ (fun q : Nat => s.heap.size ≤ q) b := Nat.not_le.mpr hbl
  have hf := hs g r (xs (nI i + 1).toNatClampNeg) hrel
  refine lv_aload_n hx hb dL_law_961 rfl (lv_at hl 1 rfl) ?_
  refine lv_aload_n hx hb dL_law_962 rfl (lv_at hl 0 rfl) ?_
  refine lv_iload_n hx hb dL_law_963 rfl (lv_at hl 3 rfl) ?_
  refine lv_iconst (v := 1) hx hb dL_law_964 (by decide) ?_
  refine lv_iadd hx hb dL_law_965 ?_
  refine va_sld hx hb hX hbl hbA hS (law_st (k := 1) hL hi (by decide)) dL_law_966 ?_
  refine k_wi (wf := fun u => wX aG aM aW aS aI q u) (u0 := g) (k_runV (As := [.int (xs (nI i + 1).toNatClampNeg)]) (rest := []) ⟨hx, hb, hml, hown, hts⟩ (c_X6_border l D q aG aM aW aS aI g.1 g.2.1 g.2.2.1 g.2.2.2 (xs (nI i + 1).toNatClampNeg) _ hf) (cwV 1 hts gL_law_X6_border rfl rfl rfl cdX6_border ⟨Nat.le_of_ble_eq_true rfl, Nat.le_of_ble_eq_true rfl⟩) hK (kp_l hP) (kd_l hD) 0 rfl rfl rfl hl.1 rfl (Nat.le_of_ble_eq_true rfl) dL_law_967 ⟨Nat.le_of_ble_eq_true rfl, Nat.le_of_ble_eq_true rfl⟩) ([]) (wR aR q r) (fun _ => rfl) hP hD hS (fun a g' H locs hf hP hD hS => ?_)
  have hP : va_P D vwCl (wX aG aM aW aS aI q g' ++ wR aR q r) H := hP
  have hD : va_D (fun q : Nat => s.heap.size ≤ q) (wX aG aM aW aS aI q g' ++ wR aR q r) := hD
  refine lv_aload_n hx hb dL_law_970 rfl (lv_at hl 2 rfl) ?_
  refine lv_aload_n hx hb dL_law_971 rfl (lv_at hl 0 rfl) ?_
  refine lv_iload_n hx hb dL_law_972 rfl (lv_at hl 3 rfl) ?_
  refine lv_iconst (v := 1) hx hb dL_law_973 (by decide) ?_
  refine lv_iadd hx hb dL_law_974 ?_
  refine va_sld hx hb hX hbl hbA hS (law_st (k := 1) hL hi (by decide)) dL_law_975 ?_
  refine k_si (k_runV (As := [.int (xs (nI i + 1).toNatClampNeg)]) (rest := [.int a]) ⟨hx, hb, hml, hown, hts⟩ (c_X7_border l D q aR r (xs (nI i + 1).toNatClampNeg) _ hf) (cwV 1 hts gL_law_X7_border rfl rfl rfl cdX7_border ⟨Nat.le_of_ble_eq_true rfl, Nat.le_of_ble_eq_true rfl⟩) hK (kp_r hP) (kd_r hD) 0 rfl rfl rfl hl.1 rfl (Nat.le_of_ble_eq_true rfl) dL_law_976 ⟨Nat.le_of_ble_eq_true rfl, Nat.le_of_ble_eq_true rfl⟩) (fun b' hf => ?_)
  refine lv_icmp_eq (tgt := 1076) hx hb dL_law_979 (by decide) (fun c1 => ?_) (fun c1 => absurd hf.1 c1)
  exact next g' r hf.2 H locs hP hD hS ls hl
set_option maxRecDepth 100000 in
set_option maxHeartbeats 4000000 in
theorem law_30 (Rel : CSt → RSt → Prop) (hs : LS30 Rel) {p : Program} {l : Launch} {e : Env} {s : State} {m : MethodId} {below : List Frame} {meth : Method} {c : Code} {D : va_G} {q : Nat → ClassId} {aG aM aW aR : Nat → Nat} {aS aI : Nat → Nat → Nat} {b L : Nat} {xs : Nat → Int32} (hL : L ≤ 2048) (C0 : lw_At p s m meth c b L xs) (hK : va_K D vwCl (kT q) s) {i : Nat} (hi : i + 4 ≤ L) {g : CSt} {r : RSt} (hrel : Rel g r) {H : Heap} {locs : List Loc} (hP : va_P D vwCl (wX aG aM aW aS aI q g ++ wR aR q r) H) (hD : va_D (fun q : Nat => s.heap.size ≤ q) (wX aG aM aW aS aI q g ++ wR aR q r)) (hS : va_S (fun q : Nat => s.heap.size ≤ q) s.heap H locs) {ls : Array Slot} (hl : lv_has ls 4 [(0, .ref b), (1, .ref (aG 0)), (2, .ref (aR 0)), (3, .int (nI i))]) (next : ∀ (g : CSt) (r : RSt), Rel g r → ∀ (H : Heap) (locs : List Loc), va_P D vwCl (wX aG aM aW aS aI q g ++ wR aR q r) H → va_D (fun q : Nat => s.heap.size ≤ q) (wX aG aM aW aS aI q g ++ wR aR q r) → va_S (fun q : Nat => s.heap.size ≤ q) s.heap H locs → ∀ (ls : Array Slot), lv_has ls 4 [(0, .ref b), (1, .ref (aG 0)), (2, .ref (aR 0)), (3, .int (nI i))] → W p l e room_1 s m #[Value.ref b] below meth c H locs 41 3182 (lw_Z below #[Value.ref b] s) (F0 m 1076 ls [])) : W p l e room_1 s m #[Value.ref b] below meth c H locs 41 3182 (lw_Z below #[Value.ref b] s) (F0 m 984 ls []) := by
  obtain ⟨hx, hb, hr, hml, hown, hts, hX, hbl, hlocks, hgv⟩ := C0
  have hts : ∀ w ∈ wsL_law, w.before #[Value.ref b] s = true := fun w h => hts w (wsL_law_in w h)
  have hbA : ¬ (fun q : Nat => s.heap.size ≤ q) b := Nat.not_le.mpr hbl
  have hf := hs g r (xs (nI i + 1).toNatClampNeg) hrel
  refine lv_aload_n hx hb dL_law_984 rfl (lv_at hl 1 rfl) ?_
  refine lv_aload_n hx hb dL_law_985 rfl (lv_at hl 0 rfl) ?_
  refine lv_iload_n hx hb dL_law_986 rfl (lv_at hl 3 rfl) ?_
  refine lv_iconst (v := 1) hx hb dL_law_987 (by decide) ?_
  refine lv_iadd hx hb dL_law_988 ?_
  refine va_sld hx hb hX hbl hbA hS (law_st (k := 1) hL hi (by decide)) dL_law_989 ?_
  refine k_wi (wf := fun u => wX aG aM aW aS aI q u) (u0 := g) (k_runV (As := [.int (xs (nI i + 1).toNatClampNeg)]) (rest := []) ⟨hx, hb, hml, hown, hts⟩ (c_X6_next l D q aG aM aW aS aI g.1 g.2.1 g.2.2.1 g.2.2.2 (xs (nI i + 1).toNatClampNeg) _ hf) (cwV 1 hts gL_law_X6_next rfl rfl rfl cdX6_next ⟨Nat.le_of_ble_eq_true rfl, Nat.le_of_ble_eq_true rfl⟩) hK (kp_l hP) (kd_l hD) 0 rfl rfl rfl hl.1 rfl (Nat.le_of_ble_eq_true rfl) dL_law_990 ⟨Nat.le_of_ble_eq_true rfl, Nat.le_of_ble_eq_true rfl⟩) ([]) (wR aR q r) (fun _ => rfl) hP hD hS (fun a g' H locs hf hP hD hS => ?_)
  have hP : va_P D vwCl (wX aG aM aW aS aI q g' ++ wR aR q r) H := hP
  have hD : va_D (fun q : Nat => s.heap.size ≤ q) (wX aG aM aW aS aI q g' ++ wR aR q r) := hD
  refine lv_aload_n hx hb dL_law_993 rfl (lv_at hl 2 rfl) ?_
  refine lv_aload_n hx hb dL_law_994 rfl (lv_at hl 0 rfl) ?_
  refine lv_iload_n hx hb dL_law_995 rfl (lv_at hl 3 rfl) ?_
  refine lv_iconst (v := 1) hx hb dL_law_996 (by decide) ?_
  refine lv_iadd hx hb dL_law_997 ?_
  refine va_sld hx hb hX hbl hbA hS (law_st (k := 1) hL hi (by decide)) dL_law_998 ?_
  refine k_si (k_runV (As := [.int (xs (nI i + 1).toNatClampNeg)]) (rest := [.int a]) ⟨hx, hb, hml, hown, hts⟩ (c_X7_next l D q aR r (xs (nI i + 1).toNatClampNeg) _ hf) (cwV 1 hts gL_law_X7_next rfl rfl rfl cdX7_next ⟨Nat.le_of_ble_eq_true rfl, Nat.le_of_ble_eq_true rfl⟩) hK (kp_r hP) (kd_r hD) 0 rfl rfl rfl hl.1 rfl (Nat.le_of_ble_eq_true rfl) dL_law_999 ⟨Nat.le_of_ble_eq_true rfl, Nat.le_of_ble_eq_true rfl⟩) (fun b' hf => ?_)
  refine lv_icmp_eq (tgt := 1076) hx hb dL_law_1002 (by decide) (fun c1 => ?_) (fun c1 => absurd hf.1 c1)
  exact next g' r hf.2 H locs hP hD hS ls hl
set_option maxRecDepth 100000 in
set_option maxHeartbeats 4000000 in
theorem law_31 (Rel : CSt → RSt → Prop) (hs : LS31 Rel) {p : Program} {l : Launch} {e : Env} {s : State} {m : MethodId} {below : List Frame} {meth : Method} {c : Code} {D : va_G} {q : Nat → ClassId} {aG aM aW aR : Nat → Nat} {aS aI : Nat → Nat → Nat} {b L : Nat} {xs : Nat → Int32} (hL : L ≤ 2048) (C0 : lw_At p s m meth c b L xs) (hK : va_K D vwCl (kT q) s) {i : Nat} (hi : i + 4 ≤ L) {g : CSt} {r : RSt} (hrel : Rel g r) {H : Heap} {locs : List Loc} (hP : va_P D vwCl (wX aG aM aW aS aI q g ++ wR aR q r) H) (hD : va_D (fun q : Nat => s.heap.size ≤ q) (wX aG aM aW aS aI q g ++ wR aR q r)) (hS : va_S (fun q : Nat => s.heap.size ≤ q) s.heap H locs) {ls : Array Slot} (hl : lv_has ls 4 [(0, .ref b), (1, .ref (aG 0)), (2, .ref (aR 0)), (3, .int (nI i))]) (next : ∀ (g : CSt) (r : RSt), Rel g r → ∀ (H : Heap) (locs : List Loc), va_P D vwCl (wX aG aM aW aS aI q g ++ wR aR q r) H → va_D (fun q : Nat => s.heap.size ≤ q) (wX aG aM aW aS aI q g ++ wR aR q r) → va_S (fun q : Nat => s.heap.size ≤ q) s.heap H locs → ∀ (ls : Array Slot), lv_has ls 4 [(0, .ref b), (1, .ref (aG 0)), (2, .ref (aR 0)), (3, .int (nI i))] → W p l e room_1 s m #[Value.ref b] below meth c H locs 41 3182 (lw_Z below #[Value.ref b] s) (F0 m 1076 ls [])) : W p l e room_1 s m #[Value.ref b] below meth c H locs 41 3182 (lw_Z below #[Value.ref b] s) (F0 m 1007 ls []) := by
  obtain ⟨hx, hb, hr, hml, hown, hts, hX, hbl, hlocks, hgv⟩ := C0
  have hts : ∀ w ∈ wsL_law, w.before #[Value.ref b] s = true := fun w h => hts w (wsL_law_in w h)
  have hbA : ¬ (fun q : Nat => s.heap.size ≤ q) b := Nat.not_le.mpr hbl
  have hf := hs g r (xs (nI i + 1).toNatClampNeg) hrel
  refine lv_aload_n hx hb dL_law_1007 rfl (lv_at hl 1 rfl) ?_
  refine lv_aload_n hx hb dL_law_1008 rfl (lv_at hl 0 rfl) ?_
  refine lv_iload_n hx hb dL_law_1009 rfl (lv_at hl 3 rfl) ?_
  refine lv_iconst (v := 1) hx hb dL_law_1010 (by decide) ?_
  refine lv_iadd hx hb dL_law_1011 ?_
  refine va_sld hx hb hX hbl hbA hS (law_st (k := 1) hL hi (by decide)) dL_law_1012 ?_
  refine k_wi (wf := fun u => wX aG aM aW aS aI q u) (u0 := g) (k_runV (As := [.int (xs (nI i + 1).toNatClampNeg)]) (rest := []) ⟨hx, hb, hml, hown, hts⟩ (c_X6_worth l D q aG aM aW aS aI g.1 g.2.1 g.2.2.1 g.2.2.2 (xs (nI i + 1).toNatClampNeg) _ hf) (cwV 1 hts gL_law_X6_worth rfl rfl rfl cdX6_worth ⟨Nat.le_of_ble_eq_true rfl, Nat.le_of_ble_eq_true rfl⟩) hK (kp_l hP) (kd_l hD) 0 rfl rfl rfl hl.1 rfl (Nat.le_of_ble_eq_true rfl) dL_law_1013 ⟨Nat.le_of_ble_eq_true rfl, Nat.le_of_ble_eq_true rfl⟩) ([]) (wR aR q r) (fun _ => rfl) hP hD hS (fun a g' H locs hf hP hD hS => ?_)
  have hP : va_P D vwCl (wX aG aM aW aS aI q g' ++ wR aR q r) H := hP
  have hD : va_D (fun q : Nat => s.heap.size ≤ q) (wX aG aM aW aS aI q g' ++ wR aR q r) := hD
  refine lv_aload_n hx hb dL_law_1016 rfl (lv_at hl 2 rfl) ?_
  refine lv_aload_n hx hb dL_law_1017 rfl (lv_at hl 0 rfl) ?_
  refine lv_iload_n hx hb dL_law_1018 rfl (lv_at hl 3 rfl) ?_
  refine lv_iconst (v := 1) hx hb dL_law_1019 (by decide) ?_
  refine lv_iadd hx hb dL_law_1020 ?_
  refine va_sld hx hb hX hbl hbA hS (law_st (k := 1) hL hi (by decide)) dL_law_1021 ?_
  refine k_si (k_runV (As := [.int (xs (nI i + 1).toNatClampNeg)]) (rest := [.int a]) ⟨hx, hb, hml, hown, hts⟩ (c_X7_worth l D q aR r (xs (nI i + 1).toNatClampNeg) _ hf) (cwV 1 hts gL_law_X7_worth rfl rfl rfl cdX7_worth ⟨Nat.le_of_ble_eq_true rfl, Nat.le_of_ble_eq_true rfl⟩) hK (kp_r hP) (kd_r hD) 0 rfl rfl rfl hl.1 rfl (Nat.le_of_ble_eq_true rfl) dL_law_1022 ⟨Nat.le_of_ble_eq_true rfl, Nat.le_of_ble_eq_true rfl⟩) (fun b' hf => ?_)
  refine lv_icmp_eq (tgt := 1076) hx hb dL_law_1025 (by decide) (fun c1 => ?_) (fun c1 => absurd hf.1 c1)
  exact next g' r hf.2 H locs hP hD hS ls hl
set_option maxRecDepth 100000 in
set_option maxHeartbeats 4000000 in
theorem law_32 (Rel : CSt → RSt → Prop) (hs : LS32 Rel) {p : Program} {l : Launch} {e : Env} {s : State} {m : MethodId} {below : List Frame} {meth : Method} {c : Code} {D : va_G} {q : Nat → ClassId} {aG aM aW aR : Nat → Nat} {aS aI : Nat → Nat → Nat} {b L : Nat} {xs : Nat → Int32} (hL : L ≤ 2048) (C0 : lw_At p s m meth c b L xs) (hK : va_K D vwCl (kT q) s) {i : Nat} (hi : i + 4 ≤ L) {g : CSt} {r : RSt} (hrel : Rel g r) {H : Heap} {locs : List Loc} (hP : va_P D vwCl (wX aG aM aW aS aI q g ++ wR aR q r) H) (hD : va_D (fun q : Nat => s.heap.size ≤ q) (wX aG aM aW aS aI q g ++ wR aR q r)) (hS : va_S (fun q : Nat => s.heap.size ≤ q) s.heap H locs) {ls : Array Slot} (hl : lv_has ls 4 [(0, .ref b), (1, .ref (aG 0)), (2, .ref (aR 0)), (3, .int (nI i))]) (next : ∀ (g : CSt) (r : RSt), Rel g r → ∀ (H : Heap) (locs : List Loc), va_P D vwCl (wX aG aM aW aS aI q g ++ wR aR q r) H → va_D (fun q : Nat => s.heap.size ≤ q) (wX aG aM aW aS aI q g ++ wR aR q r) → va_S (fun q : Nat => s.heap.size ≤ q) s.heap H locs → ∀ (ls : Array Slot), lv_has ls 4 [(0, .ref b), (1, .ref (aG 0)), (2, .ref (aR 0)), (3, .int (nI i))] → W p l e room_1 s m #[Value.ref b] below meth c H locs 41 3182 (lw_Z below #[Value.ref b] s) (F0 m 1076 ls [])) : W p l e room_1 s m #[Value.ref b] below meth c H locs 41 3182 (lw_Z below #[Value.ref b] s) (F0 m 1030 ls []) := by
  obtain ⟨hx, hb, hr, hml, hown, hts, hX, hbl, hlocks, hgv⟩ := C0
  have hts : ∀ w ∈ wsL_law, w.before #[Value.ref b] s = true := fun w h => hts w (wsL_law_in w h)
  have hbA : ¬ (fun q : Nat => s.heap.size ≤ q) b := Nat.not_le.mpr hbl
  have hf := hs g r (xs (nI i + 1).toNatClampNeg) hrel
  refine lv_aload_n hx hb dL_law_1030 rfl (lv_at hl 1 rfl) ?_
  refine lv_aload_n hx hb dL_law_1031 rfl (lv_at hl 0 rfl) ?_
  refine lv_iload_n hx hb dL_law_1032 rfl (lv_at hl 3 rfl) ?_
  refine lv_iconst (v := 1) hx hb dL_law_1033 (by decide) ?_
  refine lv_iadd hx hb dL_law_1034 ?_
  refine va_sld hx hb hX hbl hbA hS (law_st (k := 1) hL hi (by decide)) dL_law_1035 ?_
  refine k_wi (wf := fun u => wX aG aM aW aS aI q u) (u0 := g) (k_runV (As := [.int (xs (nI i + 1).toNatClampNeg)]) (rest := []) ⟨hx, hb, hml, hown, hts⟩ (c_X6_keep l D q aG aM aW aS aI g.1 g.2.1 g.2.2.1 g.2.2.2 (xs (nI i + 1).toNatClampNeg) _ hf) (cwV 1 hts gL_law_X6_keep rfl rfl rfl cdX6_keep ⟨Nat.le_of_ble_eq_true rfl, Nat.le_of_ble_eq_true rfl⟩) hK (kp_l hP) (kd_l hD) 0 rfl rfl rfl hl.1 rfl (Nat.le_of_ble_eq_true rfl) dL_law_1036 ⟨Nat.le_of_ble_eq_true rfl, Nat.le_of_ble_eq_true rfl⟩) ([]) (wR aR q r) (fun _ => rfl) hP hD hS (fun a g' H locs hf hP hD hS => ?_)
  have hP : va_P D vwCl (wX aG aM aW aS aI q g' ++ wR aR q r) H := hP
  have hD : va_D (fun q : Nat => s.heap.size ≤ q) (wX aG aM aW aS aI q g' ++ wR aR q r) := hD
  refine lv_aload_n hx hb dL_law_1039 rfl (lv_at hl 2 rfl) ?_
  refine lv_aload_n hx hb dL_law_1040 rfl (lv_at hl 0 rfl) ?_
  refine lv_iload_n hx hb dL_law_1041 rfl (lv_at hl 3 rfl) ?_
  refine lv_iconst (v := 1) hx hb dL_law_1042 (by decide) ?_
  refine lv_iadd hx hb dL_law_1043 ?_
  refine va_sld hx hb hX hbl hbA hS (law_st (k := 1) hL hi (by decide)) dL_law_1044 ?_
  refine k_wi (wf := fun u => wR aR q u) (u0 := r) (k_runV (As := [.int (xs (nI i + 1).toNatClampNeg)]) (rest := [.int a]) ⟨hx, hb, hml, hown, hts⟩ (c_X7_keep l D q aR r (xs (nI i + 1).toNatClampNeg) _ hf) (cwV 1 hts gL_law_X7_keep rfl rfl rfl cdX7_keep ⟨Nat.le_of_ble_eq_true rfl, Nat.le_of_ble_eq_true rfl⟩) hK (kp_r hP) (kd_r hD) 0 rfl rfl rfl hl.1 rfl (Nat.le_of_ble_eq_true rfl) dL_law_1045 ⟨Nat.le_of_ble_eq_true rfl, Nat.le_of_ble_eq_true rfl⟩) (wX aG aM aW aS aI q g') ([]) (fun _ => rfl) hP hD hS (fun b' r' H locs hf hP hD hS => ?_)
  have hP : va_P D vwCl (wX aG aM aW aS aI q g' ++ wR aR q r') H := hP
  have hD : va_D (fun q : Nat => s.heap.size ≤ q) (wX aG aM aW aS aI q g' ++ wR aR q r') := hD
  refine lv_icmp_eq (tgt := 1076) hx hb dL_law_1048 (by decide) (fun c1 => ?_) (fun c1 => absurd hf.1 c1)
  exact next g' r' hf.2 H locs hP hD hS ls hl
set_option maxRecDepth 100000 in
set_option maxHeartbeats 4000000 in
theorem law_33 (Rel : CSt → RSt → Prop) (hs : LS33 Rel) {p : Program} {l : Launch} {e : Env} {s : State} {m : MethodId} {below : List Frame} {meth : Method} {c : Code} {D : va_G} {q : Nat → ClassId} {aG aM aW aR : Nat → Nat} {aS aI : Nat → Nat → Nat} {b L : Nat} {xs : Nat → Int32} (hL : L ≤ 2048) (C0 : lw_At p s m meth c b L xs) (hK : va_K D vwCl (kT q) s) {i : Nat} (hi : i + 4 ≤ L) {g : CSt} {r : RSt} (hrel : Rel g r) {H : Heap} {locs : List Loc} (hP : va_P D vwCl (wX aG aM aW aS aI q g ++ wR aR q r) H) (hD : va_D (fun q : Nat => s.heap.size ≤ q) (wX aG aM aW aS aI q g ++ wR aR q r)) (hS : va_S (fun q : Nat => s.heap.size ≤ q) s.heap H locs) {ls : Array Slot} (hl : lv_has ls 4 [(0, .ref b), (1, .ref (aG 0)), (2, .ref (aR 0)), (3, .int (nI i))]) (next : ∀ (g : CSt) (r : RSt), Rel g r → ∀ (H : Heap) (locs : List Loc), va_P D vwCl (wX aG aM aW aS aI q g ++ wR aR q r) H → va_D (fun q : Nat => s.heap.size ≤ q) (wX aG aM aW aS aI q g ++ wR aR q r) → va_S (fun q : Nat => s.heap.size ≤ q) s.heap H locs → ∀ (ls : Array Slot), lv_has ls 4 [(0, .ref b), (1, .ref (aG 0)), (2, .ref (aR 0)), (3, .int (nI i))] → W p l e room_1 s m #[Value.ref b] below meth c H locs 41 3182 (lw_Z below #[Value.ref b] s) (F0 m 1076 ls [])) : W p l e room_1 s m #[Value.ref b] below meth c H locs 41 3182 (lw_Z below #[Value.ref b] s) (F0 m 1053 ls []) := by
  obtain ⟨hx, hb, hr, hml, hown, hts, hX, hbl, hlocks, hgv⟩ := C0
  have hts : ∀ w ∈ wsL_law, w.before #[Value.ref b] s = true := fun w h => hts w (wsL_law_in w h)
  have hbA : ¬ (fun q : Nat => s.heap.size ≤ q) b := Nat.not_le.mpr hbl
  have hf := hs g r (xs (nI i + 1).toNatClampNeg) hrel
  refine lv_aload_n hx hb dL_law_1053 rfl (lv_at hl 1 rfl) ?_
  refine lv_aload_n hx hb dL_law_1054 rfl (lv_at hl 0 rfl) ?_
  refine lv_iload_n hx hb dL_law_1055 rfl (lv_at hl 3 rfl) ?_
  refine lv_iconst (v := 1) hx hb dL_law_1056 (by decide) ?_
  refine lv_iadd hx hb dL_law_1057 ?_
  refine va_sld hx hb hX hbl hbA hS (law_st (k := 1) hL hi (by decide)) dL_law_1058 ?_
  refine k_wi (wf := fun u => wX aG aM aW aS aI q u) (u0 := g) (k_runV (As := [.int (xs (nI i + 1).toNatClampNeg)]) (rest := []) ⟨hx, hb, hml, hown, hts⟩ (c_X6_goBack l D q aG aM aW aS aI g.1 g.2.1 g.2.2.1 g.2.2.2 (xs (nI i + 1).toNatClampNeg) _ hf) (cwV 1 hts gL_law_X6_goBack rfl rfl rfl cdX6_goBack ⟨Nat.le_of_ble_eq_true rfl, Nat.le_of_ble_eq_true rfl⟩) hK (kp_l hP) (kd_l hD) 0 rfl rfl rfl hl.1 rfl (Nat.le_of_ble_eq_true rfl) dL_law_1059 ⟨Nat.le_of_ble_eq_true rfl, Nat.le_of_ble_eq_true rfl⟩) ([]) (wR aR q r) (fun _ => rfl) hP hD hS (fun a g' H locs hf hP hD hS => ?_)
  have hP : va_P D vwCl (wX aG aM aW aS aI q g' ++ wR aR q r) H := hP
  have hD : va_D (fun q : Nat => s.heap.size ≤ q) (wX aG aM aW aS aI q g' ++ wR aR q r) := hD
  refine lv_aload_n hx hb dL_law_1062 rfl (lv_at hl 2 rfl) ?_
  refine lv_aload_n hx hb dL_law_1063 rfl (lv_at hl 0 rfl) ?_
  refine lv_iload_n hx hb dL_law_1064 rfl (lv_at hl 3 rfl) ?_
  refine lv_iconst (v := 1) hx hb dL_law_1065 (by decide) ?_
  refine lv_iadd hx hb dL_law_1066 ?_
  refine va_sld hx hb hX hbl hbA hS (law_st (k := 1) hL hi (by decide)) dL_law_1067 ?_
  refine k_wi (wf := fun u => wR aR q u) (u0 := r) (k_runV (As := [.int (xs (nI i + 1).toNatClampNeg)]) (rest := [.int a]) ⟨hx, hb, hml, hown, hts⟩ (c_X7_goBack l D q aR r (xs (nI i + 1).toNatClampNeg) _ hf) (cwV 1 hts gL_law_X7_goBack rfl rfl rfl cdX7_goBack ⟨Nat.le_of_ble_eq_true rfl, Nat.le_of_ble_eq_true rfl⟩) hK (kp_r hP) (kd_r hD) 0 rfl rfl rfl hl.1 rfl (Nat.le_of_ble_eq_true rfl) dL_law_1068 ⟨Nat.le_of_ble_eq_true rfl, Nat.le_of_ble_eq_true rfl⟩) (wX aG aM aW aS aI q g') ([]) (fun _ => rfl) hP hD hS (fun b' r' H locs hf hP hD hS => ?_)
  have hP : va_P D vwCl (wX aG aM aW aS aI q g' ++ wR aR q r') H := hP
  have hD : va_D (fun q : Nat => s.heap.size ≤ q) (wX aG aM aW aS aI q g' ++ wR aR q r') := hD
  refine lv_icmp_eq (tgt := 1076) hx hb dL_law_1071 (by decide) (fun c1 => ?_) (fun c1 => absurd hf.1 c1)
  exact next g' r' hf.2 H locs hP hD hS ls hl
set_option maxRecDepth 100000 in
set_option maxHeartbeats 8000000 in
theorem law_loop (Rel : CSt → RSt → Prop) (hs : LSall Rel) {p : Program} {l : Launch} {e : Env} {s : State} {m : MethodId} {below : List Frame} {meth : Method} {c : Code} {D : va_G} {q : Nat → ClassId} {aG aM aW aR : Nat → Nat} {aS aI : Nat → Nat → Nat} {b L : Nat} {xs : Nat → Int32} (hL : L ≤ 2048) (C0 : lw_At p s m meth c b L xs) (hK : va_K D vwCl (kT q) s) : ∀ (n i : Nat), L + 4 ≤ i + n → i ≤ 4096 → ∀ (g : CSt) (r : RSt), Rel g r → ∀ (H : Heap) (locs : List Loc), va_P D vwCl (wX aG aM aW aS aI q g ++ wR aR q r) H → va_D (fun q : Nat => s.heap.size ≤ q) (wX aG aM aW aS aI q g ++ wR aR q r) → va_S (fun q : Nat => s.heap.size ≤ q) s.heap H locs → ∀ (ls : Array Slot), lv_has ls 4 [(0, .ref b), (1, .ref (aG 0)), (2, .ref (aR 0)), (3, .int (nI i))] → W p l e room_1 s m #[Value.ref b] below meth c H locs 41 3182 (lw_Z below #[Value.ref b] s) (F0 m 18 ls []) := by
  obtain ⟨_, hs0, hs1, hs2, hs3, hs4, hs5, hs6, hs7, hs8, hs9, hs10, hs11, hs12, hs13, hs14, hs15, hs16, hs17, hs18, hs19, hs20, hs21, hs22, hs23, hs24, hs25, hs26, hs27, hs28, hs29, hs30, hs31, hs32, hs33⟩ := hs
  intro n
  induction n with
  | zero =>
    intro i h1 h2 g r hrel H locs hP hD hS ls hl
    have C0' := C0
    obtain ⟨hx, hb, hr, hml, hown, hts, hX, hbl, hlocks, hgv⟩ := C0'
    have hbA : ¬ (fun q : Nat => s.heap.size ≤ q) b := Nat.not_le.mpr hbl
    refine lv_iload_n hx hb dL_law_18 rfl (lv_at hl 3 rfl) ?_
    refine lv_aload_n hx hb dL_law_19 rfl (lv_at hl 0 rfl) ?_
    refine va_slen hx hb hX hbl hbA hS dL_law_20 ?_
    refine lv_iconst (v := 4) hx hb dL_law_21 (by decide) ?_
    refine lv_isub hx hb dL_law_22 ?_
    refine lv_icmp_gt (tgt := 1082) hx hb dL_law_23 (by decide) (fun c1 => ?_) (fun c1 => ?_)
    · refine lv_iconst (v := 1) hx hb dL_law_1082 (by decide) ?_
      refine va_forget (fun q hq => hS.2.2 q hq) ?_
      refine W.widen (k := 600000) (n := 7302250) (Nat.le_of_ble_eq_true rfl) (Nat.le_of_ble_eq_true rfl) ?_
      exact lw_ret hx hb hr hlocks dL_law_1083
    · exact absurd (law_in hL h2 c1) (by omega)
  | succ n ih =>
    intro i h1 h2 g r hrel H locs hP hD hS ls hl
    have C0' := C0
    obtain ⟨hx, hb, hr, hml, hown, hts, hX, hbl, hlocks, hgv⟩ := C0'
    have hbA : ¬ (fun q : Nat => s.heap.size ≤ q) b := Nat.not_le.mpr hbl
    refine lv_iload_n hx hb dL_law_18 rfl (lv_at hl 3 rfl) ?_
    refine lv_aload_n hx hb dL_law_19 rfl (lv_at hl 0 rfl) ?_
    refine va_slen hx hb hX hbl hbA hS dL_law_20 ?_
    refine lv_iconst (v := 4) hx hb dL_law_21 (by decide) ?_
    refine lv_isub hx hb dL_law_22 ?_
    refine lv_icmp_gt (tgt := 1082) hx hb dL_law_23 (by decide) (fun c1 => ?_) (fun c1 => ?_)
    · refine lv_iconst (v := 1) hx hb dL_law_1082 (by decide) ?_
      refine va_forget (fun q hq => hS.2.2 q hq) ?_
      refine W.widen (k := 600000) (n := 7302250) (Nat.le_of_ble_eq_true rfl) (Nat.le_of_ble_eq_true rfl) ?_
      exact lw_ret hx hb hr hlocks dL_law_1083
    · have hi : i + 4 ≤ L := law_in hL h2 c1
      have next : ∀ (g : CSt) (r : RSt), Rel g r → ∀ (H : Heap) (locs : List Loc), va_P D vwCl (wX aG aM aW aS aI q g ++ wR aR q r) H → va_D (fun q : Nat => s.heap.size ≤ q) (wX aG aM aW aS aI q g ++ wR aR q r) → va_S (fun q : Nat => s.heap.size ≤ q) s.heap H locs → ∀ (ls : Array Slot), lv_has ls 4 [(0, .ref b), (1, .ref (aG 0)), (2, .ref (aR 0)), (3, .int (nI i))] → W p l e room_1 s m #[Value.ref b] below meth c H locs 41 3182 (lw_Z below #[Value.ref b] s) (F0 m 1076 ls []) := by
        intro g r hrel H locs hP hD hS ls hl
        refine lv_iinc (v := nI (i + 4)) (lv' := [(3, .int (nI (i + 4))), (0, .ref b), (1, .ref (aG 0)), (2, .ref (aR 0))]) hx hb dL_law_1076 hl (k := 3) rfl (nI_add i 4) (by decide) rfl (fun ls hl => ?_)
        refine lv_goto (tgt := 18) hx hb dL_law_1079 (by decide) ?_
        exact ih (i + 4) (by omega) (by omega) g r hrel H locs hP hD hS ls (lv_sub hl [1, 2, 3, 0] rfl)
      refine lv_aload_n hx hb dL_law_26 rfl (lv_at hl 0 rfl) ?_
      refine lv_iload_n hx hb dL_law_27 rfl (lv_at hl 3 rfl) ?_
      refine va_sld hx hb hX hbl hbA hS (vp_in_nI (by omega) (by omega)) dL_law_28 ?_
      refine lv_bipush (v := 63) hx hb dL_law_29 (by decide) ?_
      refine lv_iand hx hb dL_law_31 ?_
      refine lv_topi (fun x hx0 => ?_)
      by_cases c10 : x = 0
      · refine lv_tableIn (tgt := 184) hx hb dL_law_32 (by rw [c10]; decide) (by rw [c10]; decide) (by rw [c10]; rfl) (by decide) ?_
        exact law_0 Rel hs0 hL C0 hK hi hrel hP hD hS hl next
      by_cases c11 : x = 1
      · refine lv_tableIn (tgt := 207) hx hb dL_law_32 (by rw [c11]; decide) (by rw [c11]; decide) (by rw [c11]; rfl) (by decide) ?_
        exact law_1 Rel hs1 hL C0 hK hi hrel hP hD hS hl next
      by_cases c12 : x = 2
      · refine lv_tableIn (tgt := 230) hx hb dL_law_32 (by rw [c12]; decide) (by rw [c12]; decide) (by rw [c12]; rfl) (by decide) ?_
        exact law_2 Rel hs2 hL C0 hK hi hrel hP hD hS hl next
      by_cases c13 : x = 3
      · refine lv_tableIn (tgt := 253) hx hb dL_law_32 (by rw [c13]; decide) (by rw [c13]; decide) (by rw [c13]; rfl) (by decide) ?_
        exact law_3 Rel hs3 hL C0 hK hi hrel hP hD hS hl next
      by_cases c14 : x = 4
      · refine lv_tableIn (tgt := 276) hx hb dL_law_32 (by rw [c14]; decide) (by rw [c14]; decide) (by rw [c14]; rfl) (by decide) ?_
        exact law_4 Rel hs4 hL C0 hK hi hrel hP hD hS hl next
      by_cases c15 : x = 5
      · refine lv_tableIn (tgt := 309) hx hb dL_law_32 (by rw [c15]; decide) (by rw [c15]; decide) (by rw [c15]; rfl) (by decide) ?_
        exact law_5 Rel hs5 hL C0 hK hi hrel hP hD hS hl next
      by_cases c16 : x = 6
      · refine lv_tableIn (tgt := 332) hx hb dL_law_32 (by rw [c16]; decide) (by rw [c16]; decide) (by rw [c16]; rfl) (by decide) ?_
        exact law_6 Rel hs6 hL C0 hK hi hrel hP hD hS hl next
      by_cases c17 : x = 7
      · refine lv_tableIn (tgt := 355) hx hb dL_law_32 (by rw [c17]; decide) (by rw [c17]; decide) (by rw [c17]; rfl) (by decide) ?_
        exact law_7 Rel hs7 hL C0 hK hi hrel hP hD hS hl next
      by_cases c18 : x = 8
      · refine lv_tableIn (tgt := 388) hx hb dL_law_32 (by rw [c18]; decide) (by rw [c18]; decide) (by rw [c18]; rfl) (by decide) ?_
        exact law_8 Rel hs8 hL C0 hK hi hrel hP hD hS hl next
      by_cases c19 : x = 9
      · refine lv_tableIn (tgt := 421) hx hb dL_law_32 (by rw [c19]; decide) (by rw [c19]; decide) (by rw [c19]; rfl) (by decide) ?_
        exact law_9 Rel hs9 hL C0 hK hi hrel hP hD hS hl next
      by_cases c20 : x = 10
      · refine lv_tableIn (tgt := 454) hx hb dL_law_32 (by rw [c20]; decide) (by rw [c20]; decide) (by rw [c20]; rfl) (by decide) ?_
        exact law_10 Rel hs10 hL C0 hK hi hrel hP hD hS hl next
      by_cases c21 : x = 11
      · refine lv_tableIn (tgt := 487) hx hb dL_law_32 (by rw [c21]; decide) (by rw [c21]; decide) (by rw [c21]; rfl) (by decide) ?_
        exact law_11 Rel hs11 hL C0 hK hi hrel hP hD hS hl next
      by_cases c22 : x = 12
      · refine lv_tableIn (tgt := 530) hx hb dL_law_32 (by rw [c22]; decide) (by rw [c22]; decide) (by rw [c22]; rfl) (by decide) ?_
        exact law_12 Rel hs12 hL C0 hK hi hrel hP hD hS hl next
      by_cases c23 : x = 13
      · refine lv_tableIn (tgt := 563) hx hb dL_law_32 (by rw [c23]; decide) (by rw [c23]; decide) (by rw [c23]; rfl) (by decide) ?_
        exact law_13 Rel hs13 hL C0 hK hi hrel hP hD hS hl next
      by_cases c24 : x = 14
      · refine lv_tableIn (tgt := 586) hx hb dL_law_32 (by rw [c24]; decide) (by rw [c24]; decide) (by rw [c24]; rfl) (by decide) ?_
        exact law_14 Rel hs14 hL C0 hK hi hrel hP hD hS hl next
      by_cases c25 : x = 15
      · refine lv_tableIn (tgt := 609) hx hb dL_law_32 (by rw [c25]; decide) (by rw [c25]; decide) (by rw [c25]; rfl) (by decide) ?_
        exact law_15 Rel hs15 hL C0 hK hi hrel hP hD hS hl next
      by_cases c26 : x = 16
      · refine lv_tableIn (tgt := 632) hx hb dL_law_32 (by rw [c26]; decide) (by rw [c26]; decide) (by rw [c26]; rfl) (by decide) ?_
        exact law_16 Rel hs16 hL C0 hK hi hrel hP hD hS hl next
      by_cases c27 : x = 17
      · refine lv_tableIn (tgt := 665) hx hb dL_law_32 (by rw [c27]; decide) (by rw [c27]; decide) (by rw [c27]; rfl) (by decide) ?_
        exact law_17 Rel hs17 hL C0 hK hi hrel hP hD hS hl next
      by_cases c28 : x = 18
      · refine lv_tableIn (tgt := 698) hx hb dL_law_32 (by rw [c28]; decide) (by rw [c28]; decide) (by rw [c28]; rfl) (by decide) ?_
        exact law_18 Rel hs18 hL C0 hK hi hrel hP hD hS hl next
      by_cases c29 : x = 19
      · refine lv_tableIn (tgt := 721) hx hb dL_law_32 (by rw [c29]; decide) (by rw [c29]; decide) (by rw [c29]; rfl) (by decide) ?_
        exact law_19 Rel hs19 hL C0 hK hi hrel hP hD hS hl next
      by_cases c30 : x = 20
      · refine lv_tableIn (tgt := 744) hx hb dL_law_32 (by rw [c30]; decide) (by rw [c30]; decide) (by rw [c30]; rfl) (by decide) ?_
        exact law_20 Rel hs20 hL C0 hK hi hrel hP hD hS hl next
      by_cases c31 : x = 21
      · refine lv_tableIn (tgt := 767) hx hb dL_law_32 (by rw [c31]; decide) (by rw [c31]; decide) (by rw [c31]; rfl) (by decide) ?_
        exact law_21 Rel hs21 hL C0 hK hi hrel hP hD hS hl next
      by_cases c32 : x = 22
      · refine lv_tableIn (tgt := 800) hx hb dL_law_32 (by rw [c32]; decide) (by rw [c32]; decide) (by rw [c32]; rfl) (by decide) ?_
        exact law_22 Rel hs22 hL C0 hK hi hrel hP hD hS hl next
      by_cases c33 : x = 23
      · refine lv_tableIn (tgt := 823) hx hb dL_law_32 (by rw [c33]; decide) (by rw [c33]; decide) (by rw [c33]; rfl) (by decide) ?_
        exact law_23 Rel hs23 hL C0 hK hi hrel hP hD hS hl next
      by_cases c34 : x = 24
      · refine lv_tableIn (tgt := 846) hx hb dL_law_32 (by rw [c34]; decide) (by rw [c34]; decide) (by rw [c34]; rfl) (by decide) ?_
        exact law_24 Rel hs24 hL C0 hK hi hrel hP hD hS hl next
      by_cases c35 : x = 25
      · refine lv_tableIn (tgt := 869) hx hb dL_law_32 (by rw [c35]; decide) (by rw [c35]; decide) (by rw [c35]; rfl) (by decide) ?_
        exact law_25 Rel hs25 hL C0 hK hi hrel hP hD hS hl next
      by_cases c36 : x = 26
      · refine lv_tableIn (tgt := 892) hx hb dL_law_32 (by rw [c36]; decide) (by rw [c36]; decide) (by rw [c36]; rfl) (by decide) ?_
        exact law_26 Rel hs26 hL C0 hK hi hrel hP hD hS hl next
      by_cases c37 : x = 27
      · refine lv_tableIn (tgt := 905) hx hb dL_law_32 (by rw [c37]; decide) (by rw [c37]; decide) (by rw [c37]; rfl) (by decide) ?_
        exact law_27 Rel hs27 hL C0 hK hi hrel hP hD hS hl next
      by_cases c38 : x = 28
      · refine lv_tableIn (tgt := 928) hx hb dL_law_32 (by rw [c38]; decide) (by rw [c38]; decide) (by rw [c38]; rfl) (by decide) ?_
        exact law_28 Rel hs28 hL C0 hK hi hrel hP hD hS hl next
      by_cases c39 : x = 29
      · refine lv_tableIn (tgt := 961) hx hb dL_law_32 (by rw [c39]; decide) (by rw [c39]; decide) (by rw [c39]; rfl) (by decide) ?_
        exact law_29 Rel hs29 hL C0 hK hi hrel hP hD hS hl next
      by_cases c40 : x = 30
      · refine lv_tableIn (tgt := 984) hx hb dL_law_32 (by rw [c40]; decide) (by rw [c40]; decide) (by rw [c40]; rfl) (by decide) ?_
        exact law_30 Rel hs30 hL C0 hK hi hrel hP hD hS hl next
      by_cases c41 : x = 31
      · refine lv_tableIn (tgt := 1007) hx hb dL_law_32 (by rw [c41]; decide) (by rw [c41]; decide) (by rw [c41]; rfl) (by decide) ?_
        exact law_31 Rel hs31 hL C0 hK hi hrel hP hD hS hl next
      by_cases c42 : x = 32
      · refine lv_tableIn (tgt := 1030) hx hb dL_law_32 (by rw [c42]; decide) (by rw [c42]; decide) (by rw [c42]; rfl) (by decide) ?_
        exact law_32 Rel hs32 hL C0 hK hi hrel hP hD hS hl next
      by_cases c43 : x = 33
      · refine lv_tableIn (tgt := 1053) hx hb dL_law_32 (by rw [c43]; decide) (by rw [c43]; decide) (by rw [c43]; rfl) (by decide) ?_
        exact law_33 Rel hs33 hL C0 hK hi hrel hP hD hS hl next
      refine lv_tableOut (tgt := 1076) hx hb dL_law_32 (k_sw33 c10 c11 c12 c13 c14 c15 c16 c17 c18 c19 c20 c21 c22 c23 c24 c25 c26 c27 c28 c29 c30 c31 c32 c33 c34 c35 c36 c37 c38 c39 c40 c41 c42 c43) (by decide) ?_
      exact next g r hrel H locs hP hD hS ls hl
