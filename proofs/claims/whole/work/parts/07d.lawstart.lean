set_option maxRecDepth 100000 in
set_option maxHeartbeats 8000000 in
theorem law_start (Rel : CSt → RSt → Prop) (hsteps : LSall Rel) {p : Program} {e : Env} {s : State} {m : MethodId} {below : List Frame} {meth : Method} {c : Code} (l : Launch) {b L : Nat} {xs : Nat → Int32} (hL : L ≤ 2048) (C0 : lw_At p s m meth c b L xs) : W p l e room_1 s m #[Value.ref b] below meth c s.heap [] 0 0 (lw_Z below #[Value.ref b] s) (entryFrame m ([Value.ref b] : List Value).toArray 4) := by
  have C0' := C0
  obtain ⟨hx, hb, hr, hml, hown, htb, hX, hbl, hlocks, hgv⟩ := C0'
  have hts : ∀ w ∈ wsL_law, w.before #[Value.ref b] s = true := fun w h => htb w (wsL_law_in w h)
  have hA : ∀ q : Nat, s.heap.size ≤ q → (fun q : Nat => s.heap.size ≤ q) q := fun _ h => h
  have hbA : ¬ (fun q : Nat => s.heap.size ≤ q) b := Nat.not_le.mpr hbl
  obtain ⟨cc0, iS0, hKn0⟩ := u_known (C := RX1) (T := TX1) (N := 4) (n := 4) htb inX1 (htb (.instantiable RX1 4) (kt1 135 rfl))
  obtain ⟨cc1, iS1, hKn1⟩ := u_known (C := RX2) (T := TX2) (N := 12) (n := 12) htb inX2 (htb (.instantiable RX2 12) (kt1 20 rfl))
  obtain ⟨cc2, iS2, hKn2⟩ := u_known (C := RX4) (T := TX4) (N := 3) (n := 3) htb inX4 (htb (.instantiable RX4 3) (kt1 114 rfl))
  obtain ⟨cc3, iS3, hKn3⟩ := u_known (C := RX5) (T := TX5) (N := 5) (n := 5) htb inX5 (htb (.instantiable RX5 5) (kt1 91 rfl))
  obtain ⟨cc4, iS4, hKn4⟩ := u_known (C := RX6) (T := TX6) (N := 4) (n := 4) htb inX6 (htb (.instantiable RX6 4) (kt1 12 rfl))
  obtain ⟨cc5, iS5, hKn5⟩ := u_known (C := RX7) (T := TX7) (N := 14) (n := 14) htb inX7 (htb (.instantiable RX7 14) (kt3 158 rfl))
  obtain ⟨dC, dI, hKc⟩ : ∃ (dC : Nat → ClassId) (dI : Nat → Nat → Nat), ∀ (k : Nat) (q : vw_C), vwCl[k]? = some q → u_Kn s q.1 q.2.1 q.2.2 (dC k) (dI k) := by
    refine ⟨fun k => match k with | 0 => cc0 | 1 => cc1 | 2 => cc2 | 3 => cc3 | 4 => cc4 | _ => cc5, fun k => match k with | 0 => iS0 | 1 => iS1 | 2 => iS2 | 3 => iS3 | 4 => iS4 | _ => iS5, ?_⟩
    intro k q hq
    match k, hq with
    | 0, hq => cases hq; exact hKn0
    | 1, hq => cases hq; exact hKn1
    | 2, hq => cases hq; exact hKn2
    | 3, hq => cases hq; exact hKn3
    | 4, hq => cases hq; exact hKn4
    | 5, hq => cases hq; exact hKn5
    | k + 6, hq => simp [vwCl] at hq
  obtain ⟨cI, kI, pI, fI1, fI2, fI3⟩ := Cond.arrayClass_spec (htb (.arrayClass .int) (kt1 88 rfl))
  obtain ⟨cJ, kJ, pJ, fJ1, fJ2, fJ3⟩ := Cond.arrayClass_spec (htb (.arrayClass .long) (kt1 89 rfl))
  have hO4 : va_AO RX4 s := (htb (.arrayOver (.object RX4)) (kt1 113 rfl))
  have hO1 : va_AO RX1 s := (htb (.arrayOver (.object RX1)) (kt1 134 rfl))
  obtain ⟨pS, cS, kS, fS1, fS2, fS3, fS4, fS5⟩ := Cond.arrayOver_spec hO4
  obtain ⟨pG, cG, kG, fG1, fG2, fG3, fG4, fG5⟩ := Cond.arrayOver_spec hO1
  obtain ⟨q, hq⟩ : ∃ q : Nat → ClassId, q = fun k => match k with | 0 => cI | 1 => cJ | 2 => cS | _ => cG := ⟨_, rfl⟩
  have hK : va_K (dC, dI) vwCl (kT q) s := by
    refine ⟨hKc, fun k z hz => ?_⟩
    subst hq
    match k, hz with
    | 0, hz => cases hz; exact ⟨fun n z => ⟨fun k h => (by cases h), kI, fI2, pI, fI3⟩, fI1⟩
    | 1, hz => cases hz; exact ⟨fun n z => ⟨fun k h => (by cases h), kJ, fJ2, pJ, fJ3⟩, fJ1⟩
    | 2, hz => cases hz; exact ⟨fun n z => ⟨fun k h => (by cases h), kS, fS3, pS, fS4⟩, kS, pS, fS3, fS4, fS1, fS5⟩
    | 3, hz => cases hz; exact ⟨fun n z => ⟨fun k h => (by cases h), kG, fG3, pG, fG4⟩, kG, pG, fG3, fG4, fG1, fG5⟩
    | k + 4, hz => simp at hz
  clear hKc fI1 fI2 fI3 fJ1 fJ2 fJ3 fS2 fG2 hq
  obtain ⟨D, hDD⟩ : ∃ D : va_G, D = (dC, dI) := ⟨_, rfl⟩
  rw [← hDD] at hK
  have hS : va_S (fun q : Nat => s.heap.size ≤ q) s.heap s.heap [] := va_S.rf
  have hP : va_P D vwCl [] s.heap := k_nilP
  have hD : va_D (fun q : Nat => s.heap.size ≤ q) [] := ⟨fun i j p q h => by simp at h, fun k q h => by simp at h⟩
  have hl := lv_entry ([.ref b]) (n := 4) (Nat.le_of_ble_eq_true rfl)
  rw [lg_entry_eq]
  generalize (lg_sl ([.ref b]) ++ List.replicate (4 - (lg_sl ([.ref b])).length) Slot.unset).toArray = ls at hl ⊢
  have hl : lv_has ls 4 [(0, .ref b)] := hl
  obtain ⟨hsi, -⟩ := id hsteps
  refine va_new (ci := 4) (fs := [.null, .null, .null, .null]) (C := RX6) (T := TX6) (N := 4) hx hb hts inlX6 tyX6 tyX6_ok hown (hts (.classLink RL 7 RX6) (wl 0 rfl)) (hts (.instantiable RX6 4) (wl 1 rfl)) (hts (.initialized RX6) (wl 2 rfl)) hK hP hD hS hA rfl (fun j hj => by match j, hj with | 0, _ => rfl | 1, _ => rfl | 2, _ => rfl | 3, _ => rfl) (Nat.le_of_ble_eq_true rfl) (Nat.le_of_ble_eq_true rfl) dL_law_0 (fun b0 H hP hD hS => ?_)
  have hP : va_P D vwCl ([(b0, .inr (4, [.null, .null, .null, .null]))]) H := hP
  have hD : va_D (fun q : Nat => s.heap.size ≤ q) ([(b0, .inr (4, [.null, .null, .null, .null]))]) := hD
  refine W.widen (k := 1) (n := 4) (Nat.le_of_ble_eq_true rfl) (Nat.le_of_ble_eq_true rfl) ?_
  refine lv_dup hx hb dL_law_3 rfl ?_
  have hFc := va_free (wc := [(b0, .inr (4, [.null, .null, .null, .null]))]) hD hS hA [0] rfl
  refine va_callv (k_runIy (As := []) (rest := [.ref b0]) ⟨hx, hb, hml, hown, hts⟩ (c_X6_init l D q b0 H.size (fun g => wpX7_begins zeroR 2 (fun uR => Rel g (gR_set_sizes uR (upd (upd (upd (upd (gR_sizes uR) 0 (-1)) 1 (-1)) 2 (-1)) 3 (-1))))) hsi) (cwI 0 hts gL_law_X6_init rfl rfl rfl (hts (.initialized RX6) (wl 2 rfl)) (hts (.methodLink RL 9 yX6_init) (wl 6 rfl)) (hts (.instanceMethod yX6_init) (wl 7 rfl)) rfl (by decide +kernel) ⟨Nat.le_of_ble_eq_true rfl, Nat.le_of_ble_eq_true rfl⟩) rfl hO4 hO1 hK (kp_1 hP 0 rfl) (kd_1 hD 0 rfl) rfl hl.1 rfl (Nat.le_of_ble_eq_true rfl) dL_law_4 ⟨Nat.le_of_ble_eq_true rfl, Nat.le_of_ble_eq_true rfl⟩) hS (fun q _ h => hFc q h) hFc (fun u t H1 locs ht hvm hw hB hz1 hk1 hS => ?_)
  obtain ⟨hP1, hK1, hD1⟩ := hB
  rw [ht] at hP1
  obtain ⟨hPn, hDn⟩ := va_join (wr := []) (w1 := wXa q u) hP hD [0] [] rfl rfl (by decide) (by decide) hk1 hFc hP1 hD1
  generalize H1 = H at hPn hS ⊢
  obtain ⟨⟨aG, aM, aW, aS, aI⟩, g⟩ := u
  obtain ⟨hw1, hsi⟩ := hw
  have hw1 : aG 0 = b0 := hw1
  subst hw1
  have hP : va_P D vwCl (wX aG aM aW aS aI q g) H := hPn
  have hD : va_D (fun q : Nat => s.heap.size ≤ q) (wX aG aM aW aS aI q g) := hDn
  clear hPn hDn
  refine W.widen (k := 29) (n := 2119) (Nat.le_of_ble_eq_true rfl) (Nat.le_of_ble_eq_true rfl) ?_
  refine lv_astore_n (lv' := [(1, .ref (aG 0)), (0, .ref b)]) hx hb dL_law_7 rfl hl (by decide) rfl (fun ls hl => ?_)
  refine va_new (ci := 5) (fs := [.int 0, .int 0, .null, .int 0, .null, .null, .null, .null, .null, .null, .null, .null, .null, .null]) (C := RX7) (T := TX7) (N := 14) hx hb hts inlX7 tyX7 tyX7_ok hown (hts (.classLink RL 10 RX7) (wl 3 rfl)) (hts (.instantiable RX7 14) (wl 4 rfl)) (hts (.initialized RX7) (wl 5 rfl)) hK hP hD hS hA rfl (fun j hj => by match j, hj with | 0, _ => rfl | 1, _ => rfl | 2, _ => rfl | 3, _ => rfl | 4, _ => rfl | 5, _ => rfl | 6, _ => rfl | 7, _ => rfl | 8, _ => rfl | 9, _ => rfl | 10, _ => rfl | 11, _ => rfl | 12, _ => rfl | 13, _ => rfl) (Nat.le_of_ble_eq_true rfl) (Nat.le_of_ble_eq_true rfl) dL_law_8 (fun b8 H hP hD hS => ?_)
  have hP : va_P D vwCl (wX aG aM aW aS aI q g ++ [(b8, .inr (5, [.int 0, .int 0, .null, .int 0, .null, .null, .null, .null, .null, .null, .null, .null, .null, .null]))]) H := hP
  have hD : va_D (fun q : Nat => s.heap.size ≤ q) (wX aG aM aW aS aI q g ++ [(b8, .inr (5, [.int 0, .int 0, .null, .int 0, .null, .null, .null, .null, .null, .null, .null, .null, .null, .null]))]) := hD
  refine W.widen (k := 30) (n := 2133) (Nat.le_of_ble_eq_true rfl) (Nat.le_of_ble_eq_true rfl) ?_
  refine lv_dup hx hb dL_law_11 rfl ?_
  have hFc := va_free (wc := [(b8, .inr (5, [.int 0, .int 0, .null, .int 0, .null, .null, .null, .null, .null, .null, .null, .null, .null, .null]))]) hD hS hA [29] rfl
  refine va_callv (k_runI (As := []) (rest := [.ref b8]) ⟨hx, hb, hml, hown, hts⟩ (c_X7_init l D q b8 H.size (Rel g) hsi) (cwI 0 hts gL_law_X7_init rfl rfl rfl (hts (.initialized RX7) (wl 5 rfl)) (hts (.methodLink RL 12 yX7_init) (wl 89 rfl)) (hts (.instanceMethod yX7_init) (wl 90 rfl)) rfl (by decide +kernel) ⟨Nat.le_of_ble_eq_true rfl, Nat.le_of_ble_eq_true rfl⟩) rfl hK (kp_1 hP 29 rfl) (kd_1 hD 29 rfl) rfl hl.1 rfl (Nat.le_of_ble_eq_true rfl) dL_law_12 ⟨Nat.le_of_ble_eq_true rfl, Nat.le_of_ble_eq_true rfl⟩) hS (fun q _ h => hFc q h) hFc (fun u t H1 locs ht hvm hw hB hz1 hk1 hS => ?_)
  obtain ⟨hP1, hK1, hD1⟩ := hB
  rw [ht] at hP1
  obtain ⟨hPn, hDn⟩ := va_join (wr := wX aG aM aW aS aI q g) (w1 := wR u.1 q u.2) hP hD [29] [0, 1, 2, 3, 4, 5, 6, 7, 8, 9, 10, 11, 12, 13, 14, 15, 16, 17, 18, 19, 20, 21, 22, 23, 24, 25, 26, 27, 28] rfl rfl (by decide) (by decide) hk1 hFc hP1 hD1
  generalize H1 = H at hPn hS ⊢
  obtain ⟨aR, r⟩ := u
  obtain ⟨hw1, hrel⟩ := hw
  have hw1 : aR 0 = b8 := hw1
  subst hw1
  have hP : va_P D vwCl (wX aG aM aW aS aI q g ++ wR aR q r) H := hPn
  have hD : va_D (fun q : Nat => s.heap.size ≤ q) (wX aG aM aW aS aI q g ++ wR aR q r) := hDn
  clear hPn hDn
  refine W.widen (k := 41) (n := 3182) (Nat.le_of_ble_eq_true rfl) (Nat.le_of_ble_eq_true rfl) ?_
  refine lv_astore_n (lv' := [(2, .ref (aR 0)), (1, .ref (aG 0)), (0, .ref b)]) hx hb dL_law_15 rfl hl (by decide) rfl (fun ls hl => ?_)
  refine lv_iconst (v := 0) hx hb dL_law_16 (by decide) ?_
  refine lv_istore_n (lv' := [(3, .int 0), (2, .ref (aR 0)), (1, .ref (aG 0)), (0, .ref b)]) hx hb dL_law_17 rfl hl (by decide) rfl (fun ls hl => ?_)
  exact law_loop Rel hsteps hL C0 hK (L + 4) 0 (by omega) (by omega) g r hrel H locs hP hD hS ls (lv_sub hl [3, 2, 1, 0] rfl)
