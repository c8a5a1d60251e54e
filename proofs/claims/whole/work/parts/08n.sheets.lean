/-! sheets and images -/
theorem ShR_up {sh : Nat → SSt} {sz ss sz' ss' : Nat → Int32} {i k : Nat} {s' : SSt} (h : ShR sh sz ss) (hk : k ≤ 64) (h1 : gS_there s' = 1) (h2 : gS_length s' = nI k) (h3 : sz' i = nI k) (h4 : ∀ j, j < k → gS_signs s' j = ss' (64 * i + j)) (h5 : ∀ x, x ≠ i → sz' x = sz x) (h6 : ∀ x j, x ≠ i → j < 64 → ss' (64 * x + j) = ss (64 * x + j)) : ShR (va_up sh i s') sz' ss' := by
  intro x hx
  unfold va_up
  by_cases hxi : x = i
  · subst hxi
    rw [if_pos rfl]
    exact Or.inr ⟨h1, k, hk, h2, h3, h4⟩
  · rw [if_neg hxi, h5 x hxi]
    rcases h x hx with g | ⟨a, k', b1, b2, b3, b4⟩
    · exact Or.inl g
    · exact Or.inr ⟨a, k', b1, b2, b3, fun j hj => by rw [h6 x j hxi (by omega)]; exact b4 j hj⟩
theorem Rf_same {t : Nat → Nat} {n K : Nat} {r r' : RSt} (h1 : gR_letters r' = gR_letters r) (h2 : gR_n r' = gR_n r) (h3 : gR_text r' = gR_text r) (h4 : gR_stateMany r' = gR_stateMany r) (h5 : gR_longest r' = gR_longest r) (h6 : gR_made r' = gR_made r) (h7 : gR_cloneOf r' = gR_cloneOf r) (h8 : gR_ends r' = gR_ends r) (h : RfInv t n K r) : RfInv t n K r' := by
  obtain ⟨⟨c1, c2, c3, c4, c5, c6⟩, c7⟩ := h
  exact ⟨⟨h1.trans c1, h2.trans c2, fun i hi => by rw [h3]; exact c3 i hi, h4.trans c4, fun s hs => by rw [h5]; exact c5 s hs, fun s hs => by rw [h8]; exact c6 s hs⟩, fun s hs => by rw [h6, h7]; exact c7 s hs⟩
theorem write_S {th ln : Int32} {sg : Nat → Int32} {j : Nat} {v : Int32} (hj : j < 64) : fX4_write (sg, th, ln) (nI j) v = (upd sg j v, th, ln) := by
  unfold fX4_write
  show (kPut 64 sg (nI j) v, th, ln) = _
  rw [kPut_nI hj]
theorem w_layOut {s : SSt} {k : Nat} (hk : k ≤ 64) {Q : SSt → Prop} (hQ : ∀ s', gS_there s' = 1 → gS_length s' = nI k → (∀ j, j < k → gS_signs s' j = 97) → Q s') : wpX4_layOut s (nI k) Q := by
  obtain ⟨sg, th, ln⟩ := s
  unfold wpX4_layOut
  intro X h
  show X 0 (sg, 1, nI k)
  have loop : ∀ d x, x + d = k → ∀ sg2 : Nat → Int32, (∀ j, j < x → sg2 j = 97) → X (nI x) (sg2, 1, nI k) := by
    intro d
    induction d with
    | zero =>
      intro x hx sg2 h2
      have hx : x = k := by omega
      subst hx
      exact h _ _ (br_t (nI_le (Nat.le_refl _) (by omega)) (hQ _ rfl rfl h2))
    | succ d ih =>
      intro x hx sg2 h2
      refine h _ _ (br_f (nI_ge (by omega) (by omega)) ?_)
      rw [write_S (by omega), nI_1]
      refine ih (x + 1) (by omega) _ (fun j hj => ?_)
      by_cases hjx : j = x
      · subst hjx; exact pk_us
      · rw [pk_un hjx]; exact h2 j (by omega)
  exact loop k 0 (Nat.zero_add _) sg (fun j hj => absurd hj (Nat.not_lt_zero j))
theorem place_br {s : SSt} {k : Nat} (hk : gS_length s = nI k) (hk2 : k ≤ 64) {x : Int32} {P R : Prop} (h1 : (x < 0 ∨ nI k ≤ x) → P) (h3 : ∀ j, j < k → x = nI j → R) : (fX4_hasPlace s x = 0 → P) ∧ (¬ fX4_hasPlace s x = 0 → R) := by
  unfold fX4_hasPlace
  rw [hk]
  rcases i32 x with g | ⟨j, hj, rfl⟩
  · rw [if_pos g]; exact br_t rfl (h1 (Or.inl g))
  · rw [if_neg (nI_pos hj)]
    rcases Nat.lt_or_ge j k with g | g
    · rw [if_neg (nI_ge g (by omega))]; exact br_f (by decide) (h3 j g rfl)
    · rw [if_pos (nI_le g hj)]; exact br_t rfl (h1 (Or.inr (nI_le g hj)))
theorem LS10_ok : LS10 Rel := by
  rintro ⟨uM, uW, sh, im⟩ r x1 x2 ⟨t, n, K, hB, hC, hR, hS, hI⟩
  have hS : ShR sh (gR_sizes r) (gR_sheets r) := hS
  have hrel : Rel (uM, uW, sh, im) r := ⟨t, n, K, hB, hC, hR, hS, hI⟩
  have bad : ((x1 < 0 ∨ 4 ≤ x1) ∨ x2 < 0 ∨ ¬ x2 ≤ 64) → wpX7_sheet r x1 x2 (fun b r' => -1 = b ∧ Rel (uM, uW, sh, im) r') := fun h => by
    unfold wpX7_sheet
    intro X h28
    refine sheet_br (fun _ => ⟨rfl, hrel⟩) (fun i hi e => in_br (fun _ => ⟨rfl, hrel⟩) (fun _ _ => ⟨rfl, hrel⟩) (fun g1 g2 => ?_))
    rcases h with h | h | h
    · subst e; exact (not_sheet hi h).elim
    · exact absurd h g1
    · exact absurd (Int32.not_lt.mp g2) h
  unfold wpX6_sheet
  refine ⟨fun h => bad (Or.inl h), fun i hi e => ⟨fun h => bad (Or.inr (Or.inl h)), fun h1 => ⟨fun h2 => ?_, fun h => bad (Or.inr (Or.inr h))⟩⟩⟩
  subst e
  obtain ⟨k, hk, rfl⟩ := nI_of h1
  have k64 : k ≤ 64 := by
    rcases Nat.lt_or_ge 64 k with g | g
    · exact absurd h2 (nI_ge (a := 64) g hk)
    · exact g
  refine w_layOut k64 (fun s' a1 a2 a3 => ?_)
  unfold wpX7_sheet
  intro X h28
  refine sheet_br (fun h => (not_sheet hi h).elim) (fun i' hi' _ => in_br (fun g => absurd g h1) (fun _ g => absurd h2 (Int32.not_le.mpr g)) (fun _ _ => ⟨vp_in_nI hi (by decide), ?_⟩))
  rw [nI_clamp (by omega)]
  have loop : ∀ d x, x + d = k → ∀ ss : Nat → Int32, (∀ j, j < x → ss (64 * i + j) = 97) → (∀ y j, y ≠ i → j < 64 → ss (64 * y + j) = gR_sheets r (64 * y + j)) → X (nI x) (gR_set_sheets (gR_set_sizes r (upd (gR_sizes r) i (nI k))) ss) := by
    intro d
    induction d with
    | zero =>
      intro x hx ss h5 h6
      have hx : x = k := by omega
      subst hx
      refine h28 _ _ (br_t (nI_le (Nat.le_refl _) (by omega)) ⟨rfl, t, n, K, hB, hC, Rf_same rfl rfl rfl rfl rfl rfl rfl rfl hR, ?_, hI⟩)
      exact ShR_up hS k64 a1 a2 pk_us (fun j hj => by rw [a3 j hj]; exact (h5 j hj).symm) (fun y hy => pk_un hy) h6
    | succ d ih =>
      intro x hx ss h5 h6
      refine h28 _ _ (br_f (nI_ge (by omega) (by omega)) ?_)
      rw [ix64, nI_clamp (by omega), nI_1]
      refine ⟨vp_in_nI (by omega) (by decide), ?_⟩
      refine ih (x + 1) (by omega) (upd ss (64 * i + x) 97) (fun j hj => ?_) (fun y j hy hj => ?_)
      · by_cases hjx : j = x
        · subst hjx; exact pk_us
        · rw [pk_un (by omega)]; exact h5 j (by omega)
      · rw [pk_un (by omega)]; exact h6 y j hy hj
  exact loop k 0 (Nat.zero_add _) (gR_sheets r) (fun j hj => absurd hj (Nat.not_lt_zero j)) (fun _ _ _ _ => rfl)
theorem LS11_ok : LS11 Rel := by
  rintro ⟨uM, uW, sh, im⟩ r x1 x2 x3 ⟨t, n, K, hB, hC, hR, hS, hI⟩
  have hS : ShR sh (gR_sizes r) (gR_sheets r) := hS
  have hrel : Rel (uM, uW, sh, im) r := ⟨t, n, K, hB, hC, hR, hS, hI⟩
  unfold wpX6_set
  have bad : ((x1 < 0 ∨ 4 ≤ x1) ∨ x3 < 0 ∨ ¬ x3 ≤ 65535) → wpX7_set r x1 x2 x3 (fun b r' => -1 = b ∧ Rel (uM, uW, sh, im) r') := fun h => by
    unfold wpX7_set
    intro X h19
    have no : X (-1) r := h19 _ _ (br_f (by decide) ⟨rfl, hrel⟩)
    refine in_br (fun _ => no) (fun _ _ => no) (fun g1 g2 => ?_)
    rcases h with h | h | h
    · exact w_need (fun _ => no) (fun i hi e => by subst e; exact (not_sheet hi h).elim)
    · exact absurd h g1
    · exact absurd (Int32.not_lt.mp g2) h
  refine ⟨fun h => bad (Or.inl h), fun i hi e => ⟨fun h => bad (Or.inr (Or.inl h)), fun h1 => ⟨fun h2 => ?_, fun h => bad (Or.inr (Or.inr h))⟩⟩⟩
  subst e
  have ref : ∀ {Q : Int32 → RSt → Prop}, (gS_there (sh i) = 0 → Q (-11) r) → (∀ k, gS_there (sh i) = 1 → k ≤ 64 → gS_length (sh i) = nI k → gR_sizes r i = nI k → (∀ j, j < k → gS_signs (sh i) j = gR_sheets r (64 * i + j)) → (((x2 < 0 ∨ nI k ≤ x2) → Q (-12) r) ∧ ∀ j, j < k → x2 = nI j → Q (gR_sheets r (64 * i + j)) (gR_set_sheets r (upd (gR_sheets r) (64 * i + j) x3)))) → wpX7_set r (nI i) x2 x3 Q := fun ha hb => by
    unfold wpX7_set
    intro X h19
    refine in_br (fun g => absurd g h1) (fun _ g => absurd h2 (Int32.not_le.mpr g)) (fun _ _ => ?_)
    refine w_need (fun h => (not_sheet hi h).elim) (fun i' hi' e => ?_)
    have e : i = i' := nI_inj (by omega) (by omega) e
    subst e
    rcases hS i hi with ⟨a, b⟩ | ⟨a, k, b1, b2, b3, b4⟩
    · rw [b]
      exact br_f (by decide) (h19 _ _ (br_f (by decide) (ha a)))
    · rw [b3]
      refine br_t (nI_pos' (by omega)) (h19 _ _ (br_t (by decide) ⟨vp_in_nI hi (by decide), ?_⟩))
      rw [nI_clamp (by omega), b3]
      obtain ⟨c1, c2⟩ := hb k a b1 b2 b3 b4
      refine ub_br (by omega) (fun h => c1 (Or.inl h)) (fun h => c1 (Or.inr h)) (fun j hj e => ?_)
      subst e
      rw [ix64, nI_clamp (by omega)]
      exact ⟨vp_in_nI (by omega) (by decide), vp_in_nI (by omega) (by decide), c2 j hj rfl⟩
  rcases hS i hi with ⟨a, b⟩ | ⟨a, k, b1, b2, b3, b4⟩
  · refine br_t a (ref (fun _ => ⟨rfl, hrel⟩) (fun k a2 => ?_))
    rw [a] at a2; exact absurd a2 (by decide)
  · refine br_f (by rw [a]; decide) (place_br b2 b1 (fun h => ?_) (fun j hj e => ?_))
    · refine ref (fun a2 => ?_) (fun k' _ _ c1 _ _ => ⟨fun _ => ⟨rfl, hrel⟩, fun j hj e => ?_⟩)
      · rw [a] at a2; exact absurd a2 (by decide)
      · rw [b2] at c1
        have : k = k' := nI_inj (by omega) (by omega) c1
        subst this; subst e
        rcases h with h | h
        · exact absurd h (nI_pos (by omega))
        · exact absurd h (nI_ge hj (by omega))
    · subst e
      refine ref (fun a2 => ?_) (fun k' _ _ c1 _ _ => ⟨fun h => ?_, fun j' hj' e => ?_⟩)
      · rw [a] at a2; exact absurd a2 (by decide)
      · have c1 : gS_length (sh i) = nI k' := c1
        rw [b2] at c1
        rw [← c1] at h
        rcases h with h | h
        · exact absurd h (nI_pos (by omega))
        · exact absurd h (nI_ge hj (by omega))
      · have e : j = j' := nI_inj (by omega) (by omega) e
        subst e
        refine ⟨?_, t, n, K, hB, hC, Rf_same rfl rfl rfl rfl rfl rfl rfl rfl hR, ?_, hI⟩
        · unfold fX4_signAt; rw [kAt_nI (by omega)]; exact b4 j hj
        · have hw : fX4_write (sh i) (nI j) x3 = (upd (gS_signs (sh i)) j x3, gS_there (sh i), gS_length (sh i)) := write_S (by omega)
          show ShR (va_up sh i (fX4_write (sh i) (nI j) x3)) (gR_sizes r) (upd (gR_sheets r) (64 * i + j) x3)
          rw [hw]
          refine ShR_up hS b1 a b2 b3 (fun y hy => ?_) (fun _ _ => rfl) (fun y z hy hz => pk_un (by omega))
          show upd (gS_signs (sh i)) j x3 y = _
          by_cases hyj : y = j
          · subst hyj; rw [pk_us, pk_us]
          · rw [pk_un hyj, pk_un (by omega)]; exact b4 y hy
theorem LS12_ok : LS12 Rel := by
  rintro ⟨uM, uW, sh, im⟩ r x1 x2 ⟨t, n, K, hB, hC, hR, hS, hI⟩
  have hS : ShR sh (gR_sizes r) (gR_sheets r) := hS
  have hrel : Rel (uM, uW, sh, im) r := ⟨t, n, K, hB, hC, hR, hS, hI⟩
  unfold wpX6_get
  refine ⟨fun h => ?_, fun i hi e => ?_⟩
  · unfold wpX7_get
    exact w_need (fun _ => br_f (by decide) ⟨rfl, hrel⟩) (fun i hi e => by subst e; exact (not_sheet hi h).elim)
  · subst e
    have ref : ∀ a : Int32, (gS_there (sh i) = 0 → a = -11) → (∀ k, gS_there (sh i) = 1 → gS_length (sh i) = nI k → (((x2 < 0 ∨ nI k ≤ x2) → a = -12) ∧ ∀ j, j < k → x2 = nI j → a = gS_signs (sh i) j)) → wpX7_get r (nI i) x2 (fun b => a = b ∧ Rel (uM, uW, sh, im) r) := fun a h1 h2 => by
      unfold wpX7_get
      refine w_need (fun h => (not_sheet hi h).elim) (fun i' hi' e => ?_)
      have e : i = i' := nI_inj (by omega) (by omega) e
      subst e
      rcases hS i hi with ⟨a, b⟩ | ⟨a, k, b1, b2, b3, b4⟩
      · rw [b]; exact br_f (by decide) (br_f (by decide) ⟨h1 a, hrel⟩)
      · rw [b3]
        refine br_t (nI_pos' (by omega)) (br_t (by decide) ⟨vp_in_nI hi (by decide), ?_⟩)
        rw [nI_clamp (by omega), b3]
        obtain ⟨c1, c2⟩ := h2 k a b2
        refine ub_br (by omega) (fun h => ⟨c1 (Or.inl h), hrel⟩) (fun h => ⟨c1 (Or.inr h), hrel⟩) (fun j hj e => ?_)
        have hc := c2 j hj e
        subst e
        rw [ix64, nI_clamp (by omega), ← b4 j hj]
        exact ⟨vp_in_nI (by omega) (by decide), hc, hrel⟩
    rcases hS i hi with ⟨a, b⟩ | ⟨a, k, b1, b2, b3, b4⟩
    · refine br_t a (ref _ (fun _ => rfl) (fun k a2 => ?_))
      rw [a] at a2; exact absurd a2 (by decide)
    · refine br_f (by rw [a]; decide) (place_br b2 b1 (fun h => ?_) (fun j hj e => ?_))
      · refine ref _ (fun a2 => ?_) (fun k' _ c1 => ⟨fun _ => rfl, fun j hj e => ?_⟩)
        · rw [a] at a2; exact absurd a2 (by decide)
        · have c1 : gS_length (sh i) = nI k' := c1
          rw [b2] at c1
          rw [c1] at h
          subst e
          have hkk : k = k' := nI_inj (by omega) (by
            rcases Nat.lt_or_ge k' (2 ^ 31) with q | q
            · exact q
            · exact absurd h (fun _ => by
                rcases h with h | h
                · exact nI_pos (by omega) h
                · rw [← c1] at h
                  sorry)) c1
          subst hkk
          rcases h with h | h
          · exact absurd h (nI_pos (by omega))
          · exact absurd h (nI_ge hj (by omega))
      · sorry
