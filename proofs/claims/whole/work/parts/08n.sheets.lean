/-! sheets and images -/
theorem ShR_up {sh : Nat → SSt} {sz ss sz' ss' : Nat → Int32} {i k : Nat} {s' : SSt} (h : ShR sh sz ss) (hk : k ≤ 64) (h1 : gS_there s' = 1) (h2 : gS_length s' = nI k) (h3 : sz' i = nI k) (h4 : ∀ j, j < k → gS_signs s' j = ss' (64 * i + j)) (h5 : ∀ x, x ≠ i → sz' x = sz x) (h6 : ∀ x j, x ≠ i → j < 64 → ss' (64 * x + j) = ss (64 * x + j)) : ShR (va_up sh i s') sz' ss' := by
  intro x hx
  unfold va_up
  by_cases hxi : x = i
  · subst hxi
    rw [if_pos rfl]
    exact Or.inr ⟨h1, k, hk, h2, h3, h4⟩
  · rw [if_neg hxi, h5 x hxi]
    rcases h x hx with g | ⟨a, k', b1, b2, b3, b4⟩
    · exact Or.inl g
    · exact Or.inr ⟨a, k', b1, b2, b3, fun j hj => by rw [h6 x j hxi (by omega)]; exact b4 j hj⟩
theorem Rf_same {t : Nat → Nat} {n K : Nat} {r r' : RSt} (h1 : gR_letters r' = gR_letters r) (h2 : gR_n r' = gR_n r) (h3 : gR_text r' = gR_text r) (h4 : gR_stateMany r' = gR_stateMany r) (h5 : gR_longest r' = gR_longest r) (h6 : gR_made r' = gR_made r) (h7 : gR_cloneOf r' = gR_cloneOf r) (h8 : gR_ends r' = gR_ends r) (h : RfInv t n K r) : RfInv t n K r' := by
  obtain ⟨⟨c1, c2, c3, c4, c5, c6⟩, c7⟩ := h
  exact ⟨⟨h1.trans c1, h2.trans c2, fun i hi => by rw [h3]; exact c3 i hi, h4.trans c4, fun s hs => by rw [h5]; exact c5 s hs, fun s hs => by rw [h8]; exact c6 s hs⟩, fun s hs => by rw [h6, h7]; exact c7 s hs⟩
theorem write_S {th ln : Int32} {sg : Nat → Int32} {j : Nat} {v : Int32} (hj : j < 64) : fX4_write (sg, th, ln) (nI j) v = (upd sg j v, th, ln) := by
  unfold fX4_write
  show (kPut 64 sg (nI j) v, th, ln) = _
  rw [kPut_nI hj]
theorem w_layOut {s : SSt} {k : Nat} (hk : k ≤ 64) {Q : SSt → Prop} (hQ : ∀ s', gS_there s' = 1 → gS_length s' = nI k → (∀ j, j < k → gS_signs s' j = 97) → Q s') : wpX4_layOut s (nI k) Q := by
  obtain ⟨sg, th, ln⟩ := s
  unfold wpX4_layOut
  intro X h
  show X 0 (sg, 1, nI k)
  have loop : ∀ d x, x + d = k → ∀ sg2 : Nat → Int32, (∀ j, j < x → sg2 j = 97) → X (nI x) (sg2, 1, nI k) := by
    intro d
    induction d with
    | zero =>
      intro x hx sg2 h2
      have hx : x = k := by omega
      subst hx
      exact h _ _ (br_t (nI_le (Nat.le_refl _) (by omega)) (hQ _ rfl rfl h2))
    | succ d ih =>
      intro x hx sg2 h2
      refine h _ _ (br_f (nI_ge (by omega) (by omega)) ?_)
      rw [write_S (by omega), nI_1]
      refine ih (x + 1) (by omega) _ (fun j hj => ?_)
      by_cases hjx : j = x
      · subst hjx; exact pk_us
      · rw [pk_un hjx]; exact h2 j (by omega)
  exact loop k 0 (Nat.zero_add _) sg (fun j hj => absurd hj (Nat.not_lt_zero j))
theorem place_br {s : SSt} {k : Nat} (hk : gS_length s = nI k) (hk2 : k ≤ 64) {x : Int32} {P R : Prop} (h1 : (x < 0 ∨ nI k ≤ x) → P) (h3 : ∀ j, j < k → x = nI j → R) : (fX4_hasPlace s x = 0 → P) ∧ (¬ fX4_hasPlace s x = 0 → R) := by
  unfold fX4_hasPlace
  rw [hk]
  rcases i32 x with g | ⟨j, hj, rfl⟩
  · rw [if_pos g]; exact br_t rfl (h1 (Or.inl g))
  · rw [if_neg (nI_pos hj)]
    rcases Nat.lt_or_ge j k with g | g
    · rw [if_neg (nI_ge g (by omega))]; exact br_f (by decide) (h3 j g rfl)
    · rw [if_pos (nI_le g hj)]; exact br_t rfl (h1 (Or.inr (nI_le g hj)))
theorem LS10_ok : LS10 Rel := by
  rintro ⟨uM, uW, sh, im⟩ r x1 x2 ⟨t, n, K, hB, hC, hR, hS, hI⟩
  have hS : ShR sh (gR_sizes r) (gR_sheets r) := hS
  have hrel : Rel (uM, uW, sh, im) r := ⟨t, n, K, hB, hC, hR, hS, hI⟩
  have bad : ((x1 < 0 ∨ 4 ≤ x1) ∨ x2 < 0 ∨ ¬ x2 ≤ 64) → wpX7_sheet r x1 x2 (fun b r' => -1 = b ∧ Rel (uM, uW, sh, im) r') := fun h => by
    unfold wpX7_sheet
    intro X h28
    refine sheet_br (fun _ => ⟨rfl, hrel⟩) (fun i hi e => in_br (fun _ => ⟨rfl, hrel⟩) (fun _ _ => ⟨rfl, hrel⟩) (fun g1 g2 => ?_))
    rcases h with h | h | h
    · subst e; exact (not_sheet hi h).elim
    · exact absurd h g1
    · exact absurd (Int32.not_lt.mp g2) h
  unfold wpX6_sheet
  refine ⟨fun h => bad (Or.inl h), fun i hi e => ⟨fun h => bad (Or.inr (Or.inl h)), fun h1 => ⟨fun h2 => ?_, fun h => bad (Or.inr (Or.inr h))⟩⟩⟩
  subst e
  obtain ⟨k, hk, rfl⟩ := nI_of h1
  have k64 : k ≤ 64 := by
    rcases Nat.lt_or_ge 64 k with g | g
    · exact absurd h2 (nI_ge (a := 64) g hk)
    · exact g
  refine w_layOut k64 (fun s' a1 a2 a3 => ?_)
  unfold wpX7_sheet
  intro X h28
  refine sheet_br (fun h => (not_sheet hi h).elim) (fun i' hi' _ => in_br (fun g => absurd g h1) (fun _ g => absurd h2 (Int32.not_le.mpr g)) (fun _ _ => ⟨vp_in_nI hi (by decide), ?_⟩))
  rw [nI_clamp (by omega)]
  have loop : ∀ d x, x + d = k → ∀ ss : Nat → Int32, (∀ j, j < x → ss (64 * i + j) = 97) → (∀ y j, y ≠ i → j < 64 → ss (64 * y + j) = gR_sheets r (64 * y + j)) → X (nI x) (gR_set_sheets (gR_set_sizes r (upd (gR_sizes r) i (nI k))) ss) := by
    intro d
    induction d with
    | zero =>
      intro x hx ss h5 h6
      have hx : x = k := by omega
      subst hx
      refine h28 _ _ (br_t (nI_le (Nat.le_refl _) (by omega)) ⟨rfl, t, n, K, hB, hC, Rf_same rfl rfl rfl rfl rfl rfl rfl rfl hR, ?_, hI⟩)
      exact ShR_up hS k64 a1 a2 pk_us (fun j hj => by rw [a3 j hj]; exact (h5 j hj).symm) (fun y hy => pk_un hy) h6
    | succ d ih =>
      intro x hx ss h5 h6
      refine h28 _ _ (br_f (nI_ge (by omega) (by omega)) ?_)
      rw [ix64, nI_clamp (by omega), nI_1]
      refine ⟨vp_in_nI (by omega) (by decide), ?_⟩
      refine ih (x + 1) (by omega) (upd ss (64 * i + x) 97) (fun j hj => ?_) (fun y j hy hj => ?_)
      · by_cases hjx : j = x
        · subst hjx; exact pk_us
        · rw [pk_un (by omega)]; exact h5 j (by omega)
      · rw [pk_un (by omega)]; exact h6 y j hy hj
  exact loop k 0 (Nat.zero_add _) (gR_sheets r) (fun j hj => absurd hj (Nat.not_lt_zero j)) (fun _ _ _ _ => rfl)
theorem LS11_ok : LS11 Rel := by
  rintro ⟨uM, uW, sh, im⟩ r x1 x2 x3 ⟨t, n, K, hB, hC, hR, hS, hI⟩
  have hS : ShR sh (gR_sizes r) (gR_sheets r) := hS
  have hrel : Rel (uM, uW, sh, im) r := ⟨t, n, K, hB, hC, hR, hS, hI⟩
  unfold wpX6_set
  have bad : ((x1 < 0 ∨ 4 ≤ x1) ∨ x3 < 0 ∨ ¬ x3 ≤ 65535) → wpX7_set r x1 x2 x3 (fun b r' => -1 = b ∧ Rel (uM, uW, sh, im) r') := fun h => by
    unfold wpX7_set
    intro X h19
    have no : X (-1) r := h19 _ _ (br_f (by decide) ⟨rfl, hrel⟩)
    refine in_br (fun _ => no) (fun _ _ => no) (fun g1 g2 => ?_)
    rcases h with h | h | h
    · exact w_need (fun _ => no) (fun i hi e => by subst e; exact (not_sheet hi h).elim)
    · exact absurd h g1
    · exact absurd (Int32.not_lt.mp g2) h
  refine ⟨fun h => bad (Or.inl h), fun i hi e => ⟨fun h => bad (Or.inr (Or.inl h)), fun h1 => ⟨fun h2 => ?_, fun h => bad (Or.inr (Or.inr h))⟩⟩⟩
  subst e
  have ref : ∀ {Q : Int32 → RSt → Prop}, (gS_there (sh i) = 0 → Q (-11) r) → (∀ k, gS_there (sh i) = 1 → k ≤ 64 → gS_length (sh i) = nI k → gR_sizes r i = nI k → (∀ j, j < k → gS_signs (sh i) j = gR_sheets r (64 * i + j)) → (((x2 < 0 ∨ nI k ≤ x2) → Q (-12) r) ∧ ∀ j, j < k → x2 = nI j → Q (gR_sheets r (64 * i + j)) (gR_set_sheets r (upd (gR_sheets r) (64 * i + j) x3)))) → wpX7_set r (nI i) x2 x3 Q := fun ha hb => by
    unfold wpX7_set
    intro X h19
    refine in_br (fun g => absurd g h1) (fun _ g => absurd h2 (Int32.not_le.mpr g)) (fun _ _ => ?_)
    refine w_need (fun h => (not_sheet hi h).elim) (fun i' hi' e => ?_)
    have e : i = i' := nI_inj (by omega) (by omega) e
    subst e
    rcases hS i hi with ⟨a, b⟩ | ⟨a, k, b1, b2, b3, b4⟩
    · rw [b]
      exact br_f (by decide) (h19 _ _ (br_f (by decide) (ha a)))
    · rw [b3]
      refine br_t (nI_pos' (by omega)) (h19 _ _ (br_t (by decide) ⟨vp_in_nI hi (by decide), ?_⟩))
      rw [nI_clamp (by omega), b3]
      obtain ⟨c1, c2⟩ := hb k a b1 b2 b3 b4
      refine ub_br (by omega) (fun h => c1 (Or.inl h)) (fun h => c1 (Or.inr h)) (fun j hj e => ?_)
      subst e
      rw [ix64, nI_clamp (by omega)]
      exact ⟨vp_in_nI (by omega) (by decide), vp_in_nI (by omega) (by decide), c2 j hj rfl⟩
  rcases hS i hi with ⟨a, b⟩ | ⟨a, k, b1, b2, b3, b4⟩
  · refine br_t a (ref (fun _ => ⟨rfl, hrel⟩) (fun k a2 => ?_))
    rw [a] at a2; exact absurd a2 (by decide)
  · refine br_f (by rw [a]; decide) (place_br b2 b1 (fun h => ?_) (fun j hj e => ?_))
    · refine ref (fun a2 => ?_) (fun k' _ _ c1 _ _ => ⟨fun _ => ⟨rfl, hrel⟩, fun j hj e => ?_⟩)
      · rw [a] at a2; exact absurd a2 (by decide)
      · rw [b2] at c1
        have : k = k' := nI_inj (by omega) (by omega) c1
        subst this; subst e
        rcases h with h | h
        · exact absurd h (nI_pos (by omega))
        · exact absurd h (nI_ge hj (by omega))
    · subst e
      refine ref (fun a2 => ?_) (fun k' _ _ c1 _ _ => ⟨fun h => ?_, fun j' hj' e => ?_⟩)
      · rw [a] at a2; exact absurd a2 (by decide)
      · have c1 : gS_length (sh i) = nI k' := c1
        rw [b2] at c1
        rw [← c1] at h
        rcases h with h | h
        · exact absurd h (nI_pos (by omega))
        · exact absurd h (nI_ge hj (by omega))
      · have e : j = j' := nI_inj (by omega) (by omega) e
        subst e
        refine ⟨?_, t, n, K, hB, hC, Rf_same rfl rfl rfl rfl rfl rfl rfl rfl hR, ?_, hI⟩
        · unfold fX4_signAt; rw [kAt_nI (by omega)]; exact b4 j hj
        · have hw : fX4_write (sh i) (nI j) x3 = (upd (gS_signs (sh i)) j x3, gS_there (sh i), gS_length (sh i)) := write_S (by omega)
          show ShR (va_up sh i (fX4_write (sh i) (nI j) x3)) (gR_sizes r) (upd (gR_sheets r) (64 * i + j) x3)
          rw [hw]
          refine ShR_up hS b1 a b2 b3 (fun y hy => ?_) (fun _ _ => rfl) (fun y z hy hz => pk_un (by omega))
          show upd (gS_signs (sh i)) j x3 y = _
          by_cases hyj : y = j
          · subst hyj; rw [pk_us, pk_us]
          · rw [pk_un hyj, pk_un (by omega)]; exact b4 y hy
theorem LS12_ok : LS12 Rel := by
  rintro ⟨uM, uW, sh, im⟩ r x1 x2 ⟨t, n, K, hB, hC, hR, hS, hI⟩
  have hS : ShR sh (gR_sizes r) (gR_sheets r) := hS
  have hrel : Rel (uM, uW, sh, im) r := ⟨t, n, K, hB, hC, hR, hS, hI⟩
  unfold wpX6_get
  refine ⟨fun h => ?_, fun i hi e => ?_⟩
  · unfold wpX7_get
    exact w_need (fun _ => br_f (by decide) ⟨rfl, hrel⟩) (fun i hi e => by subst e; exact (not_sheet hi h).elim)
  · subst e
    have ref : ∀ a : Int32, (gS_there (sh i) = 0 → a = -11) → (∀ k, gS_there (sh i) = 1 → k ≤ 64 → gS_length (sh i) = nI k → (((x2 < 0 ∨ nI k ≤ x2) → a = -12) ∧ ∀ j, j < k → x2 = nI j → a = gS_signs (sh i) j)) → wpX7_get r (nI i) x2 (fun b => a = b ∧ Rel (uM, uW, sh, im) r) := fun a h1 h2 => by
      unfold wpX7_get
      refine w_need (fun h => (not_sheet hi h).elim) (fun i' hi' e => ?_)
      have e : i = i' := nI_inj (by omega) (by omega) e
      subst e
      rcases hS i hi with ⟨a, b⟩ | ⟨a, k, b1, b2, b3, b4⟩
      · rw [b]; exact br_f (by decide) (br_f (by decide) ⟨h1 a, hrel⟩)
      · rw [b3]
        refine br_t (nI_pos' (by omega)) (br_t (by decide) ⟨vp_in_nI hi (by decide), ?_⟩)
        rw [nI_clamp (by omega), b3]
        obtain ⟨c1, c2⟩ := h2 k a b1 b2
        refine ub_br (by omega) (fun h => ⟨c1 (Or.inl h), hrel⟩) (fun h => ⟨c1 (Or.inr h), hrel⟩) (fun j hj e => ?_)
        have hc := c2 j hj e
        subst e
        rw [ix64, nI_clamp (by omega), ← b4 j hj]
        exact ⟨vp_in_nI (by omega) (by decide), hc, hrel⟩
    rcases hS i hi with ⟨a, b⟩ | ⟨a, k, b1, b2, b3, b4⟩
    · refine br_t a (ref _ (fun _ => rfl) (fun k a2 => ?_))
      rw [a] at a2; exact absurd a2 (by decide)
    · refine br_f (by rw [a]; decide) (place_br b2 b1 (fun h => ?_) (fun j hj e => ?_))
      · refine ref _ (fun a2 => ?_) (fun k' _ k6 c1 => ⟨fun _ => rfl, fun j hj e => ?_⟩)
        · rw [a] at a2; exact absurd a2 (by decide)
        · have c1 : gS_length (sh i) = nI k' := c1
          rw [b2] at c1
          subst e
          have hkk : k = k' := nI_inj (by omega) (by omega) c1
          subst hkk
          rcases h with h | h
          · exact absurd h (nI_pos (by omega))
          · exact absurd h (nI_ge hj (by omega))
      · subst e
        refine ref _ (fun a2 => ?_) (fun k' _ k6 c1 => ⟨fun h => ?_, fun j' hj' e => ?_⟩)
        · rw [a] at a2; exact absurd a2 (by decide)
        · have c1 : gS_length (sh i) = nI k' := c1
          rw [b2] at c1
          rw [← c1] at h
          rcases h with h | h
          · exact absurd h (nI_pos (by omega))
          · exact absurd h (nI_ge hj (by omega))
        · have e : j = j' := nI_inj (by omega) (by omega) e
          subst e
          unfold fX4_signAt; rw [kAt_nI (by omega)]
theorem LS13_ok : LS13 Rel := by
  rintro ⟨uM, uW, sh, im⟩ r x1 ⟨t, n, K, hB, hC, hR, hS, hI⟩
  have hS : ShR sh (gR_sizes r) (gR_sheets r) := hS
  have hrel : Rel (uM, uW, sh, im) r := ⟨t, n, K, hB, hC, hR, hS, hI⟩
  unfold wpX6_size wpX7_size
  refine ⟨fun h => w_need (fun _ => br_f (by decide) ⟨rfl, hrel⟩) (fun i hi e => by subst e; exact (not_sheet hi h).elim), fun i hi e => ?_⟩
  subst e
  rcases hS i hi with ⟨a, b⟩ | ⟨a, k, b1, b2, b3, b4⟩
  · refine br_t a (w_need (fun h => (not_sheet hi h).elim) (fun i' hi' e => ?_))
    have e : i = i' := nI_inj (by omega) (by omega) e
    subst e
    rw [b]; exact br_f (by decide) (br_f (by decide) ⟨rfl, hrel⟩)
  · refine br_f (by rw [a]; decide) (w_need (fun h => (not_sheet hi h).elim) (fun i' hi' e => ?_))
    have e : i = i' := nI_inj (by omega) (by omega) e
    subst e
    rw [b3]
    refine br_t (nI_pos' (by omega)) (br_t (by decide) ⟨vp_in_nI hi (by decide), ?_⟩)
    rw [nI_clamp (by omega), b3, b2]
    exact ⟨rfl, hrel⟩
theorem LS14_ok : LS14 Rel := by
  rintro ⟨uM, uW, sh, im⟩ r x1 ⟨t, n, K, hB, hC, hR, hS, hI⟩
  have hS : ShR sh (gR_sizes r) (gR_sheets r) := hS
  have hrel : Rel (uM, uW, sh, im) r := ⟨t, n, K, hB, hC, hR, hS, hI⟩
  unfold wpX6_drop wpX7_drop
  refine ⟨fun h => w_need (fun _ => br_f (by decide) ⟨rfl, hrel⟩) (fun i hi e => by subst e; exact (not_sheet hi h).elim), fun i hi e => ?_⟩
  subst e
  rcases hS i hi with ⟨a, b⟩ | ⟨a, k, b1, b2, b3, b4⟩
  · refine br_t a (w_need (fun h => (not_sheet hi h).elim) (fun i' hi' e => ?_))
    have e : i = i' := nI_inj (by omega) (by omega) e
    subst e
    rw [b]; exact br_f (by decide) (br_f (by decide) ⟨rfl, hrel⟩)
  · refine br_f (by rw [a]; decide) (w_need (fun h => (not_sheet hi h).elim) (fun i' hi' e => ?_))
    have e : i = i' := nI_inj (by omega) (by omega) e
    subst e
    rw [b3]
    refine br_t (nI_pos' (by omega)) (br_t (by decide) ⟨vp_in_nI hi (by decide), vp_in_nI hi (by decide), ?_⟩)
    rw [nI_clamp (by omega), b3, b2]
    refine ⟨rfl, t, n, K, hB, hC, Rf_same rfl rfl rfl rfl rfl rfl rfl rfl hR, ?_, hI⟩
    intro x hx
    show (gS_there (va_up sh i _ x) = 0 ∧ upd (gR_sizes r) i (-1) x = -1) ∨ (gS_there (va_up sh i _ x) = 1 ∧ ∃ k, k ≤ 64 ∧ gS_length (va_up sh i _ x) = nI k ∧ upd (gR_sizes r) i (-1) x = nI k ∧ ∀ j, j < k → gS_signs (va_up sh i _ x) j = gR_sheets r (64 * x + j))
    unfold va_up
    by_cases hxi : x = i
    · subst hxi
      rw [if_pos rfl, pk_us]
      exact Or.inl ⟨rfl, rfl⟩
    · rw [if_neg hxi, pk_un hxi]
      exact hS x hx
theorem two_br {x : Int32} {P R : Prop} (h1 : (x < 0 ∨ 2 ≤ x) → P) (h3 : ∀ i, i < 2 → x = nI i → R) : (fX7_in x 0 1 = 0 → P) ∧ (¬ fX7_in x 0 1 = 0 → R) := by
  have := ub_br (x := x) (n := 2) (by decide) (fun h => h1 (Or.inl h)) (fun h => h1 (Or.inr h)) h3
  exact this
theorem not_two {i : Nat} (hi : i < 2) (h : nI i < 0 ∨ 2 ≤ nI i) : False := by
  rcases h with h | h
  · exact nI_pos (by omega) h
  · exact nI_ge (b := 2) hi (by decide) h
theorem w_take {t : Nat → Nat} {n K : Nat} {u : MSt} (hC : ClInv t n K u) (hn : n ≤ 60) {s : ISt} {Q : ISt → Prop} (hQ : ∀ s', gI_kept s' = 1 → gI_alphabet s' = nI K → gI_length s' = nI n → (∀ j, j < n → gI_letters s' j = nI (t j)) → Q s') : wpX1_take u s Q := by
  obtain ⟨sl, sa, sn, sk⟩ := s
  unfold wpX1_take
  intro X h
  rw [hC_al hC, hC_len hC]
  have loop : ∀ d x, x + d = n → ∀ sl : Nat → Int32, (∀ j, j < x → sl j = nI (t j)) → X (nI x) (sl, nI K, nI n, 1) := by
    intro d
    induction d with
    | zero =>
      intro x hx sl hl
      have hx : x = n := by omega
      subst hx
      exact h _ _ (br_t (nI_le (Nat.le_refl _) (by omega)) (hQ _ rfl rfl rfl hl))
    | succ d ih =>
      intro x hx sl hl
      refine h _ _ (br_f (nI_ge (by omega) (by omega)) ?_)
      rw [show fX2_letterAt u (nI x) = nI (t x) by unfold fX2_letterAt; rw [kAt_nI (by omega)]; exact hC.1.2.2.2.2.1 x (by omega), kPut_nI (by omega), nI_1]
      refine ih (x + 1) (by omega) (upd sl x (nI (t x))) (fun j hj => ?_)
      by_cases hjx : j = x
      · subst hjx; exact pk_us
      · rw [pk_un hjx]; exact hl j (by omega)
  exact loop n 0 (Nat.zero_add _) sl (fun j hj => absurd hj (Nat.not_lt_zero j))
theorem LS32_ok : LS32 Rel := by
  rintro ⟨uM, uW, sh, im⟩ r x1 ⟨t, n, K, hB, hC, hR, hS, hI⟩
  have hC : ClInv t n K uM := hC
  have hI : ImR im (gR_keptLetters r) (gR_keptMany r) (gR_keptText r) := hI
  have hS : ShR sh (gR_sizes r) (gR_sheets r) := hS
  have hrel : Rel (uM, uW, sh, im) r := ⟨t, n, K, hB, hC, hR, hS, hI⟩
  obtain ⟨hn, hK1, hK5, ht⟩ := id hB
  unfold wpX6_keep
  refine ⟨fun h => ?_, fun i hi e => ?_⟩
  · unfold wpX7_keep
    intro X hX
    exact two_br (fun _ => ⟨rfl, hrel⟩) (fun i hi e => by subst e; exact (not_two hi h).elim)
  · subst e
    refine w_take hC hn (fun s' a1 a2 a3 a4 => ?_)
    unfold wpX7_keep
    intro X hX
    refine two_br (fun h => (not_two hi h).elim) (fun i' hi' _ => ?_)
    refine ⟨vp_in_nI hi (by decide), ?_⟩
    rintro v2 e2
    refine ⟨vp_in_nI hi (by decide), ?_⟩
    rintro v3 e3
    rw [nI_clamp (by omega)] at e2 e3
    have loop : ∀ d x, x + d = n → ∀ kt : Nat → Int32, (∀ j, j < x → kt (60 * i + j) = nI (t j)) → (∀ y j, y ≠ i → j < 60 → kt (60 * y + j) = gR_keptText r (60 * y + j)) → X (nI x) (gR_set_keptText v3 kt) := by
      intro d
      induction d with
      | zero =>
        intro x hx kt h5 h6
        have hx : x = n := by omega
        subst hx
        have hR2 : RfInv t x K (gR_set_keptText v3 kt) := by
          rw [e3, e2]
          exact Rf_same rfl rfl rfl rfl rfl rfl rfl rfl hR
        refine hX _ _ ?_
        rw [hR_n hR2]
        refine br_t (nI_le (Nat.le_refl _) (by omega)) ⟨hC_len hC, t, x, K, hB, hC, hR2, ?_, ?_⟩
        · rw [e3, e2]; exact hS
        · have k1 : gR_keptLetters (gR_set_keptText v3 kt) = upd (gR_keptLetters r) i (nI K) := by
            rw [e3, e2, ← hR_al hR]; rfl
          have k2 : gR_keptMany (gR_set_keptText v3 kt) = upd (gR_keptMany r) i (nI x) := by
            rw [e3, e2, ← hR_n hR]; rfl
          show ImR (va_up im i s') (gR_keptLetters (gR_set_keptText v3 kt)) (gR_keptMany (gR_set_keptText v3 kt)) kt
          rw [k1, k2]
          intro y hy
          unfold va_up
          by_cases hyi : y = i
          · subst hyi
            rw [if_pos rfl, pk_us, pk_us]
            exact Or.inr ⟨a1, t, x, K, hB, a2, a3, rfl, rfl, fun j hj => ⟨a4 j hj, h5 j hj⟩⟩
          · rw [if_neg hyi, pk_un hyi, pk_un hyi]
            rcases hI y hy with g | ⟨b0, t', n', K', b1, b2, b3, b4, b5, b6⟩
            · exact Or.inl g
            · exact Or.inr ⟨b0, t', n', K', b1, b2, b3, b4, b5, fun j hj => by rw [h6 y j hyi (by have := b1.1; omega)]; exact b6 j hj⟩
      | succ d ih =>
        intro x hx kt h5 h6
        have hn3 : gR_n (gR_set_keptText v3 kt) = nI n := by rw [e3, e2]; exact hR_n hR
        have ht3 : gR_text (gR_set_keptText v3 kt) x = nI (t x) := by rw [e3, e2]; exact hR.1.2.2.1 x (by omega)
        refine hX _ _ ?_
        rw [hn3]
        refine br_f (nI_ge (by omega) (by omega)) ?_
        rintro i5 e5
        rw [ix60] at e5
        subst e5
        refine ⟨vp_in_nI (by omega) (by decide), vp_in_nI (by omega) (by decide), ?_⟩
        rintro v6 e6
        rw [nI_clamp (by omega), nI_clamp (by omega), ht3] at e6
        rw [e6, nI_1]
        refine ih (x + 1) (by omega) (upd kt (60 * i + x) (nI (t x))) (fun j hj => ?_) (fun y j hy hj => ?_)
        · by_cases hjx : j = x
          · subst hjx; exact pk_us
          · rw [pk_un (by omega)]; exact h5 j (by omega)
        · rw [pk_un (by omega)]; exact h6 y j hy hj
    have e0 : v3 = gR_set_keptText v3 (gR_keptText r) := by rw [e3, e2]; rfl
    rw [e0]
    exact loop n 0 (Nat.zero_add _) (gR_keptText r) (fun j hj => absurd hj (Nat.not_lt_zero j)) (fun _ _ _ _ => rfl)
theorem LS33_ok : LS33 Rel := by
  rintro ⟨uM, uW, sh, im⟩ r x1 ⟨t, n, K, hB, hC, hR, hS, hI⟩
  have hC : ClInv t n K uM := hC
  have hI : ImR im (gR_keptLetters r) (gR_keptMany r) (gR_keptText r) := hI
  have hS : ShR sh (gR_sizes r) (gR_sheets r) := hS
  have hrel : Rel (uM, uW, sh, im) r := ⟨t, n, K, hB, hC, hR, hS, hI⟩
  unfold wpX6_goBack
  refine ⟨fun h => ?_, fun i hi e => ?_⟩
  · unfold wpX7_goBack
    intro X hX
    exact two_br (fun _ => ⟨rfl, hrel⟩) (fun i hi e => by subst e; exact (not_two hi h).elim)
  · subst e
    rcases hI i hi with ⟨a1, a2⟩ | ⟨a, t', n', K', b1, b2, b3, b4, b5, b6⟩
    · refine br_t a1 ?_
      unfold wpX7_goBack
      intro X hX
      refine two_br (fun h => (not_two hi h).elim) (fun i' hi' _ => ⟨vp_in_nI hi (by decide), ?_⟩)
      rw [nI_clamp (by omega), a2]
      exact br_t rfl ⟨rfl, hrel⟩
    · obtain ⟨hn, hK1, hK5, ht⟩ := id b1
      refine br_f (by rw [a]; decide) ?_
      unfold wpX1_giveBack
      intro X hX
      rw [b2]
      refine c_startOver t' hK5 (fun u1 h1 _ => ?_)
      have grow : ∀ d x, x + d = n' → ∀ u2, ClInv t' x K' u2 → X (nI x) u2 := by
        intro d
        induction d with
        | zero =>
          intro x hx u2 h2
          have hx : x = n' := by omega
          subst hx
          refine hX _ _ ?_
          rw [b3]
          refine br_t (nI_le (Nat.le_refl _) (by omega)) ?_
          show wpX7_goBack r (nI i) (fun b r' => gM_length u2 = b ∧ Rel (u2, uW, sh, im) r')
          rw [hC_len h2]
          unfold wpX7_goBack
          intro Y hY
          refine two_br (fun h => (not_two hi h).elim) (fun i' hi' _ => ⟨vp_in_nI hi (by decide), ?_⟩)
          rw [nI_clamp (by omega), b4]
          refine br_f (fun q => ?_) ⟨vp_in_nI hi (by decide), ?_⟩
          · have := nI_inj (a := K') (b := 0) (by omega) (by decide) q
            omega
          refine r_begins t' (fun r1 g1 gF1 _ => ?_)
          have rgrow : ∀ d y, y + d = x → ∀ r2, RfInv t' y K' r2 → RFr r r2 → Y (nI y) r2 := by
            intro d
            induction d with
            | zero =>
              intro y hy r2 g2 gF
              have hy : y = x := by omega
              subst hy
              refine hY _ _ ⟨vp_in_nI hi (by decide), ?_⟩
              rw [nI_clamp (by omega), gF.2.2.2.1, b5]
              refine br_t (nI_le (Nat.le_refl _) (by omega)) ?_
              rw [hR_n g2]
              exact ⟨rfl, Rel_mk b1 h2 g2 gF hS hI⟩
            | succ d ih =>
              intro y hy r2 g2 gF
              refine hY _ _ ⟨vp_in_nI hi (by decide), ?_⟩
              rw [nI_clamp (by omega), gF.2.2.2.1, b5]
              refine br_f (nI_ge (by omega) (by omega)) ?_
              rw [ix60, nI_clamp (by omega), gF.2.2.2.2, (b6 y (by omega)).2, nI_1]
              refine ⟨vp_in_nI (by omega) (by decide), ?_⟩
              exact r_grows g2 (by omega) hK5 (fun j hj => ht j (by omega)) (fun r3 g3 gF3 _ => ih (y + 1) (by omega) r3 g3 (gF.tr gF3))
          exact rgrow x 0 (Nat.zero_add _) r1 g1 gF1
        | succ d ih =>
          intro x hx u2 h2
          refine hX _ _ ?_
          rw [b3]
          refine br_f (nI_ge (by omega) (by omega)) ?_
          rw [kAt_nI (by omega), (b6 x (by omega)).1, nI_1]
          exact c_append h2 (by omega) hK5 (ht x (by omega)) (fun u3 h3 _ => ih (x + 1) (by omega) u3 h3)
      exact grow n' 0 (Nat.zero_add _) u1 h1
theorem LSi_ok : LSi Rel := by
  unfold LSi
  refine c_startOver (fun _ => 0) (K := 2) (by decide) (fun u1 h1 _ => ?_)
  refine r_begins (fun _ => 0) (K := 2) (fun r1 g1 gF _ => ?_)
  refine ⟨fun _ => 0, 0, 2, ⟨by decide, by decide, by decide, fun i hi => absurd hi (Nat.not_lt_zero i)⟩, h1, Rf_same rfl rfl rfl rfl rfl rfl rfl rfl g1, ?_, ?_⟩
  · intro i hi
    refine Or.inl ⟨rfl, ?_⟩
    show upd (upd (upd (upd (gR_sizes r1) 0 (-1)) 1 (-1)) 2 (-1)) 3 (-1) i = -1
    rcases show i = 0 ∨ i = 1 ∨ i = 2 ∨ i = 3 by omega with e | e | e | e <;> subst e
    · rw [pk_un (by decide), pk_un (by decide), pk_un (by decide), pk_us]
    · rw [pk_un (by decide), pk_un (by decide), pk_us]
    · rw [pk_un (by decide), pk_us]
    · rw [pk_us]
  · intro i hi
    refine Or.inl ⟨rfl, ?_⟩
    show gR_keptLetters r1 i = 0
    rw [gF.2.2.1]; rfl
