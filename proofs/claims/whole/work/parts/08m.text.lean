/-! the calls on the text -/
theorem ix64 (i j : Nat) : (64 * nI i) + nI j = nI (64 * i + j) := by rw [show (64 : Int32) = nI 64 from rfl, pk_mul, nI_add]
theorem ix60 (i j : Nat) : (60 * nI i) + nI j = nI (60 * i + j) := by rw [show (60 : Int32) = nI 60 from rfl, pk_mul, nI_add]
/-- a text goes on -/
def goOn (t : Nat → Nat) (n : Nat) (c : Nat → Nat) : Nat → Nat := fun i => if i < n then t i else c (i - n)
theorem goOn_lo {t c : Nat → Nat} {n i : Nat} (h : i < n) : goOn t n c i = t i := if_pos h
theorem goOn_hi {t c : Nat → Nat} {n j : Nat} : goOn t n c (n + j) = c j := by unfold goOn; rw [if_neg (by omega)]; congr 1; omega
theorem goOn_ok {t c : Nat → Nat} {n k K : Nat} (h1 : ∀ i, i < n → t i < K) (h2 : ∀ j, j < k → c j < K) : ∀ i, i < n + k → goOn t n c i < K := fun i hi => by
  rcases Nat.lt_or_ge i n with g | g
  · rw [goOn_lo g]; exact h1 i g
  · obtain ⟨j, rfl⟩ : ∃ j, i = n + j := ⟨i - n, by omega⟩
    rw [goOn_hi]; exact h2 j (by omega)
theorem r_growBy {t : Nat → Nat} {n K i k : Nat} {r : RSt} (hB : Base t n K) (hR : RfInv t n K r) (hi : i < 4) (hk : k ≤ 64) (hz : gR_sizes r i = nI k) {c : Nat → Nat} {Q : Int32 → RSt → Prop}
    (hnot : ¬ (∀ j, j < k → ∃ c, c < K ∧ gR_sheets r (64 * i + j) - 97 = nI c) → Q (-2) r)
    (hfull : (∀ j, j < k → ∃ c, c < K ∧ gR_sheets r (64 * i + j) - 97 = nI c) → 60 < n + k → Q (-3) r)
    (hok : (∀ j, j < k → ∃ c, c < K ∧ gR_sheets r (64 * i + j) - 97 = nI c) → n + k ≤ 60 → (∀ j, j < k → c j < K ∧ gR_sheets r (64 * i + j) - 97 = nI (c j)) ∧ ∀ r', RfInv (goOn t n c) (n + k) K r' → RFr r r' → Q (nI (n + k)) r') : wpX7_growBy r (nI i) Q := by
  obtain ⟨hn, hK1, hK5, ht⟩ := id hB
  unfold wpX7_growBy
  intro X17 X95 X58 h17 h95 h58
  have hin : vp_in (nI i) 4 := vp_in_nI hi (by decide)
  refine w_need (fun h => (not_sheet hi h).elim) (fun i' hi' e => ?_)
  have e : i = i' := nI_inj (by omega) (by omega) e
  subst e
  rw [hz]
  refine br_t (nI_pos' (by omega)) ?_
  refine br_t (by decide) ?_
  have loop : ∀ d j, j + d = k → ∀ w : Int32, ((w = 1 ∧ ∀ x, x < j → ∃ c, c < K ∧ gR_sheets r (64 * i + x) - 97 = nI c) ∨ (w = 0 ∧ ¬ ∀ x, x < j → ∃ c, c < K ∧ gR_sheets r (64 * i + x) - 97 = nI c)) → X17 w (nI j) r := by
    intro d
    induction d with
    | zero =>
      intro j hj w hw
      have hj : j = k := by omega
      subst hj
      refine h17 _ _ _ ⟨hin, ?_⟩
      rw [nI_clamp (by omega), hz, hR_n hR]
      refine br_t (nI_le (Nat.le_refl _) (by omega)) ?_
      rcases hw with ⟨w1, w2⟩ | ⟨w1, w2⟩
      · subst w1
        refine br_f (by decide) ⟨hin, ?_⟩
        rw [nI_add]
        refine pk_le (n + j) 60 (fun g => ?_) (fun g => hfull w2 g)
        obtain ⟨c1, c2⟩ := hok w2 g
        have ht' := goOn_ok ht (fun x hx => (c1 x hx).1)
        have grow : ∀ d x, x + d = j → ∀ r2, RfInv (goOn t n c) (n + x) K r2 → RFr r r2 → X95 (nI x) r2 := by
          intro d
          induction d with
          | zero =>
            intro x hx r2 h2 hF
            have hx : x = j := by omega
            subst hx
            refine h95 _ _ ⟨hin, ?_⟩
            rw [nI_clamp (by omega), hF.1, hz, hR_n h2]
            exact br_t (nI_le (Nat.le_refl _) (by omega)) (c2 r2 h2 hF)
          | succ d ih =>
            intro x hx r2 h2 hF
            refine h95 _ _ ⟨hin, ?_⟩
            rw [nI_clamp (by omega), hF.1, hz]
            refine br_f (nI_ge (by omega) (by omega)) ?_
            rw [ix64, nI_clamp (by omega), hF.2.1, (c1 x (by omega)).2, nI_1, ← goOn_hi (t := t) (n := n) (c := c)]
            refine ⟨vp_in_nI (by omega) (by decide), r_grows h2 (by omega) hK5 (fun y hy => ht' y (by omega)) (fun r3 h3 hF3 _ => ?_)⟩
            exact ih (x + 1) (by omega) r3 h3 (hF.tr hF3)
        exact grow j 0 (Nat.zero_add _) r (Rf_cong (fun x hx => (goOn_lo hx).symm) hR) RFr.rf
      · subst w1
        exact br_t rfl (hnot w2)
    | succ d ih =>
      intro j hj w hw
      refine h17 _ _ _ ⟨hin, ?_⟩
      rw [nI_clamp (by omega), hz]
      refine br_f (nI_ge (by omega) (by omega)) ?_
      have no : (¬ ∀ x, x < j + 1 → ∃ c, c < K ∧ gR_sheets r (64 * i + x) - 97 = nI c) → X58 (nI j) r := fun hx => by
        refine h58 _ _ ?_
        rw [nI_1]
        exact ih (j + 1) (by omega) 0 (Or.inr ⟨rfl, hx⟩)
      rcases hw with ⟨w1, w2⟩ | ⟨w1, w2⟩
      · subst w1
        refine br_f (by decide) ?_
        rw [ix64, nI_clamp (by omega)]
        refine ⟨vp_in_nI (by omega) (by decide), rlet_br (hR_al hR) hK5 (fun hno => no (fun hall => ?_)) (fun c' hc' e => ?_)⟩
        · obtain ⟨c', c1, c2⟩ := hall j (by omega)
          exact hno c' c1 c2
        · rw [nI_1]
          refine ih (j + 1) (by omega) 1 (Or.inl ⟨rfl, fun x hx => ?_⟩)
          rcases Nat.lt_or_ge x j with g | g
          · exact w2 x g
          · rw [show x = j by omega]; exact ⟨c', hc', e⟩
      · subst w1
        exact br_t rfl (no (fun hall => w2 (fun x hx => hall x (by omega))))
  exact loop k 0 (Nat.zero_add _) 1 (Or.inl ⟨rfl, fun x hx => absurd hx (Nat.not_lt_zero x)⟩)
theorem LS2_ok : LS2 Rel := by
  rintro ⟨uM, uW, sh, im⟩ r x1 ⟨t, n, K, hB, hC, hR, hS, hI⟩
  have hC : ClInv t n K uM := hC
  have hS : ShR sh (gR_sizes r) (gR_sheets r) := hS
  obtain ⟨hn, hK1, hK5, ht⟩ := id hB
  have hrel : Rel (uM, uW, sh, im) r := ⟨t, n, K, hB, hC, hR, hS, hI⟩
  unfold wpX6_growBy
  intro X55 h55
  refine ⟨fun h => ?_, fun i hi e => ?_⟩
  · unfold wpX7_growBy
    intro X17 X95 X58 h17 h95 h58
    refine two_need hS (fun _ => br_f (by decide) ⟨rfl, hrel⟩) (fun i hi e => ?_) (fun i k hi e => ?_)
    · subst e; exact (not_sheet hi h).elim
    · subst e; exact (not_sheet hi h).elim
  · subst e
    rcases hS i hi with ⟨a, b⟩ | ⟨a, k, b1, b2, b3, b4⟩
    · refine br_t a ?_
      unfold wpX7_growBy
      intro X17 X95 X58 h17 h95 h58
      refine w_need (fun h => (not_sheet hi h).elim) (fun i' hi' e => ?_)
      have e : i = i' := nI_inj (by omega) (by omega) e
      subst e
      rw [b]
      exact br_f (by decide) (br_f (by decide) ⟨rfl, hrel⟩)
    · show ((gS_there (sh i)) = 0 → _) ∧ (¬ ((gS_there (sh i)) = 0) → _)
      rw [a]
      refine br_f (by decide) ?_
      have heq : (∀ j, j < k → ∃ c, c < K ∧ gS_signs (sh i) j - 97 = nI c) ↔ (∀ j, j < k → ∃ c, c < K ∧ gR_sheets r (64 * i + j) - 97 = nI c) := ⟨fun h j hj => by rw [← b4 j hj]; exact h j hj, fun h j hj => by rw [b4 j hj]; exact h j hj⟩
      have dead : ∀ {P : Prop}, False → P := fun h => h.elim
      refine w_takesAllOf (hC_al hC) hK5 b2 b1 (fun hall => ?_) (fun hno => ?_)
      · refine br_f (by decide) ?_
        show (fX2_hasRoomFor uM (gS_length (sh i)) = 0 → _) ∧ _
        rw [b2]
        refine room_br (hC_len hC) hn (by omega) (fun g => ?_) (fun g => ?_)
        · exact r_growBy (c := fun _ => 0) hB hR hi b1 b3 (fun hno => (hno (heq.mp hall)).elim) (fun _ _ => ⟨rfl, hrel⟩) (fun _ g2 => by omega)
        · obtain ⟨c, hc⟩ : ∃ c : Nat → Nat, ∀ j, j < k → c j < K ∧ gS_signs (sh i) j - 97 = nI (c j) := by
            refine ⟨fun j => if h : j < k then Classical.choose (hall j h) else 0, fun j hj => ?_⟩
            simp only [hj, dif_pos]
            exact Classical.choose_spec (hall j hj)
          have ht' := goOn_ok ht (fun x hx => (hc x hx).1)
          have grow : ∀ d x, x + d = k → ∀ u2, ClInv (goOn t n c) (n + x) K u2 → X55 i (nI x) u2 := by
            intro d
            induction d with
            | zero =>
              intro x hx u2 h2
              have hx : x = k := by omega
              subst hx
              refine h55 _ _ _ ?_
              rw [b2, hC_len h2]
              refine br_t (nI_le (Nat.le_refl _) (by omega)) ?_
              refine r_growBy (c := c) hB hR hi b1 b3 (fun hno => (hno (heq.mp hall)).elim) (fun _ g2 => by omega) (fun _ _ => ⟨fun j hj => by rw [← b4 j hj]; exact hc j hj, fun r' hr' hF => ⟨rfl, ?_⟩⟩)
              exact Rel_mk ⟨g, hK1, hK5, ht'⟩ h2 hr' hF hS hI
            | succ d ih =>
              intro x hx u2 h2
              refine h55 _ _ _ ?_
              rw [b2]
              refine br_f (nI_ge (by omega) (by omega)) ?_
              rw [letterAt_S (by omega), (hc x (by omega)).2, nI_1, ← goOn_hi (t := t) (n := n) (c := c)]
              exact c_append h2 (by omega) hK5 (ht' _ (by omega)) (fun u3 h3 _ => ih (x + 1) (by omega) u3 h3)
          exact grow k 0 (Nat.zero_add _) uM (Cl_cong (fun x hx => (goOn_lo hx).symm) hC)
      · refine br_t rfl ?_
        exact r_growBy (c := fun _ => 0) hB hR hi b1 b3 (fun _ => ⟨rfl, hrel⟩) (fun h => (hno (heq.mpr h)).elim) (fun h => (hno (heq.mpr h)).elim)
/-- the first k letters once more -/
theorem c_shorten {t : Nat → Nat} {n K k : Nat} {u : MSt} (hB : Base t n K) (hC : ClInv t n K u) (hk : k ≤ n) {Q : MSt → Prop} (hQ : ∀ u', ClInv t k K u' → Q u') : wpX2_shortenTo u (nI k) Q := by
  obtain ⟨hn, hK1, hK5, ht⟩ := hB
  unfold wpX2_shortenTo
  intro X h
  rw [hC_al hC]
  refine c_startOver t hK5 (fun u1 h1 hl1 => ?_)
  have grow : ∀ d x, x + d = k → ∀ u2, ClInv t x K u2 → (∀ i, i < n → gM_letters u2 i = nI (t i)) → X (nI x) u2 := by
    intro d
    induction d with
    | zero =>
      intro x hx u2 h2 _
      have hx : x = k := by omega
      subst hx
      exact h _ _ (br_t (nI_le (Nat.le_refl _) (by omega)) (hQ u2 h2))
    | succ d ih =>
      intro x hx u2 h2 hl2
      refine h _ _ (br_f (nI_ge (by omega) (by omega)) ?_)
      rw [show fX2_letterAt u2 (nI x) = nI (t x) by unfold fX2_letterAt; rw [kAt_nI (by omega)]; exact hl2 x (by omega), nI_1]
      refine c_append h2 (by omega) hK5 (ht x (by omega)) (fun u3 h3 hl3 => ih (x + 1) (by omega) u3 h3 (fun i hi => ?_))
      rw [hl3]
      by_cases hix : i = x
      · subst hix; exact pk_us
      · rw [pk_un hix]; exact hl2 i hi
  exact grow k 0 (Nat.zero_add _) u1 h1 (fun i hi => by rw [hl1]; exact hC.1.2.2.2.2.1 i hi)
theorem r_regrows {t : Nat → Nat} {n K k : Nat} {r : RSt} (hB : Base t n K) (hR : RfInv t n K r) (hk : k ≤ n) {Q : RSt → Prop} (hQ : ∀ r', RfInv t k K r' → RFr r r' → Q r') : wpX7_regrows r (nI k) Q := by
  obtain ⟨hn, hK1, hK5, ht⟩ := hB
  unfold wpX7_regrows
  intro X h
  rw [hR_al hR]
  refine r_begins t (fun r1 h1 hF1 hl1 => ?_)
  have grow : ∀ d x, x + d = k → ∀ r2, RfInv t x K r2 → RFr r r2 → (∀ i, i < n → gR_text r2 i = nI (t i)) → X r2 := by
    intro d
    induction d with
    | zero =>
      intro x hx r2 h2 hF _
      have hx : x = k := by omega
      subst hx
      refine h _ ?_
      rw [hR_n h2]
      exact br_t (nI_le (Nat.le_refl _) (by omega)) (hQ r2 h2 hF)
    | succ d ih =>
      intro x hx r2 h2 hF hl2
      refine h _ ?_
      rw [hR_n h2]
      refine br_f (nI_ge (by omega) (by omega)) ⟨vp_in_nI (by omega) (by decide), ?_⟩
      rw [nI_clamp (by omega), hl2 x (by omega)]
      refine r_grows h2 (by omega) hK5 (fun i hi => ht i (by omega)) (fun r3 h3 hF3 hl3 => ih (x + 1) (by omega) r3 h3 (hF.tr hF3) (fun i hi => ?_))
      rw [hl3]
      by_cases hix : i = x
      · subst hix; exact pk_us
      · rw [pk_un hix]; exact hl2 i hi
  exact grow k 0 (Nat.zero_add _) r1 h1 hF1 (fun i hi => by rw [hl1]; exact hR.1.2.2.1 i hi)
theorem Base_le {t : Nat → Nat} {n k K : Nat} (h : Base t n K) (hk : k ≤ n) : Base t k K := ⟨by have := h.1; omega, h.2.1, h.2.2.1, fun i hi => h.2.2.2 i (by omega)⟩
theorem LS3_ok : LS3 Rel := by
  rintro ⟨uM, uW, sh, im⟩ r x1 ⟨t, n, K, hB, hC, hR, hS, hI⟩
  have hC : ClInv t n K uM := hC
  have hn := hB.1
  have hrel : Rel (uM, uW, sh, im) r := ⟨t, n, K, hB, hC, hR, hS, hI⟩
  unfold wpX6_cut
  show (x1 < 0 → _) ∧ (¬ x1 < 0 → (x1 ≤ gM_length uM → wpX2_shortenTo uM (gM_length uM - x1) _) ∧ (¬ x1 ≤ gM_length uM → _))
  rw [hC_len hC]
  rcases i32 x1 with h | ⟨k, hk, rfl⟩
  · refine br_t h ?_
    unfold wpX7_cut
    exact in_br (fun _ => ⟨rfl, hrel⟩) (fun _ _ => ⟨rfl, hrel⟩) (fun g _ => absurd h g)
  · refine br_f (nI_pos hk) (pk_le k n (fun g => ?_) (fun g => ?_) rfl rfl hk (by omega))
    · rw [pk_sub g]
      refine c_shorten hB hC (by omega) (fun u' hu' => ?_)
      unfold wpX7_cut
      rw [hR_n hR]
      refine in_br (fun q => absurd q (nI_pos hk)) (fun _ q => absurd q (nI_nlt g (by omega))) (fun _ _ => ?_)
      rw [pk_sub g]
      exact r_regrows hB hR (by omega) (fun r' hr' hF => ⟨by rw [hC_len hu', hR_n hr'], Rel_mk (Base_le hB (by omega)) hu' hr' hF hS hI⟩)
    · unfold wpX7_cut
      rw [hR_n hR]
      exact in_br (fun _ => ⟨rfl, hrel⟩) (fun _ _ => ⟨rfl, hrel⟩) (fun _ q => absurd (nI_lt g hk) q)
/-- letters by lots -/
def dv (s : Nat) : Nat → Nat
  | 0 => s
  | j + 1 => dv s j * 16807 % 2147483647
theorem dv_lt {s : Nat} (h : s < 2147483647) : ∀ j, dv s j < 2147483647 := by
  intro j
  cases j with
  | zero => exact h
  | succ j => exact Nat.mod_lt _ (by decide)
theorem dv_step {v : Nat} (h : v < 2147483647) : (lN v * 16807) - (lN v * 16807) / 2147483647 * 2147483647 = lN (v * 16807 % 2147483647) := by
  rw [show (16807 : Int64) = lN 16807 from rfl, show (2147483647 : Int64) = lN 2147483647 from rfl, lN_mul, pk_lRem (by omega) (by decide) (by decide)]
theorem dv_let {v K : Nat} (h : v < 2147483647) (h1 : 1 ≤ K) (h5 : K ≤ 5) : (lN v - lN v / (nI K).toInt64 * (nI K).toInt64).toInt32 = nI (v % K) := by
  rw [nI_l (by omega), pk_lRem (by omega) (by omega) (by omega), lN_i]
theorem K_ne {K : Nat} (h1 : 1 ≤ K) (h5 : K ≤ 5) : ¬ (nI K).toInt64 = 0 := by
  rw [nI_l (by omega), show (0 : Int64) = lN 0 from rfl, lN_eq (by omega) (by decide)]
  omega
theorem LS4_ok : LS4 Rel := by
  rintro ⟨uM, uW, sh, im⟩ r x1 x2 ⟨t, n, K, hB, hC, hR, hS, hI⟩
  have hC : ClInv t n K uM := hC
  obtain ⟨hn, hK1, hK5, ht⟩ := id hB
  have hrel : Rel (uM, uW, sh, im) r := ⟨t, n, K, hB, hC, hR, hS, hI⟩
  unfold wpX6_drift
  intro X44 h44
  have bad : (x1 < 1 ∨ 60 < x1 ∨ x2 < 1 ∨ ¬ x2 ≤ 999999) → wpX7_drift r x1 x2 (fun b r' => -1 = b ∧ Rel (uM, uW, sh, im) r') := fun h => by
    unfold wpX7_drift
    intro X h42
    refine in_br (fun _ => ⟨rfl, hrel⟩) (fun _ _ => ⟨rfl, hrel⟩) (fun g1 g2 => in_br (fun _ => ⟨rfl, hrel⟩) (fun _ _ => ⟨rfl, hrel⟩) (fun g3 g4 => ?_))
    rcases h with h | h | h | h
    · exact absurd h g1
    · exact absurd h g2
    · exact absurd h g3
    · exact absurd (Int32.not_lt.mp g4) h
  refine ⟨fun h => bad (Or.inl h), fun h1 => ⟨fun h => bad (Or.inr (Or.inl h)), fun h2 => ⟨fun h => bad (Or.inr (Or.inr (Or.inl h))), fun h3 => ⟨fun h4 => ?_, fun h => bad (Or.inr (Or.inr (Or.inr h)))⟩⟩⟩⟩
  obtain ⟨k, k1, k2, rfl⟩ := i32_1 h1
  obtain ⟨s, s1, s2, rfl⟩ := i32_1 h3
  have k60 : k ≤ 60 := by
    rcases Nat.lt_or_ge 60 k with g | g
    · exact absurd (nI_lt (a := 60) g k2) h2
    · exact g
  have s9 : s ≤ 999999 := by
    rcases Nat.lt_or_ge 999999 s with g | g
    · exact absurd h4 (nI_ge (a := 999999) g s2)
    · exact g
  have inside : ∀ {Q : Int32 → RSt → Prop}, (∀ X : Int64 → Int32 → RSt → Prop, (∀ (y3 : Int64) (y5 : Int32) (tR : RSt), ((nI k ≤ y5 → Q (gR_n tR) tR) ∧ (¬ (nI k ≤ y5) → ¬ ((gR_letters tR).toInt64) = 0 ∧ wpX7_grows tR ((((y3 * 16807) - (y3 * 16807) / 2147483647 * 2147483647) - ((y3 * 16807) - (y3 * 16807) / 2147483647 * 2147483647) / ((gR_letters tR).toInt64) * ((gR_letters tR).toInt64)).toInt32) (fun uR5 => X ((y3 * 16807) - (y3 * 16807) / 2147483647 * 2147483647) (y5 + 1) uR5))) → X y3 y5 tR) → ((nI n + nI k ≤ 60 → X (nI s).toInt64 0 r) ∧ (¬ nI n + nI k ≤ 60 → Q (-3) r))) → wpX7_drift r (nI k) (nI s) Q := fun hx => by
    unfold wpX7_drift
    intro X h42
    refine in_br (fun q => absurd q h1) (fun _ q => absurd q h2) (fun _ _ => in_br (fun q => absurd q h3) (fun _ q => absurd h4 (Int32.not_le.mpr q)) (fun _ _ => ?_))
    rw [hR_n hR]
    exact hx X h42
  have hdv := dv_lt (s := s) (by omega)
  refine room_br (hC_len hC) hn (by omega) (fun g => ?_) (fun g => ?_)
  · refine inside (fun X hX => ?_)
    rw [nI_add]
    exact br_f (nI_ge (a := 60) g (by omega)) ⟨rfl, hrel⟩
  · have ht' : ∀ i, i < n + k → goOn t n (fun j => dv s (j + 1) % K) i < K := goOn_ok ht (fun j _ => Nat.mod_lt _ (by omega))
    have rgrow : ∀ u', ClInv (goOn t n (fun j => dv s (j + 1) % K)) (n + k) K u' → wpX7_drift r (nI k) (nI s) (fun b r' => gM_length u' = b ∧ Rel (u', uW, sh, im) r') := fun u' hu' => by
      refine inside (fun X hX => ?_)
      rw [nI_add]
      refine br_t (nI_le (b := 60) g (by decide)) ?_
      have grow : ∀ d x, x + d = k → ∀ r2, RfInv (goOn t n (fun j => dv s (j + 1) % K)) (n + x) K r2 → RFr r r2 → X (lN (dv s x)) (nI x) r2 := by
        intro d
        induction d with
        | zero =>
          intro x hx r2 hv2 hF
          have hx : x = k := by omega
          subst hx
          exact hX _ _ _ (br_t (nI_le (Nat.le_refl _) (by omega)) ⟨by rw [hC_len hu', hR_n hv2], Rel_mk ⟨g, hK1, hK5, ht'⟩ hu' hv2 hF hS hI⟩)
        | succ d ih =>
          intro x hx r2 hv2 hF
          refine hX _ _ _ (br_f (nI_ge (by omega) (by omega)) ?_)
          rw [dv_step (hdv x), hR_al hv2, dv_let (Nat.mod_lt _ (by decide)) hK1 hK5, nI_1]
          refine ⟨K_ne hK1 hK5, ?_⟩
          have e := goOn_hi (t := t) (n := n) (c := fun j => dv s (j + 1) % K) (j := x)
          have e : goOn t n (fun j => dv s (j + 1) % K) (n + x) = dv s x * 16807 % 2147483647 % K := e
          rw [← e]
          exact r_grows hv2 (by omega) hK5 (fun y hy => ht' y (by omega)) (fun r3 h3 hF3 _ => ih (x + 1) (by omega) r3 h3 (hF.tr hF3))
      have := grow k 0 (Nat.zero_add _) r (Rf_cong (fun x hx => (goOn_lo hx).symm) hR) RFr.rf
      rw [nI_l (by omega)]
      exact this
    have grow : ∀ d x, x + d = k → ∀ u2, ClInv (goOn t n (fun j => dv s (j + 1) % K)) (n + x) K u2 → X44 (lN (dv s x)) (nI x) u2 := by
      intro d
      induction d with
      | zero =>
        intro x hx u2 hv2
        have hx : x = k := by omega
        subst hx
        exact h44 _ _ _ (br_t (nI_le (Nat.le_refl _) (by omega)) (rgrow u2 hv2))
      | succ d ih =>
        intro x hx u2 hv2
        refine h44 _ _ _ (br_f (nI_ge (by omega) (by omega)) ?_)
        unfold wpX2_letterLeftOver
        rw [dv_step (hdv x), hC_al hv2, dv_let (Nat.mod_lt _ (by decide)) hK1 hK5, nI_1]
        refine br_f (nI_nle (by omega) (by omega)) ⟨K_ne hK1 hK5, ?_⟩
        have e : goOn t n (fun j => dv s (j + 1) % K) (n + x) = dv s x * 16807 % 2147483647 % K := goOn_hi (t := t) (n := n) (c := fun j => dv s (j + 1) % K) (j := x)
        rw [← e]
        exact c_append hv2 (by omega) hK5 (ht' _ (by omega)) (fun u3 h3 _ => ih (x + 1) (by omega) u3 h3)
    have := grow k 0 (Nat.zero_add _) uM (Cl_cong (fun x hx => (goOn_lo hx).symm) hC)
    show X44 (nI s).toInt64 0 uM
    rw [nI_l (by omega)]
    exact this
theorem LS5_ok : LS5 Rel := by
  rintro ⟨uM, uW, sh, im⟩ r x1 ⟨t, n, K, hB, hC, hR, hS, hI⟩
  have hC : ClInv t n K uM := hC
  have hn := hB.1
  have hrel : Rel (uM, uW, sh, im) r := ⟨t, n, K, hB, hC, hR, hS, hI⟩
  unfold wpX6_letter
  have ref : ∀ a : Int32, (x1 < 0 → a = -12) → (nI n ≤ x1 → a = -12) → (∀ k, k < n → x1 = nI k → a = nI (t k)) → wpX7_letter r x1 (fun b => a = b ∧ Rel (uM, uW, sh, im) r) := fun a h1 h2 h3 => by
    unfold wpX7_letter
    rw [hR_n hR]
    refine ub_br (by omega) (fun h => ⟨h1 h, hrel⟩) (fun h => ⟨h2 h, hrel⟩) (fun k hk e => ?_)
    subst e
    rw [nI_clamp (by omega), hR.1.2.2.1 k hk]
    exact ⟨vp_in_nI (by omega) (by decide), h3 k hk rfl, hrel⟩
  show (x1 < 0 → _) ∧ (¬ x1 < 0 → (gM_length uM ≤ x1 → _) ∧ (¬ gM_length uM ≤ x1 → _))
  rw [hC_len hC]
  rcases i32 x1 with h | ⟨k, hk, rfl⟩
  · exact br_t h (ref _ (fun _ => rfl) (fun _ => rfl) (fun k hk e => by subst e; exact absurd h (nI_pos (by omega))))
  · refine br_f (nI_pos hk) (pk_le n k (fun g => ?_) (fun g => ?_) rfl rfl (by omega) hk)
    · exact ref _ (fun _ => rfl) (fun _ => rfl) (fun k' hk' e => by have := nI_inj hk (by omega) e; omega)
    · rw [show fX2_letterAt uM (nI k) = nI (t k) by unfold fX2_letterAt; rw [kAt_nI (by omega)]; exact hC.1.2.2.2.2.1 k g]
      refine ref _ (fun h => absurd h (nI_pos hk)) (fun h => absurd h (nI_ge g (by omega))) (fun k' hk' e => ?_)
      have := nI_inj hk (by omega) e
      subst this; rfl
