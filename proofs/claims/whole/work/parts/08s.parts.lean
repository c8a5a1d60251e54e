/-! the parts of the text -/
def pE (t : Nat → Nat) (n b y : Nat) : Prop := b < y ∧ y ≤ n ∧ (∀ i, b < i → i < y → i + 1 - b ≤ ag t (i + 1)) ∧ (y = n ∨ ag t (y + 1) < y + 1 - b)
theorem pE_uq {t : Nat → Nat} {n b y y' : Nat} (h : pE t n b y) (h' : pE t n b y') : y = y' := by
  rcases Nat.lt_trichotomy y y' with g | g | g
  · have h1 := h'.2.2.1 y h.1 g
    have h2 := h'.2.1
    rcases h.2.2.2 with q | q <;> omega
  · exact g
  · have h1 := h.2.2.1 y' h'.1 g
    have h2 := h.2.1
    rcases h'.2.2.2 with q | q <;> omega
theorem pE_ex {t : Nat → Nat} {n b : Nat} (h : b < n) : ∃ y, pE t n b y := by
  obtain ⟨y, h1, h2⟩ := pk_least (fun y => b < y ∧ (n ≤ y ∨ ag t (y + 1) < y + 1 - b)) ⟨n, h, Or.inl (Nat.le_refl _)⟩
  have hyn : y ≤ n := by
    rcases Nat.lt_or_ge n y with g | g
    · exact absurd ⟨h, Or.inl (Nat.le_refl _)⟩ (h2 n g)
    · exact g
  refine ⟨y, h1.1, hyn, fun i i1 i2 => ?_, ?_⟩
  · have := h2 i i2
    rcases Nat.lt_or_ge (ag t (i + 1)) (i + 1 - b) with g | g
    · exact absurd ⟨i1, Or.inr g⟩ this
    · exact g
  · rcases h1.2 with g | g
    · exact Or.inl (by omega)
    · exact Or.inr g
noncomputable def ps (t : Nat → Nat) (n : Nat) : Nat → Nat
  | 0 => 0
  | j + 1 => Classical.epsilon (pE t n (ps t n j))
theorem ps_s {t : Nat → Nat} {n j : Nat} (h : ps t n j < n) : pE t n (ps t n j) (ps t n (j + 1)) := Classical.epsilon_spec (pE_ex h)
theorem ps_ge {t : Nat → Nat} {n : Nat} : ∀ {k : Nat}, (∀ j, j < k → ps t n j < n) → k ≤ ps t n k := by
  intro k
  induction k with
  | zero => intro _; exact Nat.zero_le _
  | succ k ih =>
    intro h
    have h1 := ih (fun j hj => h j (by omega))
    have h2 := (ps_s (h k (by omega))).1
    omega
theorem ps_N (t : Nat → Nat) (n : Nat) : ∃ N, N ≤ n ∧ (∀ j, j < N → ps t n j < n) ∧ ps t n N = n := by
  obtain ⟨N, h1, h2⟩ := pk_least (fun j => n ≤ ps t n j) (by
    by_cases h : ∃ j, n ≤ ps t n j
    · exact h
    · have h : ∀ j, ps t n j < n := fun j => by
        rcases Nat.lt_or_ge (ps t n j) n with g | g
        · exact g
        · exact absurd ⟨j, g⟩ h
      have h1 := ps_ge (t := t) (n := n) (k := n) (fun j _ => h j)
      have := h n
      omega)
  have h3 : ∀ j, j < N → ps t n j < n := fun j hj => by have := h2 j hj; omega
  have h4 := ps_ge h3
  have h5 : ps t n N ≤ n := by
    cases N with
    | zero => exact Nat.zero_le _
    | succ N => exact (ps_s (h3 N (by omega))).2.1
  exact ⟨N, by omega, h3, by omega⟩
section PARTS
variable {t : Nat → Nat} {n K : Nat} {u : MSt} {r : RSt}
theorem c_letter (hB : Base t n K) (hC : ClInv t n K u) {i : Nat} (hi : i < n) : fX2_letterAt u (nI i) = nI (t i) := by
  have := hB.1
  unfold fX2_letterAt
  rw [kAt_nI (by omega)]
  exact hC.1.2.2.2.2.1 i hi
theorem w_partEnd (hB : Base t n K) (hR : RfInv t n K r) {b y : Nat} (hy : pE t n b y) {Q : Int32 → Prop} (hq : Q (nI y)) : wpX7_partEnd r (nI b) Q := by
  have hn := hB.1
  obtain ⟨y1, y2, y3, y4⟩ := hy
  unfold wpX7_partEnd
  intro X h
  rw [hR_n hR] at h
  have loop : ∀ d i, i + d = y → b < i → X (nI i) := by
    intro d
    induction d with
    | zero =>
      intro i hi hbi
      have hi : i = y := by omega
      subst hi
      refine h _ (pk_le n i (fun g => hq) (fun g => ?_) rfl rfl (by omega) (by omega))
      rw [nI_1]
      refine w_againAt (r_txt hB hR) (by omega) ?_
      rw [pk_sub (by omega)]
      have hag : ag t (i + 1) < i + 1 := ag_lt (by omega)
      refine br_t (nI_lt ?_ (by omega)) hq
      rcases y4 with q | q
      · omega
      · exact q
    | succ d ih =>
      intro i hi hbi
      refine h _ (br_f (nI_ge (by omega) (by omega)) ?_)
      rw [nI_1]
      refine w_againAt (r_txt hB hR) (by omega) ?_
      rw [pk_sub (by omega)]
      have hag : ag t (i + 1) < i + 1 := ag_lt (by omega)
      exact br_f (nI_nlt (y3 i hbi (by omega)) (by omega)) (ih (i + 1) (by omega) (by omega))
  rw [nI_1]
  exact loop (y - (b + 1)) (b + 1) (by omega) (by omega)
/-- a state by its ends: those of the word of l letters that ends behind i -/
def stA (t : Nat → Nat) (n i l s : Nat) : Prop := s < cS t n ∧ ∀ b, b ≤ n → (cL t n s ≤ al t (cF t n s) b ↔ l ≤ al t i b)
theorem stA_0 (i : Nat) : stA t n i 0 0 := by
  have hI := c_inv t n
  exact ⟨hI.1.1, fun b _ => by rw [hI.1.2.1]; exact ⟨fun _ => Nat.zero_le _, fun _ => Nat.zero_le _⟩⟩
theorem stA_mv {i l s c v : Nat} (hs : stA t n i l s) (hi : i < n) (hl : l ≤ i) (hc : t i = c) (hv : v < cS t n) (hm : isMv t n (cL t n) (cF t n) s c v) : stA t n (i + 1) (l + 1) v := by
  refine ⟨hv, fun b hb => ?_⟩
  rw [hm b hb]
  constructor
  · rintro ⟨e, rfl, e2, e3⟩
    rw [hs.2 e (by omega)] at e3
    rw [al_y (by omega)]
    omega
  · intro h
    obtain ⟨a', b', h1, h2, h3, h4⟩ := al_pos h
    have h1 : a' = i := by omega
    subst h1
    refine ⟨b', h2, by omega, ?_⟩
    rw [hs.2 b' (by omega)]
    exact h4
theorem stA_no {i l s c : Nat} (hs : stA t n i l s) (hi : i < n) (hl : l ≤ i) (hc : t i = c) : ¬ noMv t n (cL t n) (cF t n) s c := fun h => by
  refine h i hi hc ?_
  rw [hs.2 i (by omega), al_self]
  exact hl
theorem c_step (hB : Base t n K) (hC : ClInv t n K u) {i l s : Nat} (hs : stA t n i l s) (hi : i < n) (hl : l ≤ i) : ∃ v, fX2_moveOf u (nI s) (nI (t i)) = nI v ∧ stA t n (i + 1) (l + 1) v := by
  rcases c_mv hB hC hs.1 (hB.2.2.2 i hi) with ⟨v, v1, v2, v3⟩ | ⟨_, v2⟩
  · exact ⟨v, v2, stA_mv hs hi hl rfl v1 v3⟩
  · exact absurd v2 (stA_no hs hi hl rfl)
theorem stA_first (hB : Base t n K) (hC : ClInv t n K u) {i l s : Nat} (hi0 : 0 < i) (hs : stA t n i l s) (hi : i ≤ n) (hl : l ≤ i) : ∃ e, e ≤ i ∧ fX2_firstEndOf u (nI s) = nI e ∧ (l ≤ ag t i → e < i) ∧ (ag t i < l → e = i) := by
  obtain ⟨e, e1, e2, e3, e4⟩ := c_firstEnd hB hC hs.1
  have hei : e ≤ i := by
    rcases Nat.lt_or_ge i e with g | g
    · refine absurd ((hs.2 i hi).mpr ?_) (e3 i g)
      rw [al_self]; exact hl
    · exact g
  rw [hs.2 e e1] at e2
  refine ⟨e, hei, e4, fun h => ?_, fun h => ?_⟩
  · obtain ⟨b, b1, b2⟩ := ag_ex' hi0 h
    rcases Nat.lt_or_ge b e with g | g
    · exact absurd ((hs.2 b (by omega)).mpr b2) (e3 b g)
    · omega
  · rcases Nat.lt_or_ge e i with g | g
    · have := ag_ge (t := t) g
      omega
    · omega
theorem w_lettersOfPart (hB : Base t n K) (hC : ClInv t n K u) {w : WSt} {b y : Nat} (hy : pE t n b y) {Q : Int32 → Prop} (hq : Q (nI (y - b))) : wpX5_lettersOfPart w u (nI b) Q := by
  have hn := hB.1
  have h121 := cs_le hB
  obtain ⟨y1, y2, y3, y4⟩ := hy
  unfold wpX5_lettersOfPart
  intro X7 X62 h7 h62
  rw [hC_len hC] at h7
  have fin : ∀ j, (j = y - b ∨ j = 0 ∧ y - b = 1) → X62 (nI j) := fun j hj => by
    refine h62 _ ?_
    rcases Nat.lt_or_ge 1 j with g | g
    · have h0 : (1 : Int32) < nI j := nI_lt (a := 1) g (by omega)
      rw [if_pos h0, show j = y - b by omega]
      exact hq
    · have h0 : ¬ (1 : Int32) < nI j := nI_nlt (a := 1) g (by decide)
      rw [if_neg h0, show (1 : Int32) = nI (y - b) by rw [show y - b = 1 by omega]; rfl]
      exact hq
  have loop : ∀ d j s, b + j + d = y → (j = 0 ∨ ag t (b + 1) ≥ 1) → stA t n (b + j) j s → X7 (nI s) (nI j) (nI (b + j)) := by
    intro d
    induction d with
    | zero =>
      intro j s hj hg hs
      refine h7 _ _ _ (pk_le n (b + j) (fun g => fin j (by omega)) (fun g => ?_) rfl rfl (by omega) (by omega))
      rw [c_letter hB hC (by omega)]
      obtain ⟨v, v1, v2⟩ := c_step hB hC hs (by omega) (by omega)
      rw [v1]
      obtain ⟨e, e1, e2, e3, e4⟩ := stA_first hB hC (by omega) v2 (by omega) (by omega)
      rw [e2]
      have : ag t (b + j + 1) < j + 1 := by
        rcases y4 with q | q
        · omega
        · rw [← hj] at q
          have : b + j + 0 + 1 = b + j + 1 := by omega
          rw [this] at q
          omega
      have := e4 this
      exact br_f (nI_ge (by omega) (by omega)) (fin j (by omega))
    | succ d ih =>
      intro j s hj hg hs
      refine h7 _ _ _ (br_f (nI_ge (by omega) (by omega)) ?_)
      rw [c_letter hB hC (by omega)]
      obtain ⟨v, v1, v2⟩ := c_step hB hC hs (by omega) (by omega)
      rw [v1]
      obtain ⟨e, e1, e2, e3, e4⟩ := stA_first hB hC (by omega) v2 (by omega) (by omega)
      rw [e2]
      refine pk_le e (b + j) (fun g => ?_) (fun g => ?_) rfl rfl (by omega) (by omega)
      · rw [nI_1, nI_1]
        refine ih (j + 1) v (by omega) ?_ v2
        right
        rcases hg with q | q
        · subst q
          have : ¬ ag t (b + 0 + 1) < 0 + 1 := fun q => by have := e4 q; omega
          have e5 : b + 0 + 1 = b + 1 := by omega
          rw [e5] at this
          omega
        · exact q
      · have hlt : ¬ j + 1 ≤ ag t (b + j + 1) := fun q => by have := e3 q; omega
        rcases Nat.eq_zero_or_pos j with q | q
        · subst q
          refine fin 0 (Or.inr ⟨rfl, ?_⟩)
          rcases Nat.lt_or_ge (b + 1) y with c | c
          · have h1 := y3 (b + 1) (by omega) c
            have h2 := ag_s t (b + 1)
            have e5 : b + 0 + 1 = b + 1 := by omega
            rw [e5] at hlt
            omega
          · omega
        · have := y3 (b + j) (by omega) (by omega)
          omega
  have := loop (y - b) 0 0 (by omega) (Or.inl rfl) (stA_0 _)
  exact this
theorem w_partMany (hB : Base t n K) (hR : RfInv t n K r) {N : Nat} (hN : N ≤ n ∧ (∀ j, j < N → ps t n j < n) ∧ ps t n N = n) {Q : Int32 → Prop} (hq : Q (nI N)) : wpX7_partMany r Q := by
  have hn := hB.1
  unfold wpX7_partMany
  intro X h
  rw [hR_n hR] at h
  have loop : ∀ d j, j + d = N → X (nI j) (nI (ps t n j)) := by
    intro d
    induction d with
    | zero =>
      intro j hj
      have hj : j = N := by omega
      subst hj
      rw [hN.2.2]
      exact h _ _ (br_t (nI_le (Nat.le_refl _) (by omega)) hq)
    | succ d ih =>
      intro j hj
      have hlt := hN.2.1 j (by omega)
      refine h _ _ (br_f (nI_ge hlt (by omega)) (w_partEnd hB hR (ps_s hlt) ?_))
      rw [nI_1]
      exact ih (j + 1) (by omega)
  exact loop N 0 (Nat.zero_add _)
theorem w_parts (hB : Base t n K) (hC : ClInv t n K u) {w : WSt} {N : Nat} (hN : N ≤ n ∧ (∀ j, j < N → ps t n j < n) ∧ ps t n N = n) {Q : Int32 → Prop} (hq : Q (nI N)) : wpX5_parts w u Q := by
  have hn := hB.1
  unfold wpX5_parts
  intro X h
  rw [hC_len hC] at h
  have loop : ∀ d j, j + d = N → X (nI (ps t n j)) (nI j) (nI j) := by
    intro d
    induction d with
    | zero =>
      intro j hj
      have hj : j = N := by omega
      subst hj
      rw [hN.2.2]
      exact h _ _ _ ⟨fun _ => hq, fun _ => br_t (nI_le (Nat.le_refl _) (by omega)) hq⟩
    | succ d ih =>
      intro j hj
      have hlt := hN.2.1 j (by omega)
      have hps := (ps_s hlt).1
      refine h _ _ _ (br_f (nI_ge (b := 60) (by omega) (by decide)) (br_f (nI_ge hlt (by omega)) (w_lettersOfPart hB hC (ps_s hlt) ?_)))
      rw [nI_add, nI_1, show ps t n j + (ps t n (j + 1) - ps t n j) = ps t n (j + 1) by omega]
      exact ih (j + 1) (by omega)
  exact loop N 0 (Nat.zero_add _)
theorem w_beginOfPart (hB : Base t n K) (hC : ClInv t n K u) {w : WSt} {N k : Nat} (hk : k < 2 ^ 31) (hN : N ≤ n ∧ (∀ j, j < N → ps t n j < n) ∧ ps t n N = n) {Q : Int32 → Prop} (hq : k < N → Q (nI (ps t n k))) (h0 : N ≤ k → Q (-4)) : wpX5_beginOfPart w u (nI k) Q := by
  have hn := hB.1
  unfold wpX5_beginOfPart
  intro X h
  rw [hC_len hC] at h
  have loop : ∀ d j, j + d = N → j ≤ k → X (nI (ps t n j)) (nI j) := by
    intro d
    induction d with
    | zero =>
      intro j hj hjk
      have hj : j = N := by omega
      subst hj
      rw [hN.2.2]
      exact h _ _ ⟨fun _ => h0 hjk, fun _ => br_t (nI_le (Nat.le_refl _) (by omega)) (h0 hjk)⟩
    | succ d ih =>
      intro j hj hjk
      have hlt := hN.2.1 j (by omega)
      have hps := (ps_s hlt).1
      refine h _ _ (br_f (nI_ge (b := 60) (by omega) (by decide)) (br_f (nI_ge hlt (by omega)) (pk_eq j k (fun q => ?_) (fun q => w_lettersOfPart hB hC (ps_s hlt) ?_) rfl rfl (by omega) hk)))
      · subst q; exact hq (by omega)
      · rw [nI_add, nI_1, show ps t n j + (ps t n (j + 1) - ps t n j) = ps t n (j + 1) by omega]
        exact ih (j + 1) (by omega) (by omega)
  exact loop N 0 (Nat.zero_add _) (Nat.zero_le _)
end PARTS
theorem LS27_ok : LS27 Rel := by
  rintro ⟨uM, uW, sh, im⟩ r x1 ⟨t, n, K, hB, hC, hR, hS, hI⟩
  have hC : ClInv t n K uM := hC
  have hrel : Rel (uM, uW, sh, im) r := ⟨t, n, K, hB, hC, hR, hS, hI⟩
  have hn := hB.1
  unfold wpX6_part
  refine ⟨fun h => ?_, fun h => ?_⟩
  · obtain ⟨k, hk, rfl⟩ := nI_of (Int32.not_lt.mpr h)
    obtain ⟨N, hN⟩ := ps_N t n
    refine w_beginOfPart hB hC hk hN (fun g => ?_) (fun g => ?_)
    · unfold wpX7_part
      intro X hX
      refine br_t (nI_pos' hk) (w_partMany hB hR hN (br_t (nI_lt g (by omega)) ?_))
      have loop : ∀ d j, j + d = k → X (nI (ps t n j)) (nI j) := by
        intro d
        induction d with
        | zero =>
          intro j hj
          have hj : j = k := by omega
          subst hj
          exact hX _ _ (br_t (nI_le (Nat.le_refl _) hk) ⟨rfl, hrel⟩)
        | succ d ih =>
          intro j hj
          refine hX _ _ (br_f (nI_ge (by omega) hk) (w_partEnd hB hR (ps_s (hN.2.1 j (by omega))) ?_))
          rw [nI_1]
          exact ih (j + 1) (by omega)
      exact loop k 0 (Nat.zero_add _)
    · unfold wpX7_part
      intro X hX
      exact br_t (nI_pos' hk) (w_partMany hB hR hN (br_f (nI_nlt g hk) ⟨rfl, hrel⟩))
  · unfold wpX7_part
    intro X _
    exact br_f h ⟨rfl, hrel⟩
theorem LS6_ok : LS6 Rel := by
  rintro ⟨uM, uW, sh, im⟩ r x1 ⟨t, n, K, hB, hC, hR, hS, hI⟩
  have hC : ClInv t n K uM := hC
  have hS : ShR sh (gR_sizes r) (gR_sheets r) := hS
  have hrel : Rel (uM, uW, sh, im) r := ⟨t, n, K, hB, hC, hR, hS, hI⟩
  have hn := hB.1
  have h121 := cs_le hB
  have hK5 := hB.2.2.1
  unfold wpX6_count wpX7_count
  refine ⟨fun h0 => br_t h0 ⟨by rw [hC_al hC, hR_al hR], hrel⟩, fun h0 => ⟨fun h1 => br_f h0 (br_t h1 ⟨by rw [hC_len hC, hR_n hR], hrel⟩), fun h1 => ⟨fun h2 => br_f h0 (br_f h1 (br_t h2 ⟨by rw [hC_st hC, hR_st hR], hrel⟩)), fun h2 => ⟨fun h3 => ?_, fun h3 => ⟨fun h4 => ?_, fun h4 => ⟨fun h5 => ?_, fun h5 => ⟨fun h6 => ?_, fun h6 => ⟨fun h7 => ?_, fun h7 => ⟨fun h8 => ?_, fun h8 => ⟨fun h9 => ?_, fun h9 => ⟨fun h10 => ?_, fun h10 => br_f h0 (br_f h1 (br_f h2 (br_f h3 (br_f h4 (br_f h5 (br_f h6 (br_f h7 (br_f h8 (br_f h9 (br_f h10 ⟨rfl, hrel⟩))))))))))⟩⟩⟩⟩⟩⟩⟩⟩⟩⟩⟩
  · obtain ⟨p, hp⟩ : ∃ p : Nat → Bool, p = fun s => decide ((cMO t n).2 s ≠ -4) := ⟨_, rfl⟩
    unfold wpX2_clones
    intro X hX
    have ref : wpX7_clones r (fun b => nI (ct p (cS t n)) = b ∧ Rel (uM, uW, sh, im) r) := by
      unfold wpX7_clones
      intro Y Z hY hZ
      rw [hR_st hR] at hY
      have loop : ∀ d j, j + d = cS t n → Y (nI (ct p j)) (nI j) := by
        intro d
        induction d with
        | zero =>
          intro j hj
          have hj : j = cS t n := by omega
          rw [hj]
          exact hY _ _ (br_t (nI_le (Nat.le_refl _) (by omega)) ⟨rfl, hrel⟩)
        | succ d ih =>
          intro j hj
          have hx := ih (j + 1) (by omega)
          rw [ct_s] at hx
          refine hY _ _ (br_f (nI_ge (by omega) (by omega)) ⟨vp_in_nI (by omega) (by decide), ?_⟩)
          rw [nI_clamp (by omega), (hR.2 j (by omega)).2]
          refine ⟨fun q => hZ _ _ _ ?_, fun q => hZ _ _ _ ?_⟩
          · rw [if_neg (by rw [hp]; simp [q])] at hx
            rw [show nI (ct p j) + 0 = nI (ct p j) from nI_add _ 0, nI_1]
            exact hx
          · rw [if_pos (by rw [hp]; simp [q])] at hx
            rw [nI_1, nI_1]
            exact hx
      exact loop (cS t n) 0 (Nat.zero_add _)
    rw [show gM_states (uM, uW, sh, im).1 = nI (cS t n) from hC_st hC] at hX
    have loop : ∀ d j, j + d = cS t n → X (nI (ct p j)) (nI j) := by
      intro d
      induction d with
      | zero =>
        intro j hj
        have hj : j = cS t n := by omega
        rw [hj]
        exact hX _ _ (br_t (nI_le (Nat.le_refl _) (by omega)) (br_f h0 (br_f h1 (br_f h2 (br_t h3 ref)))))
      | succ d ih =>
        intro j hj
        have hx := ih (j + 1) (by omega)
        rw [ct_s] at hx
        refine hX _ _ (br_f (nI_ge (by omega) (by omega)) ?_)
        rw [show fX2_originalOf (uM, uW, sh, im).1 (nI j) = (cMO t n).2 j by
          unfold fX2_originalOf
          rw [show fX2_isState (uM, uW, sh, im).1 (nI j) = 1 from isState_y (hC_st hC) (by omega) h121, if_neg (by decide), kAt_nI (by omega)]
          exact (hC.2 j (by omega)).2]
        refine ⟨fun q => ?_, fun q => ?_⟩
        · rw [if_neg (by rw [hp]; simp [q])] at hx
          rw [nI_1]
          exact hx
        · rw [if_pos (by rw [hp]; simp [q])] at hx
          rw [nI_1, nI_1]
          exact hx
    exact loop (cS t n) 0 (Nat.zero_add _)
  · obtain ⟨g, hg⟩ : ∃ g : Nat → Nat → Bool, g = fun s c => decide (fX2_moveOf uM (nI s) (nI c) ≠ -4) := ⟨_, rfl⟩
    unfold wpX2_movesInAll
    intro X X14 hX h14
    have ref : wpX7_moves r (fun b => nI (sm (fun s => ct (g s) K) (cS t n)) = b ∧ Rel (uM, uW, sh, im) r) := by
      unfold wpX7_moves
      intro Y Y14 Y39 hY hY14 hY39
      rw [hR_st hR] at hY
      rw [hR_al hR] at hY14
      have loop : ∀ d j, j + d = cS t n → Y (nI (sm (fun s => ct (g s) K) j)) (nI j) := by
        intro d
        induction d with
        | zero =>
          intro j hj
          have hj : j = cS t n := by omega
          rw [hj]
          exact hY _ _ (br_t (nI_le (Nat.le_refl _) (by omega)) ⟨rfl, hrel⟩)
        | succ d ih =>
          intro j hj
          have hx := ih (j + 1) (by omega)
          rw [sm_s] at hx
          refine hY _ _ (br_f (nI_ge (by omega) (by omega)) ?_)
          have inner : ∀ d c, c + d = K → Y14 (nI (sm (fun s => ct (g s) K) j + ct (g j) c)) (nI j) (nI c) := by
            intro d
            induction d with
            | zero =>
              intro c hc
              have hc : c = K := by omega
              subst hc
              refine hY14 _ _ _ (br_t (nI_le (Nat.le_refl _) (by omega)) ?_)
              rw [nI_1]; exact hx
            | succ d ih2 =>
              intro c hc
              have hx2 := ih2 (c + 1) (by omega)
              rw [ct_s] at hx2
              refine hY14 _ _ _ (br_f (nI_ge (by omega) (by omega)) (w_moveOf hB hR (by omega) (by omega) (c_mv hB hC (by omega) (by omega)) ⟨fun q => hY39 _ _ _ _ ?_, fun q => hY39 _ _ _ _ ?_⟩))
              · rw [if_neg (by rw [hg]; simp [q])] at hx2
                rw [show nI (sm (fun s => ct (g s) K) j + ct (g j) c) + 0 = nI (sm (fun s => ct (g s) K) j + ct (g j) c) from nI_add _ 0, nI_1]
                exact hx2
              · rw [if_pos (by rw [hg]; simp [q])] at hx2
                rw [nI_1, nI_1]
                exact hx2
          exact inner K 0 (Nat.zero_add _)
      exact loop (cS t n) 0 (Nat.zero_add _)
    rw [show gM_states (uM, uW, sh, im).1 = nI (cS t n) from hC_st hC] at hX
    rw [show gM_alphabet (uM, uW, sh, im).1 = nI K from hC_al hC] at h14
    have loop : ∀ d j, j + d = cS t n → X (nI (sm (fun s => ct (g s) K) j)) (nI j) := by
      intro d
      induction d with
      | zero =>
        intro j hj
        have hj : j = cS t n := by omega
        rw [hj]
        exact hX _ _ (br_t (nI_le (Nat.le_refl _) (by omega)) (br_f h0 (br_f h1 (br_f h2 (br_f h3 (br_t h4 ref))))))
      | succ d ih =>
        intro j hj
        have hx := ih (j + 1) (by omega)
        rw [sm_s] at hx
        refine hX _ _ (br_f (nI_ge (by omega) (by omega)) ?_)
        have inner : ∀ d c, c + d = K → X14 (nI (sm (fun s => ct (g s) K) j + ct (g j) c)) (nI j) (nI c) := by
          intro d
          induction d with
          | zero =>
            intro c hc
            have hc : c = K := by omega
            subst hc
            refine h14 _ _ _ (br_t (nI_le (Nat.le_refl _) (by omega)) ?_)
            rw [nI_1]; exact hx
          | succ d ih2 =>
            intro c hc
            have hx2 := ih2 (c + 1) (by omega)
            rw [ct_s] at hx2
            refine h14 _ _ _ (br_f (nI_ge (by omega) (by omega)) ⟨fun q => ?_, fun q => ?_⟩)
            · rw [if_neg (by rw [hg]; simp; exact q)] at hx2
              rw [nI_1]
              exact hx2
            · rw [if_pos (by rw [hg]; simp; exact q)] at hx2
              rw [nI_1, nI_1]
              exact hx2
        exact inner K 0 (Nat.zero_add _)
    exact loop (cS t n) 0 (Nat.zero_add _)
  · rw [show gM_length (uM, uW, sh, im).1 = nI n from hC_len hC]
    refine w_unlikeUpTo hB hC (Nat.le_refl _) (br_f h0 (br_f h1 (br_f h2 (br_f h3 (br_f h4 (br_t h5 ?_))))))
    rw [hR_n hR]
    exact w_unlike hB hR (Nat.le_refl _) ⟨rfl, hrel⟩
  · rw [show gM_length (uM, uW, sh, im).1 = nI n from hC_len hC]
    refine pk_le n 0 (fun q => br_f h0 (br_f h1 (br_f h2 (br_f h3 (br_f h4 (br_f h5 (br_t h6 ?_))))))) (fun q => br_f h0 (br_f h1 (br_f h2 (br_f h3 (br_f h4 (br_f h5 (br_t h6 ?_))))))) rfl rfl (by omega) (by decide)
    · rw [hR_n hR, show n = 0 by omega]
      exact br_t rfl ⟨rfl, hrel⟩
    · rw [hR_n hR]
      refine br_f (nI_ne0 q (by omega)) (w_againAt (r_txt hB hR) (Nat.le_refl _) ⟨?_, hrel⟩)
      exact c_again hB hC q (Nat.le_refl _)
  · refine w_periodC hB hC (fun q => (br_f h0 (br_f h1 (br_f h2 (br_f h3 (br_f h4 (br_f h5 (br_f h6 (br_t h7 ?_))))))))) (fun q q2 => (br_f h0 (br_f h1 (br_f h2 (br_f h3 (br_f h4 (br_f h5 (br_f h6 (br_t h7 ?_))))))))) (fun m q q2 => (br_f h0 (br_f h1 (br_f h2 (br_f h3 (br_f h4 (br_f h5 (br_f h6 (br_t h7 ?_)))))))))
    · exact w_periodR hB hR (fun _ => ⟨rfl, hrel⟩) (fun c => by omega) (fun m c => by have := bp_iff.mp c; omega)
    · exact w_periodR hB hR (fun c => by omega) (fun _ _ => ⟨rfl, hrel⟩) (fun m c => by rw [q2 m] at c; exact absurd c (by decide))
    · refine w_periodR hB hR (fun c => by have := bp_iff.mp q; omega) (fun _ c => by rw [c m] at q; exact absurd q (by decide)) (fun m' c c2 => ⟨?_, hrel⟩)
      rcases Nat.lt_trichotomy m m' with g | g | g
      · rw [q2 m' g] at c; exact absurd c (by decide)
      · rw [g]
      · rw [c2 m g] at q; exact absurd q (by decide)
  · refine w_lengthsTogether hB hC (br_f h0 (br_f h1 (br_f h2 (br_f h3 (br_f h4 (br_f h5 (br_f h6 (br_f h7 (br_t h8 ?_)))))))))
    exact w_lengths hB hR ⟨rfl, hrel⟩
  · refine br_f h0 (br_f h1 (br_f h2 (br_f h3 (br_f h4 (br_f h5 (br_f h6 (br_f h7 (br_f h8 (br_t h9 ?_)))))))))
    unfold wpX7_sheetMany
    intro Y Z hY hZ
    have loop : ∀ d j, j + d = 4 → Y (cThere sh j) (nI j) := by
      intro d
      induction d with
      | zero =>
        intro j hj
        have hj : j = 4 := by omega
        subst hj
        exact hY _ _ (br_t (by decide) ⟨rfl, hrel⟩)
      | succ d ih =>
        intro j hj
        have hx := ih (j + 1) (by omega)
        refine hY _ _ (br_f (nI_ge (b := 4) (by omega) (by decide)) ⟨vp_in_nI (by omega) (by decide), ?_⟩)
        rw [nI_clamp (by omega)]
        have hcs : cThere sh (j + 1) = if gS_there (sh j) = 0 then cThere sh j else cThere sh j + 1 := rfl
        rw [hcs, ← nI_1] at hx
        rcases hS j (by omega) with ⟨a, b⟩ | ⟨a, k, b1, b2, b3, b4⟩
        · rw [b]
          rw [if_pos a] at hx
          refine br_f (by decide) (hZ _ _ _ ?_)
          rw [show cThere sh j + 0 = cThere sh j by simp]
          exact hx
        · rw [b3]
          rw [if_neg (by rw [a]; decide)] at hx
          exact br_t (nI_pos' (by omega)) (hZ _ _ _ hx)
    exact loop 4 0 rfl
  · obtain ⟨N, hN⟩ := ps_N t n
    exact w_parts hB hC hN (br_f h0 (br_f h1 (br_f h2 (br_f h3 (br_f h4 (br_f h5 (br_f h6 (br_f h7 (br_f h8 (br_f h9 (br_t h10 (w_partMany hB hR hN ⟨rfl, hrel⟩))))))))))))
