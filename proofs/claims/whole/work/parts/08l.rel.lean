/-! the relation between class and reference -/
def Base (t : Nat → Nat) (n K : Nat) : Prop := n ≤ 60 ∧ 1 ≤ K ∧ K ≤ 5 ∧ ∀ i, i < n → t i < K
def ShR (sh : Nat → SSt) (sz ss : Nat → Int32) : Prop := ∀ i, i < 4 → (gS_there (sh i) = 0 ∧ sz i = -1) ∨ (gS_there (sh i) = 1 ∧ ∃ k, k ≤ 64 ∧ gS_length (sh i) = nI k ∧ sz i = nI k ∧ ∀ j, j < k → gS_signs (sh i) j = ss (64 * i + j))
def ImR (im : Nat → ISt) (kl km kt : Nat → Int32) : Prop := ∀ i, i < 2 → (gI_kept (im i) = 0 ∧ kl i = 0) ∨ (gI_kept (im i) = 1 ∧ ∃ (t : Nat → Nat) (n K : Nat), Base t n K ∧ gI_alphabet (im i) = nI K ∧ gI_length (im i) = nI n ∧ kl i = nI K ∧ km i = nI n ∧ ∀ j, j < n → gI_letters (im i) j = nI (t j) ∧ kt (60 * i + j) = nI (t j))
def Rel (g : CSt) (r : RSt) : Prop := ∃ (t : Nat → Nat) (n K : Nat), Base t n K ∧ ClInv t n K g.1 ∧ RfInv t n K r ∧ ShR g.2.2.1 (gR_sizes r) (gR_sheets r) ∧ ImR g.2.2.2 (gR_keptLetters r) (gR_keptMany r) (gR_keptText r)
theorem Rel_mk {t : Nat → Nat} {n K : Nat} {uM : MSt} {uW : WSt} {sh : Nat → SSt} {im : Nat → ISt} {r r' : RSt} (hB : Base t n K) (hC : ClInv t n K uM) (hR : RfInv t n K r') (hF : RFr r r') (hS : ShR sh (gR_sizes r) (gR_sheets r)) (hM : ImR im (gR_keptLetters r) (gR_keptMany r) (gR_keptText r)) : Rel (uM, uW, sh, im) r' :=
  ⟨t, n, K, hB, hC, hR, by rw [hF.1, hF.2.1]; exact hS, by rw [hF.2.2.1, hF.2.2.2.1, hF.2.2.2.2]; exact hM⟩
/-- numbers as arguments -/
theorem i32 (x : Int32) : x < 0 ∨ ∃ k, k < 2 ^ 31 ∧ x = nI k := by
  by_cases h : x < 0
  · exact Or.inl h
  · exact Or.inr (nI_of h)
theorem i32_1 {x : Int32} (h : ¬ x < 1) : ∃ k, 1 ≤ k ∧ k < 2 ^ 31 ∧ x = nI k := by
  rcases i32 x with h1 | ⟨k, h1, h2⟩
  · refine absurd ?_ h
    rw [Int32.lt_iff_toInt_lt] at h1 ⊢
    have e0 : (0 : Int32).toInt = 0 := by decide
    have e1 : (1 : Int32).toInt = 1 := by decide
    omega
  · refine ⟨k, ?_, h1, h2⟩
    rcases Nat.eq_zero_or_pos k with g | g
    · subst g; subst h2; exact absurd (by decide) h
    · exact g
theorem neg_lt {x : Int32} {k : Nat} (h : x < 0) (hk : k < 2 ^ 31) : x < nI k := by
  have := nI_pos' hk
  rw [Int32.lt_iff_toInt_lt] at h ⊢
  rw [Int32.le_iff_toInt_le] at this
  omega
theorem in_br {x a b : Int32} {P R : Prop} (h1 : x < a → P) (h2 : ¬ x < a → b < x → P) (h3 : ¬ x < a → ¬ b < x → R) : (fX7_in x a b = 0 → P) ∧ (¬ fX7_in x a b = 0 → R) := by
  unfold fX7_in
  by_cases g1 : x < a
  · rw [if_pos g1]; exact br_t rfl (h1 g1)
  · rw [if_neg g1]
    by_cases g2 : b < x
    · rw [if_pos g2]; exact br_t rfl (h2 g1 g2)
    · rw [if_neg g2]; exact br_f (by decide) (h3 g1 g2)
/-- from 0 to below n -/
theorem ub_br {x : Int32} {n : Nat} (hn : n < 2 ^ 30) {P R : Prop} (h1 : x < 0 → P) (h2 : nI n ≤ x → P) (h3 : ∀ k, k < n → x = nI k → R) : (fX7_in x 0 (nI n - 1) = 0 → P) ∧ (¬ fX7_in x 0 (nI n - 1) = 0 → R) := by
  have key : ∀ k, k < 2 ^ 31 → (nI n - 1 < nI k ↔ n ≤ k) := by
    intro k hk
    cases n with
    | zero => exact ⟨fun _ => Nat.zero_le _, fun _ => neg_lt (by decide) hk⟩
    | succ n => rw [nI_pred, nI_ltI (by omega) hk]; omega
  refine in_br h1 (fun g1 g2 => ?_) (fun g1 g2 => ?_)
  · rcases i32 x with h | ⟨k, hk, rfl⟩
    · exact h1 h
    · exact h2 (nI_le ((key k hk).mp g2) hk)
  · rcases i32 x with h | ⟨k, hk, rfl⟩
    · exact absurd h g1
    · exact h3 k (by
        rcases Nat.lt_or_ge k n with g | g
        · exact g
        · exact absurd ((key k hk).mpr g) g2) rfl
theorem let_br {u : MSt} {K : Nat} (hu : gM_alphabet u = nI K) (hK : K ≤ 5) {x : Int32} {P R : Prop} (h1 : (∀ c, c < K → x ≠ nI c) → P) (h3 : ∀ c, c < K → x = nI c → R) : (fX2_isLetter u x = 0 → P) ∧ (¬ fX2_isLetter u x = 0 → R) := by
  by_cases h : ∃ c, c < K ∧ x = nI c
  · obtain ⟨c, hc, rfl⟩ := h
    rw [isLetter_y hu hc hK]
    exact br_f (by decide) (h3 c hc rfl)
  · refine br_t ?_ (h1 (fun c hc e => h ⟨c, hc, e⟩))
    unfold fX2_isLetter
    rcases i32 x with g | ⟨k, hk, rfl⟩
    · rw [if_pos g]
    · rw [if_neg (nI_pos hk), hu]
      rcases Nat.lt_or_ge k K with g | g
      · exact absurd ⟨k, g, rfl⟩ h
      · rw [if_pos (nI_le g hk)]
theorem rlet_br {r : RSt} {K : Nat} (hu : gR_letters r = nI K) (hK : K ≤ 5) {x : Int32} {P R : Prop} (h1 : (∀ c, c < K → x ≠ nI c) → P) (h3 : ∀ c, c < K → x = nI c → R) : (fX7_isLetter r x = 0 → P) ∧ (¬ fX7_isLetter r x = 0 → R) := by
  unfold fX7_isLetter
  rw [hu]
  refine ub_br (by omega) (fun h => h1 (fun c hc e => ?_)) (fun h => h1 (fun c hc e => ?_)) h3
  · rw [e] at h; exact nI_pos (by omega) h
  · rw [e] at h; exact nI_ge hc (by omega) h
theorem room_br {u : MSt} {n k : Nat} (hu : gM_length u = nI n) (hn : n ≤ 60) (hk : k < 2 ^ 30) {P R : Prop} (h1 : 60 < n + k → P) (h3 : n + k ≤ 60 → R) : (fX2_hasRoomFor u (nI k) = 0 → P) ∧ (¬ fX2_hasRoomFor u (nI k) = 0 → R) := by
  unfold fX2_hasRoomFor
  rw [hu, nI_add, show (60 : Int32) = nI 60 from rfl]
  rcases Nat.lt_or_ge 60 (n + k) with g | g
  · rw [if_pos (nI_lt (a := 60) g (by omega))]; exact br_t rfl (h1 g)
  · rw [if_neg (nI_nlt (a := 60) g (by decide))]; exact br_f (by decide) (h3 g)
theorem sheet_br {x : Int32} {P R : Prop} (h1 : (x < 0 ∨ 4 ≤ x) → P) (h3 : ∀ i, i < 4 → x = nI i → R) : (fX7_isSheet x = 0 → P) ∧ (¬ fX7_isSheet x = 0 → R) := by
  have := ub_br (x := x) (n := 4) (by decide) (fun h => h1 (Or.inl h)) (fun h => h1 (Or.inr h)) h3
  exact this
theorem w_need {r : RSt} {x : Int32} {Q : Int32 → Prop} (h1 : (x < 0 ∨ 4 ≤ x) → Q (-1)) (h2 : ∀ i, i < 4 → x = nI i → ((0 : Int32) ≤ gR_sizes r i → Q 0) ∧ (¬ (0 : Int32) ≤ gR_sizes r i → Q (-11))) : wpX7_need r x Q := by
  unfold wpX7_need
  refine sheet_br h1 (fun i hi e => ?_)
  subst e
  refine ⟨vp_in_nI hi (by decide), ?_⟩
  rw [nI_clamp (by omega)]
  exact h2 i hi rfl
/-- a sheet of both sides: out of range, missing, there -/
theorem two_need {sh : Nat → SSt} {r : RSt} (hS : ShR sh (gR_sizes r) (gR_sheets r)) {x : Int32} {Q : Int32 → Prop} (h1 : (x < 0 ∨ 4 ≤ x) → Q (-1)) (h2 : ∀ i, i < 4 → x = nI i → gS_there (sh i) = 0 → Q (-11)) (h3 : ∀ i k, i < 4 → x = nI i → gS_there (sh i) = 1 → k ≤ 64 → gS_length (sh i) = nI k → gR_sizes r i = nI k → (∀ j, j < k → gS_signs (sh i) j = gR_sheets r (64 * i + j)) → Q 0) : wpX7_need r x Q := by
  refine w_need h1 (fun i hi e => ?_)
  rcases hS i hi with ⟨a, b⟩ | ⟨a, k, b1, b2, b3, b4⟩
  · rw [b]; exact br_f (by decide) (h2 i hi e a)
  · rw [b3]; exact br_t (nI_pos' (by omega)) (h3 i k hi e a b1 b2 b3 b4)
theorem not_sheet {i : Nat} (hi : i < 4) (h : nI i < 0 ∨ 4 ≤ nI i) : False := by
  rcases h with h | h
  · exact nI_pos (by omega) h
  · exact nI_ge (b := 4) hi (by decide) h
theorem letterAt_S {s : SSt} {j : Nat} (hj : j < 64) : fX4_letterAt s (nI j) = gS_signs s j - 97 := by
  unfold fX4_letterAt fX4_signAt; rw [kAt_nI hj]
theorem w_takesAllOf {u : MSt} {s : SSt} {K k : Nat} (hu : gM_alphabet u = nI K) (hK : K ≤ 5) (hs : gS_length s = nI k) (hk : k ≤ 64) {Q : Int32 → Prop} (h1 : (∀ j, j < k → ∃ c, c < K ∧ gS_signs s j - 97 = nI c) → Q 1) (h0 : ¬ (∀ j, j < k → ∃ c, c < K ∧ gS_signs s j - 97 = nI c) → Q 0) : wpX2_takesAllOf u s Q := by
  unfold wpX2_takesAllOf
  intro X h
  have loop : ∀ d i, i + d = k → (∀ j, j < i → ∃ c, c < K ∧ gS_signs s j - 97 = nI c) → X (nI i) := by
    intro d
    induction d with
    | zero =>
      intro i hi g
      have hi : i = k := by omega
      subst hi
      refine h _ ?_
      rw [hs]
      exact br_t (nI_le (Nat.le_refl _) (by omega)) (h1 g)
    | succ d ih =>
      intro i hi g
      refine h _ ?_
      rw [hs]
      refine br_f (nI_ge (by omega) (by omega)) ?_
      rw [letterAt_S (by omega)]
      refine let_br hu hK (fun hno => h0 (fun hall => ?_)) (fun c hc e => ?_)
      · obtain ⟨c, c1, c2⟩ := hall i (by omega)
        exact hno c c1 c2
      · rw [nI_1]
        refine ih (i + 1) (by omega) (fun j hj => ?_)
        rcases Nat.lt_or_ge j i with g2 | g2
        · exact g j g2
        · rw [show j = i by omega]; exact ⟨c, hc, e⟩
  exact loop k 0 (Nat.zero_add _) (fun j hj => absurd hj (Nat.not_lt_zero j))
theorem hC_len {t : Nat → Nat} {n K : Nat} {u : MSt} (h : ClInv t n K u) : gM_length u = nI n := h.1.2.1
theorem hC_al {t : Nat → Nat} {n K : Nat} {u : MSt} (h : ClInv t n K u) : gM_alphabet u = nI K := h.1.1
theorem hC_st {t : Nat → Nat} {n K : Nat} {u : MSt} (h : ClInv t n K u) : gM_states u = nI (cS t n) := h.1.2.2.1
theorem hR_n {t : Nat → Nat} {n K : Nat} {r : RSt} (h : RfInv t n K r) : gR_n r = nI n := h.1.2.1
theorem hR_al {t : Nat → Nat} {n K : Nat} {r : RSt} (h : RfInv t n K r) : gR_letters r = nI K := h.1.1
theorem hR_st {t : Nat → Nat} {n K : Nat} {r : RSt} (h : RfInv t n K r) : gR_stateMany r = nI (cS t n) := h.1.2.2.2.1
theorem LS0_ok : LS0 Rel := by
  rintro ⟨uM, uW, sh, im⟩ r x1 ⟨t, n, K, hB, hC, hR, hS, hI⟩
  unfold wpX6_begin
  have bad : ∀ (h : x1 < 1 ∨ ¬ x1 ≤ 5), wpX7_begin r x1 (fun b r' => -1 = b ∧ Rel (uM, uW, sh, im) r') := by
    intro h
    unfold wpX7_begin
    refine in_br (fun _ => ⟨rfl, t, n, K, hB, hC, hR, hS, hI⟩) (fun _ _ => ⟨rfl, t, n, K, hB, hC, hR, hS, hI⟩) (fun g1 g2 => ?_)
    rcases h with h | h
    · exact absurd h g1
    · exact absurd (Int32.not_lt.mp g2) h
  refine ⟨fun h => bad (Or.inl h), fun h => ⟨fun h2 => ?_, fun h2 => bad (Or.inr h2)⟩⟩
  obtain ⟨k, k1, k2, rfl⟩ := i32_1 h
  have k5 : k ≤ 5 := by
    rcases Nat.lt_or_ge 5 k with g | g
    · exact absurd h2 (nI_ge (a := 5) g k2)
    · exact g
  have h2' : nI k ≤ 5 := h2
  refine c_startOver t k5 (fun u' hu' _ => ?_)
  unfold wpX7_begin
  refine in_br (fun g => absurd g h) (fun _ g => absurd h2' (Int32.not_le.mpr g)) (fun _ _ => ?_)
  refine r_begins t (fun r' hr' hF _ => ⟨?_, ?_⟩)
  · show gM_length uM = gR_n r
    rw [hC_len hC, hR_n hR]
  · exact Rel_mk ⟨by decide, k1, k5, fun i hi => absurd hi (Nat.not_lt_zero i)⟩ hu' hr' hF hS hI
theorem LS1_ok : LS1 Rel := by
  rintro ⟨uM, uW, sh, im⟩ r x1 ⟨t, n, K, hB, hC, hR, hS, hI⟩
  have hC : ClInv t n K uM := hC
  obtain ⟨hn, hK1, hK5, ht⟩ := id hB
  unfold wpX6_grow
  refine let_br (hC_al hC) hK5 (fun h => ?_) (fun c hc e => ?_)
  · unfold wpX7_grow
    exact rlet_br (hR_al hR) hK5 (fun _ => ⟨rfl, t, n, K, hB, hC, hR, hS, hI⟩) (fun c hc e => absurd e (h c hc))
  · subst e
    refine room_br (k := 1) (hC_len hC) hn (by decide) (fun g => ?_) (fun g => ?_)
    · unfold wpX7_grow
      refine rlet_br (hR_al hR) hK5 (fun h => absurd rfl (h c hc)) (fun c' _ _ => ?_)
      rw [hR_n hR, show n = 60 by omega]
      exact br_t rfl ⟨rfl, t, n, K, hB, hC, hR, hS, hI⟩
    · obtain ⟨t', et⟩ : ∃ t', t' = fun i => if i = n then c else t i := ⟨_, rfl⟩
      have e1 : ∀ i, i < n → t i = t' i := fun i hi => by rw [et]; simp [show ¬ i = n by omega]
      have e2 : c = t' n := by rw [et]; simp
      have e3 : ∀ i, i ≤ n → t' i < K := fun i hi => by
        rcases Nat.lt_or_ge i n with q | q
        · rw [← e1 i q]; exact ht i q
        · rw [show i = n by omega, ← e2]; exact hc
      have hC' := Cl_cong e1 hC
      have hR' := Rf_cong e1 hR
      rw [e2]
      refine c_append hC' (by omega) hK5 (e3 n (Nat.le_refl _)) (fun u' hu' _ => ?_)
      unfold wpX7_grow
      refine rlet_br (hR_al hR) hK5 (fun h => absurd rfl (h _ (e3 n (Nat.le_refl _)))) (fun c' _ _ => ?_)
      rw [hR_n hR]
      refine br_f (fun q => ?_) ?_
      · have := nI_inj (b := 60) (by omega) (by decide) q
        omega
      · refine r_grows hR' (by omega) hK5 e3 (fun r' hr' hF _ => ⟨?_, ?_⟩)
        · rw [hC_st hu', hR_st hr']
        · exact Rel_mk ⟨by omega, hK1, hK5, fun i hi => e3 i (by omega)⟩ hu' hr' hF hS hI
