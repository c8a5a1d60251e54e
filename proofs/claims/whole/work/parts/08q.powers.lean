/-! powers: what is missing, what words are worth -/
theorem pl_le {x y : Int64} {A B : Prop} (a b : Nat) (f : a ≤ b → A) (g : b < a → B) (hx : x = lN a) (hy : y = lN b) (ha : a < 2 ^ 63) (hb : b < 2 ^ 63) : (x ≤ y → A) ∧ (¬ x ≤ y → B) := by
  subst hx; subst hy
  rw [pk_lLE ha hb]
  exact ⟨f, fun h => g (by omega)⟩
section POW
variable {t : Nat → Nat} {n K : Nat} {u : MSt} {r : RSt}
theorem w_power (hK1 : 1 ≤ K) (hK5 : K ≤ 5) (hr : gR_letters r = nI K) {x : Nat} (hx : x ≤ 100) {Q : Int64 → Prop} (hq : ∀ v, v < 2 ^ 35 → (v = K ^ x ∨ 2 ^ 32 ≤ v ∧ v ≤ K ^ x) → Q (lN v)) : wpX7_power r (nI x) Q := by
  unfold wpX7_power
  intro X h
  rw [hr, nI_l (by omega)] at h
  have loop : ∀ d j, j + d = x → K ^ j < 2 ^ 35 → X (lN (K ^ j)) (nI j) := by
    intro d
    induction d with
    | zero =>
      intro j hj hv
      have hj : j = x := by omega
      subst hj
      exact h _ _ (br_t (nI_le (Nat.le_refl _) (by omega)) (hq _ hv (Or.inl rfl)))
    | succ d ih =>
      intro j hj hv
      refine h _ _ (br_f (nI_ge (by omega) (by omega)) (pl_le 4294967296 (K ^ j) (fun g => hq _ hv (Or.inr ⟨g, Nat.pow_le_pow_right hK1 (by omega)⟩)) (fun g => ?_) rfl rfl (by decide) (by omega)))
      rw [lN_mul, nI_1, ← Nat.pow_succ]
      refine ih (j + 1) (by omega) ?_
      rw [Nat.pow_succ]
      have : K ^ j * K ≤ K ^ j * 5 := Nat.mul_le_mul_left _ hK5
      omega
  exact loop x 0 (Nat.zero_add _) (by rw [Nat.pow_zero]; decide)
theorem w_wordsOfLength (hB : Base t n K) (hC : ClInv t n K u) {w : WSt} {x : Nat} (hx1 : 1 ≤ x) (hx : x ≤ 60) {Q : Int32 → Prop} (hq : Q (nI (uo t x n))) : wpX5_wordsOfLength w u (nI x) Q := by
  have hn := hB.1
  unfold wpX5_wordsOfLength
  intro X h
  rw [hC_len hC] at h
  obtain ⟨p, hp⟩ : ∃ p : Nat → Bool, p = fun e => decide (x ≤ e ∧ ag t e < x) := ⟨_, rfl⟩
  have huo : uo t x n = ct p (n + 1) := by rw [hp]; rfl
  rw [huo] at hq
  have start : nI (ct p x) = 0 := by
    rw [ct_0 (fun b hb => by rw [hp]; simp; omega)]; rfl
  rcases Nat.lt_or_ge n x with g | g
  · refine h _ _ (br_t (nI_lt g (by omega)) ?_)
    rw [show ct p (n + 1) = 0 from ct_0 (fun b hb => by rw [hp]; simp; omega)] at hq
    exact hq
  · have loop : ∀ d e, e + d = n + 1 → x ≤ e → X (nI (ct p e)) (nI e) := by
      intro d
      induction d with
      | zero =>
        intro e he _
        have he : e = n + 1 := by omega
        subst he
        exact h _ _ (br_t (nI_lt (Nat.lt_succ_self _) (by omega)) hq)
      | succ d ih =>
        intro e he hse
        have hxx := ih (e + 1) (by omega) (by omega)
        rw [ct_s] at hxx
        have hag : ag t e < e := ag_lt (by omega)
        refine h _ _ (br_f (nI_nlt (by omega) (by omega)) (pk_le x (ag t e) (fun q => ?_) (fun q => ?_) rfl (c_again hB hC (by omega) (by omega)) (by omega) (by omega)))
        · rw [if_neg (by rw [hp]; simp; omega)] at hxx
          rw [nI_1]
          exact hxx
        · rw [if_pos (by rw [hp]; simp; omega)] at hxx
          rw [nI_1, nI_1]
          exact hxx
    have := loop (n + 1 - x) x (by omega) (Nat.le_refl _)
    rw [start] at this
    exact this
theorem w_words0 (hB : Base t n K) (hC : ClInv t n K u) {w : WSt} {Q : Int32 → Prop} (hq : Q 1) : wpX5_wordsOfLength w u 0 Q := by
  have hn := hB.1
  unfold wpX5_wordsOfLength
  intro X h
  rw [hC_len hC] at h
  have loop : ∀ d e, e + d = n + 1 → 1 ≤ e → X 1 (nI e) := by
    intro d
    induction d with
    | zero =>
      intro e he _
      exact h _ _ (br_t (nI_lt (by omega) (by omega)) hq)
    | succ d ih =>
      intro e he hse
      have hxx := ih (e + 1) (by omega) (by omega)
      have hag : ag t e < e := ag_lt (by omega)
      refine h _ _ (br_f (nI_nlt (by omega) (by omega)) (pk_le 0 (ag t e) (fun q => ?_) (fun q => by omega) rfl (c_again hB hC (by omega) (by omega)) (by omega) (by omega)))
      rw [nI_1]
      exact hxx
  refine h _ _ (br_f (nI_nlt (b := 0) (Nat.zero_le _) (by omega)) ?_)
  have e0 : fX2_againAt u 0 = -1 := by
    have : fX2_againAt u (nI 0) = gM_again u 0 := by unfold fX2_againAt; rw [kAt_nI (by decide)]
    exact this.trans hC.1.2.2.2.2.2.1.1
  rw [e0]
  exact br_f (by decide) (loop n 1 (by omega) (Nat.le_refl _))
end POW
theorem LS20_ok : LS20 Rel := by
  rintro ⟨uM, uW, sh, im⟩ r x1 ⟨t, n, K, hB, hC, hR, hS, hI⟩
  have hC : ClInv t n K uM := hC
  have hrel : Rel (uM, uW, sh, im) r := ⟨t, n, K, hB, hC, hR, hS, hI⟩
  obtain ⟨hn, hK1, hK5, ht⟩ := id hB
  have bad : (x1 < 0 ∨ ¬ x1 ≤ 60) → wpX7_missing r x1 (fun b => -1 = b ∧ Rel (uM, uW, sh, im) r) := fun h => by
    unfold wpX7_missing
    refine in_br (fun _ => ⟨rfl, hrel⟩) (fun _ _ => ⟨rfl, hrel⟩) (fun g1 g2 => ?_)
    rcases h with h | h
    · exact absurd h g1
    · exact absurd (Int32.not_lt.mp g2) h
  unfold wpX6_missing
  intro X hX
  refine ⟨fun h => bad (Or.inl h), fun h0 => ⟨fun h1 => ?_, fun h => bad (Or.inr h)⟩⟩
  obtain ⟨k, k2, rfl⟩ := nI_of h0
  have k60 : k ≤ 60 := by
    rcases Nat.lt_or_ge 60 k with g | g
    · exact absurd h1 (nI_ge (a := 60) g k2)
    · exact g
  have ref : ∀ a : Int32, (2147483647 < K ^ k → a = -13) → (K ^ k ≤ 2147483647 → k = 0 → a = 0) → (K ^ k ≤ 2147483647 → 1 ≤ k → a = (lN (K ^ k) - lN (uo t k n)).toInt32) → wpX7_missing r (nI k) (fun b => a = b ∧ Rel (uM, uW, sh, im) r) := fun a ha hb hc => by
    unfold wpX7_missing
    refine in_br (fun g => absurd g h0) (fun _ g => absurd h1 (Int32.not_le.mpr g)) (fun _ _ => w_power hK1 hK5 (hR_al hR) (by omega) (fun v v1 v2 => ?_))
    refine pl_le v 2147483647 (fun q => ?_) (fun q => ⟨ha (by omega), hrel⟩) rfl rfl (by omega) (by decide)
    refine pk_eq k 0 (fun q0 => ⟨hb (by omega) q0, hrel⟩) (fun q0 => ?_) rfl rfl (by omega) (by decide)
    refine w_power hK1 hK5 (hR_al hR) (by omega) (fun v' v1' v2' => ?_)
    rw [hR_n hR]
    refine w_unlikeOf (r_txt hB hR) (by omega) (by omega) (Nat.le_refl _) ⟨?_, hrel⟩
    have := uo_le t k n
    rw [nI_l (by omega), show v' = K ^ k by omega]
    exact hc (by omega) (by omega)
  have hal : gM_alphabet (uM, uW, sh, im).1 = nI K := hC_al hC
  rw [hal, nI_l (by omega)] at hX
  have loop : ∀ d j, j + d = k → K ^ j ≤ 2147483647 → X (lN (K ^ j)) (nI j) := by
    intro d
    induction d with
    | zero =>
      intro j hj hv
      have hj : j = k := by omega
      subst hj
      refine hX _ _ (br_t (nI_le (Nat.le_refl _) (by omega)) ?_)
      rcases Nat.eq_zero_or_pos j with g | g
      · subst g
        exact w_words0 hB hC (ref _ (fun q => by omega) (fun _ _ => by rw [Nat.pow_zero]; decide) (fun _ q => by omega))
      · refine w_wordsOfLength hB hC g k60 (ref _ (fun q => by omega) (fun _ q => by omega) (fun _ _ => ?_))
        have := uo_le t j n
        rw [nI_l (by omega)]
    | succ d ih =>
      intro j hj hv
      refine hX _ _ (br_f (nI_ge (by omega) (by omega)) ?_)
      rw [lN_mul, nI_1, ← Nat.pow_succ]
      have hle : K ^ (j + 1) ≤ K ^ j * 5 := by rw [Nat.pow_succ]; exact Nat.mul_le_mul_left _ hK5
      refine pl_le (K ^ (j + 1)) 2147483647 (fun q => ih (j + 1) (by omega) q) (fun q => ?_) rfl rfl (by omega) (by decide)
      have : K ^ (j + 1) ≤ K ^ k := Nat.pow_le_pow_right hK1 (by omega)
      exact ref _ (fun _ => rfl) (fun q => by omega) (fun q => by omega)
  exact loop k 0 (Nat.zero_add _) (by rw [Nat.pow_zero]; decide)
theorem LS31_ok : LS31 Rel := by
  rintro ⟨uM, uW, sh, im⟩ r x1 ⟨t, n, K, hB, hC, hR, hS, hI⟩
  have hC : ClInv t n K uM := hC
  have hrel : ∀ uW, Rel (uM, uW, sh, im) r := fun uW => ⟨t, n, K, hB, hC, hR, hS, hI⟩
  obtain ⟨hn, hK1, hK5, ht⟩ := id hB
  have bad : (x1 < 1 ∨ ¬ x1 ≤ 9) → wpX7_worth r x1 (fun b => -1 = b ∧ Rel (uM, uW, sh, im) r) := fun h => by
    unfold wpX7_worth
    intro X X48 hX h48
    refine in_br (fun _ => ⟨rfl, hrel _⟩) (fun _ _ => ⟨rfl, hrel _⟩) (fun g1 g2 => ?_)
    rcases h with h | h
    · exact absurd h g1
    · exact absurd (Int32.not_lt.mp g2) h
  unfold wpX6_worth
  refine ⟨fun h => bad (Or.inl h), fun h0 => ⟨fun h1 => ?_, fun h => bad (Or.inr h)⟩⟩
  obtain ⟨x, x1', x2, rfl⟩ := i32_1 h0
  have x9 : x ≤ 9 := by
    rcases Nat.lt_or_ge 9 x with g | g
    · exact absurd h1 (nI_ge (a := 9) g x2)
    · exact g
  obtain ⟨w, hw⟩ : ∃ w : Nat → Nat, w = fun i => x ^ (i + 1) := ⟨_, rfl⟩
  obtain ⟨T, hT⟩ : ∃ T : Nat → Nat, T = fun k => sm (fun i => w i * uo t (i + 1) n) k := ⟨_, rfl⟩
  have Ts : ∀ k, T (k + 1) = T k + x ^ (k + 1) * uo t (k + 1) n := fun k => by rw [hT, hw]; rfl
  have Tm : ∀ {a b}, a ≤ b → T a ≤ T b := fun h => by rw [hT]; exact sm_mono _ h
  have TS : ∀ k, k ≤ n → sm w k ≤ T k := fun k hk => by
    rw [hT]
    refine sm_le (fun i hi => ?_)
    have := uo_pos (t := t) (size := i + 1) (up := n) (by omega) (by omega)
    exact Nat.le_mul_of_pos_right _ (by omega)
  have ref : ∀ (uW : WSt) (a : Int32), (T n ≤ 2147483647 → a = nI (T n)) → (2147483647 < T n → a = -13) → wpX7_worth r (nI x) (fun b => a = b ∧ Rel (uM, uW, sh, im) r) := fun uW a ha hb => by
    unfold wpX7_worth
    intro X X48 hX h48
    refine in_br (fun g => absurd g h0) (fun _ g => absurd h1 (Int32.not_le.mpr g)) (fun _ _ => ?_)
    rw [hR_n hR] at hX h48
    rw [nI_l x2] at hX
    have loop : ∀ d i, i + d = n → T i ≤ 2147483647 → x ^ i ≤ 2147483647 → X (lN (T i)) (lN (x ^ i)) (nI (i + 1)) := by
      intro d
      induction d with
      | zero =>
        intro i hi hv _
        have hi : i = n := by omega
        subst hi
        refine hX _ _ _ (br_t (nI_lt (Nat.lt_succ_self _) (by omega)) ?_)
        rw [lN_i]
        exact ⟨ha hv, hrel _⟩
      | succ d ih =>
        intro i hi hv hxi
        refine hX _ _ _ (br_f (nI_nlt (by omega) (by omega)) ?_)
        refine pl_le (x ^ i) 2147483647 (fun _ => h48 _ _ _ ?_) (fun q => by omega) rfl rfl (by omega) (by decide)
        refine w_unlikeOf (r_txt hB hR) (by omega) (by omega) (Nat.le_refl _) ?_
        have hu1 := uo_pos (t := t) (size := i + 1) (up := n) (by omega) (by omega)
        have hu2 := uo_le t (i + 1) n
        have hxx : x ^ (i + 1) ≤ x ^ i * 9 := by rw [Nat.pow_succ]; exact Nat.mul_le_mul_left _ x9
        have hb1 : x ^ (i + 1) ≤ x ^ (i + 1) * uo t (i + 1) n := Nat.le_mul_of_pos_right _ (by omega)
        have hb2 : x ^ (i + 1) * uo t (i + 1) n ≤ (2147483647 * 9) * 61 := Nat.mul_le_mul (by omega) (by omega)
        have hTs := Ts i
        rw [nI_l (by omega), lN_mul, ← Nat.pow_succ, lN_mul, lN_add, nI_1, ← hTs]
        refine pl_le (T (i + 1)) 2147483647 (fun q => ih (i + 1) (by omega) q (by omega)) (fun q => ⟨hb ?_, hrel _⟩) rfl rfl (by omega) (by decide)
        have := Tm (a := i + 1) (b := n) (by omega)
        omega
    have T0 : T 0 = 0 := by rw [hT]; rfl
    have := loop n 0 (Nat.zero_add _) (by omega) (by rw [Nat.pow_zero]; decide)
    rw [T0] at this
    exact this
  unfold wpX5_worthTogether
  intro X17 X75 h17 h75
  have hlen : gM_length (uM, uW, sh, im).1 = nI n := hC_len hC
  rw [hlen] at h17 h75
  rw [nI_l x2] at h17
  have fin : ∀ tW : WSt, (∀ j, j ≤ n → gW_sums tW j = lN (sm w j)) → sm w n ≤ 2147483647 → X75 0 1 tW := fun tW hs hSn => by
    have hle : ∀ j, j ≤ n → sm w j ≤ 2147483647 := fun j hj => Nat.le_trans (sm_mono w hj) hSn
    have hfin : sm (fun e => sm w e - sm w (ag t e)) (n + 1) = T n := by rw [← uo_sum, hT]
    have bnd : ∀ e, e ≤ n + 1 → sm (fun e => sm w e - sm w (ag t e)) e ≤ e * 2147483647 := by
      intro e
      induction e with
      | zero => intro _; exact Nat.zero_le _
      | succ e ih =>
        intro he
        have := ih (by omega)
        have := hle e (by omega)
        rw [sm_s]
        omega
    have loop : ∀ d e, e + d = n + 1 → 1 ≤ e → X75 (lN (sm (fun e => sm w e - sm w (ag t e)) e)) (nI e) tW := by
      intro d
      induction d with
      | zero =>
        intro e he _
        have he : e = n + 1 := by omega
        subst he
        have := bnd (n + 1) (Nat.le_refl _)
        rw [hfin] at this ⊢
        refine h75 _ _ _ (br_t (nI_lt (Nat.lt_succ_self _) (by omega)) (pl_le (T n) 2147483647 (fun q => ?_) (fun q => ?_) rfl rfl (by omega) (by decide)))
        · rw [lN_i]
          exact ref _ _ (fun _ => rfl) (fun q => by omega)
        · exact ref _ _ (fun q => by omega) (fun _ => rfl)
      | succ d ih =>
        intro e he h1
        refine h75 _ _ _ (br_f (nI_nlt (by omega) (by omega)) ?_)
        have hag : ag t e < e := ag_lt (by omega)
        rw [show fX2_againAt (uM, uW, sh, im).1 (nI e) = nI (ag t e) from c_again hB hC (by omega) (by omega), kAtL_nI (by omega), kAtL_nI (by omega), hs e (by omega), hs _ (by omega), lN_sub (sm_mono w (by omega)), lN_add, nI_1]
        exact ih (e + 1) (by omega) (by omega)
    have := loop n 1 (by omega) (Nat.le_refl _)
    rw [show sm (fun e => sm w e - sm w (ag t e)) 1 = 0 from by
      rw [sm_s]; show 0 + (sm w 0 - sm w (ag t 0)) = 0; rw [ag_0]; omega] at this
    exact this
  have loop : ∀ d i, i + d = n → ∀ tW : WSt, (∀ j, j ≤ i → gW_sums tW j = lN (sm w j)) → sm w i ≤ 2147483647 → x ^ i ≤ 2147483647 → X17 (lN (x ^ i)) (lN (sm w i)) (nI (i + 1)) tW := by
    intro d
    induction d with
    | zero =>
      intro i hi tW hs hv _
      have hi : i = n := by omega
      subst hi
      exact h17 _ _ _ _ (br_t (nI_lt (Nat.lt_succ_self _) (by omega)) (fin tW hs hv))
    | succ d ih =>
      intro i hi tW hs hv hxi
      refine h17 _ _ _ _ (br_f (nI_nlt (by omega) (by omega)) ?_)
      have hxx : x ^ (i + 1) ≤ x ^ i * 9 := by rw [Nat.pow_succ]; exact Nat.mul_le_mul_left _ x9
      have hss : sm w (i + 1) = sm w i + x ^ (i + 1) := by rw [sm_s, hw]
      rw [lN_mul, ← Nat.pow_succ, lN_add, nI_1, ← hss]
      refine pl_le (sm w (i + 1)) 2147483647 (fun q => ?_) (fun q => ?_) rfl rfl (by omega) (by decide)
      · rw [kPutL_nI (by omega)]
        refine ih (i + 1) (by omega) _ (fun j hj => ?_) q (by omega)
        show vp_updL (gW_sums tW) (i + 1) (lN (sm w (i + 1))) j = _
        by_cases hji : j = i + 1
        · subst hji; exact pk_uLs
        · rw [pk_uLn hji]; exact hs j (by omega)
      · have h1 := TS (i + 1) (by omega)
        have h2 := Tm (a := i + 1) (b := n) (by omega)
        exact ref _ _ (fun q => by omega) (fun _ => rfl)
  refine loop n 0 (Nat.zero_add _) _ (fun j hj => ?_) (Nat.zero_le _) (by rw [Nat.pow_zero]; decide)
  show kPutL 61 (gW_sums (uM, uW, sh, im).2.1) (nI 0) 0 j = _
  rw [kPutL_nI (by decide), show j = 0 by omega]
  exact pk_uLs
