/-! counting unlike words -/
theorem sm_cong {f g : Nat → Nat} : ∀ {k : Nat}, (∀ i, i < k → f i = g i) → sm f k = sm g k := by
  intro k
  induction k with
  | zero => intro _; rfl
  | succ k ih => intro h; rw [sm_s, sm_s, ih (fun i hi => h i (by omega)), h k (by omega)]
theorem sm_add (f g : Nat → Nat) : ∀ k, sm (fun i => f i + g i) k = sm f k + sm g k := by
  intro k
  induction k with
  | zero => rfl
  | succ k ih => rw [sm_s, sm_s, sm_s, ih]; omega
theorem sm_mul (c : Nat) (f : Nat → Nat) : ∀ k, sm (fun i => c * f i) k = c * sm f k := by
  intro k
  induction k with
  | zero => rfl
  | succ k ih => rw [sm_s, sm_s, ih, Nat.mul_add]
theorem sm_zero : ∀ k, sm (fun _ => 0) k = 0 := by
  intro k
  induction k with
  | zero => rfl
  | succ k ih => rw [sm_s, ih]
theorem sm_swap (f : Nat → Nat → Nat) (b : Nat) : ∀ a, sm (fun i => sm (fun j => f i j) b) a = sm (fun j => sm (fun i => f i j) a) b := by
  intro a
  induction a with
  | zero => exact (sm_zero b).symm
  | succ a ih =>
    rw [sm_s, ih, ← sm_add]
    exact sm_cong (fun _ _ => rfl)
theorem sm_le {f g : Nat → Nat} : ∀ {k : Nat}, (∀ i, i < k → f i ≤ g i) → sm f k ≤ sm g k := by
  intro k
  induction k with
  | zero => intro _; exact Nat.le_refl _
  | succ k ih => intro h; have := ih (fun i hi => h i (by omega)); have := h k (by omega); rw [sm_s, sm_s]; omega
theorem sm_mono (f : Nat → Nat) : ∀ {a b : Nat}, a ≤ b → sm f a ≤ sm f b := by
  intro a b h
  induction h with
  | refl => exact Nat.le_refl _
  | step _ ih => rw [sm_s]; omega
theorem sm_rng (g : Nat → Nat) {a e : Nat} (h : a ≤ e) : ∀ {up : Nat}, e ≤ up → sm (fun i => if a ≤ i ∧ i < e then g i else 0) up = sm g e - sm g a := by
  have key : ∀ k, sm (fun i => if a ≤ i ∧ i < e then g i else 0) k = sm g (min k e) - sm g (min k a) := by
    intro k
    induction k with
    | zero => rfl
    | succ k ih =>
      rw [sm_s, ih]
      rcases Nat.lt_or_ge k a with h1 | h1
      · rw [if_neg (by omega), show min (k + 1) e = k + 1 by omega, show min (k + 1) a = k + 1 by omega, show min k e = k by omega, show min k a = k by omega]
        omega
      · rcases Nat.lt_or_ge k e with h2 | h2
        · rw [if_pos ⟨h1, h2⟩, show min (k + 1) e = k + 1 by omega, show min (k + 1) a = a by omega, show min k e = k by omega, show min k a = a by omega, sm_s]
          have := sm_mono g h1
          omega
        · rw [if_neg (by omega), show min (k + 1) e = e by omega, show min (k + 1) a = a by omega, show min k e = e by omega, show min k a = a by omega]
          omega
  intro up hu
  rw [key, show min up e = e by omega, show min up a = a by omega]
/-- words of so many letters behind so many -/
def uo (t : Nat → Nat) (size up : Nat) : Nat := ct (fun e => decide (size ≤ e ∧ ag t e < size)) (up + 1)
theorem uo_le (t : Nat → Nat) (size up : Nat) : uo t size up ≤ up + 1 := ct_le _ _
theorem uo_0 {t : Nat → Nat} {size up : Nat} (h : up < size) : uo t size up = 0 := ct_0 (fun b hb => by simp; omega)
theorem uo_pos {t : Nat → Nat} {size up : Nat} (h1 : 1 ≤ size) (h : size ≤ up) : 1 ≤ uo t size up := by
  have := ct_lt (p := fun e => decide (size ≤ e ∧ ag t e < size)) (k := size) (m := up + 1) (by omega) (by simp; exact ag_lt h1)
  unfold uo
  omega
theorem uo_sum (t : Nat → Nat) (w : Nat → Nat) (up : Nat) : sm (fun i => w i * uo t (i + 1) up) up = sm (fun e => sm w e - sm w (ag t e)) (up + 1) := by
  have e1 : sm (fun i => w i * uo t (i + 1) up) up = sm (fun i => sm (fun e => if ag t e ≤ i ∧ i < e then w i else 0) (up + 1)) up := by
    refine sm_cong (fun i _ => ?_)
    unfold uo
    rw [← sm_ct, ← sm_mul]
    refine sm_cong (fun e _ => ?_)
    unfold b01
    by_cases h : ag t e ≤ i ∧ i < e
    · rw [if_pos h, if_pos (by simp; omega), Nat.mul_one]
    · rw [if_neg h, if_neg (by simp; omega), Nat.mul_zero]
  rw [e1, sm_swap]
  refine sm_cong (fun e he => ?_)
  refine sm_rng w ?_ (by omega)
  rcases Nat.eq_zero_or_pos e with g | g
  · subst g; exact Nat.le_refl _
  · exact Nat.le_of_lt (ag_lt g)
theorem w_unlikeOf {t : Nat → Nat} {n : Nat} {r : RSt} (hT : Txt t n r) {size up : Nat} (h1 : 1 ≤ size) (hs : size < 2 ^ 30) (hu : up ≤ n) {Q : Int32 → Prop} (hq : Q (nI (uo t size up))) : wpX7_unlikeOf r (nI size) (nI up) Q := by
  have hn := hT.1
  unfold wpX7_unlikeOf
  intro X5 X17 X54 X65 h5 h17 h54 h65
  obtain ⟨p, hp⟩ : ∃ p : Nat → Bool, p = fun e => decide (size ≤ e ∧ ag t e < size) := ⟨_, rfl⟩
  have huo : uo t size up = ct p (up + 1) := by rw [hp]; rfl
  rw [huo] at hq
  have start : nI (ct p size) = 0 := by
    rw [ct_0 (fun b hb => by rw [hp]; simp; omega)]; rfl
  rcases Nat.lt_or_ge up size with g | g
  · refine h5 _ _ (br_t (nI_lt g (by omega)) ?_)
    rw [show ct p (up + 1) = 0 from ct_0 (fun b hb => by rw [hp]; simp; omega)] at hq
    exact hq
  · have loop : ∀ d e, e + d = up + 1 → size ≤ e → X5 (nI (ct p e)) (nI e) := by
      intro d
      induction d with
      | zero =>
        intro e he _
        have he : e = up + 1 := by omega
        subst he
        exact h5 _ _ (br_t (nI_lt (Nat.lt_succ_self _) (by omega)) hq)
      | succ d ih =>
        intro e he hse
        have hx := ih (e + 1) (by omega) (by omega)
        rw [ct_s] at hx
        refine h5 _ _ (br_f (nI_nlt (by omega) (by omega)) ?_)
        have no : size ≤ ag t e → X54 (nI (ct p e)) (nI e) 0 := fun hno => by
          refine h54 _ _ _ (br_t rfl (h65 _ _ _ ?_))
          rw [show nI (ct p e) + 0 = nI (ct p e) from by rw [show (0 : Int32) = nI 0 from rfl, nI_add]; rfl, nI_1]
          rw [if_neg (by rw [hp]; simp; omega)] at hx
          exact hx
        have yes : ag t e < size → X54 (nI (ct p e)) (nI e) 1 := fun hy => by
          refine h54 _ _ _ (br_f (by decide) (h65 _ _ _ ?_))
          rw [nI_1, nI_1]
          rw [if_pos (by rw [hp]; simp; omega)] at hx
          exact hx
        have inner : ∀ d b, b + d = e → size ≤ b → (∀ b', b' < b → ¬ size ≤ al t e b') → X17 (nI (ct p e)) (nI e) 1 (nI b) := by
          intro d
          induction d with
          | zero =>
            intro b hb _ hall
            have hb : b = e := by omega
            subst hb
            refine h17 _ _ _ _ (br_t (nI_le (Nat.le_refl _) (by omega)) (yes ?_))
            rcases Nat.lt_or_ge (ag t b) size with q | q
            · exact q
            · obtain ⟨b', c1, c2⟩ := ag_ex (t := t) (e := b) (m := size - 1) (by omega)
              exact absurd (by omega) (hall b' c1)
          | succ d ih2 =>
            intro b hb hsb hall
            refine h17 _ _ _ _ (br_f (nI_ge (by omega) (by omega)) (br_f (by decide) (w_alikeAt hT (by omega) (by omega) ?_)))
            rw [nI_1]
            have := al_le t e b
            refine pk_le size (al t e b) (fun q => ?_) (fun q => ?_) rfl rfl (by omega) (by omega)
            · have hno := no (Nat.le_trans q (ag_ge (by omega)))
              exact h17 _ _ _ _ ⟨fun _ => hno, fun _ => ⟨fun _ => hno, fun q => absurd rfl q⟩⟩
            · exact ih2 (b + 1) (by omega) (by omega) (fun b' hb' => by
                rcases Nat.lt_or_ge b' b with c | c
                · exact hall b' c
                · rw [show b' = b by omega]; omega)
        exact inner (e - size) size (by omega) (Nat.le_refl _) (fun b' hb' h => by have := al_le' t e b'; omega)
    have := loop (up + 1 - size) size (by omega) (Nat.le_refl _)
    rw [start] at this
    exact this
section COUNT
variable {t : Nat → Nat} {n K : Nat} {u : MSt} {r : RSt}
theorem c_again (hB : Base t n K) (hC : ClInv t n K u) {e : Nat} (h0 : 0 < e) (he : e ≤ n) : fX2_againAt u (nI e) = nI (ag t e) := by
  have := hB.1
  unfold fX2_againAt
  rw [kAt_nI (by omega)]
  exact hC.1.2.2.2.2.2.1.2 e h0 he
theorem w_unlikeUpTo (hB : Base t n K) (hC : ClInv t n K u) {w : WSt} {up : Nat} (hu : up ≤ n) {Q : Int32 → Prop} (hq : Q (nI (sm (fun e => e - ag t e) (up + 1)))) : wpX5_unlikeUpTo w u (nI up) Q := by
  have hn := hB.1
  unfold wpX5_unlikeUpTo
  intro X h
  have loop : ∀ d e, e + d = up + 1 → 1 ≤ e → X (nI (sm (fun e => e - ag t e) e)) (nI e) := by
    intro d
    induction d with
    | zero =>
      intro e he _
      have he : e = up + 1 := by omega
      subst he
      exact h _ _ (br_t (nI_lt (Nat.lt_succ_self _) (by omega)) hq)
    | succ d ih =>
      intro e he h1
      refine h _ _ (br_f (nI_nlt (by omega) (by omega)) ?_)
      rw [c_again hB hC (by omega) (by omega), pk_sub (Nat.le_of_lt (ag_lt (by omega))), nI_add, nI_1]
      exact ih (e + 1) (by omega) (by omega)
  exact loop up 1 (by omega) (Nat.le_refl _)
theorem w_unlike (hB : Base t n K) (hR : RfInv t n K r) {up : Nat} (hu : up ≤ n) {Q : Int32 → Prop} (hq : Q (nI (sm (fun e => e - ag t e) (up + 1)))) : wpX7_unlike r (nI up) Q := by
  have hn := hB.1
  unfold wpX7_unlike
  intro X h
  rw [hR_n hR]
  refine in_br (fun q => absurd q (nI_pos (by omega))) (fun _ q => absurd q (nI_nlt hu (by omega))) (fun _ _ => ?_)
  have key := uo_sum t (fun _ => 1) up
  have one : ∀ k, sm (fun _ => 1) k = k := by
    intro k
    induction k with
    | zero => rfl
    | succ k ih => rw [sm_s, ih]
  simp only [one, Nat.one_mul] at key
  rw [← key] at hq
  have loop : ∀ d i, i + d = up → X (nI (sm (fun i => uo t (i + 1) up) i)) (nI (i + 1)) := by
    intro d
    induction d with
    | zero =>
      intro i hi
      have hi : i = up := by omega
      subst hi
      exact h _ _ (br_t (nI_lt (Nat.lt_succ_self _) (by omega)) hq)
    | succ d ih =>
      intro i hi
      refine h _ _ (br_f (nI_nlt (by omega) (by omega)) (w_unlikeOf (r_txt hB hR) (by omega) (by omega) hu ?_))
      rw [nI_add, nI_1]
      exact ih (i + 1) (by omega)
  exact loop up 0 (Nat.zero_add _)
theorem sumUpTo_ok : ∀ e, e < 62 → fX5_sumUpTo (nI e) = nI (sm (fun i => i + 1) e) := by decide
theorem w_lengthsTogether (hB : Base t n K) (hC : ClInv t n K u) {w : WSt} {Q : Int32 → Prop} (hq : Q (nI (sm (fun e => sm (fun i => i + 1) e - sm (fun i => i + 1) (ag t e)) (n + 1)))) : wpX5_lengthsTogether w u Q := by
  have hn := hB.1
  unfold wpX5_lengthsTogether
  intro X h
  rw [hC_len hC] at h
  have loop : ∀ d e, e + d = n + 1 → 1 ≤ e → X (nI (sm (fun e => sm (fun i => i + 1) e - sm (fun i => i + 1) (ag t e)) e)) (nI e) := by
    intro d
    induction d with
    | zero =>
      intro e he _
      have he : e = n + 1 := by omega
      subst he
      exact h _ _ (br_t (nI_lt (Nat.lt_succ_self _) (by omega)) hq)
    | succ d ih =>
      intro e he h1
      refine h _ _ (br_f (nI_nlt (by omega) (by omega)) ?_)
      have hag : ag t e < e := ag_lt (by omega)
      rw [c_again hB hC (by omega) (by omega), sumUpTo_ok e (by omega), sumUpTo_ok _ (by omega), pk_sub (sm_mono _ (Nat.le_of_lt hag)), nI_add, nI_1]
      exact ih (e + 1) (by omega) (by omega)
  exact loop n 1 (by omega) (Nat.le_refl _)
theorem w_lengths (hB : Base t n K) (hR : RfInv t n K r) {Q : Int32 → Prop} (hq : Q (nI (sm (fun e => sm (fun i => i + 1) e - sm (fun i => i + 1) (ag t e)) (n + 1)))) : wpX7_lengths r Q := by
  have hn := hB.1
  unfold wpX7_lengths
  intro X h
  rw [hR_n hR] at h
  rw [← uo_sum] at hq
  have loop : ∀ d i, i + d = n → X (nI (sm (fun i => (i + 1) * uo t (i + 1) n) i)) (nI (i + 1)) := by
    intro d
    induction d with
    | zero =>
      intro i hi
      have hi : i = n := by omega
      subst hi
      exact h _ _ (br_t (nI_lt (Nat.lt_succ_self _) (by omega)) hq)
    | succ d ih =>
      intro i hi
      refine h _ _ (br_f (nI_nlt (by omega) (by omega)) (w_unlikeOf (r_txt hB hR) (by omega) (by omega) (Nat.le_refl _) ?_))
      rw [pk_mul, nI_add, nI_1]
      exact ih (i + 1) (by omega)
  exact loop n 0 (Nat.zero_add _)
end COUNT
theorem LS23_ok : LS23 Rel := by
  rintro ⟨uM, uW, sh, im⟩ r x1 ⟨t, n, K, hB, hC, hR, hS, hI⟩
  have hC : ClInv t n K uM := hC
  have hrel : Rel (uM, uW, sh, im) r := ⟨t, n, K, hB, hC, hR, hS, hI⟩
  have hn := hB.1
  have bad : (x1 < 0 ∨ ¬ x1 ≤ nI n) → wpX7_unlike r x1 (fun b => -1 = b ∧ Rel (uM, uW, sh, im) r) := fun h => by
    unfold wpX7_unlike
    intro X hX
    rw [hR_n hR]
    refine in_br (fun _ => ⟨rfl, hrel⟩) (fun _ _ => ⟨rfl, hrel⟩) (fun g1 g2 => ?_)
    rcases h with h | h
    · exact absurd h g1
    · exact absurd (Int32.not_lt.mp g2) h
  unfold wpX6_unlike
  refine ⟨fun h => bad (Or.inl h), fun h0 => ?_⟩
  rw [show gM_length (uM, uW, sh, im).1 = nI n from hC_len hC]
  refine ⟨fun h1 => ?_, fun h => bad (Or.inr h)⟩
  obtain ⟨k, hk, rfl⟩ := nI_of h0
  have k1 : k ≤ n := by
    rcases Nat.lt_or_ge n k with g | g
    · exact absurd h1 (nI_ge g hk)
    · exact g
  exact w_unlikeUpTo hB hC k1 (w_unlike hB hR k1 ⟨rfl, hrel⟩)
theorem LS22_ok : LS22 Rel := by
  rintro ⟨uM, uW, sh, im⟩ r x1 ⟨t, n, K, hB, hC, hR, hS, hI⟩
  have hC : ClInv t n K uM := hC
  have hrel : Rel (uM, uW, sh, im) r := ⟨t, n, K, hB, hC, hR, hS, hI⟩
  have hn := hB.1
  have bad : (x1 < 1 ∨ ¬ x1 ≤ 60) → wpX7_twice r x1 (fun b => -1 = b ∧ Rel (uM, uW, sh, im) r) := fun h => by
    unfold wpX7_twice
    intro X hX
    refine in_br (fun _ => ⟨rfl, hrel⟩) (fun _ _ => ⟨rfl, hrel⟩) (fun g1 g2 => ?_)
    rcases h with h | h
    · exact absurd h g1
    · exact absurd (Int32.not_lt.mp g2) h
  unfold wpX6_twice
  refine ⟨fun h => bad (Or.inl h), fun h0 => ⟨fun h1 => ?_, fun h => bad (Or.inr h)⟩⟩
  obtain ⟨k, k1, k2, rfl⟩ := i32_1 h0
  have k60 : k ≤ 60 := by
    rcases Nat.lt_or_ge 60 k with g | g
    · exact absurd h1 (nI_ge (a := 60) g k2)
    · exact g
  have ref : ∀ a : Int32, (∀ e, k < e → e ≤ n → k ≤ ag t e → (∀ j, k < j → j < e → ag t j < k) → a = nI e) → ((∀ j, k < j → j ≤ n → ag t j < k) → a = -4) → wpX7_twice r (nI k) (fun b => a = b ∧ Rel (uM, uW, sh, im) r) := fun a ha hb => by
    unfold wpX7_twice
    intro X hX
    rw [hR_n hR] at hX
    refine in_br (fun g => absurd g h0) (fun _ g => absurd h1 (Int32.not_le.mpr g)) (fun _ _ => ?_)
    have loop : ∀ d e, (e + d = n + 1 ∨ n < e ∧ e ≤ 61) → k < e → (∀ j, k < j → j < e → j ≤ n → ag t j < k) → X (nI e) := by
      intro d
      induction d with
      | zero =>
        intro e he _ hall
        exact hX _ (br_t (nI_lt (by omega) (by omega)) ⟨hb (fun j j1 j2 => hall j j1 (by omega) j2), hrel⟩)
      | succ d ih =>
        intro e he hke hall
        refine hX _ (pk_lt n e (fun q => ⟨hb (fun j j1 j2 => hall j j1 (by omega) j2), hrel⟩) (fun q => w_againAt (r_txt hB hR) q ?_) rfl rfl (by omega) (by omega))
        have hag : ag t e < e := ag_lt (by omega)
        refine pk_lt (ag t e) k (fun q2 => ?_) (fun q2 => ⟨ha e hke q q2 (fun j j1 j2 => hall j j1 j2 (by omega)), hrel⟩) rfl rfl (by omega) (by omega)
        rw [nI_1]
        exact ih (e + 1) (by omega) (by omega) (fun j j1 j2 j3 => by
          rcases Nat.lt_or_ge j e with c | c
          · exact hall j j1 c j3
          · rw [show j = e by omega]; exact q2)
    rw [nI_1]
    exact loop (n - k) (k + 1) (by omega) (by omega) (fun j j1 j2 => by omega)
  unfold wpX5_firstTwice
  intro X hX
  rw [show gM_length (uM, uW, sh, im).1 = nI n from hC_len hC] at hX
  have loop : ∀ d e, e + d = n + 1 → 1 ≤ e → (∀ j, 1 ≤ j → j < e → ag t j < k) → X (nI e) := by
    intro d
    induction d with
    | zero =>
      intro e he _ hall
      refine hX _ (br_t (nI_lt (by omega) (by omega)) (ref _ (fun e' c1 c2 c3 _ => ?_) (fun _ => rfl)))
      have := hall e' (by omega) (by omega)
      omega
    | succ d ih =>
      intro e he he1 hall
      refine hX _ (br_f (nI_nlt (by omega) (by omega)) ?_)
      rw [show fX2_againAt (uM, uW, sh, im).1 (nI e) = nI (ag t e) from c_again hB hC (by omega) (by omega)]
      have hag : ag t e < e := ag_lt (by omega)
      refine pk_lt (ag t e) k (fun q2 => ?_) (fun q2 => ref _ (fun e' c1 c2 c3 c4 => ?_) (fun c => ?_)) rfl rfl (by omega) (by omega)
      · rw [nI_1]
        exact ih (e + 1) (by omega) (by omega) (fun j j1 j2 => by
          rcases Nat.lt_or_ge j e with c | c
          · exact hall j j1 c
          · rw [show j = e by omega]; exact q2)
      · rcases Nat.lt_or_ge e' e with c | c
        · have := hall e' (by omega) c
          omega
        · rcases Nat.lt_or_ge e e' with c' | c'
          · have := c4 e (by omega) c'
            omega
          · rw [show e = e' by omega]
      · have := c e (by omega) (by omega)
        omega
  exact loop n 1 (by omega) (Nat.le_refl _) (fun j j1 j2 => by omega)
