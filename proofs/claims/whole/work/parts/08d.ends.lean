/-! the functions on ends, of the class and of the reference, as functions of the set -/
theorem firstOf_sv {p : Nat → Bool} {l : Nat} (hl : l < 61) (h1 : p l = true) (h2 : ∀ j, j < l → p j = false) : fX0_firstOf (sv p) = nI l := by
  unfold fX0_firstOf
  rw [sv_low hl h1 h2, bitCount_sv]
  congr 1
  have : ∀ k, ct (fun b => decide (b < l)) k = min k l := by
    intro k
    induction k with
    | zero => simp [ct]
    | succ k ih =>
      rw [ct_s, ih]
      by_cases h : k < l
      · simp [h]; omega
      · simp [h]; omega
  rw [this]; omega
theorem without_sv {p : Nat → Bool} {l : Nat} (hl : l < 61) (h1 : p l = true) (h2 : ∀ j, j < l → p j = false) : fX0_withoutFirst (sv p) = sv (fun b => p b && !decide (b = l)) := sv_without hl h1 h2
/-- a set without its first i -/
def fr (p : Nat → Bool) (i : Nat) : Nat → Bool := fun b => p b && decide (i ≤ ct p b)
theorem fr_0 (p : Nat → Bool) : sv (fr p 0) = sv p := sv_ext (fun b _ => by simp [fr])
theorem fr_low {p : Nat → Bool} {i e : Nat} (hp : p e = true) (he : ct p e = i) : fr p i e = true ∧ ∀ j, j < e → fr p i j = false := by
  refine ⟨by simp [fr, hp, he], fun j hj => ?_⟩
  unfold fr
  by_cases h : p j = true
  · have := ct_lt hj h
    simp [h]; omega
  · simp [show p j = false by simpa using h]
theorem fr_first {p : Nat → Bool} {i e : Nat} (h61 : e < 61) (hp : p e = true) (he : ct p e = i) : fX0_firstOf (sv (fr p i)) = nI e := firstOf_sv h61 (fr_low hp he).1 (fr_low hp he).2
theorem fr_next {p : Nat → Bool} {i e : Nat} (h61 : e < 61) (hp : p e = true) (he : ct p e = i) : fX0_withoutFirst (sv (fr p i)) = sv (fr p (i + 1)) := by
  rw [without_sv h61 (fr_low hp he).1 (fr_low hp he).2]
  refine sv_ext (fun b _ => ?_)
  unfold fr
  by_cases h : p b = true
  · by_cases hb : b = e
    · subst hb; simp [h, he]
    · have : ct p b ≠ i := fun h2 => hb (ct_inj h hp (h2.trans he.symm))
      simp [h, hb]
      by_cases h3 : i ≤ ct p b
      · simp [h3]; omega
      · simp [h3]; omega
  · simp [show p b = false by simpa using h]
theorem nI_inj {a b : Nat} (ha : a < 2 ^ 31) (hb : b < 2 ^ 31) (h : nI a = nI b) : a = b := (nI_eq ha hb).mp h
/-- Ends.kthOf -/
theorem w_kthOf {p : Nat → Bool} {k : Nat} (hk : k < 2 ^ 31) {Q : Int32 → Prop} (hn : ct p 61 ≤ k → Q (-4)) (hy : ∀ e, e < 61 → p e = true → ct p e = k → Q (nI e)) : wpX0_kthOf (sv p) (nI k) Q := by
  unfold wpX0_kthOf
  intro X h
  refine br_f (nI_pos hk) ?_
  have hc := ct_le p 61
  rw [bitCount_sv]
  refine pk_lt k (ct p 61) (fun hlt => ?_) (fun hge => hn hge)
  obtain ⟨e, he1, he2, he3⟩ := ct_ex hlt
  have loop : ∀ d i, i + d = k → X (sv (fr p i)) (nI i) := by
    intro d
    induction d with
    | zero =>
      intro i hi
      have hi : i = k := by omega
      subst hi
      refine h _ _ (br_t (nI_le (Nat.le_refl _) hk) ?_)
      rw [fr_first he1 he2 he3]
      exact hy e he1 he2 he3
    | succ d ih =>
      intro i hi
      obtain ⟨e', h1, h2, h3⟩ := ct_ex (p := p) (k := 61) (i := i) (by omega)
      refine h _ _ (br_f (nI_ge (by omega) hk) ?_)
      rw [fr_next h1 h2 h3, nI_1]
      exact ih (i + 1) (by omega)
  have := loop k 0 (by omega)
  rw [fr_0] at this
  exact this
theorem w_kthOf_neg {p : Nat → Bool} {k : Int32} (hk : k < 0) {Q : Int32 → Prop} (hn : Q (-4)) : wpX0_kthOf (sv p) k Q := by
  unfold wpX0_kthOf
  intro X h
  exact br_t hk hn
/-- the greatest difference of neighbours among the first k places; where the last one was, and one -/
def gs (p : Nat → Bool) : Nat → Nat × Nat
  | 0 => (0, 0)
  | k + 1 => if p k then (if (gs p k).2 = 0 then (0, k + 1) else (max (gs p k).1 (k + 1 - (gs p k).2), k + 1)) else gs p k
theorem gs_s (p : Nat → Bool) (k : Nat) : gs p (k + 1) = if p k then (if (gs p k).2 = 0 then (0, k + 1) else (max (gs p k).1 (k + 1 - (gs p k).2), k + 1)) else gs p k := rfl
theorem gs_skip {p : Nat → Bool} {a : Nat} : ∀ {d : Nat}, (∀ j, a ≤ j → j < a + d → p j = false) → gs p (a + d) = gs p a := by
  intro d
  induction d with
  | zero => intro _; rfl
  | succ d ih =>
    intro h
    rw [← Nat.add_assoc, gs_s, h (a + d) (by omega) (by omega), ih (fun j h1 h2 => h j h1 (by omega))]
    rfl
theorem gs_le (p : Nat → Bool) : ∀ k, (gs p k).1 ≤ k ∧ (gs p k).2 ≤ k := by
  intro k
  induction k with
  | zero => exact ⟨Nat.le_refl _, Nat.le_refl _⟩
  | succ k ih =>
    rw [gs_s]
    split
    · split
      · exact ⟨by simp, by simp⟩
      · constructor <;> simp <;> omega
    · omega
theorem gs_none {p : Nat → Bool} : ∀ {k}, (gs p k).2 = 0 → (gs p k).1 = 0 := by
  intro k
  induction k with
  | zero => intro _; rfl
  | succ k ih =>
    rw [gs_s]
    split
    · split
      · intro h; simp at h
      · intro h; simp at h
    · exact ih
theorem gs_last {p : Nat → Bool} {k e : Nat} (hp : p e = true) (he : e < k) (h : ∀ j, e < j → j < k → p j = false) : (gs p k).2 = e + 1 := by
  obtain ⟨d, rfl⟩ : ∃ d, k = e + 1 + d := ⟨k - (e + 1), by omega⟩
  rw [gs_skip (fun j h1 h2 => h j (by omega) h2), gs_s, if_pos hp]
  split <;> rfl
/-- between the ends number i and i + 1 there is none -/
theorem ct_gap {p : Nat → Bool} {a b i : Nat} (ha : p a = true) (ea : ct p a = i) (eb : ct p b = i + 1) : ∀ j, a < j → j < b → p j = false := by
  intro j h1 h2
  by_cases h : p j = true
  · have x1 := ct_lt h1 ha
    have x2 := ct_lt h2 h
    omega
  · simpa using h
theorem w_widestGap {p : Nat → Bool} {Q : Int32 → Prop} (hq : Q (nI (gs p 61).1)) : wpX0_widestGap (sv p) Q := by
  unfold wpX0_widestGap
  intro X h
  rw [bitCount_sv]
  have hc := ct_le p 61
  rcases Nat.lt_or_ge 0 (ct p 61) with hpos | hz
  · have loop : ∀ d i e, i + d = ct p 61 → 1 ≤ i → e < 61 → p e = true → ct p e + 1 = i → X (nI (ct p 61)) (sv (fr p (i - 1))) (nI (gs p (e + 1)).1) (nI i) := by
      intro d
      induction d with
      | zero =>
        intro i e hi h1 he hp hce
        have hi : i = ct p 61 := by omega
        refine h _ _ _ _ (br_t (by rw [hi]; exact nI_le (Nat.le_refl _) (by omega)) ?_)
        have hs : gs p 61 = gs p (e + 1) := by
          obtain ⟨d, hd⟩ : ∃ d, 61 = e + 1 + d := ⟨61 - (e + 1), by omega⟩
          rw [hd]
          refine gs_skip (fun j h1 h2 => ?_)
          by_cases h3 : p j = true
          · have x1 := ct_lt (show e < j by omega) hp
            have x2 := ct_lt (show j < 61 by omega) h3
            omega
          · simpa using h3
        rw [← hs]
        exact hq
      | succ d ih =>
        intro i e hi h1 he hp hce
        refine h _ _ _ _ (br_f (nI_ge (by omega) (by omega)) ?_)
        obtain ⟨e', h1', h2', h3'⟩ := ct_ex (p := p) (k := 61) (i := i) (by omega)
        have hei : ct p e = i - 1 := by omega
        have hee : e < e' := by
          rcases Nat.lt_or_ge e e' with q | q
          · exact q
          · have := ct_mono p q; omega
        rw [fr_next he hp hei, fr_first he hp hei, show i - 1 + 1 = i by omega, fr_first h1' h2' h3', pk_sub (by omega), nI_1]
        have hg : (gs p e') = gs p (e + 1) := by
          obtain ⟨d, rfl⟩ : ∃ d, e' = e + 1 + d := ⟨e' - (e + 1), by omega⟩
          exact gs_skip (fun j q1 q2 => ct_gap hp hei (by omega) j (by omega) q2)
        have hl2 : (gs p e').2 = e + 1 := gs_last hp hee (fun j q1 q2 => ct_gap hp hei (by omega) j q1 q2)
        have hm : (gs p (e' + 1)).1 = max (gs p (e + 1)).1 (e' - e) := by
          rw [gs_s, if_pos h2', if_neg (by omega), hl2, hg]
          simp
        have := ih (i + 1) e' (by omega) (by omega) h1' h2' (by omega)
        rw [hm, show i + 1 - 1 = i by omega] at this
        have hb := gs_le p (e + 1)
        by_cases hlt : (gs p (e + 1)).1 < e' - e
        · rw [if_pos (nI_lt hlt (by omega))]
          rw [show max (gs p (e + 1)).1 (e' - e) = e' - e by omega] at this
          exact this
        · rw [if_neg (nI_nlt (by omega) (by omega))]
          rw [show max (gs p (e + 1)).1 (e' - e) = (gs p (e + 1)).1 by omega] at this
          exact this
    obtain ⟨e, h1, h2, h3⟩ := ct_ex hpos
    have := loop (ct p 61 - 1) 1 e (by omega) (Nat.le_refl _) h1 h2 (by omega)
    rw [show 1 - 1 = 0 by omega, fr_0] at this
    have hz : (gs p (e + 1)).1 = 0 := by
      have h0 : gs p e = (0, 0) := by
        have : gs p (0 + e) = gs p 0 := gs_skip (fun j _ q2 => by
          by_cases h3' : p j = true
          · have x1 := ct_lt (show j < e by omega) h3'
            omega
          · simpa using h3')
        rw [Nat.zero_add] at this
        exact this
      rw [gs_s, if_pos h2, h0]
      rfl
    rw [hz] at this
    exact this
  · have hall : ∀ b, b < 61 → p b = false := fun b hb => by
      by_cases h3 : p b = true
      · have := ct_lt hb h3; omega
      · simpa using h3
    have h0 : gs p 61 = (0, 0) := by
      have : gs p (0 + 61) = gs p 0 := gs_skip (fun j _ q2 => hall j (by omega))
      exact this
    rw [show ct p 61 = 0 by omega]
    refine h _ _ _ _ (br_t (by decide) ?_)
    rw [h0] at hq
    exact hq
/-- the reference's bits -/
theorem w_bits {p : Nat → Bool} {Q : Int32 → Prop} (hq : Q (nI (ct p 61))) : wpX7_bits (sv p) Q := by
  unfold wpX7_bits
  intro X h
  have hc := ct_le p 61
  have loop : ∀ d i, i + d = ct p 61 → X (nI i) (sv (fr p i)) := by
    intro d
    induction d with
    | zero =>
      intro i hi
      refine h _ _ (br_t ?_ (by rw [show i = ct p 61 by omega]; exact hq))
      rw [sv_0]
      intro b hb
      unfold fr
      by_cases hp : p b = true
      · have := ct_lt hb hp
        simp [hp]; omega
      · simp [show p b = false by simpa using hp]
    | succ d ih =>
      intro i hi
      obtain ⟨e, h1, h2, h3⟩ := ct_ex (p := p) (k := 61) (i := i) (by omega)
      refine h _ _ (br_f ?_ ?_)
      · intro h0
        have := sv_0.mp h0 e h1
        rw [(fr_low h2 h3).1] at this
        cases this
      · have hn : sv (fr p i) &&& (sv (fr p i) - 1) = sv (fr p (i + 1)) := fr_next h1 h2 h3
        rw [hn, nI_1]
        exact ih (i + 1) (by omega)
  have := loop (ct p 61) 0 (by omega)
  rw [fr_0] at this
  exact this
theorem has0 (p : Nat → Bool) {k : Nat} (hk : k < 61) {A B : Prop} (h1 : p k = false → A) (h2 : p k = true → B) : (fX7_has (sv p) (nI k) = 0 → A) ∧ (¬ fX7_has (sv p) (nI k) = 0 → B) := by
  rw [sv_has p hk]
  by_cases h : p k = true
  · rw [if_pos h]
    exact ⟨fun q => absurd q (by decide), fun _ => h2 h⟩
  · rw [if_neg h]
    exact ⟨fun _ => h1 (by simpa using h), fun q => absurd rfl q⟩
theorem w_least {p : Nat → Bool} {l : Nat} (hl : l < 61) (h1 : p l = true) (h2 : ∀ j, j < l → p j = false) {Q : Int32 → Prop} (hq : Q (nI l)) : wpX7_least (sv p) Q := by
  unfold wpX7_least
  intro X h
  have loop : ∀ d i, i + d = l → X (nI i) := by
    intro d
    induction d with
    | zero =>
      intro i hi
      have hi : i = l := by omega
      subst hi
      exact h _ (has0 p hl (fun q => absurd (q.symm.trans h1) (by decide)) (fun _ => hq))
    | succ d ih =>
      intro i hi
      refine h _ (has0 p (by omega) (fun _ => ?_) (fun q => absurd (q.symm.trans (h2 i (by omega))) (by decide)))
      rw [nI_1]
      exact ih (i + 1) (by omega)
  exact loop l 0 (by omega)
theorem w_greatest {p : Nat → Bool} {l : Nat} (hl : l < 61) (h1 : p l = true) (h2 : ∀ j, l < j → j < 61 → p j = false) {Q : Int32 → Prop} (hq : Q (nI l)) : wpX7_greatest (sv p) Q := by
  unfold wpX7_greatest
  intro X h
  have loop : ∀ d, l + d < 61 → X (nI (l + d)) := by
    intro d
    induction d with
    | zero =>
      intro _
      exact h _ (has0 p hl (fun q => absurd (q.symm.trans h1) (by decide)) (fun _ => hq))
    | succ d ih =>
      intro hd
      refine h _ (has0 p (by omega) (fun _ => ?_) (fun q => absurd (q.symm.trans (h2 _ (by omega) (by omega))) (by decide)))
      rw [← Nat.add_assoc, pk_m1]
      exact ih (by omega)
  have := loop (60 - l) (by omega)
  rw [show l + (60 - l) = 60 by omega] at this
  exact this
theorem w_kthEnd {p : Nat → Bool} {k : Nat} (hk : k < 2 ^ 31) {Q : Int32 → Prop} (hn : ct p 61 ≤ k → Q (-4)) (hy : ∀ e, e < 61 → p e = true → ct p e = k → Q (nI e)) : wpX7_kthEnd (sv p) (nI k) Q := by
  unfold wpX7_kthEnd
  intro X h
  have loop : ∀ d e, e + d = 61 → ct p e ≤ k → X (nI (k - ct p e)) (nI e) := by
    intro d
    induction d with
    | zero =>
      intro e he hc
      have he : e = 61 := by omega
      subst he
      exact h _ _ (br_t (by decide) (hn hc))
    | succ d ih =>
      intro e he hc
      refine h _ _ (br_f (nI_nlt (b := e) (a := 60) (by omega) (by decide)) ?_)
      have hs := ct_s p e
      refine has0 p (by omega) (fun h0 => ?_) (fun h0 => ?_)
      · rw [h0] at hs
        have := ih (e + 1) (by omega) (by rw [hs]; simpa using hc)
        rw [hs] at this
        rw [nI_1]
        simpa using this
      · rw [if_pos h0] at hs
        rcases Nat.lt_or_ge (ct p e) k with h3 | h3
        · refine br_f (nI_ne0 (by omega) (by omega)) ?_
          have := ih (e + 1) (by omega) (by omega)
          rw [hs] at this
          rw [nI_1, show k - ct p e = (k - (ct p e + 1)) + 1 by omega, pk_m1]
          exact this
        · refine br_t (by rw [show k - ct p e = 0 by omega]; rfl) (hy e (by omega) h0 (by omega))
  exact loop 61 0 (by omega) (Nat.zero_le _)
theorem w_gapOf {p : Nat → Bool} {Q : Int32 → Prop} (hq : Q (if (gs p 61).1 = 0 then -4 else nI (gs p 61).1)) : wpX7_gapOf (sv p) Q := by
  unfold wpX7_gapOf
  intro X9 X46 X47 h9 h46 h47
  have loop : ∀ d e, e + d = 61 → X9 (if (gs p e).2 = 0 then -4 else nI ((gs p e).2 - 1)) (if (gs p e).1 = 0 then -4 else nI (gs p e).1) (nI e) := by
    intro d
    induction d with
    | zero =>
      intro e he
      have he : e = 61 := by omega
      subst he
      exact h9 _ _ _ (br_t (by decide) hq)
    | succ d ih =>
      intro e he
      have := ih (e + 1) (by omega)
      have hb := gs_le p e
      refine h9 _ _ _ (br_f (nI_nlt (b := e) (a := 60) (by omega) (by decide)) ?_)
      rw [gs_s] at this
      refine has0 p (by omega) (fun h0 => ?_) (fun h0 => ?_)
      · rw [h0] at this
        rw [nI_1]
        exact this
      · rw [if_pos h0] at this
        by_cases hz : (gs p e).2 = 0
        · rw [if_pos hz] at this
          rw [if_pos hz]
          refine br_t rfl ?_
          refine h46 _ _ (h47 _ _ ?_)
          rw [nI_1, gs_none hz]
          simpa using this
        · rw [if_neg hz] at this
          rw [if_neg hz]
          refine br_f (fun q => ?_) ?_
          · have := nI_pos (n := (gs p e).2 - 1) (by omega)
            rw [q] at this
            exact this (by decide)
          · simp only [Nat.add_one_ne_zero, if_false, Nat.add_sub_cancel] at this
            rw [pk_sub (by omega), show e - ((gs p e).2 - 1) = e + 1 - (gs p e).2 by omega]
            have hne : ¬ max (gs p e).1 (e + 1 - (gs p e).2) = 0 := by omega
            rw [if_neg hne] at this
            by_cases h1 : (gs p e).1 = 0
            · rw [if_pos h1]
              refine br_f (fun q => ?_) ?_
              · have : ¬ (-4 : Int32) < nI 0 → False := fun z => z (by decide)
                have h5 : (0 : Int32) ≤ nI (e + 1 - (gs p e).2) := nI_pos' (by omega)
                exact absurd (Int32.le_trans h5 q) (by decide)
              · refine h47 _ _ ?_
                rw [nI_1]
                rw [h1, show max 0 (e + 1 - (gs p e).2) = e + 1 - (gs p e).2 by omega] at this
                exact this
            · rw [if_neg h1]
              refine pk_le (e + 1 - (gs p e).2) (gs p e).1 (fun h2 => ?_) (fun h2 => ?_)
              · refine h46 _ _ (h47 _ _ ?_)
                rw [nI_1]
                rw [show max (gs p e).1 (e + 1 - (gs p e).2) = (gs p e).1 by omega] at this
                exact this
              · refine h47 _ _ ?_
                rw [nI_1]
                rw [show max (gs p e).1 (e + 1 - (gs p e).2) = e + 1 - (gs p e).2 by omega] at this
                exact this
  exact loop 61 0 (by omega)
