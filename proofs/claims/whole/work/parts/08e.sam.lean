/-! the states of a text, by their longest words (len) and one of their ends (fe): what holds of them, and what a letter does -/
def SInv (t : Nat → Nat) (n S : Nat) (len fe : Nat → Nat) : Prop :=
  (0 < S ∧ len 0 = 0 ∧ S ≤ 2 * n + 1) ∧
  (∀ s, s < S → len s ≤ fe s ∧ fe s ≤ n) ∧
  (∀ s s', s < S → s' < S → (∀ b, b ≤ n → (len s ≤ al t (fe s) b ↔ len s' ≤ al t (fe s') b)) → s = s') ∧
  (∀ e m, m ≤ e → e ≤ n → ∃ s, s < S ∧ m ≤ len s ∧ m ≤ al t e (fe s) ∧ ∀ b, b ≤ n → m ≤ al t e b → len s ≤ al t (fe s) b)
def isLk (t : Nat → Nat) (n : Nat) (len fe : Nat → Nat) (s p : Nat) : Prop := len p < len s ∧ len p ≤ al t (fe s) (fe p) ∧ ∀ b, b ≤ n → len p < al t (fe s) b → len s ≤ al t (fe s) b
def isMv (t : Nat → Nat) (n : Nat) (len fe : Nat → Nat) (s c u : Nat) : Prop := ∀ b, b ≤ n → (len u ≤ al t (fe u) b ↔ ∃ e, b = e + 1 ∧ t e = c ∧ len s ≤ al t (fe s) e)
def noMv (t : Nat → Nat) (n : Nat) (len fe : Nat → Nat) (s c : Nat) : Prop := ∀ e, e < n → t e = c → ¬ len s ≤ al t (fe s) e
section SAM
variable {t : Nat → Nat} {n S : Nat} {len fe : Nat → Nat}
theorem S_fe (h : SInv t n S len fe) {s : Nat} (hs : s < S) : len s ≤ al t (fe s) (fe s) := by rw [al_self]; exact (h.2.1 s hs).1
theorem S_uq (h : SInv t n S len fe) {s s' : Nat} (hs : s < S) (hs' : s' < S) (h1 : ∀ b, b ≤ n → len s ≤ al t (fe s) b → len s' ≤ al t (fe s') b) (h2 : ∀ b, b ≤ n → len s' ≤ al t (fe s') b → len s ≤ al t (fe s) b) : s = s' := h.2.2.1 s s' hs hs' (fun b hb => ⟨h1 b hb, h2 b hb⟩)
/-- the state of a word -/
theorem S_of (h : SInv t n S len fe) {e m : Nat} (hm : m ≤ e) (he : e ≤ n) : ∃ s, s < S ∧ m ≤ len s ∧ m ≤ al t e (fe s) ∧ ∀ b, b ≤ n → (len s ≤ al t (fe s) b ↔ m ≤ al t e b) := by
  obtain ⟨s, h1, h2, h3, h4⟩ := h.2.2.2 e m hm he
  exact ⟨s, h1, h2, h3, fun b hb => ⟨fun h5 => al_tri h3 (Nat.le_trans h2 h5), h4 b hb⟩⟩
/-- two states with a common end and words of the same length are one -/
theorem S_same (h : SInv t n S len fe) {s s' e : Nat} (hs : s < S) (hs' : s' < S) (hl : len s = len s') (h1 : len s ≤ al t (fe s) e) (h2 : len s' ≤ al t (fe s') e) : s = s' := by
  refine S_uq h hs hs' (fun b _ h3 => ?_) (fun b _ h3 => ?_)
  · rw [hl] at h1 h3
    exact al_tri h2 (al_tri (al_sym h1) h3)
  · rw [← hl] at h2 h3
    exact al_tri h1 (al_tri (al_sym h2) h3)
/-- no state lies between a state and its link, on the way of an end -/
theorem S_btw (h : SInv t n S len fe) {s p u e : Nat} (hs : s < S) (hu : u < S) (hk : isLk t n len fe s p) (h1 : len s ≤ al t (fe s) e) (h2 : len u ≤ al t (fe u) e) (hl : len u < len s) : len u ≤ len p := by
  rcases Nat.lt_or_ge (len p) (len u) with hc | hc
  · have h3 : len u ≤ al t (fe s) (fe u) := al_tri (Nat.le_trans (Nat.le_of_lt hl) h1) (al_sym h2)
    have : u = s := S_uq h hu hs (fun b hb h4 => hk.2.2 b hb (Nat.lt_of_lt_of_le hc (al_tri h3 h4))) (fun b hb h4 => al_tri (al_sym h3) (Nat.le_trans (Nat.le_of_lt hl) h4))
    rw [this] at hl
    omega
  · exact hc
/-- a state's link has all its ends -/
theorem lk_end {s p b : Nat} (hk : isLk t n len fe s p) (h1 : len s ≤ al t (fe s) b) : len p ≤ al t (fe p) b := al_tri (al_sym hk.2.1) (Nat.le_trans (Nat.le_of_lt hk.1) h1)
theorem S_zero (h : SInv t n S len fe) {s : Nat} (hs : s < S) (hl : len s = 0) : s = 0 := S_same h hs h.1.1 (by rw [hl, h.1.2.1]) (S_fe h hs) (by rw [h.1.2.1]; exact Nat.zero_le _)
/-- the state whose words are seen where others are not, when a letter comes -/
theorem S_q (h : SInv t n S len fe) : ∃ q, q < S ∧ ag t (n + 1) ≤ len q ∧ ∀ b, b ≤ n → (len q ≤ al t (fe q) b ↔ ag t (n + 1) ≤ al t (n + 1) b) := by
  obtain ⟨b0, h0, h1⟩ := ag_ex' (t := t) (e := n + 1) (by omega) (Nat.le_refl _)
  obtain ⟨q, h2, h3, h4, h5⟩ := S_of h (e := b0) (m := ag t (n + 1)) (Nat.le_trans h1 (al_le' t _ _)) (by omega)
  refine ⟨q, h2, h3, fun b hb => ?_⟩
  rw [h5 b hb]
  exact ⟨fun h6 => al_tri h1 h6, fun h6 => al_tri (al_sym h1) h6⟩
theorem q_in {q : Nat} (h : SInv t n S len fe) (hq : q < S) (hel : ∀ b, b ≤ n → (len q ≤ al t (fe q) b ↔ ag t (n + 1) ≤ al t (n + 1) b)) : ag t (n + 1) ≤ al t (n + 1) (fe q) := (hel _ (h.2.1 q hq).2).mp (S_fe h hq)
theorem S_split (h : SInv t n S len fe) {q : Nat} (hq : q < S) (hel : ∀ b, b ≤ n → (len q ≤ al t (fe q) b ↔ ag t (n + 1) ≤ al t (n + 1) b)) {s m : Nat} (hs : s < S) (h1 : m ≤ al t (fe s) (n + 1)) (h2 : ∀ b, b ≤ n → m ≤ al t (fe s) b → len s ≤ al t (fe s) b) (h3 : ¬ len s ≤ al t (fe s) (n + 1)) : s = q ∧ ag t (n + 1) < len s := by
  have hA := q_in h hq hel
  have hfs := (h.2.1 s hs).2
  have hm : m ≤ ag t (n + 1) := Nat.le_trans (al_sym h1) (ag_ge (by omega))
  have hfq := (h.2.1 q hq).2
  have h4 : m ≤ al t (fe s) (fe q) := al_tri h1 (Nat.le_trans hm hA)
  have h5 := h2 _ hfq h4
  have h6 : ag t (n + 1) < len s := by
    rcases Nat.lt_or_ge (ag t (n + 1)) (len s) with g | g
    · exact g
    · exact absurd (al_tri h5 (al_sym (Nat.le_trans g hA))) h3
  refine ⟨S_uq h hs hq (fun b hb g => ?_) (fun b hb g => ?_), h6⟩
  · rw [hel b hb]
    exact al_tri hA (Nat.le_trans (Nat.le_of_lt h6) (al_tri (al_sym h5) g))
  · rw [hel b hb] at g
    exact h2 b hb (al_tri h1 (Nat.le_trans hm g))
/-- where a state's words are split, they don't come behind the new letter -/
theorem q_no (h : SInv t n S len fe) {q : Nat} (hq : q < S) (hl : ag t (n + 1) < len q) : ¬ len q ≤ al t (fe q) (n + 1) := fun h1 => by
  have := ag_ge (t := t) (e := n + 1) (b := fe q) (by have := (h.2.1 q hq).2; omega)
  have := al_sym h1
  omega
theorem al_new {b : Nat} (hb : b ≤ n) : al t (n + 1) b ≤ ag t (n + 1) := ag_ge (by omega)
theorem S_step {len' fe' : Nat → Nat} {S' q : Nat} (h : SInv t n S len fe) (hq : q < S) (hel : ∀ b, b ≤ n → (len q ≤ al t (fe q) b ↔ ag t (n + 1) ≤ al t (n + 1) b)) (hA : ag t (n + 1) ≤ len q)
    (hl : ∀ s, s < S → len' s = len s) (hf : ∀ s, s < S → fe' s = fe s) (hlS : len' S = n + 1) (hfS : fe' S = n + 1)
    (hS : (S' = S + 1 ∧ len q = ag t (n + 1)) ∨ (S' = S + 2 ∧ ag t (n + 1) < len q ∧ len' (S + 1) = ag t (n + 1) ∧ fe' (S + 1) = fe q)) : SInv t (n + 1) S' len' fe' := by
  have hqA := q_in h hq hel
  have hAlt := ag_lt (t := t) (e := n + 1) (by omega)
  have hfq := (h.2.1 q hq).2
  have hSS : S < S' := by rcases hS with g | g <;> omega
  have hcases : ∀ s, s < S' → s < S ∨ s = S ∨ (s = S + 1 ∧ ag t (n + 1) < len q ∧ len' s = ag t (n + 1) ∧ fe' s = fe q) := by
    intro s hs
    rcases Nat.lt_trichotomy s S with g | g | g
    · exact Or.inl g
    · exact Or.inr (Or.inl g)
    · rcases hS with g2 | g2
      · omega
      · have : s = S + 1 := by omega
        subst this
        exact Or.inr (Or.inr ⟨rfl, g2.2⟩)
  refine ⟨⟨by omega, by rw [hl 0 h.1.1]; exact h.1.2.1, ?_⟩, ?_, ?_, ?_⟩
  · have := h.1.2.2
    rcases hS with g | g <;> omega
  · intro s hs
    rcases hcases s hs with g | g | ⟨-, g1, g2, g3⟩
    · rw [hl s g, hf s g]
      have := h.2.1 s g
      omega
    · subst g; rw [hlS, hfS]; omega
    · rw [g2, g3]
      have := h.2.1 q hq
      omega
  · -- unlike states have unlike ends
    intro s s' hs hs' he
    have old : ∀ s s', s < S → s' < S → (∀ b, b ≤ n + 1 → (len' s ≤ al t (fe' s) b ↔ len' s' ≤ al t (fe' s') b)) → s = s' := by
      intro s s' g g' he
      refine h.2.2.1 s s' g g' (fun b hb => ?_)
      have := he b (by omega)
      rwa [hl s g, hf s g, hl s' g', hf s' g'] at this
    have newold : ∀ s, s < S → ¬ (∀ b, b ≤ n + 1 → (len' s ≤ al t (fe' s) b ↔ len' S ≤ al t (fe' S) b)) := by
      intro s g he
      have := (he (fe s) (by have := (h.2.1 s g).2; omega)).mp (by rw [hl s g, hf s g]; exact S_fe h g)
      rw [hlS, hfS] at this
      have h2 := al_le' t (n + 1) (fe s)
      have := (h.2.1 s g).2
      omega
    have clold : ∀ s c, s < S → ag t (n + 1) < len q → len' c = ag t (n + 1) → fe' c = fe q → ¬ (∀ b, b ≤ n + 1 → (len' s ≤ al t (fe' s) b ↔ len' c ≤ al t (fe' c) b)) := by
      intro s c g g1 g2 g3 he
      have e1 : s = q := by
        refine h.2.2.1 s q g hq (fun b hb => ?_)
        have := he b (by omega)
        rw [hl s g, hf s g, g2, g3] at this
        rw [this, hel b hb]
        exact ⟨fun x => al_tri hqA x, fun x => al_tri (al_sym hqA) x⟩
      subst e1
      have := (he (n + 1) (Nat.le_refl _)).mpr (by rw [g2, g3]; exact al_sym hqA)
      rw [hl s g, hf s g] at this
      exact q_no h g g1 this
    have clnew : ∀ c, len' c = ag t (n + 1) → fe' c = fe q → ¬ (∀ b, b ≤ n + 1 → (len' S ≤ al t (fe' S) b ↔ len' c ≤ al t (fe' c) b)) := by
      intro c g2 g3 he
      have := (he (fe q) (by omega)).mpr (by rw [g2, g3, al_self]; exact Nat.le_trans hA (h.2.1 q hq).1)
      rw [hlS, hfS] at this
      have h2 := al_le' t (n + 1) (fe q)
      omega
    rcases hcases s hs with g | g | ⟨g, g1, g2, g3⟩ <;> rcases hcases s' hs' with k | k | ⟨k, k1, k2, k3⟩
    · exact old s s' g k he
    · subst k; exact absurd he (newold s g)
    · exact absurd he (clold s s' g k1 k2 k3)
    · subst g; exact absurd (fun b hb => (he b hb).symm) (newold s' k)
    · omega
    · subst g; exact absurd he (clnew s' k2 k3)
    · exact absurd (fun b hb => (he b hb).symm) (clold s' s k g1 g2 g3)
    · subst k; exact absurd (fun b hb => (he b hb).symm) (clnew s g2 g3)
    · omega
  · -- every word has its state
    intro e m hm he
    by_cases hsuf : m ≤ al t e (n + 1)
    · -- it ends the new text
      rcases Nat.lt_or_ge (ag t (n + 1)) m with g | g
      · refine ⟨S, hSS, by have := al_le' t e (n + 1); omega, by rw [hfS]; exact hsuf, fun b hb hmb => ?_⟩
        rw [hlS, hfS]
        have hb1 : b = n + 1 := by
          rcases Nat.lt_or_ge b (n + 1) with g2 | g2
          · have g3 : m ≤ al t (n + 1) b := al_tri (al_sym hsuf) hmb
            have := al_new (t := t) (n := n) (b := b) (by omega)
            omega
          · omega
        rw [hb1, al_self]
        exact Nat.le_refl _
      · -- it was there ahead
        have hmq : m ≤ al t (n + 1) (fe q) := Nat.le_trans g hqA
        obtain ⟨s, h1, h2, h3, h4⟩ := S_of h (e := fe q) (m := m) (Nat.le_trans hmq (al_le' t _ _)) hfq
        have hes : m ≤ al t e (fe s) := al_tri hsuf (al_tri hmq h3)
        by_cases hin : len s ≤ al t (fe s) (n + 1)
        · refine ⟨s, by omega, by rw [hl s h1]; exact h2, by rw [hf s h1]; exact hes, fun b hb hmb => ?_⟩
          rw [hl s h1, hf s h1]
          rcases Nat.lt_or_ge b (n + 1) with g2 | g2
          · exact (h4 b (by omega)).mpr (al_tri h3 (al_tri (al_sym hes) hmb))
          · rw [show b = n + 1 by omega]; exact hin
        · obtain ⟨e1, e2⟩ := S_split h hq hel h1 (m := m) (al_tri (al_sym h3) (al_sym hmq)) (fun b hb g2 => (h4 b hb).mpr (al_tri h3 g2)) hin
          subst e1
          rcases hS with g2 | ⟨g2, g3, g4, g5⟩
          · omega
          · refine ⟨S + 1, by omega, by rw [g4]; exact g, by rw [g5]; exact hes, fun b hb hmb => ?_⟩
            rw [g4, g5]
            rcases Nat.lt_or_ge b (n + 1) with g6 | g6
            · have := (h4 b (by omega)).mpr (al_tri h3 (al_tri (al_sym hes) hmb))
              omega
            · rw [show b = n + 1 by omega]; exact al_sym hqA
    · -- it doesn't end the new text
      have he2 : e ≤ n := by
        rcases Nat.lt_or_ge e (n + 1) with g | g
        · omega
        · rw [show e = n + 1 by omega, al_self] at hsuf; omega
      obtain ⟨s, h1, h2, h3, h4⟩ := S_of h hm he2
      refine ⟨s, by omega, by rw [hl s h1]; exact h2, by rw [hf s h1]; exact h3, fun b hb hmb => ?_⟩
      rw [hl s h1, hf s h1]
      rcases Nat.lt_or_ge b (n + 1) with g | g
      · exact (h4 b (by omega)).mpr hmb
      · rw [show b = n + 1 by omega] at hmb; exact absurd hmb hsuf
/-- links: an old state that isn't split keeps its link -/
theorem L_old (h : SInv t n S len fe) {q : Nat} (hq : q < S) (hel : ∀ b, b ≤ n → (len q ≤ al t (fe q) b ↔ ag t (n + 1) ≤ al t (n + 1) b)) {s p : Nat} (hs : s < S) (hk : isLk t n len fe s p) (hne : s ≠ q ∨ len q = ag t (n + 1)) : isLk t (n + 1) len fe s p := by
  refine ⟨hk.1, hk.2.1, fun b hb h1 => ?_⟩
  rcases Nat.lt_or_ge b (n + 1) with g | g
  · exact hk.2.2 b (by omega) h1
  · have hb1 : b = n + 1 := by omega
    subst hb1
    by_cases h3 : len s ≤ al t (fe s) (n + 1)
    · exact h3
    · obtain ⟨e1, e2⟩ := S_split h hq hel hs (m := len p + 1) h1 (fun b hb g => hk.2.2 b hb g) h3
      subst e1
      rcases hne with g2 | g2
      · exact absurd rfl g2
      · omega
/-- the link of a split state is shorter than what is split off -/
theorem L_q (h : SInv t n S len fe) {q p : Nat} (hq : q < S) (hp : p < S) (hel : ∀ b, b ≤ n → (len q ≤ al t (fe q) b ↔ ag t (n + 1) ≤ al t (n + 1) b)) (hk : isLk t n len fe q p) : len p < ag t (n + 1) := by
  rcases Nat.lt_or_ge (len p) (ag t (n + 1)) with g | g
  · exact g
  · have : p = q := by
      refine S_uq h hp hq (fun b hb h1 => ?_) (fun b hb h1 => lk_end hk h1)
      rw [hel b hb]
      exact al_tri (q_in h hq hel) (Nat.le_trans g (al_tri hk.2.1 h1))
    have h2 := hk.1
    rw [this] at h2
    omega
end SAM
