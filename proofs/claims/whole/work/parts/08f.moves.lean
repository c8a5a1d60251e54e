/-! moves: what a letter does to them -/
section MOVES
variable {t : Nat → Nat} {n S : Nat} {len fe : Nat → Nat}
theorem mv_fe (h : SInv t n S len fe) {s c u : Nat} (hu : u < S) (hm : isMv t n len fe s c u) : ∃ e, fe u = e + 1 ∧ t e = c ∧ len s ≤ al t (fe s) e := (hm _ (h.2.1 u hu).2).mp (S_fe h hu)
theorem mv_len (h : SInv t n S len fe) {s c u : Nat} (hu : u < S) (hm : isMv t n len fe s c u) : len s + 1 ≤ len u := by
  obtain ⟨e, h1, h2, h3⟩ := mv_fe h hu hm
  have hfu := (h.2.1 u hu).2
  have hle := al_le' t (fe s) e
  obtain ⟨s', g1, g2, g3, g4⟩ := S_of h (e := fe u) (m := len s + 1) (by omega) hfu
  have : s' = u := by
    refine h.2.2.1 s' u g1 hu (fun b hb => ?_)
    rw [g4 b hb, hm b hb, h1]
    constructor
    · intro h5
      obtain ⟨a', b', e1, e2, e3, e4⟩ := al_pos h5
      have e1 : e = a' := by omega
      subst e1
      exact ⟨b', e2, by rw [← e3]; exact h2, al_tri h3 e4⟩
    · intro ⟨e', q1, q2, q3⟩
      rw [q1, al_y (by rw [h2, q2])]
      have := al_tri (al_sym h3) q3
      omega
  rw [← this]
  exact g2
/-- its ends are those of its words with the letter behind -/
theorem mv_word (h : SInv t n S len fe) {s c u : Nat} (hu : u < S) (hm : isMv t n len fe s c u) : ∀ b, b ≤ n → len s + 1 ≤ al t (fe u) b → len u ≤ al t (fe u) b := by
  obtain ⟨e, h1, h2, h3⟩ := mv_fe h hu hm
  intro b hb h5
  rw [h1] at h5
  obtain ⟨a', b', e1, e2, e3, e4⟩ := al_pos h5
  have e1 : e = a' := by omega
  subst e1
  exact (hm b hb).mpr ⟨b', e2, by rw [← e3]; exact h2, al_tri h3 e4⟩
theorem mv_ex (h : SInv t n S len fe) {s c : Nat} (hs : s < S) : (∃ u, u < S ∧ isMv t n len fe s c u) ∨ noMv t n len fe s c := by
  by_cases hx : ∃ e, e < n ∧ t e = c ∧ len s ≤ al t (fe s) e
  · obtain ⟨e, h1, h2, h3⟩ := hx
    have hle := al_le' t (fe s) e
    obtain ⟨u, g1, g2, g3, g4⟩ := S_of h (e := e + 1) (m := len s + 1) (by omega) (by omega)
    refine Or.inl ⟨u, g1, fun b hb => ?_⟩
    rw [g4 b hb]
    constructor
    · intro h5
      obtain ⟨a', b', e1, e2, e3, e4⟩ := al_pos h5
      have e1 : e = a' := by omega
      subst e1
      exact ⟨b', e2, by rw [← e3]; exact h2, al_tri h3 e4⟩
    · intro ⟨e', q1, q2, q3⟩
      rw [q1, al_y (by rw [h2, q2])]
      have := al_tri (al_sym h3) q3
      omega
  · exact Or.inr (fun e h1 h2 h3 => hx ⟨e, h1, h2, h3⟩)
theorem mv_uq (h : SInv t n S len fe) {s c u u' : Nat} (hu : u < S) (hu' : u' < S) (h1 : isMv t n len fe s c u) (h2 : isMv t n len fe s c u') : u = u' := h.2.2.1 u u' hu hu' (fun b hb => by rw [h1 b hb, h2 b hb])
theorem mv_no (h : SInv t n S len fe) {s c u : Nat} (hu : u < S) (h1 : isMv t n len fe s c u) (h2 : noMv t n len fe s c) : False := by
  obtain ⟨e, g1, g2, g3⟩ := mv_fe h hu h1
  have := (h.2.1 u hu).2
  exact h2 e (by omega) g2 g3
/-- by another letter than the new one -/
theorem M_other (h : SInv t n S len fe) {s c u : Nat} (hu : u < S) (hc : c ≠ t n) (hm : isMv t n len fe s c u) : isMv t (n + 1) len fe s c u := by
  intro b hb
  rcases Nat.lt_or_ge b (n + 1) with g | g
  · exact hm b (by omega)
  · have hb1 : b = n + 1 := by omega
    subst hb1
    obtain ⟨e, h1, h2, h3⟩ := mv_fe h hu hm
    have hl := mv_len h hu hm
    constructor
    · intro h5
      obtain ⟨a', b', e1, e2, e3, e4⟩ := al_pos (m := len u - 1) (show len u - 1 + 1 ≤ al t (fe u) (n + 1) by omega)
      have e1 : e = a' := by omega
      have e2 : n = b' := by omega
      subst e1; subst e2
      exact absurd (h2.symm.trans e3) hc
    · intro ⟨e', q1, q2, q3⟩
      have : e' = n := by omega
      subst this
      exact absurd q2.symm hc
theorem N_other {s c : Nat} (hc : c ≠ t n) (hm : noMv t n len fe s c) : noMv t (n + 1) len fe s c := by
  intro e he h2 h3
  rcases Nat.lt_or_ge e n with g | g
  · exact hm e g h2 h3
  · have : e = n := by omega
    subst this
    exact hc h2.symm
/-- a state that doesn't end the old text -/
theorem M_non (h : SInv t n S len fe) {s c u : Nat} (hu : u < S) (hs : ¬ len s ≤ al t (fe s) n) (hm : isMv t n len fe s c u) : isMv t (n + 1) len fe s c u := by
  intro b hb
  rcases Nat.lt_or_ge b (n + 1) with g | g
  · exact hm b (by omega)
  · have hb1 : b = n + 1 := by omega
    subst hb1
    obtain ⟨e, h1, h2, h3⟩ := mv_fe h hu hm
    have hl := mv_len h hu hm
    constructor
    · intro h5
      obtain ⟨a', b', e1, e2, e3, e4⟩ := al_pos (m := len s) (show len s + 1 ≤ al t (fe u) (n + 1) by omega)
      have e1 : e = a' := by omega
      have e2 : n = b' := by omega
      subst e1; subst e2
      exact absurd (al_tri h3 e4) hs
    · intro ⟨e', q1, q2, q3⟩
      have : e' = n := by omega
      subst this
      exact absurd q3 hs
theorem N_non {s c : Nat} (hs : ¬ len s ≤ al t (fe s) n) (hm : noMv t n len fe s c) : noMv t (n + 1) len fe s c := by
  intro e he h2 h3
  rcases Nat.lt_or_ge e n with g | g
  · exact hm e g h2 h3
  · have : e = n := by omega
    subst this
    exact hs h3
/-- a state that ends the old text, by the new letter, that had a move: to the same state, or that was split -/
theorem M_suf (h : SInv t n S len fe) {q : Nat} (hq : q < S) (hel : ∀ b, b ≤ n → (len q ≤ al t (fe q) b ↔ ag t (n + 1) ≤ al t (n + 1) b)) {s u : Nat} (hu : u < S) (hs : len s ≤ al t (fe s) n) (hm : isMv t n len fe s (t n) u) : (isMv t (n + 1) len fe s (t n) u ∧ (u = q → ¬ ag t (n + 1) < len q)) ∨ (u = q ∧ ag t (n + 1) < len q) := by
  obtain ⟨e, h1, h2, h3⟩ := mv_fe h hu hm
  by_cases h5 : len u ≤ al t (fe u) (n + 1)
  · refine Or.inl ⟨fun b hb => ?_, fun e1 h6 => ?_⟩
    · rcases Nat.lt_or_ge b (n + 1) with g | g
      · exact hm b (by omega)
      · rw [show b = n + 1 by omega]
        exact ⟨fun _ => ⟨n, rfl, rfl, hs⟩, fun _ => h5⟩
    · rw [e1] at h5
      exact q_no h hq h6 h5
  · have h6 : len s + 1 ≤ al t (fe u) (n + 1) := by
      rw [h1, al_y h2]
      have := al_tri (al_sym h3) hs
      omega
    have := S_split h hq hel hu h6 (mv_word h hu hm) h5
    rw [this.1] at this
    exact Or.inr ⟨by rw [S_split h hq hel hu h6 (mv_word h hu hm) h5 |>.1], this.2⟩
/-- the same state by its words: what is split off moves as the split one did -/
theorem M_cl {len' fe' : Nat → Nat} {q cl c u : Nat} (h1 : ∀ e, e ≤ n → (len' cl ≤ al t (fe' cl) e ↔ len' q ≤ al t (fe' q) e)) : isMv t (n + 1) len' fe' cl c u ↔ isMv t (n + 1) len' fe' q c u := by
  have key : ∀ b, b ≤ n + 1 → ((∃ e, b = e + 1 ∧ t e = c ∧ len' cl ≤ al t (fe' cl) e) ↔ (∃ e, b = e + 1 ∧ t e = c ∧ len' q ≤ al t (fe' q) e)) := fun b hb =>
    ⟨fun ⟨e, a1, a2, a3⟩ => ⟨e, a1, a2, (h1 e (by omega)).mp a3⟩, fun ⟨e, a1, a2, a3⟩ => ⟨e, a1, a2, (h1 e (by omega)).mpr a3⟩⟩
  exact ⟨fun h b hb => (h b hb).trans (key b hb), fun h b hb => (h b hb).trans (key b hb).symm⟩
theorem N_cl {len' fe' : Nat → Nat} {q cl c : Nat} (h1 : ∀ e, e ≤ n → (len' cl ≤ al t (fe' cl) e ↔ len' q ≤ al t (fe' q) e)) : noMv t (n + 1) len' fe' cl c ↔ noMv t (n + 1) len' fe' q c := by
  exact ⟨fun h e he h2 h3 => h e he h2 ((h1 e (by omega)).mpr h3), fun h e he h2 h3 => h e he h2 ((h1 e (by omega)).mp h3)⟩
/-- moves depend on the states' numbers alone -/
theorem isMv_cong {len' fe' : Nat → Nat} {s c u : Nat} (h1 : len' s = len s) (h2 : fe' s = fe s) (h3 : len' u = len u) (h4 : fe' u = fe u) (h : isMv t n len fe s c u) : isMv t n len' fe' s c u := by
  intro b hb
  rw [h1, h2, h3, h4]
  exact h b hb
theorem noMv_cong {len' fe' : Nat → Nat} {s c : Nat} (h1 : len' s = len s) (h2 : fe' s = fe s) (h : noMv t n len fe s c) : noMv t n len' fe' s c := by
  intro e he
  rw [h1, h2]
  exact h e he
theorem isLk_cong {len' fe' : Nat → Nat} {s p : Nat} (h1 : len' s = len s) (h2 : fe' s = fe s) (h3 : len' p = len p) (h4 : fe' p = fe p) (h : isLk t n len fe s p) : isLk t n len' fe' s p := by
  unfold isLk
  rw [h1, h2, h3, h4]
  exact h
end MOVES
