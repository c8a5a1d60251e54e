/-! the pure side: how many letters are alike that end at two ends -/
def al (t : Nat → Nat) : Nat → Nat → Nat
  | 0, _ => 0
  | _ + 1, 0 => 0
  | a + 1, b + 1 => if t a = t b then al t a b + 1 else 0
theorem al_0l (t : Nat → Nat) (b : Nat) : al t 0 b = 0 := by cases b <;> rfl
theorem al_0r (t : Nat → Nat) (a : Nat) : al t a 0 = 0 := by cases a <;> rfl
theorem al_s (t : Nat → Nat) (a b : Nat) : al t (a + 1) (b + 1) = if t a = t b then al t a b + 1 else 0 := rfl
theorem al_y {t : Nat → Nat} {a b : Nat} (h : t a = t b) : al t (a + 1) (b + 1) = al t a b + 1 := by rw [al_s, if_pos h]
theorem al_n {t : Nat → Nat} {a b : Nat} (h : t a ≠ t b) : al t (a + 1) (b + 1) = 0 := by rw [al_s, if_neg h]
theorem al_comm (t : Nat → Nat) : ∀ a b, al t a b = al t b a := by
  intro a
  induction a with
  | zero => intro b; rw [al_0l, al_0r]
  | succ a ih =>
    intro b
    cases b with
    | zero => rw [al_0l, al_0r]
    | succ b =>
      rw [al_s, al_s, ih b]
      by_cases h : t a = t b
      · rw [if_pos h, if_pos h.symm]
      · rw [if_neg h, if_neg (fun q => h q.symm)]
theorem al_le (t : Nat → Nat) : ∀ a b, al t a b ≤ a := by
  intro a
  induction a with
  | zero => intro b; rw [al_0l]; exact Nat.le_refl _
  | succ a ih =>
    intro b
    cases b with
    | zero => rw [al_0r]; omega
    | succ b =>
      rw [al_s]
      have := ih b
      split <;> omega
theorem al_le' (t : Nat → Nat) (a b : Nat) : al t a b ≤ b := by rw [al_comm]; exact al_le t b a
theorem al_self (t : Nat → Nat) : ∀ a, al t a a = a := by
  intro a
  induction a with
  | zero => rfl
  | succ a ih => rw [al_y rfl, ih]
theorem al_pos {t : Nat → Nat} {a b m : Nat} (h : m + 1 ≤ al t a b) : ∃ a' b', a = a' + 1 ∧ b = b' + 1 ∧ t a' = t b' ∧ m ≤ al t a' b' := by
  cases a with
  | zero => rw [al_0l] at h; omega
  | succ a =>
    cases b with
    | zero => rw [al_0r] at h; omega
    | succ b =>
      rw [al_s] at h
      by_cases hq : t a = t b
      · rw [if_pos hq] at h; exact ⟨a, b, rfl, rfl, hq, by omega⟩
      · rw [if_neg hq] at h; omega
theorem al_tri {t : Nat → Nat} : ∀ {m a b c : Nat}, m ≤ al t a b → m ≤ al t b c → m ≤ al t a c := by
  intro m
  induction m with
  | zero => intros; omega
  | succ m ih =>
    intro a b c h1 h2
    obtain ⟨a', b', rfl, rfl, e1, g1⟩ := al_pos h1
    obtain ⟨b'', c', e0, rfl, e2, g2⟩ := al_pos h2
    cases e0
    rw [al_y (e1.trans e2)]
    have := ih g1 g2
    omega
theorem al_sym {t : Nat → Nat} {m a b : Nat} (h : m ≤ al t a b) : m ≤ al t b a := by rw [al_comm]; exact h
theorem al_cong {t t' : Nat → Nat} : ∀ {a b : Nat}, (∀ i, i < a → t i = t' i) → (∀ i, i < b → t i = t' i) → al t a b = al t' a b := by
  intro a
  induction a with
  | zero => intros; rw [al_0l, al_0l]
  | succ a ih =>
    intro b h1 h2
    cases b with
    | zero => rw [al_0r, al_0r]
    | succ b =>
      rw [al_s, al_s, ih (fun i hi => h1 i (by omega)) (fun i hi => h2 i (by omega)), h1 a (by omega), h2 b (by omega)]
/-- the letters themselves -/
theorem al_at {t : Nat → Nat} : ∀ {m a b : Nat}, m ≤ al t a b ↔ m ≤ a ∧ m ≤ b ∧ ∀ j, j < m → t (a - 1 - j) = t (b - 1 - j) := by
  intro m
  induction m with
  | zero => intro a b; exact ⟨fun _ => ⟨by omega, by omega, fun j h => by omega⟩, fun _ => by omega⟩
  | succ m ih =>
    intro a b
    constructor
    · intro h
      obtain ⟨a', b', rfl, rfl, e1, g1⟩ := al_pos h
      obtain ⟨h1, h2, h3⟩ := ih.mp g1
      refine ⟨by omega, by omega, fun j hj => ?_⟩
      cases j with
      | zero => exact e1
      | succ j =>
        have := h3 j (by omega)
        rw [show a' + 1 - 1 - (j + 1) = a' - 1 - j by omega, show b' + 1 - 1 - (j + 1) = b' - 1 - j by omega]
        exact this
    · intro ⟨h1, h2, h3⟩
      obtain ⟨a', rfl⟩ : ∃ a', a = a' + 1 := ⟨a - 1, by omega⟩
      obtain ⟨b', rfl⟩ : ∃ b', b = b' + 1 := ⟨b - 1, by omega⟩
      rw [al_y (show t a' = t b' from h3 0 (by omega))]
      have := (ih (a := a') (b := b')).mpr ⟨by omega, by omega, fun j hj => by
        have := h3 (j + 1) (by omega)
        rw [show a' + 1 - 1 - (j + 1) = a' - 1 - j by omega, show b' + 1 - 1 - (j + 1) = b' - 1 - j by omega] at this
        exact this⟩
      omega
/-- the longest that ends at e and at an end below k -/
def agTo (t : Nat → Nat) (e : Nat) : Nat → Nat
  | 0 => 0
  | k + 1 => max (agTo t e k) (al t e k)
def ag (t : Nat → Nat) (e : Nat) : Nat := agTo t e e
theorem agTo_ge {t : Nat → Nat} {e : Nat} : ∀ {k b : Nat}, b < k → al t e b ≤ agTo t e k := by
  intro k
  induction k with
  | zero => intro b h; omega
  | succ k ih =>
    intro b h
    unfold agTo
    rcases Nat.lt_or_ge b k with h1 | h1
    · have := ih h1; omega
    · have : b = k := by omega
      subst this; omega
theorem agTo_ex {t : Nat → Nat} {e : Nat} : ∀ {k m : Nat}, m + 1 ≤ agTo t e k → ∃ b, b < k ∧ m + 1 ≤ al t e b := by
  intro k
  induction k with
  | zero => intro m h; unfold agTo at h; omega
  | succ k ih =>
    intro m h
    unfold agTo at h
    rcases Nat.lt_or_ge (agTo t e k) (m + 1) with h1 | h1
    · exact ⟨k, by omega, by omega⟩
    · obtain ⟨b, h2, h3⟩ := ih h1
      exact ⟨b, by omega, h3⟩
theorem ag_ge {t : Nat → Nat} {e b : Nat} (h : b < e) : al t e b ≤ ag t e := agTo_ge h
theorem ag_ex {t : Nat → Nat} {e m : Nat} (h : m + 1 ≤ ag t e) : ∃ b, b < e ∧ m + 1 ≤ al t e b := agTo_ex h
theorem ag_ex' {t : Nat → Nat} {e m : Nat} (he : 0 < e) (h : m ≤ ag t e) : ∃ b, b < e ∧ m ≤ al t e b := by
  cases m with
  | zero => exact ⟨0, he, by omega⟩
  | succ m => exact ag_ex h
theorem ag_lt {t : Nat → Nat} {e : Nat} (h : 0 < e) : ag t e < e := by
  obtain ⟨b, h1, h2⟩ := ag_ex' h (Nat.le_refl (ag t e))
  have := al_le' t e b
  omega
theorem ag_0 (t : Nat → Nat) : ag t 0 = 0 := rfl
theorem ag_s (t : Nat → Nat) (e : Nat) : ag t (e + 1) ≤ ag t e + 1 := by
  cases hq : ag t (e + 1) with
  | zero => omega
  | succ m =>
    obtain ⟨b, h1, h2⟩ := ag_ex (t := t) (e := e + 1) (m := m) (by omega)
    obtain ⟨a', b', e1, rfl, e2, g⟩ := al_pos h2
    cases e1
    have := ag_ge (t := t) (e := e) (b := b') (by omega)
    omega
theorem ag_cong {t t' : Nat → Nat} {e : Nat} (h : ∀ i, i < e → t i = t' i) : ag t e = ag t' e := by
  have : ∀ k, k ≤ e → agTo t e k = agTo t' e k := by
    intro k
    induction k with
    | zero => intro _; rfl
    | succ k ih =>
      intro hk
      unfold agTo
      rw [ih (by omega), al_cong h (fun i hi => h i (by omega))]
  exact this e (Nat.le_refl _)
