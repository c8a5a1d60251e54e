/-! how many words go on from a state -/
theorem sm_sh (f : Nat → Nat) : ∀ k, sm f (k + 1) = f 0 + sm (fun i => f (i + 1)) k := by
  intro k
  induction k with
  | zero => rw [sm_s]; show 0 + f 0 = f 0 + 0; omega
  | succ k ih => rw [sm_s, ih, sm_s]; omega
theorem sm_one {f : Nat → Nat} {K c : Nat} (hc : c < K) (h : ∀ x, x < K → x ≠ c → f x = 0) : sm f K = f c := by
  have key : ∀ k, k ≤ K → sm f k = if c < k then f c else 0 := by
    intro k
    induction k with
    | zero => intro _; rfl
    | succ k ih =>
      intro hk
      rw [sm_s, ih (by omega)]
      rcases Nat.lt_trichotomy k c with g | g | g
      · rw [if_neg (by omega), if_neg (by omega), h k (by omega) (by omega)]
      · subst g; rw [if_neg (by omega), if_pos (by omega)]; omega
      · rw [if_pos (by omega), if_pos (by omega), h k (by omega) (by omega)]; omega
  rw [key K (Nat.le_refl _), if_pos hc]
def FE (t : Nat → Nat) (p : Nat → Bool) (m e : Nat) : Prop := m ≤ e ∧ p (e - m) = true ∧ ∀ e', e' < e → m ≤ e' → p (e' - m) = true → ¬ m ≤ al t e e'
noncomputable def bF (t : Nat → Nat) (p : Nat → Bool) (m e : Nat) : Bool := @decide (FE t p m e) (Classical.propDecidable _)
theorem bF_iff {t : Nat → Nat} {p : Nat → Bool} {m e : Nat} : bF t p m e = true ↔ FE t p m e := @decide_eq_true_iff _ (Classical.propDecidable _)
theorem bF_no {t : Nat → Nat} {p : Nat → Bool} {m e : Nat} (h : ¬ FE t p m e) : bF t p m e = false := by
  cases hq : bF t p m e with
  | false => rfl
  | true => exact absurd (bF_iff.mp hq) h
def pc (t : Nat → Nat) (n : Nat) (p : Nat → Bool) (c b : Nat) : Bool := decide (0 < b ∧ b ≤ n ∧ t (b - 1) = c) && p (b - 1)
theorem pc_iff {t : Nat → Nat} {n : Nat} {p : Nat → Bool} {c b : Nat} : pc t n p c b = true ↔ 0 < b ∧ b ≤ n ∧ t (b - 1) = c ∧ p (b - 1) = true := by
  unfold pc
  rw [Bool.and_eq_true, decide_eq_true_iff]
  constructor
  · rintro ⟨⟨h1, h2, h3⟩, h4⟩; exact ⟨h1, h2, h3, h4⟩
  · rintro ⟨h1, h2, h3, h4⟩; exact ⟨⟨h1, h2, h3⟩, h4⟩
noncomputable def Gp (t : Nat → Nat) (n : Nat) (p : Nat → Bool) (m : Nat) : Nat := ct (bF t p m) (n + 1)
theorem Gp_le (t : Nat → Nat) (n : Nat) (p : Nat → Bool) (m : Nat) : Gp t n p m ≤ n + 1 := ct_le _ _
/-- two words behind the same letters -/
theorem al_long {t : Nat → Nat} {m e e' : Nat} (h1 : m + 1 ≤ e) (h2 : m + 1 ≤ e') : m + 1 ≤ al t e e' ↔ m ≤ al t e e' ∧ t (e - (m + 1)) = t (e' - (m + 1)) := by
  rw [al_at, al_at]
  constructor
  · rintro ⟨_, _, h⟩
    refine ⟨⟨by omega, by omega, fun j hj => h j (by omega)⟩, ?_⟩
    have := h m (by omega)
    rw [show e - 1 - m = e - (m + 1) by omega, show e' - 1 - m = e' - (m + 1) by omega] at this
    exact this
  · rintro ⟨⟨_, _, h⟩, h3⟩
    refine ⟨h1, h2, fun j hj => ?_⟩
    rcases Nat.lt_or_ge j m with g | g
    · exact h j g
    · rw [show j = m by omega, show e - 1 - m = e - (m + 1) by omega, show e' - 1 - m = e' - (m + 1) by omega]
      exact h3
theorem FE_s {t : Nat → Nat} {n : Nat} {p : Nat → Bool} {m e : Nat} (he : e ≤ n) (h1 : m + 1 ≤ e) : FE t p (m + 1) e ↔ FE t (pc t n p (t (e - (m + 1)))) m e := by
  constructor
  · rintro ⟨_, h2, h3⟩
    refine ⟨by omega, pc_iff.mpr ⟨by omega, by omega, ?_, ?_⟩, fun e' g1 g2 g3 g4 => ?_⟩
    · rw [show e - m - 1 = e - (m + 1) by omega]
    · rw [show e - m - 1 = e - (m + 1) by omega]; exact h2
    · obtain ⟨k1, k2, k3, k4⟩ := pc_iff.mp g3
      rw [show e' - m - 1 = e' - (m + 1) by omega] at k3 k4
      exact h3 e' g1 (by omega) k4 ((al_long h1 (by omega)).mpr ⟨g4, k3.symm⟩)
  · rintro ⟨_, h2, h3⟩
    obtain ⟨k1, k2, k3, k4⟩ := pc_iff.mp h2
    rw [show e - m - 1 = e - (m + 1) by omega] at k4
    refine ⟨h1, k4, fun e' g1 g2 g3 g4 => ?_⟩
    obtain ⟨q1, q2⟩ := (al_long h1 g2).mp g4
    refine h3 e' g1 (by omega) (pc_iff.mpr ⟨by omega, by omega, ?_, ?_⟩) q1
    · rw [show e' - m - 1 = e' - (m + 1) by omega]; exact q2.symm
    · rw [show e' - m - 1 = e' - (m + 1) by omega]; exact g3
theorem Gp_s {t : Nat → Nat} {n K : Nat} (ht : ∀ i, i < n → t i < K) (p : Nat → Bool) (m : Nat) : Gp t n p (m + 1) = sm (fun c => Gp t n (pc t n p c) m) K := by
  unfold Gp
  rw [show sm (fun c => ct (bF t (pc t n p c) m) (n + 1)) K = sm (fun c => sm (b01 (bF t (pc t n p c) m)) (n + 1)) K from sm_cong (fun c _ => (sm_ct _ _).symm)]
  rw [sm_swap, ← sm_ct]
  refine sm_cong (fun e he => ?_)
  rcases Nat.lt_or_ge e (m + 1) with g | g
  · have z : ∀ c, b01 (bF t (pc t n p c) m) e = 0 := fun c => by
      unfold b01
      rw [bF_no (fun h => ?_)]; rfl
      have := (pc_iff.mp h.2.1).1
      omega
    rw [sm_cong (fun c _ => z c), sm_zero]
    unfold b01
    rw [bF_no (fun h => by have := h.1; omega)]; rfl
  · have hc := ht (e - (m + 1)) (by omega)
    rw [sm_one hc (fun x hx hne => ?_)]
    · have := FE_s (t := t) (p := p) (by omega : e ≤ n) g
      unfold b01
      by_cases hq : FE t p (m + 1) e
      · rw [bF_iff.mpr hq, bF_iff.mpr (this.mp hq)]
      · rw [bF_no hq, bF_no (fun h => hq (this.mpr h))]
    · unfold b01
      rw [bF_no (fun h => ?_)]; rfl
      have := (pc_iff.mp h.2.1).2.2.1
      rw [show e - m - 1 = e - (m + 1) by omega] at this
      exact hne this.symm
theorem Gp_0 {t : Nat → Nat} {n : Nat} {p : Nat → Bool} {a : Nat} (ha : a ≤ n) (hp : p a = true) : Gp t n p 0 = 1 := by
  obtain ⟨e, h1, h2⟩ := pk_least (fun e => p e = true) ⟨a, hp⟩
  have hea : e ≤ a := by
    rcases Nat.lt_or_ge a e with g | g
    · exact absurd hp (h2 a g)
    · exact g
  have no : ∀ j, j ≠ e → bF t p 0 j = false := fun j hj => bF_no (fun h => by
    rcases Nat.lt_or_ge j e with g | g
    · exact h2 j g h.2.1
    · exact h.2.2 e (by omega) (Nat.zero_le _) h1 (Nat.zero_le _))
  unfold Gp
  rw [ct_flat (a := e + 1) (b := n + 1) (by omega) (fun j j1 _ => no j (by omega)), ct_s, ct_flat (a := 0) (b := e) (Nat.zero_le _) (fun j _ j2 => no j (by omega)), if_pos (bF_iff.mpr ⟨Nat.zero_le _, h1, fun e' g1 _ g3 => absurd g3 (h2 e' g1)⟩)]
  rfl
theorem Gp_none {t : Nat → Nat} {n : Nat} {p : Nat → Bool} (hp : ∀ b, b ≤ n → p b = false) (m : Nat) : Gp t n p m = 0 := ct_0 (fun b hb => bF_no (fun h => by
  have := h.2.1
  rw [hp _ (by omega)] at this
  exact absurd this (by decide)))
noncomputable def Tp (t : Nat → Nat) (n : Nat) (p : Nat → Bool) : Nat := sm (Gp t n p) (n + 1)
theorem Tp_rec {t : Nat → Nat} {n K : Nat} (ht : ∀ i, i < n → t i < K) {p : Nat → Bool} {a : Nat} (ha : a ≤ n) (hp : p a = true) : Tp t n p = 1 + sm (fun c => Tp t n (pc t n p c)) K := by
  unfold Tp
  rw [sm_sh, Gp_0 ha hp]
  congr 1
  rw [show sm (fun i => Gp t n p (i + 1)) n = sm (fun i => sm (fun c => Gp t n (pc t n p c) i) K) n from sm_cong (fun i _ => Gp_s ht p i), sm_swap]
  refine sm_cong (fun c _ => ?_)
  rw [sm_s]
  have : Gp t n (pc t n p c) n = 0 := ct_0 (fun e he => bF_no (fun h => by
    have := h.1
    have := (pc_iff.mp h.2.1).1
    omega))
  rw [this, Nat.add_zero]
theorem Tp_none {t : Nat → Nat} {n : Nat} {p : Nat → Bool} (hp : ∀ b, b ≤ n → p b = false) : Tp t n p = 0 := by
  unfold Tp
  rw [sm_cong (fun m _ => Gp_none hp m)]
  exact sm_zero _
theorem Tp_le (t : Nat → Nat) (n : Nat) (p : Nat → Bool) (hn : n ≤ 60) : Tp t n p ≤ 4000 := by
  unfold Tp
  have h1 : sm (Gp t n p) (n + 1) ≤ sm (fun _ => 61) (n + 1) := sm_le (fun i _ => by have := Gp_le t n p i; omega)
  have h2 : ∀ k, sm (fun _ => 61) k = 61 * k := by
    intro k
    induction k with
    | zero => rfl
    | succ k ih => rw [sm_s, ih]; omega
  rw [h2] at h1
  omega
theorem Tp_root (t : Nat → Nat) (n : Nat) {p : Nat → Bool} (hp : ∀ b, b ≤ n → p b = true) : Tp t n p = 1 + sm (fun e => e - ag t e) (n + 1) := by
  have key := uo_sum t (fun _ => 1) n
  have one : ∀ k, sm (fun _ => 1) k = k := by
    intro k
    induction k with
    | zero => rfl
    | succ k ih => rw [sm_s, ih]
  simp only [one, Nat.one_mul] at key
  rw [← key]
  unfold Tp
  rw [sm_sh, Gp_0 (Nat.zero_le n) (hp 0 (Nat.zero_le _))]
  congr 1
  refine sm_cong (fun i _ => ?_)
  unfold Gp uo
  refine ct_cong (fun e he => ?_)
  have : FE t p (i + 1) e ↔ (i + 1 ≤ e ∧ ag t e < i + 1) := by
    constructor
    · rintro ⟨h1, h2, h3⟩
      refine ⟨h1, ?_⟩
      rcases Nat.lt_or_ge (ag t e) (i + 1) with g | g
      · exact g
      · obtain ⟨b, b1, b2⟩ := ag_ex g
        have := al_le' t e b
        exact absurd b2 (h3 b b1 (by omega) (hp _ (by omega)))
    · rintro ⟨h1, h2⟩
      exact ⟨h1, hp _ (by omega), fun e' g1 g2 _ g4 => by have := ag_ge (t := t) g1; omega⟩
  by_cases hq : FE t p (i + 1) e
  · rw [bF_iff.mpr hq]
    exact (decide_eq_true (this.mp hq)).symm
  · rw [bF_no hq]
    exact (decide_eq_false (fun h => hq (this.mpr h))).symm
