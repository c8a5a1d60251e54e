/-! states by their longest words -/
theorem ct_add {p q r : Nat → Bool} : ∀ {k : Nat}, (∀ x, x < k → (if r x then 1 else 0) = (if p x then 1 else 0) + (if q x then (1 : Nat) else 0)) → ct r k = ct p k + ct q k := by
  intro k
  induction k with
  | zero => intro _; rfl
  | succ k ih =>
    intro h
    rw [ct_s, ct_s, ct_s, ih (fun x hx => h x (by omega)), h k (by omega)]
    omega
theorem ct_imp {p q : Nat → Bool} : ∀ {k : Nat}, (∀ x, x < k → p x = true → q x = true) → ct p k ≤ ct q k := by
  intro k
  induction k with
  | zero => intro _; exact Nat.le_refl _
  | succ k ih =>
    intro h
    have := ih (fun x hx => h x (by omega))
    rw [ct_s, ct_s]
    by_cases hp : p k = true
    · rw [if_pos hp, if_pos (h k (by omega) hp)]; omega
    · rw [if_neg hp]; omega
def le1 (len : Nat → Nat) (l x : Nat) : Bool := decide (len x + 1 ≤ l)
def eq0 (len : Nat → Nat) (l x : Nat) : Bool := decide (len x = l)
def eq1 (len : Nat → Nat) (l x : Nat) : Bool := decide (len x + 1 = l)
theorem le1_s (len : Nat → Nat) (l S : Nat) : ct (le1 len (l + 1)) S = ct (le1 len l) S + ct (eq0 len l) S := ct_add (fun x _ => by
  unfold le1 eq0
  rcases Nat.lt_trichotomy (len x) l with g | g | g
  · rw [decide_eq_true (by omega), decide_eq_true (by omega), decide_eq_false (by omega)]; rfl
  · rw [decide_eq_true (by omega), decide_eq_false (by omega), decide_eq_true (by omega)]; rfl
  · rw [decide_eq_false (by omega), decide_eq_false (by omega), decide_eq_false (by omega)]; rfl)
theorem eq1_s (len : Nat → Nat) (l S : Nat) : ct (eq1 len (l + 1)) S = ct (eq0 len l) S := ct_cong (fun x _ => by
  unfold eq1 eq0
  exact decide_eq_decide.mpr (by omega))
theorem eq1_0 (len : Nat → Nat) (S : Nat) : ct (eq1 len 0) S = 0 := ct_0 (fun x _ => decide_eq_false (by omega))
theorem le1_0 (len : Nat → Nat) (S : Nat) : ct (le1 len 0) S = 0 := ct_0 (fun x _ => decide_eq_false (by omega))
def rk (len : Nat → Nat) (S s : Nat) : Nat := ct (le1 len (len s)) S + ct (eq0 len (len s)) s
theorem rk_up {len : Nat → Nat} {S s : Nat} (hs : s < S) : rk len S s < ct (le1 len (len s + 1)) S := by
  have := ct_lt (p := eq0 len (len s)) hs (decide_eq_true rfl)
  rw [le1_s]
  unfold rk
  omega
theorem rk_lt {len : Nat → Nat} {S s : Nat} (hs : s < S) : rk len S s < S := by
  have := rk_up (len := len) hs
  have := ct_le (le1 len (len s + 1)) S
  omega
theorem rk_mono {len : Nat → Nat} {S s v : Nat} (hs : s < S) (h : len s < len v) : rk len S s < rk len S v := by
  have h1 := rk_up (len := len) hs
  have h2 : ct (le1 len (len s + 1)) S ≤ ct (le1 len (len v)) S := ct_imp (fun x _ hx => decide_eq_true (by have := of_decide_eq_true hx; omega))
  unfold rk at *
  omega
theorem rk_inj {len : Nat → Nat} {S s v : Nat} (hs : s < S) (hv : v < S) (h : rk len S s = rk len S v) : s = v := by
  rcases Nat.lt_trichotomy (len s) (len v) with g | g | g
  · have := rk_mono hs g; omega
  · unfold rk at h
    rw [g] at h
    exact ct_inj (p := eq0 len (len v)) (decide_eq_true g) (decide_eq_true rfl) (by omega)
  · have := rk_mono hv g; omega
theorem rk_sur {len : Nat → Nat} {S M p : Nat} (hM : ∀ s, s < S → len s < M) (hp : p < S) : ∃ s, s < S ∧ rk len S s = p := by
  obtain ⟨l, h1, h2⟩ := pk_least (fun l => p < ct (le1 len l) S) ⟨M, by
    have : ct (le1 len M) S = S := by
      have : ∀ k, k ≤ S → ct (le1 len M) k = k := by
        intro k
        induction k with
        | zero => intro _; rfl
        | succ k ih =>
          intro hk
          rw [ct_s, ih (by omega), if_pos (show le1 len M k = true from decide_eq_true (by have := hM k (by omega); omega))]
      exact this S (Nat.le_refl _)
    rw [this]; exact hp⟩
  cases l with
  | zero => rw [le1_0] at h1; omega
  | succ l =>
    have h3 := h2 l (by omega)
    rw [le1_s] at h1
    obtain ⟨s, s1, s2, s3⟩ := ct_ex (p := eq0 len l) (k := S) (i := p - ct (le1 len l) S) (by omega)
    have e : len s = l := of_decide_eq_true s2
    refine ⟨s, s1, ?_⟩
    unfold rk
    rw [e]
    omega
section ORDER
variable {t : Nat → Nat} {n K : Nat} {u : MSt}
theorem w_order (hB : Base t n K) (hC : ClInv t n K u) {w : WSt} {Q : WSt → Prop} (hq : ∀ w', (∀ s, s < cS t n → gW_order w' (rk (cL t n) (cS t n) s) = nI s) → Q w') : wpX5_orderByLongest w u Q := by
  have hn := hB.1
  have h121 := cs_le hB
  obtain ⟨L, hL⟩ : ∃ L, L = cL t n := ⟨_, rfl⟩
  obtain ⟨S, hSS⟩ : ∃ S, S = cS t n := ⟨_, rfl⟩
  have hlen : ∀ s, s < S → fX2_longestOf u (nI s) = nI (L s) := fun s hs => by rw [hL]; rw [hSS] at hs; exact c_longest hB hC hs
  have hle : ∀ s, s < S → L s ≤ 60 := fun s hs => by rw [hL]; rw [hSS] at hs; have := cL_le hB hs; omega
  rw [← hL, ← hSS] at hq
  rw [← hSS] at h121
  unfold wpX5_orderByLongest
  intro X2 X25 X73 X114 h2 h25 h73 h114
  rw [hC_st hC, ← hSS] at h25 h114
  have p4 : ∀ d j tW, j + d = S → (∀ l, l ≤ 60 → gW_heads tW l = nI (ct (le1 L l) S + ct (eq0 L l) j)) → (∀ s, s < j → gW_order tW (rk L S s) = nI s) → X114 (nI j) tW := by
    intro d
    induction d with
    | zero =>
      intro j tW hj h1 h3
      have hj : j = S := by omega
      subst hj
      exact h114 _ _ (br_t (nI_le (Nat.le_refl _) (by omega)) (hq tW h3))
    | succ d ih =>
      intro j tW hj h1 h3
      have hjS : j < S := by omega
      have hl := hle j hjS
      have hr := rk_lt (len := L) hjS
      refine h114 _ _ (br_f (nI_ge (by omega) (by omega)) ?_)
      have hpos : ct (le1 L (L j)) S + ct (eq0 L (L j)) j < 121 := by
        have e : ct (le1 L (L j)) S + ct (eq0 L (L j)) j = rk L S j := rfl
        omega
      rw [hlen j hjS, kAt_nI (by omega), h1 _ hl, kPut_nI hpos, kPut_nI (show L j < 62 by omega), nI_1, nI_1]
      refine ih (j + 1) _ (by omega) (fun l hl2 => ?_) (fun s hs => ?_)
      · show upd (gW_heads tW) (L j) (nI (ct (le1 L (L j)) S + ct (eq0 L (L j)) j + 1)) l = _
        by_cases hlj : l = L j
        · subst hlj
          rw [pk_us, ct_s, if_pos (show eq0 L (L j) j = true from decide_eq_true rfl)]
          congr 1
        · rw [pk_un hlj, h1 l hl2, ct_s, if_neg (show ¬ eq0 L l j = true from fun h => hlj (of_decide_eq_true h).symm)]
          congr 1
      · show upd (gW_order tW) (rk L S j) (nI j) (rk L S s) = _
        by_cases hsj : s = j
        · subst hsj; exact pk_us
        · rw [pk_un (fun h => hsj (rk_inj (by omega) hjS h))]
          exact h3 s (by omega)
  have p3 : ∀ d y tW, y + d = 61 → (∀ l, l ≤ y → gW_heads tW l = nI (ct (le1 L l) S)) → (∀ l, y < l → l ≤ 61 → gW_heads tW l = nI (ct (eq1 L l) S)) → X73 (nI (y + 1)) tW := by
    intro d
    induction d with
    | zero =>
      intro y tW hy h1 h3
      have hy : y = 61 := by omega
      subst hy
      exact h73 _ _ (br_t (by decide) (p4 S 0 tW (by omega) (fun l hl => by rw [h1 l (by omega)]; congr 1) (fun s hs => absurd hs (Nat.not_lt_zero s))))
    | succ d ih =>
      intro y tW hy h1 h3
      refine h73 _ _ (br_f (nI_nlt (b := y + 1) (a := 61) (by omega) (by decide)) ?_)
      rw [nI_pred, kAt_nI (by omega), kAt_nI (by omega), kPut_nI (by omega), h3 (y + 1) (by omega) (by omega), h1 y (Nat.le_refl _), nI_add, nI_1]
      refine ih (y + 1) _ (by omega) (fun l hl => ?_) (fun l hl hl2 => ?_)
      · show upd (gW_heads tW) (y + 1) _ l = _
        by_cases hly : l = y + 1
        · subst hly
          rw [pk_us, eq1_s, le1_s]
          congr 1
          omega
        · rw [pk_un hly]; exact h1 l (by omega)
      · show upd (gW_heads tW) (y + 1) _ l = _
        rw [pk_un (by omega)]
        exact h3 l (by omega) hl2
  have p2 : ∀ d j tW, j + d = S → (∀ l, l ≤ 61 → gW_heads tW l = nI (ct (eq1 L l) j)) → X25 (nI j) tW := by
    intro d
    induction d with
    | zero =>
      intro j tW hj h1
      have hj : j = S := by omega
      subst hj
      refine h25 _ _ (br_t (nI_le (Nat.le_refl _) (by omega)) (p3 61 0 tW rfl (fun l hl => ?_) (fun l _ hl2 => h1 l hl2)))
      rw [show l = 0 by omega, h1 0 (by omega), eq1_0, le1_0]
    | succ d ih =>
      intro j tW hj h1
      have hjS : j < S := by omega
      have hl := hle j hjS
      refine h25 _ _ (br_f (nI_ge (by omega) (by omega)) ?_)
      rw [hlen j hjS, nI_1 (L j), kAt_nI (by omega), kPut_nI (by omega), h1 _ (by omega), nI_1, nI_1]
      refine ih (j + 1) _ (by omega) (fun l hl2 => ?_)
      show upd (gW_heads tW) (L j + 1) _ l = _
      by_cases hlj : l = L j + 1
      · subst hlj
        rw [pk_us, ct_s, if_pos (show eq1 L (L j + 1) j = true from decide_eq_true rfl)]
      · rw [pk_un hlj, h1 l hl2, ct_s, if_neg (show ¬ eq1 L l j = true from fun h => hlj (of_decide_eq_true h).symm)]
        congr 1
  have p1 : ∀ d y tW, y + d = 62 → (∀ l, l < y → gW_heads tW l = 0) → X2 (nI y) tW := by
    intro d
    induction d with
    | zero =>
      intro y tW hy h1
      have hy : y = 62 := by omega
      subst hy
      exact h2 _ _ (br_t (by decide) (p2 S 0 tW (by omega) (fun l hl => by rw [h1 l (by omega)]; rfl)))
    | succ d ih =>
      intro y tW hy h1
      refine h2 _ _ (br_f (nI_nlt (b := y) (a := 61) (by omega) (by decide)) ?_)
      rw [kPut_nI (by omega), nI_1]
      refine ih (y + 1) _ (by omega) (fun l hl => ?_)
      show upd (gW_heads tW) y 0 l = _
      by_cases hly : l = y
      · subst hly; exact pk_us
      · rw [pk_un hly]; exact h1 l (by omega)
  exact p1 62 0 w rfl (fun l hl => absurd hl (Nat.not_lt_zero l))
end ORDER
