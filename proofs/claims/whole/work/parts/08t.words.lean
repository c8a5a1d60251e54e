/-! words of sheets -/
def we (t : Nat → Nat) (n : Nat) (w : Nat → Int32) (a : Nat) : Nat → Nat → Bool
  | 0, b => decide (b ≤ n)
  | l + 1, b => decide (0 < b ∧ b ≤ n ∧ nI (t (b - 1)) = w (a + l)) && we t n w a l (b - 1)
theorem we_s {t : Nat → Nat} {n : Nat} {w : Nat → Int32} {a l b : Nat} : we t n w a (l + 1) b = true ↔ 0 < b ∧ b ≤ n ∧ nI (t (b - 1)) = w (a + l) ∧ we t n w a l (b - 1) = true := by
  show (decide (0 < b ∧ b ≤ n ∧ nI (t (b - 1)) = w (a + l)) && we t n w a l (b - 1)) = true ↔ _
  rw [Bool.and_eq_true, decide_eq_true_iff]
  constructor
  · rintro ⟨⟨h1, h2, h3⟩, h4⟩; exact ⟨h1, h2, h3, h4⟩
  · rintro ⟨h1, h2, h3, h4⟩; exact ⟨⟨h1, h2, h3⟩, h4⟩
theorem we_n {t : Nat → Nat} {n : Nat} {w : Nat → Int32} {a l b : Nat} (h : we t n w a l b = true) : b ≤ n := by
  cases l with
  | zero => exact of_decide_eq_true h
  | succ l => exact (we_s.mp h).2.1
theorem we_le {t : Nat → Nat} {n : Nat} {w : Nat → Int32} {a : Nat} : ∀ {l b : Nat}, we t n w a l b = true → l ≤ b := by
  intro l
  induction l with
  | zero => intro b _; exact Nat.zero_le _
  | succ l ih =>
    intro b h
    obtain ⟨h1, h2, h3, h4⟩ := we_s.mp h
    have := ih h4
    omega
theorem we_none {t : Nat → Nat} {n : Nat} {w : Nat → Int32} {a l : Nat} (h : ∀ b, we t n w a l b = false) : ∀ {l'}, l ≤ l' → ∀ b, we t n w a l' b = false := by
  intro l' hl
  induction hl with
  | refl => exact h
  | step _ ih =>
    intro b
    cases hq : we t n w a _ b with
    | false => rfl
    | true => have := (we_s.mp hq).2.2.2; rw [ih] at this; exact absurd this (by decide)
def stW (t : Nat → Nat) (n : Nat) (w : Nat → Int32) (a l : Nat) (v : Int32) : Prop := (∃ s, s < cS t n ∧ v = nI s ∧ ∀ b, b ≤ n → (cL t n s ≤ al t (cF t n s) b ↔ we t n w a l b = true)) ∨ (v = -4 ∧ ∀ b, we t n w a l b = false)
section WORDS
variable {t : Nat → Nat} {n K : Nat} {u : MSt} {r : RSt} {w : Nat → Int32} {a l : Nat}
theorem stW_0 : stW t n w a 0 0 := by
  have hI := c_inv t n
  exact Or.inl ⟨0, hI.1.1, rfl, fun b hb => by rw [hI.1.2.1]; exact ⟨fun _ => decide_eq_true hb, fun _ => Nat.zero_le _⟩⟩
theorem moveOf_no (hB : Base t n K) (hC : ClInv t n K u) {v x : Int32} (h : (∀ c, c < K → x ≠ nI c) ∨ v = -4) : fX2_moveOf u v x = -4 := by
  unfold fX2_moveOf
  rcases h with h | h
  · have h0 : fX2_isLetter u x = 0 := by
      unfold fX2_isLetter
      rcases i32 x with g | ⟨k, hk, rfl⟩
      · rw [if_pos g]
      · rw [if_neg (nI_pos hk), hC_al hC]
        rcases Nat.lt_or_ge k K with g | g
        · exact absurd rfl (h k g)
        · rw [if_pos (nI_le g hk)]
    rw [h0]
    by_cases hs : fX2_isState u v = 0
    · rw [if_pos hs]
    · rw [if_neg hs, if_pos rfl]
  · subst h
    have h0 : fX2_isState u (-4) = 0 := by unfold fX2_isState; rw [if_pos (by decide)]
    rw [h0, if_pos rfl]
theorem stW_step (hB : Base t n K) (hC : ClInv t n K u) {v : Int32} (h : stW t n w a l v) : stW t n w a (l + 1) (fX2_moveOf u v (w (a + l))) := by
  have none : (∀ b, we t n w a (l + 1) b = false) → fX2_moveOf u v (w (a + l)) = -4 → stW t n w a (l + 1) (fX2_moveOf u v (w (a + l))) := fun h1 h2 => Or.inr ⟨h2, h1⟩
  have fls : ∀ {b}, ¬ we t n w a (l + 1) b = true → we t n w a (l + 1) b = false := fun h => by
    cases hq : we t n w a (l + 1) _ with
    | false => rfl
    | true => exact absurd hq h
  rcases h with ⟨s, s1, s2, s3⟩ | ⟨h1, h2⟩
  · by_cases hc : ∃ c, c < K ∧ w (a + l) = nI c
    · obtain ⟨c, c1, c2⟩ := hc
      have hK5 := hB.2.2.1
      have tc : ∀ e, e < n → (nI (t e) = w (a + l) ↔ t e = c) := fun e he => by
        have := hB.2.2.2 e he
        rw [c2, nI_eq (by omega) (by omega)]
      rw [c2, s2]
      rcases c_mv hB hC s1 c1 with ⟨x, x1, x2, x3⟩ | ⟨x2, x3⟩
      · rw [x2]
        refine Or.inl ⟨x, x1, rfl, fun b hb => ?_⟩
        rw [x3 b hb, we_s]
        constructor
        · rintro ⟨e, rfl, e2, e3⟩
          refine ⟨by omega, hb, ?_, ?_⟩
          · rw [Nat.add_sub_cancel, tc e (by omega)]; exact e2
          · rw [Nat.add_sub_cancel, ← s3 e (by omega)]; exact e3
        · rintro ⟨b1, b2, b3, b4⟩
          exact ⟨b - 1, by omega, (tc _ (by omega)).mp b3, (s3 _ (by omega)).mpr b4⟩
      · rw [x2]
        refine Or.inr ⟨rfl, fun b => fls (fun hq => ?_)⟩
        obtain ⟨b1, b2, b3, b4⟩ := we_s.mp hq
        exact x3 (b - 1) (by omega) ((tc _ (by omega)).mp b3) ((s3 _ (by omega)).mpr b4)
    · refine none (fun b => fls (fun hq => ?_)) (moveOf_no hB hC (Or.inl (fun c c1 c2 => hc ⟨c, c1, c2⟩)))
      obtain ⟨b1, b2, b3, b4⟩ := we_s.mp hq
      exact hc ⟨t (b - 1), hB.2.2.2 _ (by omega), b3.symm⟩
  · refine none (we_none h2 (by omega)) (moveOf_no hB hC (Or.inr h1))
theorem w_stateOfS (hB : Base t n K) (hC : ClInv t n K u) {uW : WSt} {s : SSt} {k : Nat} (hk : k ≤ 64) (hs : gS_length s = nI k) {Q : Int32 → Prop} (hq : ∀ v, stW t n (fun j => gS_signs s j - 97) 0 k v → Q v) : wpX5_stateOf uW u s Q := by
  unfold wpX5_stateOf
  intro X h
  rw [hs] at h
  have loop : ∀ d j v, j + d = k → stW t n (fun j => gS_signs s j - 97) 0 j v → X v (nI j) := by
    intro d
    induction d with
    | zero =>
      intro j v hj hv
      have hj : j = k := by omega
      subst hj
      exact h _ _ (br_t (nI_le (Nat.le_refl _) (by omega)) (hq v hv))
    | succ d ih =>
      intro j v hj hv
      refine h _ _ (br_f (nI_ge (by omega) (by omega)) ⟨fun q => ?_, fun q => ?_⟩)
      · refine hq v (Or.inr ⟨q, ?_⟩)
        rcases hv with ⟨x, x1, x2, x3⟩ | ⟨_, h2⟩
        · rw [x2] at q
          exact absurd q (nI_m4 (by have := cs_le hB; omega))
        · exact we_none h2 (by omega)
      · rw [letterAt_S (by omega), nI_1]
        have := stW_step hB hC hv
        rw [Nat.zero_add] at this
        exact ih (j + 1) _ (by omega) this
  exact loop k 0 0 (Nat.zero_add _) stW_0
theorem stW_ends (hB : Base t n K) (hC : ClInv t n K u) {v : Int32} (h : stW t n w a l v) : fX2_endsOf u v = sv (we t n w a l) := by
  rcases h with ⟨s, s1, s2, s3⟩ | ⟨h1, h2⟩
  · rw [s2, c_ends hB hC s1]
    unfold enS
    refine sv_ext (fun b _ => ?_)
    by_cases hb : b ≤ n
    · have := s3 b hb
      cases hq : we t n w a l b with
      | true => exact decide_eq_true ⟨hb, this.mpr hq⟩
      | false => exact decide_eq_false (fun h => by have := this.mp h.2; rw [hq] at this; exact absurd this (by decide))
    · cases hq : we t n w a l b with
      | true => exact absurd (we_n hq) hb
      | false => exact decide_eq_false (fun h => hb h.1)
  · subst h1
    have h0 : fX2_isState u (-4) = 0 := by unfold fX2_isState; rw [if_pos (by decide)]
    unfold fX2_endsOf
    rw [h0, if_pos rfl]
    exact (sv_0.mpr (fun b _ => h2 b)).symm
theorem w_behindX (hn : n ≤ 60) (hT : Txt t n r) (hr : gR_n r = nI n) {p : Nat → Bool} {x : Int32} {Q : Int64 → Prop} (hq : Q (sv (fun b => decide (0 < b ∧ b ≤ n ∧ nI (t (b - 1)) = x) && p (b - 1)))) : wpX7_behind r (sv p) x Q := by
  unfold wpX7_behind
  intro X6 X46 X47 h6 h46 h47
  rw [hr] at h6
  have loop : ∀ d k, k + d = n → X6 (sv (fun b => decide (0 < b ∧ b ≤ k ∧ nI (t (b - 1)) = x) && p (b - 1))) (nI k) := by
    intro d
    induction d with
    | zero =>
      intro k hk
      have hk : k = n := by omega
      subst hk
      exact h6 _ _ (br_t (nI_le (Nat.le_refl _) (by omega)) hq)
    | succ d ih =>
      intro k hk
      have hx := ih (k + 1) (by omega)
      have no : ¬ (nI (t k) = x ∧ p k = true) → X46 (nI k) (sv (fun b => decide (0 < b ∧ b ≤ k ∧ nI (t (b - 1)) = x) && p (b - 1))) := fun hno => by
        refine h46 _ _ (h47 _ _ _ ?_)
        rw [nI_1, ← sv_nil, sv_or]
        rw [show sv (fun b => decide (0 < b ∧ b ≤ k ∧ nI (t (b - 1)) = x) && p (b - 1) || false) = sv (fun b => decide (0 < b ∧ b ≤ k + 1 ∧ nI (t (b - 1)) = x) && p (b - 1)) from sv_ext (fun b _ => by
          by_cases hb : b = k + 1
          · subst hb
            simp only [Nat.add_sub_cancel]
            cases hp : p k
            · simp
            · simp; intro e; exact (hno ⟨e, hp⟩).elim
          · have e : (b ≤ k + 1) ↔ b ≤ k := by omega
            simp [e])]
        exact hx
      refine h6 _ _ (br_f (nI_ge (by omega) (by omega)) (has0 p (by omega) (fun hp => no (fun h => by rw [hp] at h; exact absurd h.2 (by decide))) (fun hp => ⟨vp_in_nI (by omega) (by decide), ?_⟩)))
      rw [nI_clamp (by omega), hT.2.1 k (by omega)]
      refine ⟨fun e => h47 _ _ _ ?_, fun e => no (fun h => e h.1)⟩
      rw [nI_1, sv_bit (by omega), sv_or]
      rw [show sv (fun b => decide (0 < b ∧ b ≤ k ∧ nI (t (b - 1)) = x) && p (b - 1) || decide (b = k + 1)) = sv (fun b => decide (0 < b ∧ b ≤ k + 1 ∧ nI (t (b - 1)) = x) && p (b - 1)) from sv_ext (fun b _ => by
        by_cases hb : b = k + 1
        · subst hb; simp [hp, e]
        · have e : (b ≤ k + 1) ↔ b ≤ k := by omega
          simp [e, hb])]
      exact hx
  have := loop n 0 (by omega)
  rw [show sv (fun b => decide (0 < b ∧ b ≤ 0 ∧ nI (t (b - 1)) = x) && p (b - 1)) = 0 from sv_0.mpr (fun b _ => by
    have h0 : ¬ (0 < b ∧ b ≤ 0 ∧ nI (t (b - 1)) = x) := by omega
    rw [decide_eq_false h0]; rfl)] at this
  exact this
theorem w_endsIn (hB : Base t n K) (hR : RfInv t n K r) {i : Nat} (hi : i < 4) (hal : a + l ≤ 64) (hw : ∀ j, j < a + l → gR_sheets r (64 * i + j) - 97 = w j) {Q : Int64 → Prop} (hq : Q (sv (we t n w a l))) : wpX7_endsIn r (nI i) (nI a) (nI (a + l)) Q := by
  have hn := hB.1
  unfold wpX7_endsIn
  intro X h
  have loop : ∀ d j, j + d = l → X (sv (we t n w a j)) (nI (a + j)) := by
    intro d
    induction d with
    | zero =>
      intro j hj
      have hj : j = l := by omega
      subst hj
      exact h _ _ (br_t (nI_le (Nat.le_refl _) (by omega)) hq)
    | succ d ih =>
      intro j hj
      refine h _ _ (br_f (nI_ge (by omega) (by omega)) ?_)
      rw [ix64, nI_clamp (by omega), hw _ (by omega), nI_1]
      exact ⟨vp_in_nI (by omega) (by decide), w_behindX hn (r_txt hB hR) (hR_n hR) (ih (j + 1) (by omega))⟩
  unfold fX7_all
  rw [hR_n hR, sv_all hn]
  exact loop l 0 (Nat.zero_add _)
theorem w_stateOfV (hB : Base t n K) (hR : RfInv t n K r) {v : Int32} (h : stW t n w a l v) {Q : Int32 → Prop} (hq : Q v) : wpX7_stateOf r (sv (we t n w a l)) Q := by
  have hI := c_inv t n
  have hn := hB.1
  have key : ∀ s, s < cS t n → (gR_ends r s = sv (we t n w a l) ↔ ∀ b, b ≤ n → (cL t n s ≤ al t (cF t n s) b ↔ we t n w a l b = true)) := fun s hs => by
    rw [r_ends hR hs]
    unfold enS
    rw [sv_eq]
    constructor
    · intro h1 b hb
      have := h1 b (by omega)
      rw [← this, decide_eq_true_iff]
      exact ⟨fun q => ⟨hb, q⟩, fun q => q.2⟩
    · intro h1 b _
      by_cases hb : b ≤ n
      · have := h1 b hb
        cases hq : we t n w a l b with
        | true => exact decide_eq_true ⟨hb, this.mpr hq⟩
        | false => exact decide_eq_false (fun h => by have := this.mp h.2; rw [hq] at this; exact absurd this (by decide))
      · cases hq : we t n w a l b with
        | true => exact absurd (we_n hq) hb
        | false => exact decide_eq_false (fun h => hb h.1)
  have huq : ∀ s s', s < cS t n → s' < cS t n → gR_ends r s = sv (we t n w a l) → gR_ends r s' = sv (we t n w a l) → s = s' := fun s s' h1 h2 e1 e2 => hI.2.2.1 s s' h1 h2 (fun b hb => by rw [(key s h1).mp e1 b hb, (key s' h2).mp e2 b hb])
  rcases h with ⟨s, s1, s2, s3⟩ | ⟨h1, h2⟩
  · subst s2
    have hk := (key s s1).mpr s3
    exact w_stateOf (hR_st hR) (cs_le hB) (fun s' a1 a2 _ => by rw [huq s' s a1 s1 a2 hk]; exact hq) (fun hno => absurd hk (hno s s1)) huq
  · subst h1
    refine w_stateOf (hR_st hR) (cs_le hB) (fun s' a1 a2 _ => ?_) (fun _ => hq) huq
    have := ((key s' a1).mp a2 _ (hI.2.1 s' a1).2).mp (S_fe hI a1)
    rw [h2] at this
    exact absurd this (by decide)
end WORDS
/-- a sheet that is there, on both sides: its word -/
theorem w_word {t : Nat → Nat} {n K : Nat} {r : RSt} (hB : Base t n K) (hR : RfInv t n K r) {sh : Nat → SSt} {i k : Nat} (hi : i < 4) (hk : k ≤ 64) (hs : ∀ j, j < k → gS_signs (sh i) j = gR_sheets r (64 * i + j)) (hz : gR_sizes r i = nI k) {Q : Int64 → Prop} (hq : Q (sv (we t n (fun j => gS_signs (sh i) j - 97) 0 k))) : vp_in (nI i) 4 ∧ wpX7_endsIn r (nI i) 0 (gR_sizes r (nI i).toNatClampNeg) Q := by
  refine ⟨vp_in_nI hi (by decide), ?_⟩
  rw [nI_clamp (by omega), hz]
  have := w_endsIn (a := 0) (l := k) (w := fun j => gS_signs (sh i) j - 97) hB hR hi (by omega) (fun j hj => by rw [hs j (by omega)]) hq
  rw [Nat.zero_add] at this
  exact this
theorem LS15_ok : LS15 Rel := by
  rintro ⟨uM, uW, sh, im⟩ r x1 ⟨t, n, K, hB, hC, hR, hS, hI⟩
  have hC : ClInv t n K uM := hC
  have hS : ShR sh (gR_sizes r) (gR_sheets r) := hS
  have hrel : Rel (uM, uW, sh, im) r := ⟨t, n, K, hB, hC, hR, hS, hI⟩
  unfold wpX6_walk wpX7_walk
  refine ⟨fun h => w_need (fun _ => br_f (by decide) ⟨rfl, hrel⟩) (fun i hi e => by subst e; exact (not_sheet hi h).elim), fun i hi e => ?_⟩
  subst e
  rcases hS i hi with ⟨a, b⟩ | ⟨a, k, b1, b2, b3, b4⟩
  · refine br_t a (w_need (fun h => (not_sheet hi h).elim) (fun i' hi' e => ?_))
    have e : i = i' := nI_inj (by omega) (by omega) e
    subst e
    rw [b]; exact br_f (by decide) (br_f (by decide) ⟨rfl, hrel⟩)
  · refine br_f (by rw [a]; decide) (w_stateOfS hB hC b1 b2 (fun v hv => w_need (fun h => (not_sheet hi h).elim) (fun i' hi' e => ?_)))
    have e : i = i' := nI_inj (by omega) (by omega) e
    subst e
    rw [b3]
    exact br_t (nI_pos' (by omega)) (br_t (by decide) (w_word hB hR hi b1 b4 b3 (w_stateOfV hB hR hv ⟨rfl, hrel⟩)))
theorem LS25_ok : LS25 Rel := by
  rintro ⟨uM, uW, sh, im⟩ r x1 ⟨t, n, K, hB, hC, hR, hS, hI⟩
  have hC : ClInv t n K uM := hC
  have hS : ShR sh (gR_sizes r) (gR_sheets r) := hS
  have hrel : Rel (uM, uW, sh, im) r := ⟨t, n, K, hB, hC, hR, hS, hI⟩
  unfold wpX6_gap wpX7_gap
  refine ⟨fun h => w_need (fun _ => br_f (by decide) ⟨rfl, hrel⟩) (fun i hi e => by subst e; exact (not_sheet hi h).elim), fun i hi e => ?_⟩
  subst e
  rcases hS i hi with ⟨a, b⟩ | ⟨a, k, b1, b2, b3, b4⟩
  · refine br_t a (w_need (fun h => (not_sheet hi h).elim) (fun i' hi' e => ?_))
    have e : i = i' := nI_inj (by omega) (by omega) e
    subst e
    rw [b]; exact br_f (by decide) (br_f (by decide) ⟨rfl, hrel⟩)
  · refine br_f (by rw [a]; decide) (w_stateOfS hB hC b1 b2 (fun v hv => ?_))
    rw [show fX2_endsOf (uM, uW, sh, im).1 v = _ from stW_ends hB hC hv]
    refine w_widestGap ?_
    obtain ⟨p, hp⟩ : ∃ p, p = we t n (fun j => gS_signs (sh i) j - 97) 0 k := ⟨_, rfl⟩
    have hg := (gs_le p 61).1
    have ref : ∀ a : Int32, a = (if (gs p 61).1 = 0 then -4 else nI (gs p 61).1) → wpX7_need r (nI i) (fun r1 => ((0 : Int32) ≤ r1 → vp_in (nI i) 4 ∧ wpX7_endsIn r (nI i) 0 (gR_sizes r (nI i).toNatClampNeg) (fun r3 => wpX7_gapOf r3 (fun r4 => a = r4 ∧ Rel (uM, uW, sh, im) r))) ∧ (¬ (0 : Int32) ≤ r1 → a = r1 ∧ Rel (uM, uW, sh, im) r)) := fun a ha => by
      refine w_need (fun h => (not_sheet hi h).elim) (fun i' hi' e => ?_)
      have e : i = i' := nI_inj (by omega) (by omega) e
      subst e
      rw [b3]
      refine br_t (nI_pos' (by omega)) (br_t (by decide) (w_word hB hR hi b1 b4 b3 ?_))
      rw [← hp]
      exact w_gapOf ⟨ha, hrel⟩
    rw [show (we t n (fun j => gS_signs ((uM, uW, sh, im).2.2.1 i) j - 97) 0 k) = p from hp.symm]
    refine pk_le (gs p 61).1 0 (fun q => ref _ ?_) (fun q => ref _ ?_) rfl rfl (by omega) (by decide)
    · rw [if_pos (by omega)]
    · rw [if_neg (by omega)]
theorem LS16_ok : LS16 Rel := by
  rintro ⟨uM, uW, sh, im⟩ r x1 x2 ⟨t, n, K, hB, hC, hR, hS, hI⟩
  have hC : ClInv t n K uM := hC
  have hS : ShR sh (gR_sizes r) (gR_sheets r) := hS
  have hrel : Rel (uM, uW, sh, im) r := ⟨t, n, K, hB, hC, hR, hS, hI⟩
  have bad : ((x1 < 0 ∨ 4 ≤ x1) ∨ x2 < 0 ∨ ¬ x2 ≤ 2) → wpX7_times r x1 x2 (fun b => -1 = b ∧ Rel (uM, uW, sh, im) r) := fun h => by
    unfold wpX7_times
    intro X hX
    have no : X (-1) := hX _ (br_f (by decide) ⟨rfl, hrel⟩)
    refine in_br (fun _ => no) (fun _ _ => no) (fun g1 g2 => ?_)
    rcases h with h | h | h
    · exact w_need (fun _ => no) (fun i hi e => by subst e; exact (not_sheet hi h).elim)
    · exact absurd h g1
    · exact absurd (Int32.not_lt.mp g2) h
  unfold wpX6_times
  intro X77 h77
  refine ⟨fun h => bad (Or.inl h), fun i hi e => ⟨fun h => bad (Or.inr (Or.inl h)), fun h1 => ⟨fun h2 => ?_, fun h => bad (Or.inr (Or.inr h))⟩⟩⟩
  subst e
  rcases hS i hi with ⟨a, b⟩ | ⟨a, k, b1, b2, b3, b4⟩
  · refine br_t a ?_
    unfold wpX7_times
    intro X hX
    refine in_br (fun g => absurd g h1) (fun _ g => absurd h2 (Int32.not_le.mpr g)) (fun _ _ => w_need (fun h => (not_sheet hi h).elim) (fun i' hi' e => ?_))
    have e : i = i' := nI_inj (by omega) (by omega) e
    subst e
    rw [b]
    exact br_f (by decide) (hX _ (br_f (by decide) ⟨rfl, hrel⟩))
  · refine br_f (by rw [a]; decide) (w_stateOfS hB hC b1 b2 (fun v hv => ?_))
    obtain ⟨p, hp⟩ : ∃ p, p = we t n (fun j => gS_signs (sh i) j - 97) 0 k := ⟨_, rfl⟩
    have ref : ∀ a : Int32, ((x2 = 0 → a = nI (ct p 61)) ∧ (¬ x2 = 0 → ((∀ b, b < 61 → p b = false) → a = -4) ∧ (x2 = 1 → ∀ e, e < 61 → p e = true → (∀ j, j < e → p j = false) → a = nI e) ∧ (¬ x2 = 1 → ∀ e, e < 61 → p e = true → (∀ j, e < j → j < 61 → p j = false) → a = nI e))) → wpX7_times r (nI i) x2 (fun b => a = b ∧ Rel (uM, uW, sh, im) r) := fun a ha => by
      unfold wpX7_times
      intro X hX
      refine in_br (fun g => absurd g h1) (fun _ g => absurd h2 (Int32.not_le.mpr g)) (fun _ _ => w_need (fun h => (not_sheet hi h).elim) (fun i' hi' e => ?_))
      have e : i = i' := nI_inj (by omega) (by omega) e
      subst e
      rw [b3]
      refine br_t (nI_pos' (by omega)) (hX _ (br_t (by decide) (w_word hB hR hi b1 b4 b3 ?_)))
      rw [← hp]
      refine ⟨fun q => w_bits ⟨ha.1 q, hrel⟩, fun q => ⟨fun q2 => ⟨(ha.2 q).1 (fun b hb => sv_0.mp q2 b hb), hrel⟩, fun q2 => ?_⟩⟩
      have hex : ∃ b, b < 61 ∧ p b = true := by
        by_cases he : ∃ b, b < 61 ∧ p b = true
        · exact he
        · refine absurd (sv_0.mpr (fun b hb => ?_)) q2
          cases hq : p b with
          | false => rfl
          | true => exact absurd ⟨b, hb, hq⟩ he
      have hpos : 0 < ct p 61 := by
        obtain ⟨b, c1, c2⟩ := hex
        have := ct_lt c1 c2
        omega
      refine ⟨fun q3 => ?_, fun q3 => ?_⟩
      · obtain ⟨e, e1, e2, e3⟩ := ct_ex hpos
        have h0 : ∀ j, j < e → p j = false := fun j hj => by
          cases hq : p j with
          | false => rfl
          | true => have := ct_lt hj hq; omega
        exact w_least e1 e2 h0 ⟨(ha.2 q).2.1 q3 e e1 e2 h0, hrel⟩
      · obtain ⟨e, e1, e2, e3⟩ := ct_ex (p := p) (k := 61) (i := ct p 61 - 1) (by omega)
        have h0 : ∀ j, e < j → j < 61 → p j = false := fun j hj hj2 => by
          cases hq : p j with
          | false => rfl
          | true => have := ct_lt hj e2; have := ct_lt hj2 hq; omega
        exact w_greatest e1 e2 h0 ⟨(ha.2 q).2.2 q3 e e1 e2 h0, hrel⟩
    rw [show fX2_endsOf (uM, uW, sh, im).1 v = sv p from (stW_ends hB hC hv).trans (by rw [hp])]
    refine ⟨fun q => ref _ ⟨fun _ => bitCount_sv p, fun q2 => absurd q q2⟩, fun q => ⟨fun q1 => h77 _ _ _ ?_, fun q1 => h77 _ _ _ ?_⟩⟩
    · refine w_kthOf (k := 0) (by decide) (fun c => ref _ ⟨fun c => absurd c q, fun _ => ⟨fun _ => rfl, fun _ e e1 e2 e3 => ?_, fun c => absurd q1 c⟩⟩) (fun e e1 e2 e3 => ref _ ⟨fun c => absurd c q, fun _ => ⟨fun c => ?_, fun _ e' f1 f2 f3 => ?_, fun c => absurd q1 c⟩⟩)
      · have := ct_lt e1 e2
        omega
      · rw [c e e1] at e2; exact absurd e2 (by decide)
      · rcases Nat.lt_trichotomy e e' with g | g | g
        · rw [f3 e g] at e2; exact absurd e2 (by decide)
        · rw [g]
        · have := ct_lt g f2
          omega
    · rw [bitCount_sv]
      have hle := ct_le p 61
      rcases Nat.eq_zero_or_pos (ct p 61) with g | g
      · rw [g]
        refine w_kthOf_neg (by decide) (ref _ ⟨fun c => absurd c q, fun _ => ⟨fun _ => rfl, fun c => absurd c q1, fun _ e e1 e2 e3 => ?_⟩⟩)
        have := ct_lt e1 e2
        omega
      · obtain ⟨m, hm⟩ : ∃ m, ct p 61 = m + 1 := ⟨ct p 61 - 1, by omega⟩
        rw [hm, nI_pred]
        refine w_kthOf (by omega) (fun c => by omega) (fun e e1 e2 e3 => ref _ ⟨fun c => absurd c q, fun _ => ⟨fun c => ?_, fun c => absurd c q1, fun _ e' f1 f2 f3 => ?_⟩⟩)
        · rw [c e e1] at e2; exact absurd e2 (by decide)
        · rcases Nat.lt_trichotomy e e' with g | g | g
          · have := ct_lt g e2
            have := ct_lt f1 f2
            omega
          · rw [g]
          · rw [f3 e g e1] at e2; exact absurd e2 (by decide)
