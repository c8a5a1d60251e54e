/-! ends that are beginnings -/
theorem ct_flat {p : Nat → Bool} {a b : Nat} (h : a ≤ b) (hp : ∀ j, a ≤ j → j < b → p j = false) : ct p b = ct p a := by
  induction h with
  | refl => rfl
  | step hm ih =>
    have hm : a ≤ _ := hm
    rw [ct_s, ih (fun j j1 j2 => hp j j1 (by omega)), if_neg (by rw [hp _ hm (Nat.lt_succ_self _)]; decide)]
    rfl
def bp (t : Nat → Nat) (n m : Nat) : Bool := decide (0 < m ∧ m < n ∧ m ≤ al t n m)
theorem bp_iff {t : Nat → Nat} {n m : Nat} : bp t n m = true ↔ 0 < m ∧ m < n ∧ m ≤ al t n m := by unfold bp; exact decide_eq_true_iff
section BORDER
variable {t : Nat → Nat} {n K : Nat} {u : MSt} {r : RSt}
theorem c_firstEnd (hB : Base t n K) (hC : ClInv t n K u) {s : Nat} (hs : s < cS t n) : ∃ e, e ≤ n ∧ cL t n s ≤ al t (cF t n s) e ∧ (∀ j, j < e → ¬ cL t n s ≤ al t (cF t n s) j) ∧ fX2_firstEndOf u (nI s) = nI e := by
  have hf := (c_inv t n).2.1 s hs
  obtain ⟨e, e1, e2, e3⟩ := en_first (t := t) hf.2 hf.1
  refine ⟨e, e1, e2, e3, ?_⟩
  unfold fX2_firstEndOf
  rw [c_ends hB hC hs]
  exact firstOf_en hB.1 e1 e2 e3
/-- a border is a state of the chain -/
theorem bp_state {S : Nat} {len fe : Nat → Nat} (h : SInv t n S len fe) {m : Nat} (hb : bp t n m = true) : ∃ s, s < S ∧ len s = m ∧ m ≤ al t (fe s) m ∧ len s ≤ al t (fe s) n := by
  obtain ⟨b1, b2, b3⟩ := bp_iff.mp hb
  obtain ⟨s, s1, s2, s3, s4⟩ := S_of h (e := m) (m := m) (Nat.le_refl _) (by omega)
  have h1 : len s ≤ al t (fe s) m := (s4 m (by omega)).mpr (by rw [al_self]; exact Nat.le_refl _)
  have h2 : len s = m := by
    have := al_le' t (fe s) m
    omega
  refine ⟨s, s1, h2, by omega, (s4 n (Nat.le_refl _)).mpr (al_sym b3)⟩
theorem bp_gap {S : Nat} {len fe : Nat → Nat} (h : SInv t n S len fe) {s p : Nat} (hs : s < S) (hk : isLk t n len fe s p) (hsn : len s ≤ al t (fe s) n) : ∀ j, len p + 1 ≤ j → j < len s → bp t n j = false := fun j j1 j2 => by
  cases hb : bp t n j with
  | false => rfl
  | true =>
    obtain ⟨v, v1, v2, v3, v4⟩ := bp_state h hb
    have := S_btw h hs v1 hk hsn v4 (by omega)
    omega
theorem w_kthBorder (hB : Base t n K) (hC : ClInv t n K u) {w : WSt} {k : Nat} (hk : k < 2 ^ 31) {Q : Int32 → Prop} (hn : ct (bp t n) n ≤ k → Q (-4)) (hy : ∀ m, bp t n m = true → ct (bp t n) n = ct (bp t n) (m + 1) + k → Q (nI m)) : wpX5_kthBorder w u (nI k) Q := by
  have hI := c_inv t n
  have hn60 := hB.1
  have h121 := cs_le hB
  unfold wpX5_kthBorder
  intro X20 X56 h20 h56
  have loop : ∀ d s c y, cL t n s ≤ d → s < cS t n → cL t n s ≤ al t (cF t n s) n → cL t n s < n → c + ct (bp t n) (cL t n s + 1) = ct (bp t n) n → c ≤ k → y + cL t n s ≤ 60 → X20 (nI s) (nI c) (nI y) := by
    intro d
    induction d with
    | zero =>
      intro s c y hd hs hsn hln hc hck hyl
      have hs0 : s = 0 := S_zero hI hs (by omega)
      subst hs0
      refine h20 _ _ _ (br_f (nI_ge (b := 121) (by omega) (by decide)) (br_t (by decide) (hn ?_)))
      rw [show cL t n 0 = 0 from hI.1.2.1] at hc
      have : ct (bp t n) (0 + 1) = 0 := ct_0 (fun b hb => by
        cases hq : bp t n b with
        | false => rfl
        | true => have := (bp_iff.mp hq).1; omega)
      omega
    | succ d ih =>
      intro s c y hd hs hsn hln hc hck hyl
      rcases Nat.eq_zero_or_pos (cL t n s) with g | g
      · exact ih s c y (by omega) hs hsn hln hc hck hyl
      · have hs0 : 0 < s := by
          rcases Nat.eq_zero_or_pos s with e | e
          · subst e; rw [hI.1.2.1] at g; omega
          · exact e
        refine h20 _ _ _ (br_f (nI_ge (b := 121) (by omega) (by decide)) (br_f (nI_nle hs0 (by omega)) ?_))
        obtain ⟨p, p1, p2, p3⟩ := c_link hB hC hs0 hs
        obtain ⟨e, e1, e2, e3, e4⟩ := c_firstEnd hB hC hs
        have hlp := p3.1
        have hpn : cL t n p ≤ al t (cF t n p) n := lk_end p3 hsn
        have flat : ct (bp t n) (cL t n s) = ct (bp t n) (cL t n p + 1) := ct_flat (by omega) (bp_gap hI hs p3 hsn)
        have next : ∀ c', c' + ct (bp t n) (cL t n s) = ct (bp t n) n → c' ≤ k → X56 (nI s) (nI c') (nI y) := fun c' h1 h2 => by
          refine h56 _ _ _ ?_
          rw [p2, nI_1]
          exact ih p c' (y + 1) (by omega) p1 hpn (by omega) (by omega) h2 (by omega)
        unfold fX5_beginsText
        rw [e4, c_longest hB hC hs]
        rw [ct_s] at hc
        by_cases he : e = cL t n s
        · have hbp : bp t n (cL t n s) = true := bp_iff.mpr ⟨g, hln, al_sym (al_tri (al_sym (by rw [← he] at e2 ⊢; exact e2)) hsn)⟩
          rw [if_pos hbp] at hc
          rw [if_pos (by rw [he])]
          have hck' : ct (bp t n) n ≤ n := ct_le _ _
          refine br_f (by decide) (pk_eq c k (fun q => hy _ hbp ?_) (fun q => ?_) rfl rfl (by omega) hk)
          · rw [ct_s, if_pos hbp]; omega
          · rw [nI_1]
            exact next (c + 1) (by omega) (by omega)
        · have hbp : ¬ bp t n (cL t n s) = true := fun hb => by
            obtain ⟨v, v1, v2, v3, v4⟩ := bp_state hI hb
            have hvs : v = s := S_same hI v1 hs v2 v4 hsn
            subst hvs
            have h1 : ¬ cL t n v < e := fun q => e3 _ q v3
            have h2 := al_le' t (cF t n v) e
            omega
          rw [if_neg hbp] at hc
          rw [if_neg (fun q => he (nI_inj (by omega) (by have := cL_le hB hs; omega) q))]
          exact br_t rfl (next c (by omega) hck)
  obtain ⟨la, l1, l2, l3, l4⟩ := hC.1.2.2.2.1
  unfold fX2_lastState
  rw [l4]
  rcases Nat.eq_zero_or_pos n with g | g
  · have hs0 : la = 0 := S_zero hI l1 (by omega)
    subst hs0
    rw [show fX2_linkOf u (nI 0) = -4 from c_link0 hB hC]
    refine h20 _ _ _ (br_f (by decide) (br_t (by decide) (hn ?_)))
    have := ct_le (bp t n) n
    omega
  · have hs0 : 0 < la := by
      rcases Nat.eq_zero_or_pos la with e | e
      · subst e; rw [hI.1.2.1] at l2; omega
      · exact e
    obtain ⟨p, p1, p2, p3⟩ := c_link hB hC hs0 l1
    rw [p2]
    have hln : cL t n la ≤ al t (cF t n la) n := by rw [l2, l3, al_self]; exact Nat.le_refl _
    have hlp := p3.1
    have flat : ct (bp t n) (cL t n la) = ct (bp t n) (cL t n p + 1) := ct_flat (by omega) (bp_gap hI l1 p3 hln)
    rw [l2] at flat hlp
    exact loop _ p 0 0 (Nat.le_refl _) p1 (lk_end p3 hln) hlp (by omega) (Nat.zero_le _) (by omega)
theorem w_isBorder (hB : Base t n K) (hR : RfInv t n K r) {m : Nat} (hm0 : 0 < m) (hm : m < n) {Q : Int32 → Prop} (h1 : bp t n m = true → Q 1) (h0 : bp t n m = false → Q 0) : wpX7_isBorder r (nI m) Q := by
  have hn := hB.1
  unfold wpX7_isBorder
  rw [hR_n hR]
  refine w_alikeAt (r_txt hB hR) (Nat.le_refl _) (by omega) ?_
  have h2 := al_le' t n m
  refine pk_eq (al t n m) m (fun q => h1 (bp_iff.mpr ⟨hm0, hm, by omega⟩)) (fun q => h0 ?_) rfl rfl (by omega) (by omega)
  cases hb : bp t n m with
  | false => rfl
  | true => have := (bp_iff.mp hb).2.2; omega
theorem m1_0 : nI 0 + (-1) = -1 := by decide
theorem w_border (hB : Base t n K) (hR : RfInv t n K r) {k : Nat} (hk : k < 2 ^ 31) {Q : Int32 → Prop} (hn : ct (bp t n) n ≤ k → Q (-4)) (hy : ∀ m, bp t n m = true → ct (bp t n) n = ct (bp t n) (m + 1) + k → Q (nI m)) : wpX7_border r (nI k) Q := by
  have hn60 := hB.1
  unfold wpX7_border
  intro X h
  refine br_t (nI_pos' hk) ?_
  rw [hR_n hR]
  have c1 : ct (bp t n) 1 = 0 := ct_0 (fun b hb => by
    cases hq : bp t n b with
    | false => rfl
    | true => have := (bp_iff.mp hq).1; omega)
  have loop : ∀ m c, m < n → c ≤ k → (k - c) + ct (bp t n) (m + 1) = ct (bp t n) n → X (nI c) (nI m) := by
    intro m
    induction m with
    | zero =>
      intro c _ hc hcc
      rw [c1] at hcc
      exact h _ _ (br_t (by decide) (hn (by omega)))
    | succ m ih =>
      intro c hm hc hcc
      refine h _ _ (br_f (nI_nle (by omega) (by omega)) (w_isBorder hB hR (by omega) hm (fun hb => br_f (by decide) ?_) (fun hb => br_t rfl ?_)))
      · rw [ct_s, if_pos hb] at hcc
        refine pk_eq c 0 (fun q => hy _ hb ?_) (fun q => ?_) rfl rfl (by omega) (by decide)
        · rw [ct_s, if_pos hb]; omega
        · obtain ⟨c', rfl⟩ : ∃ c', c = c' + 1 := ⟨c - 1, by omega⟩
          rw [pk_m1, pk_m1]
          exact ih c' (by omega) (by omega) (by omega)
      · rw [ct_s, if_neg (by rw [hb]; decide)] at hcc
        rw [pk_m1]
        exact ih c (by omega) hc (by omega)
  cases n with
  | zero =>
    refine h _ _ (br_t (by decide) (hn ?_))
    exact Nat.zero_le _
  | succ n =>
    rw [nI_pred]
    exact loop n k (by omega) (Nat.le_refl _) (by omega)
theorem bp_top {m : Nat} (hb : bp t n m = true) (h : ct (bp t n) n = ct (bp t n) (m + 1)) : ∀ j, m < j → bp t n j = false := fun j hj => by
  cases hq : bp t n j with
  | false => rfl
  | true =>
    have := ct_lt (p := bp t n) (k := j) (m := n) (bp_iff.mp hq).2.1 hq
    have := ct_mono (bp t n) (k := m + 1) (m := j) hj
    omega
theorem w_periodR (hB : Base t n K) (hR : RfInv t n K r) {Q : Int32 → Prop} (h0 : n = 0 → Q (-4)) (h1 : 0 < n → (∀ j, bp t n j = false) → Q (nI n)) (h2 : ∀ m, bp t n m = true → (∀ j, m < j → bp t n j = false) → Q (nI (n - m))) : wpX7_period r Q := by
  have hn60 := hB.1
  unfold wpX7_period
  intro X7 X25 h7 h25
  rw [hR_n hR] at h25 ⊢
  have loop : ∀ m, m < n → (∀ j, m < j → bp t n j = false) → X7 (nI m) := by
    intro m
    induction m with
    | zero =>
      intro hn hall
      refine h7 _ (br_t (by decide) (h25 _ (br_f (nI_ne0 hn (by omega)) ?_)))
      rw [pk_sub (Nat.zero_le _)]
      refine h1 hn (fun j => ?_)
      cases hq : bp t n j with
      | false => rfl
      | true => rw [← hq]; exact hall j (bp_iff.mp hq).1
    | succ m ih =>
      intro hm hall
      refine h7 _ (br_f (nI_nle (by omega) (by omega)) (w_isBorder hB hR (by omega) hm (fun hb => br_f (by decide) (h25 _ (br_f (nI_ne0 (by omega) (by omega)) ?_))) (fun hb => br_t rfl ?_)))
      · rw [pk_sub (by omega)]
        exact h2 _ hb hall
      · rw [pk_m1]
        exact ih (by omega) (fun j hj => by
          rcases Nat.lt_or_ge (m + 1) j with g | g
          · exact hall j g
          · rw [show j = m + 1 by omega]; exact hb)
  cases n with
  | zero => exact h7 _ (br_t (by decide) (h25 _ (br_t rfl (h0 rfl))))
  | succ n =>
    rw [nI_pred]
    exact loop n (by omega) (fun j hj => by
      cases hq : bp t (n + 1) j with
      | false => rfl
      | true => have := (bp_iff.mp hq).2.1; omega)
theorem w_periodC (hB : Base t n K) (hC : ClInv t n K u) {w : WSt} {Q : Int32 → Prop} (h0 : n = 0 → Q (-4)) (h1 : 0 < n → (∀ j, bp t n j = false) → Q (nI n)) (h2 : ∀ m, bp t n m = true → (∀ j, m < j → bp t n j = false) → Q (nI (n - m))) : wpX5_period w u Q := by
  have hn60 := hB.1
  unfold wpX5_period
  rw [hC_len hC]
  refine pk_eq n 0 h0 (fun hn => ?_) rfl rfl (by omega) (by decide)
  refine w_kthBorder (k := 0) hB hC (by decide) (fun hc => ?_) (fun m hb hc => ?_)
  · rw [if_neg (by decide), show nI n - 0 = nI n from pk_sub (a := n) (b := 0) (Nat.zero_le _)]
    refine h1 (by omega) (fun j => ?_)
    cases hq : bp t n j with
    | false => rfl
    | true =>
      have := ct_lt (p := bp t n) (k := j) (m := n) (bp_iff.mp hq).2.1 hq
      omega
  · have hm := bp_iff.mp hb
    have h00 : (0 : Int32) < nI m := nI_lt (a := 0) hm.1 (by omega)
    rw [if_pos h00, pk_sub (by omega)]
    exact h2 m hb (bp_top hb (by omega))
end BORDER
theorem LS29_ok : LS29 Rel := by
  rintro ⟨uM, uW, sh, im⟩ r x1 ⟨t, n, K, hB, hC, hR, hS, hI⟩
  have hC : ClInv t n K uM := hC
  have hrel : Rel (uM, uW, sh, im) r := ⟨t, n, K, hB, hC, hR, hS, hI⟩
  unfold wpX6_border
  refine ⟨fun h => ?_, fun h => ?_⟩
  · obtain ⟨k, hk, rfl⟩ := nI_of (Int32.not_lt.mpr h)
    refine w_kthBorder hB hC hk (fun g => w_border hB hR hk (fun _ => ⟨rfl, hrel⟩) (fun m hb hc => ?_)) (fun m hb hc => w_border hB hR hk (fun g => ?_) (fun m' hb' hc' => ⟨?_, hrel⟩))
    · have := ct_lt (p := bp t n) (k := m) (m := m + 1) (by omega) hb
      omega
    · have := ct_lt (p := bp t n) (k := m) (m := m + 1) (by omega) hb
      omega
    · have e : ct (bp t n) m = ct (bp t n) m' := by
        have h1 := ct_s (bp t n) m
        have h2 := ct_s (bp t n) m'
        rw [if_pos hb] at h1
        rw [if_pos hb'] at h2
        omega
      rw [ct_inj hb hb' e]
  · unfold wpX7_border
    intro X _
    exact br_f h ⟨rfl, hrel⟩
