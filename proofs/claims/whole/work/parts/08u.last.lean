/-! what comes next, covers -/
section LAST
variable {t : Nat → Nat} {n K : Nat} {u : MSt} {r : RSt}
theorem c_last (hC : ClInv t n K u) : ∃ la, la < cS t n ∧ cL t n la = n ∧ cF t n la = n ∧ fX2_lastState u = nI la := hC.1.2.2.2.1
theorem stA_of {s p x : Nat} (hs : s < cS t n) (hk : isLk t n (cL t n) (cF t n) s p) (hsn : cL t n s ≤ al t (cF t n s) n) (h1 : cL t n p < x) (h2 : x ≤ cL t n s) : stA t n n x s := by
  refine ⟨hs, fun b hb => ⟨fun h => ?_, fun h => ?_⟩⟩
  · exact Nat.le_trans h2 (al_tri (al_sym hsn) h)
  · have h3 : x ≤ al t (cF t n s) b := al_tri (Nat.le_trans h2 hsn) h
    exact hk.2.2 b hb (by omega)
theorem w_stateOfLast (hB : Base t n K) (hC : ClInv t n K u) {w : WSt} {x : Nat} (hx : x ≤ n) {Q : Int32 → Prop} (hq : ∀ s, stA t n n x s → Q (nI s)) : wpX5_stateOfLast w u (nI x) Q := by
  have hI := c_inv t n
  have hn := hB.1
  have h121 := cs_le hB
  unfold wpX5_stateOfLast
  intro X h
  have loop : ∀ d s y, cL t n s ≤ d → s < cS t n → cL t n s ≤ al t (cF t n s) n → x ≤ cL t n s → y + cL t n s ≤ 60 → X (nI s) (nI y) := by
    intro d
    induction d with
    | zero =>
      intro s y hd hs hsn hxs hyl
      have hs0 : s = 0 := S_zero hI hs (by omega)
      subst hs0
      refine h _ _ (br_f (nI_ge (b := 121) (by omega) (by decide)) (br_t (by decide) (hq 0 ?_)))
      rw [show x = 0 by omega]
      exact stA_0 n
    | succ d ih =>
      intro s y hd hs hsn hxs hyl
      rcases Nat.eq_zero_or_pos (cL t n s) with g | g
      · exact ih s y (by omega) hs hsn hxs hyl
      · have hs0 : 0 < s := by
          rcases Nat.eq_zero_or_pos s with e | e
          · subst e; rw [hI.1.2.1] at g; omega
          · exact e
        obtain ⟨p, p1, p2, p3⟩ := c_link hB hC hs0 hs
        have hlp := p3.1
        have hls := cL_le hB hs
        refine h _ _ (br_f (nI_ge (b := 121) (by omega) (by decide)) (br_f (nI_nle hs0 (by omega)) ?_))
        have e1 : fX2_shortestOf u (nI s) = nI (cL t n p + 1) := by
          unfold fX2_shortestOf
          rw [if_neg (nI_nle hs0 (by omega)), p2, c_longest hB hC p1, nI_1]
        rw [e1]
        refine pk_le (cL t n p + 1) x (fun q => hq s (stA_of hs p3 hsn (by omega) hxs)) (fun q => ?_) rfl rfl (by omega) (by omega)
        rw [p2, nI_1]
        exact ih p (y + 1) (by omega) p1 (lk_end p3 hsn) (by omega) (by omega)
  obtain ⟨la, l1, l2, l3, l4⟩ := c_last hC
  rw [l4]
  exact loop n la 0 (by omega) l1 (by rw [l2, l3, al_self]; exact Nat.le_refl _) (by omega) (by omega)
def nx (q : Nat → Nat → Bool) : Nat → Int32 × Nat
  | 0 => (-4, 0)
  | c + 1 => if ct (q c) 61 ≤ (nx q c).2 then nx q c else (nI c, ct (q c) 61)
theorem nx_le (q : Nat → Nat → Bool) : ∀ c, (nx q c).2 ≤ 61 := by
  intro c
  induction c with
  | zero => exact Nat.zero_le _
  | succ c ih =>
    show (if ct (q c) 61 ≤ (nx q c).2 then nx q c else (nI c, ct (q c) 61)).2 ≤ 61
    have := ct_le (q c) 61
    split
    · exact ih
    · exact this
theorem c_endsMv (hB : Base t n K) (hC : ClInv t n K u) {s c : Nat} (hs : s < cS t n) (hc : c < K) : fX2_endsOf u (fX2_moveOf u (nI s) (nI c)) = sv (fun b => decide (0 < b ∧ b ≤ n ∧ nI (t (b - 1)) = nI c) && decide (b - 1 ≤ n ∧ cL t n s ≤ al t (cF t n s) (b - 1))) := by
  have hn := hB.1
  have hK5 := hB.2.2.1
  have tc : ∀ e, e < n → (nI (t e) = nI c ↔ t e = c) := fun e he => by
    have := hB.2.2.2 e he
    rw [nI_eq (by omega) (by omega)]
  rcases c_mv hB hC hs hc with ⟨v, v1, v2, v3⟩ | ⟨v2, v3⟩
  · rw [v2, c_ends hB hC v1]
    unfold enS
    refine sv_ext (fun b _ => ?_)
    rw [Bool.eq_iff_iff, Bool.and_eq_true, decide_eq_true_iff, decide_eq_true_iff, decide_eq_true_iff]
    constructor
    · rintro ⟨b1, b2⟩
      obtain ⟨e, rfl, e2, e3⟩ := (v3 b b1).mp b2
      rw [Nat.add_sub_cancel]
      exact ⟨⟨by omega, b1, by rw [e2]⟩, by omega, e3⟩
    · rintro ⟨⟨b1, b2, b3⟩, b4, b5⟩
      exact ⟨b2, (v3 b b2).mpr ⟨b - 1, by omega, (tc _ (by omega)).mp b3, b5⟩⟩
  · rw [v2]
    have h0 : fX2_isState u (-4) = 0 := by unfold fX2_isState; rw [if_pos (by decide)]
    unfold fX2_endsOf
    rw [h0, if_pos rfl]
    refine (sv_0.mpr (fun b _ => ?_)).symm
    rw [Bool.and_eq_false_iff, decide_eq_false_iff_not, decide_eq_false_iff_not]
    by_cases hb : 0 < b ∧ b ≤ n ∧ nI (t (b - 1)) = nI c
    · right
      rintro ⟨_, h⟩
      exact v3 (b - 1) (by omega) ((tc _ (by omega)).mp hb.2.2) h
    · exact Or.inl hb
end LAST
theorem LS30_ok : LS30 Rel := by
  rintro ⟨uM, uW, sh, im⟩ r x1 ⟨t, n, K, hB, hC, hR, hS, hI⟩
  have hC : ClInv t n K uM := hC
  have hrel : Rel (uM, uW, sh, im) r := ⟨t, n, K, hB, hC, hR, hS, hI⟩
  obtain ⟨hn, hK1, hK5, ht⟩ := id hB
  have bad : (x1 < 0 ∨ ¬ x1 ≤ nI n) → wpX7_next r x1 (fun b => -1 = b ∧ Rel (uM, uW, sh, im) r) := fun h => by
    unfold wpX7_next
    intro X Y hX hY
    rw [hR_n hR]
    refine in_br (fun _ => ⟨rfl, hrel⟩) (fun _ _ => ⟨rfl, hrel⟩) (fun g1 g2 => ?_)
    rcases h with h | h
    · exact absurd h g1
    · exact absurd (Int32.not_lt.mp g2) h
  unfold wpX6_next
  refine ⟨fun h => bad (Or.inl h), fun h0 => ?_⟩
  rw [show gM_length (uM, uW, sh, im).1 = nI n from hC_len hC]
  refine ⟨fun h1 => ?_, fun h => bad (Or.inr h)⟩
  obtain ⟨x, hx, rfl⟩ := nI_of h0
  have xn : x ≤ n := by
    rcases Nat.lt_or_ge n x with g | g
    · exact absurd h1 (nI_ge g hx)
    · exact g
  obtain ⟨p, hp⟩ : ∃ p : Nat → Bool, p = fun b => decide (b ≤ n ∧ x ≤ al t n b) := ⟨_, rfl⟩
  obtain ⟨q, hq⟩ : ∃ q : Nat → Nat → Bool, q = fun c b => decide (0 < b ∧ b ≤ n ∧ nI (t (b - 1)) = nI c) && p (b - 1) := ⟨_, rfl⟩
  have ref : wpX7_next r (nI x) (fun b => (nx q K).1 = b ∧ Rel (uM, uW, sh, im) r) := by
    unfold wpX7_next
    intro X Y hX hY
    rw [hR_n hR]
    refine in_br (fun g => absurd g h0) (fun _ g => absurd h1 (Int32.not_le.mpr g)) (fun _ _ => ?_)
    refine w_endsOf (r_txt hB hR) (Nat.le_refl _) xn (Nat.le_refl _) ?_
    rw [show enS t n x n = sv p by rw [hp]; rfl]
    rw [hR_al hR] at hX
    have loop : ∀ d c, c + d = K → X (sv p) (nx q c).1 (nI (nx q c).2) (nI c) := by
      intro d
      induction d with
      | zero =>
        intro c hc
        have hc : c = K := by omega
        subst hc
        exact hX _ _ _ _ (br_t (nI_le (Nat.le_refl _) (by omega)) ⟨rfl, hrel⟩)
      | succ d ih =>
        intro c hc
        have hxx := ih (c + 1) (by omega)
        have e0 : nx q (c + 1) = if ct (q c) 61 ≤ (nx q c).2 then nx q c else (nI c, ct (q c) 61) := rfl
        have b1 := ct_le (q c) 61
        have b2 := nx_le q c
        refine hX _ _ _ _ (br_f (nI_ge (by omega) (by omega)) (w_behindX hn (r_txt hB hR) (hR_n hR) ?_))
        rw [show (fun b => decide (0 < b ∧ b ≤ n ∧ nI (t (b - 1)) = nI c) && p (b - 1)) = q c by rw [hq]]
        refine w_bits (pk_le (ct (q c) 61) (nx q c).2 (fun g => hY _ _ _ _ _ (br_t (nI_le g (by omega)) ?_)) (fun g => hY _ _ _ _ _ (br_f (nI_ge g (by omega)) ?_)) rfl rfl (by omega) (by omega))
        · rw [e0, if_pos g] at hxx
          rw [nI_1]; exact hxx
        · rw [e0, if_neg (by omega)] at hxx
          rw [nI_1]; exact hxx
    exact loop K 0 (Nat.zero_add _)
  refine w_stateOfLast hB hC xn (fun s hs => ?_)
  unfold wpX5_likeliestBehind
  intro X hX
  rw [show gM_alphabet (uM, uW, sh, im).1 = nI K from hC_al hC] at hX
  have loop : ∀ d c, c + d = K → X (nx q c).1 (nI (nx q c).2) (nI c) := by
    intro d
    induction d with
    | zero =>
      intro c hc
      have hc : c = K := by omega
      subst hc
      exact hX _ _ _ (br_t (nI_le (Nat.le_refl _) (by omega)) ref)
    | succ d ih =>
      intro c hc
      have hxx := ih (c + 1) (by omega)
      have e0 : nx q (c + 1) = if ct (q c) 61 ≤ (nx q c).2 then nx q c else (nI c, ct (q c) 61) := rfl
      have b1 := ct_le (q c) 61
      have b2 := nx_le q c
      have e1 : fX2_endsOf (uM, uW, sh, im).1 (fX2_moveOf (uM, uW, sh, im).1 (nI s) (nI c)) = sv (q c) := by
        refine (c_endsMv hB hC hs.1 (by omega)).trans (sv_ext (fun b _ => ?_))
        rw [hq, hp]
        show _ = (decide (0 < b ∧ b ≤ n ∧ nI (t (b - 1)) = nI c) && decide (b - 1 ≤ n ∧ x ≤ al t n (b - 1)))
        by_cases hb : b - 1 ≤ n
        · rw [decide_eq_decide.mpr (show (b - 1 ≤ n ∧ cL t n s ≤ al t (cF t n s) (b - 1)) ↔ (b - 1 ≤ n ∧ x ≤ al t n (b - 1)) by rw [hs.2 _ hb])]
        · rw [decide_eq_false (show ¬ (b - 1 ≤ n ∧ cL t n s ≤ al t (cF t n s) (b - 1)) from fun h => hb h.1), decide_eq_false (show ¬ (b - 1 ≤ n ∧ x ≤ al t n (b - 1)) from fun h => hb h.1)]
      refine hX _ _ _ (br_f (nI_ge (by omega) (by omega)) ?_)
      rw [e1, bitCount_sv]
      refine pk_le (ct (q c) 61) (nx q c).2 (fun g => ?_) (fun g => ?_) rfl rfl (by omega) (by omega)
      · rw [e0, if_pos g] at hxx
        rw [nI_1]; exact hxx
      · rw [e0, if_neg (by omega)] at hxx
        rw [nI_1]; exact hxx
  exact loop K 0 (Nat.zero_add _)
/-- covers -/
def cv (t : Nat → Nat) (n m : Nat) : Bool := decide (0 < m ∧ m ≤ n ∧ m ≤ al t n m ∧ (gs (fun b => decide (b ≤ n ∧ m ≤ al t m b)) 61).1 ≤ m)
theorem cv_iff {t : Nat → Nat} {n m : Nat} : cv t n m = true ↔ 0 < m ∧ m ≤ n ∧ m ≤ al t n m ∧ (gs (fun b => decide (b ≤ n ∧ m ≤ al t m b)) 61).1 ≤ m := by unfold cv; exact decide_eq_true_iff
theorem bq_state {t : Nat → Nat} {n S : Nat} {len fe : Nat → Nat} (h : SInv t n S len fe) {m : Nat} (b2 : m ≤ n) (b3 : m ≤ al t n m) : ∃ s, s < S ∧ len s = m ∧ m ≤ al t (fe s) m ∧ len s ≤ al t (fe s) n := by
  obtain ⟨s, s1, s2, s3, s4⟩ := S_of h (e := m) (m := m) (Nat.le_refl _) (by omega)
  have h1 : len s ≤ al t (fe s) m := (s4 m (by omega)).mpr (by rw [al_self]; exact Nat.le_refl _)
  have h2 : len s = m := by
    have := al_le' t (fe s) m
    omega
  refine ⟨s, s1, h2, by omega, (s4 n (Nat.le_refl _)).mpr (al_sym b3)⟩
theorem LS26_ok : LS26 Rel := by
  rintro ⟨uM, uW, sh, im⟩ r ⟨t, n, K, hB, hC, hR, hS, hI⟩
  have hC : ClInv t n K uM := hC
  have hrel : Rel (uM, uW, sh, im) r := ⟨t, n, K, hB, hC, hR, hS, hI⟩
  have hV := c_inv t n
  have hn := hB.1
  have h121 := cs_le hB
  have ref : ∀ a : Int32, ((∀ m, cv t n m = false) → a = -4) → (∀ m, cv t n m = true → (∀ j, j < m → cv t n j = false) → a = nI m) → wpX7_cover r (fun b => a = b ∧ Rel (uM, uW, sh, im) r) := fun a h1 h2 => by
    unfold wpX7_cover
    intro X hX
    rw [hR_n hR] at hX
    have loop : ∀ d m, m + d = n + 1 → 1 ≤ m → (∀ j, j < m → cv t n j = false) → X (nI m) := by
      intro d
      induction d with
      | zero =>
        intro m hm _ hall
        refine hX _ (br_t (nI_lt (by omega) (by omega)) ⟨h1 (fun j => ?_), hrel⟩)
        cases hq : cv t n j with
        | false => rfl
        | true => have := cv_iff.mp hq; rw [← hq]; exact hall j (by omega)
      | succ d ih =>
        intro m hm hm1 hall
        have next : cv t n m = false → X (nI m + 1) := fun hc => by
          rw [nI_1]
          exact ih (m + 1) (by omega) (by omega) (fun j hj => by
            rcases Nat.lt_or_ge j m with g | g
            · exact hall j g
            · rw [show j = m by omega]; exact hc)
        refine hX _ (br_f (nI_nlt (by omega) (by omega)) ?_)
        unfold wpX7_isBorder
        rw [hR_n hR]
        refine w_alikeAt (r_txt hB hR) (Nat.le_refl _) (by omega) ?_
        have ha := al_le' t n m
        refine pk_eq (al t n m) m (fun q => br_f (by decide) (w_endsOf (r_txt hB hR) (by omega) (Nat.le_refl _) (Nat.le_refl _) ?_)) (fun q => br_t rfl (next ?_)) rfl rfl (by omega) (by omega)
        · unfold enS
          refine w_gapOf ?_
          have hg := (gs_le (fun b => decide (b ≤ n ∧ m ≤ al t m b)) 61).1
          have yes : (gs (fun b => decide (b ≤ n ∧ m ≤ al t m b)) 61).1 ≤ m → a = nI m := fun hle => h2 m (cv_iff.mpr ⟨by omega, by omega, by omega, hle⟩) hall
          by_cases h0 : (gs (fun b => decide (b ≤ n ∧ m ≤ al t m b)) 61).1 = 0
          · rw [if_pos h0]
            refine br_f (fun hlt => ?_) ⟨yes (by omega), hrel⟩
            have : nI m < 0 := by
              have h4 : (-4 : Int32) < 0 := by decide
              exact Int32.lt_trans hlt h4
            exact nI_pos (by omega) this
          · rw [if_neg h0]
            refine pk_lt m _ (fun g => next ?_) (fun g => ⟨yes g, hrel⟩) rfl rfl (by omega) (by omega)
            cases hq : cv t n m with
            | false => rfl
            | true => have := (cv_iff.mp hq).2.2.2; omega
        · cases hq : cv t n m with
          | false => rfl
          | true => have := (cv_iff.mp hq).2.2.1; omega
    exact loop n 1 (by omega) (Nat.le_refl _) (fun j hj => by
      cases hq : cv t n j with
      | false => rfl
      | true => have := (cv_iff.mp hq).1; omega)
  unfold wpX6_cover wpX5_leastCover
  intro X13 X60 h13 h60
  have loop : ∀ d s y (v : Int32), cL t n s ≤ d → s < cS t n → cL t n s ≤ al t (cF t n s) n → y + cL t n s ≤ 60 → (((∀ m, cL t n s < m → cv t n m = false) ∧ v = -4) ∨ ∃ m, cL t n s < m ∧ cv t n m = true ∧ (∀ j, cL t n s < j → j < m → cv t n j = false) ∧ v = nI m) → X13 v (nI s) (nI y) := by
    intro d
    induction d with
    | zero =>
      intro s y v hd hs hsn hyl hv
      have hs0 : s = 0 := S_zero hV hs (by omega)
      subst hs0
      rw [hV.1.2.1] at hv
      have z : cv t n 0 = false := by
        cases hq : cv t n 0 with
        | false => rfl
        | true => have := (cv_iff.mp hq).1; omega
      refine h13 _ _ _ (br_f (nI_ge (b := 121) (by omega) (by decide)) (br_t (by decide) ?_))
      rcases hv with ⟨v1, v2⟩ | ⟨m, m1, m2, m3, m4⟩
      · refine ref _ (fun _ => v2) (fun m c1 _ => ?_)
        rw [v1 m (cv_iff.mp c1).1] at c1
        exact absurd c1 (by decide)
      · refine ref _ (fun c => ?_) (fun m' c1 c2 => ?_)
        · rw [c m] at m2; exact absurd m2 (by decide)
        · rw [m4]
          rcases Nat.lt_trichotomy m m' with g | g | g
          · rw [c2 m g] at m2; exact absurd m2 (by decide)
          · rw [g]
          · rw [m3 m' (cv_iff.mp c1).1 g] at c1; exact absurd c1 (by decide)
    | succ d ih =>
      intro s y v hd hs hsn hyl hv
      rcases Nat.eq_zero_or_pos (cL t n s) with g | g
      · exact ih s y v (by omega) hs hsn hyl hv
      · have hs0 : 0 < s := by
          rcases Nat.eq_zero_or_pos s with e | e
          · subst e; rw [hV.1.2.1] at g; omega
          · exact e
        obtain ⟨p, p1, p2, p3⟩ := c_link hB hC hs0 hs
        obtain ⟨e, e1, e2, e3, e4⟩ := c_firstEnd hB hC hs
        have hlp := p3.1
        have hls := cL_le hB hs
        have gap : ∀ j, cL t n p < j → j < cL t n s → cv t n j = false := fun j j1 j2 => by
          cases hq : cv t n j with
          | false => rfl
          | true =>
            obtain ⟨q1, q2, q3, q4⟩ := cv_iff.mp hq
            obtain ⟨x, x1, x2, x3, x4⟩ := bq_state hV q2 q3
            have := S_btw hV hs x1 p3 hsn x4 (by omega)
            omega
        have keep : cv t n (cL t n s) = false → X60 v (nI s) (nI y) := fun hc => by
          refine h60 _ _ _ ?_
          rw [show fX2_linkOf (uM, uW, sh, im).1 (nI s) = nI p from p2, nI_1]
          refine ih p (y + 1) v (by omega) p1 (lk_end p3 hsn) (by omega) ?_
          have low : ∀ j, cL t n p < j → j ≤ cL t n s → cv t n j = false := fun j j1 j2 => by
            rcases Nat.lt_or_ge j (cL t n s) with q | q
            · exact gap j j1 q
            · rw [show j = cL t n s by omega]; exact hc
          rcases hv with ⟨v1, v2⟩ | ⟨m, m1, m2, m3, m4⟩
          · exact Or.inl ⟨fun m hm => by
              rcases Nat.lt_or_ge (cL t n s) m with q | q
              · exact v1 m q
              · exact low m hm q, v2⟩
          · exact Or.inr ⟨m, by omega, m2, fun j j1 j2 => by
              rcases Nat.lt_or_ge (cL t n s) j with q | q
              · exact m3 j q j2
              · exact low j j1 q, m4⟩
        refine h13 _ _ _ (br_f (nI_ge (b := 121) (by omega) (by decide)) (br_f (nI_nle hs0 (by omega)) ?_))
        unfold fX5_beginsText
        rw [show fX2_firstEndOf (uM, uW, sh, im).1 (nI s) = nI e from e4, show fX2_longestOf (uM, uW, sh, im).1 (nI s) = nI (cL t n s) from c_longest hB hC hs]
        by_cases he : e = cL t n s
        · rw [if_pos (by rw [he])]
          refine br_f (by decide) ?_
          have hself : cL t n s ≤ al t (cF t n s) (cL t n s) := by rw [← he] at e2 ⊢; exact e2
          have hbq : cL t n s ≤ al t n (cL t n s) := al_tri (al_sym hsn) hself
          have hset : enS t n (cL t n s) (cF t n s) = enS t n (cL t n s) (cL t n s) := (enS_eq hn).mpr (fun b hb => ⟨fun h => al_tri (al_sym hself) h, fun h => al_tri hself h⟩)
          rw [show fX2_endsOf (uM, uW, sh, im).1 (nI s) = enS t n (cL t n s) (cL t n s) from (c_ends hB hC hs).trans hset]
          unfold enS
          refine w_widestGap ?_
          have hg := (gs_le (fun b => decide (b ≤ n ∧ cL t n s ≤ al t (cL t n s) b)) 61).1
          refine pk_lt (cL t n s) _ (fun q => keep ?_) (fun q => h60 _ _ _ ?_) rfl rfl (by omega) (by omega)
          · cases hq : cv t n (cL t n s) with
            | false => rfl
            | true => have := (cv_iff.mp hq).2.2.2; omega
          · rw [show fX2_linkOf (uM, uW, sh, im).1 (nI s) = nI p from p2, nI_1]
            exact ih p (y + 1) _ (by omega) p1 (lk_end p3 hsn) (by omega) (Or.inr ⟨cL t n s, hlp, cv_iff.mpr ⟨g, hls, hbq, q⟩, gap, rfl⟩)
        · rw [if_neg (fun q => he (nI_inj (by omega) (by omega) q))]
          refine br_t rfl (keep ?_)
          cases hq : cv t n (cL t n s) with
          | false => rfl
          | true =>
            obtain ⟨q1, q2, q3, q4⟩ := cv_iff.mp hq
            obtain ⟨x, x1, x2, x3, x4⟩ := bq_state hV q2 q3
            have hxs : x = s := S_same hV x1 hs x2 x4 hsn
            subst hxs
            have h1 : ¬ cL t n x < e := fun q => e3 _ q x3
            have h2 := al_le' t (cF t n x) e
            omega
  obtain ⟨la, l1, l2, l3, l4⟩ := c_last hC
  rw [show fX2_lastState (uM, uW, sh, im).1 = nI la from l4]
  exact loop n la 0 (-4) (by omega) l1 (by rw [l2, l3, al_self]; exact Nat.le_refl _) (by omega) (Or.inl ⟨fun m hm => by
    cases hq : cv t n m with
    | false => rfl
    | true => have := (cv_iff.mp hq).2.1; omega, rfl⟩)
