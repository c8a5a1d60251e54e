/-! the longest part of a sheet that is in the text -/
def oc (t : Nat → Nat) (n : Nat) (w : Nat → Int32) (f l : Nat) : Prop := ∃ b, we t n w f l b = true
theorem oc_0 {t : Nat → Nat} {n : Nat} {w : Nat → Int32} {f : Nat} : oc t n w f 0 := ⟨0, decide_eq_true (Nat.zero_le _)⟩
theorem oc_pre {t : Nat → Nat} {n : Nat} {w : Nat → Int32} {f l : Nat} (h : oc t n w f (l + 1)) : oc t n w f l := by
  obtain ⟨b, hb⟩ := h
  exact ⟨b - 1, (we_s.mp hb).2.2.2⟩
theorem we_suf {t : Nat → Nat} {n : Nat} {w : Nat → Int32} {f : Nat} : ∀ {l b : Nat}, we t n w f (l + 1) b = true → we t n w (f + 1) l b = true := by
  intro l
  induction l with
  | zero => intro b h; exact decide_eq_true (we_n h)
  | succ l ih =>
    intro b h
    obtain ⟨h1, h2, h3, h4⟩ := we_s.mp h
    refine we_s.mpr ⟨h1, h2, ?_, ih h4⟩
    rw [h3, show f + (l + 1) = f + 1 + l by omega]
theorem we_sufs {t : Nat → Nat} {n : Nat} {w : Nat → Int32} : ∀ {d f l b : Nat}, we t n w f (d + l) b = true → we t n w (f + d) l b = true := by
  intro d
  induction d with
  | zero => intro f l b h; rw [Nat.zero_add] at h; exact h
  | succ d ih =>
    intro f l b h
    rw [show d + 1 + l = d + l + 1 by omega] at h
    have := ih (we_suf h)
    rw [show f + 1 + d = f + (d + 1) by omega] at this
    exact this
theorem we_al {t : Nat → Nat} {n K : Nat} {w : Nat → Int32} {f : Nat} (hB : Base t n K) : ∀ {l b0 b : Nat}, we t n w f l b0 = true → b ≤ n → (we t n w f l b = true ↔ l ≤ al t b0 b) := by
  intro l
  induction l with
  | zero => intro b0 b _ hb; exact ⟨fun _ => Nat.zero_le _, fun _ => decide_eq_true hb⟩
  | succ l ih =>
    intro b0 b h0 hb
    obtain ⟨h1, h2, h3, h4⟩ := we_s.mp h0
    obtain ⟨c, rfl⟩ : ∃ c, b0 = c + 1 := ⟨b0 - 1, by omega⟩
    rw [Nat.add_sub_cancel] at h3 h4
    constructor
    · intro h
      obtain ⟨g1, g2, g3, g4⟩ := we_s.mp h
      obtain ⟨e, rfl⟩ : ∃ e, b = e + 1 := ⟨b - 1, by omega⟩
      rw [Nat.add_sub_cancel] at g3 g4
      have k1 := hB.2.2.2 c (by omega)
      have k2 := hB.2.2.2 e (by omega)
      have k3 := hB.2.2.1
      have he : t c = t e := nI_inj (by omega) (by omega) (h3.trans g3.symm)
      rw [al_y he]
      have := (ih h4 (by omega)).mp g4
      omega
    · intro h
      obtain ⟨a', e, g1, g2, g3, g4⟩ := al_pos h
      have g1 : a' = c := by omega
      subst g1
      subst g2
      refine we_s.mpr ⟨by omega, hb, ?_, ?_⟩
      · rw [Nat.add_sub_cancel, ← g3]; exact h3
      · rw [Nat.add_sub_cancel]; exact (ih h4 (by omega)).mpr g4
def bst (t : Nat → Nat) (n : Nat) (w : Nat → Int32) (j L F : Nat) : Prop := F + L ≤ j ∧ oc t n w F L ∧ (∀ f l, f + l ≤ j → oc t n w f l → l ≤ L) ∧ ∀ f, f < F → ¬ oc t n w f L
theorem bst_uq {t : Nat → Nat} {n : Nat} {w : Nat → Int32} {j L F L' F' : Nat} (h : bst t n w j L F) (h' : bst t n w j L' F') : L = L' ∧ F = F' := by
  have h1 := h.2.2.1 F' L' h'.1 h'.2.1
  have h2 := h'.2.2.1 F L h.1 h.2.1
  have h3 : L = L' := by omega
  subst h3
  refine ⟨rfl, ?_⟩
  rcases Nat.lt_trichotomy F F' with g | g | g
  · exact absurd h.2.1 (h'.2.2.2 F g)
  · exact g
  · exact absurd h'.2.1 (h.2.2.2 F' g)
section COMMON
variable {t : Nat → Nat} {n K : Nat} {u : MSt} {r : RSt} {w : Nat → Int32}
def eqE (t : Nat → Nat) (n : Nat) (w : Nat → Int32) (s f l : Nat) : Prop := s < cS t n ∧ ∀ b, b ≤ n → (cL t n s ≤ al t (cF t n s) b ↔ we t n w f l b = true)
theorem eqE_0 {f : Nat} : eqE t n w 0 f 0 := by
  have hI := c_inv t n
  exact ⟨hI.1.1, fun b hb => by rw [hI.1.2.1]; exact ⟨fun _ => decide_eq_true hb, fun _ => Nat.zero_le _⟩⟩
theorem eqE_fe {s f l : Nat} (h : eqE t n w s f l) : we t n w f l (cF t n s) = true := (h.2 _ ((c_inv t n).2.1 s h.1).2).mp (S_fe (c_inv t n) h.1)
theorem eqE_root {f l : Nat} (h : eqE t n w 0 f l) : l = 0 := by
  have := (h.2 0 (Nat.zero_le _)).mp (by rw [(c_inv t n).1.2.1]; exact Nat.zero_le _)
  have := we_le this
  omega
theorem eqE_link (hB : Base t n K) {s p f l : Nat} (h : eqE t n w s f l) (hp : p < cS t n) (hk : isLk t n (cL t n) (cF t n) s p) : cL t n p < l ∧ eqE t n w p (f + (l - cL t n p)) (cL t n p) := by
  have hI := c_inv t n
  have h0 := eqE_fe h
  have hlt : cL t n p < l := by
    rcases Nat.lt_or_ge (cL t n p) l with g | g
    · exact g
    · have : s = p := S_uq hI h.1 hp (fun b _ hb => lk_end hk hb) (fun b hb hpb => by
        rw [h.2 b hb, we_al hB h0 hb]
        exact Nat.le_trans g (al_tri hk.2.1 hpb))
      have := hk.1
      subst_vars
      omega
  refine ⟨hlt, hp, fun b hb => ?_⟩
  have h1 : we t n w (f + (l - cL t n p)) (cL t n p) (cF t n s) = true := we_sufs (by rw [show l - cL t n p + cL t n p = l by omega]; exact h0)
  rw [we_al hB h1 hb]
  exact ⟨fun q => al_tri hk.2.1 q, fun q => al_tri (al_sym hk.2.1) q⟩
theorem eqE_step (hB : Base t n K) (hC : ClInv t n K u) {s f l : Nat} (h : eqE t n w s f l) : (∃ v, fX2_moveOf u (nI s) (w (f + l)) = nI v ∧ eqE t n w v f (l + 1)) ∨ (fX2_moveOf u (nI s) (w (f + l)) = -4 ∧ ∀ b, we t n w f (l + 1) b = false) := by
  rcases stW_step hB hC (Or.inl ⟨s, h.1, rfl, h.2⟩) with ⟨v, v1, v2, v3⟩ | ⟨v1, v2⟩
  · exact Or.inl ⟨v, v2, v1, v3⟩
  · exact Or.inr ⟨v1, v2⟩
theorem w_longestCommon (hB : Base t n K) (hC : ClInv t n K u) {uW : WSt} {s : SSt} {k : Nat} (hk : k ≤ 64) (hs : gS_length s = nI k) (hw : w = fun j => gS_signs s j - 97) {x : Int32} {Q : Int32 → Prop} (hq : ∀ L F, bst t n w k L F → (x = 0 → Q (nI L)) ∧ (¬ x = 0 → Q (nI F))) : wpX5_longestCommon uW u s x Q := by
  have hI := c_inv t n
  have hn := hB.1
  have h121 := cs_le hB
  unfold wpX5_longestCommon
  intro X14 X34 X85 X110 h14 h34 h85 h110
  rw [hs] at h14
  have loop : ∀ d j s l L F, j + d = k → l ≤ j → eqE t n w s (j - l) l → (∀ l', l < l' → l' ≤ j → ¬ oc t n w (j - l') l') → bst t n w j L F → X14 (nI s) (nI l) (nI L) (nI F) (nI j) := by
    intro d
    induction d with
    | zero =>
      intro j s l L F hj hl he hmax hb
      have hj : j = k := by omega
      subst hj
      exact h14 _ _ _ _ _ (br_t (nI_le (Nat.le_refl _) (by omega)) (hq L F hb))
    | succ d ih =>
      intro j s l L F hj hl he hmax hb
      refine h14 _ _ _ _ _ (br_f (nI_ge (by omega) (by omega)) ?_)
      rw [show fX4_letterAt _ (nI j) = w j by rw [letterAt_S (by omega), hw]]
      have fin : ∀ s2 l2, l2 ≤ j + 1 → eqE t n w s2 (j + 1 - l2) l2 → (∀ l', l2 < l' → l' ≤ j + 1 → ¬ oc t n w (j + 1 - l') l') → X110 (nI s2) (nI l2) (nI L) (nI F) (nI j) := fun s2 l2 c1 c2 c3 => by
        obtain ⟨b1, b2, b3, b4⟩ := hb
        refine h110 _ _ _ _ _ ?_
        rw [nI_1]
        have up : ∀ f l, f + l ≤ j + 1 → oc t n w f l → l ≤ L ∨ l ≤ l2 := fun f l f1 f2 => by
          rcases Nat.lt_or_ge j (f + l) with g | g
          · right
            rcases Nat.lt_or_ge l2 l with g2 | g2
            · refine absurd ?_ (c3 l g2 (by omega))
              rw [show j + 1 - l = f by omega]; exact f2
            · exact g2
          · exact Or.inl (b3 f l g f2)
        refine pk_le l2 L (fun g => ?_) (fun g => ?_) rfl rfl (by omega) (by omega)
        · exact ih (j + 1) s2 l2 L F (by omega) c1 c2 c3 ⟨by omega, b2, fun f l f1 f2 => by rcases up f l f1 f2 with q | q <;> omega, b4⟩
        · rw [pk_sub (by omega)]
          refine ih (j + 1) s2 l2 l2 (j + 1 - l2) (by omega) c1 c2 c3 ⟨by omega, ⟨_, eqE_fe c2⟩, fun f l f1 f2 => by rcases up f l f1 f2 with q | q <;> omega, fun f f1 f2 => ?_⟩
          have := b3 f l2 (by omega) f2
          omega
      have inner : ∀ d s l y, cL t n s ≤ d → l ≤ j → eqE t n w s (j - l) l → (∀ l', l < l' → l' ≤ j → ¬ oc t n w (j - l') (l' + 1)) → y + cL t n s ≤ 60 → X34 (nI s) (nI l) (nI L) (nI F) (nI j) (w j) (nI y) := by
        intro d
        induction d with
        | zero =>
          intro s l y hd hl he hno hy
          have hs0 : s = 0 := S_zero hI he.1 (by omega)
          subst hs0
          have hl0 := eqE_root he
          subst hl0
          refine h34 _ _ _ _ _ _ _ (br_f (nI_ge (b := 121) (by omega) (by decide)) (br_t (by decide) (h85 _ _ _ _ _ _ ?_)))
          have hstep := eqE_step hB hC he
          rw [show j - 0 + 0 = j by omega] at hstep
          rcases hstep with ⟨v, v1, v2⟩ | ⟨v1, v2⟩
          · rw [v1]
            have := v2.1
            refine br_f (nI_m4 (by omega)) ?_
            rw [nI_1]
            refine fin v (0 + 1) (by omega) (by rw [show j + 1 - (0 + 1) = j - 0 by omega]; exact v2) (fun l' c1 c2 => ?_)
            have := hno (l' - 1) (by omega) (by omega)
            rw [show j - (l' - 1) = j + 1 - l' by omega, show l' - 1 + 1 = l' by omega] at this
            exact this
          · rw [v1]
            refine br_t rfl (fin 0 0 (Nat.zero_le _) eqE_0 (fun l' c1 c2 => ?_))
            rcases Nat.lt_or_ge 1 l' with g | g
            · have := hno (l' - 1) (by omega) (by omega)
              rw [show j - (l' - 1) = j + 1 - l' by omega, show l' - 1 + 1 = l' by omega] at this
              exact this
            · rw [show l' = 0 + 1 by omega, show j + 1 - (0 + 1) = j - 0 by omega]
              rintro ⟨b, hbb⟩
              rw [v2 b] at hbb
              exact absurd hbb (by decide)
        | succ d ih2 =>
          intro s l y hd hl he hno hy
          rcases Nat.eq_zero_or_pos (cL t n s) with g | g
          · exact ih2 s l y (by omega) hl he hno hy
          · have hs0 : 0 < s := by
              rcases Nat.eq_zero_or_pos s with e | e
              · subst e; rw [hI.1.2.1] at g; omega
              · exact e
            have hss := he.1
            obtain ⟨p, p1, p2, p3⟩ := c_link hB hC hs0 hss
            obtain ⟨q1, q2⟩ := eqE_link hB he p1 p3
            have hlp := p3.1
            have hstep := eqE_step hB hC he
            rw [show j - l + l = j by omega] at hstep
            refine h34 _ _ _ _ _ _ _ (br_f (nI_ge (b := 121) (by omega) (by decide)) (br_f (nI_nle hs0 (by omega)) ?_))
            rcases hstep with ⟨v, v1, v2⟩ | ⟨v1, v2⟩
            · have hv := v2.1
              rw [v1]
              refine br_f (nI_m4 (by omega)) (h85 _ _ _ _ _ _ ?_)
              rw [v1]
              refine br_f (nI_m4 (by omega)) ?_
              rw [nI_1]
              refine fin v (l + 1) (by omega) (by rw [show j + 1 - (l + 1) = j - l by omega]; exact v2) (fun l' c1 c2 => ?_)
              have := hno (l' - 1) (by omega) (by omega)
              rw [show j - (l' - 1) = j + 1 - l' by omega, show l' - 1 + 1 = l' by omega] at this
              exact this
            · rw [v1]
              refine br_t rfl ?_
              rw [p2, c_longest hB hC p1, nI_1]
              rw [show j - l + (l - cL t n p) = j - cL t n p by omega] at q2
              refine ih2 p (cL t n p) (y + 1) (by omega) (by omega) q2 (fun l' c1 c2 => ?_) (by omega)
              rcases Nat.lt_or_ge l l' with c3 | c3
              · exact hno l' c3 c2
              · rintro ⟨b, hbb⟩
                obtain ⟨e1, e2, e3, e4⟩ := we_s.mp hbb
                rw [show j - l' + l' = j by omega] at e3
                have h0 : we t n w (j - l') l' (cF t n s) = true := by
                  have := we_sufs (d := l - l') (f := j - l) (l := l') (b := cF t n s) (by rw [show l - l' + l' = l by omega]; exact eqE_fe he)
                  rw [show j - l + (l - l') = j - l' by omega] at this
                  exact this
                have h1 := (we_al hB h0 (by omega)).mp e4
                have h2 := p3.2.2 (b - 1) (by omega) (by omega)
                have h3 := (he.2 (b - 1) (by omega)).mp h2
                have h4 : we t n w (j - l) (l + 1) b = true := we_s.mpr ⟨e1, e2, by rw [show j - l + l = j by omega]; exact e3, h3⟩
                rw [v2 b] at h4
                exact absurd h4 (by decide)
      refine inner (cL t n s) s l 0 (Nat.le_refl _) hl he (fun l' c1 c2 c3 => hmax l' c1 c2 (oc_pre c3)) ?_
      have := cL_le hB he.1
      omega
  exact loop k 0 0 0 0 0 (Nat.zero_add _) (Nat.le_refl _) eqE_0 (fun l' c1 c2 => by omega) ⟨Nat.le_refl _, oc_0, fun f l h _ => by omega, fun f h => by omega⟩
end COMMON
theorem LS28_ok : LS28 Rel := by
  rintro ⟨uM, uW, sh, im⟩ r x1 x2 ⟨t, n, K, hB, hC, hR, hS, hI⟩
  have hC : ClInv t n K uM := hC
  have hS : ShR sh (gR_sizes r) (gR_sheets r) := hS
  have hrel : Rel (uM, uW, sh, im) r := ⟨t, n, K, hB, hC, hR, hS, hI⟩
  have bad : ((x1 < 0 ∨ 4 ≤ x1) ∨ x2 < 0 ∨ ¬ x2 ≤ 1) → wpX7_common r x1 x2 (fun b => -1 = b ∧ Rel (uM, uW, sh, im) r) := fun h => by
    unfold wpX7_common
    intro X18 X34 X54 X84 X98 h18 h34 h54 h84 h98
    have no : X18 (-1) := h18 _ (br_f (by decide) ⟨rfl, hrel⟩)
    refine in_br (fun _ => no) (fun _ _ => no) (fun g1 g2 => ?_)
    rcases h with h | h | h
    · exact w_need (fun _ => no) (fun i hi e => by subst e; exact (not_sheet hi h).elim)
    · exact absurd h g1
    · exact absurd (Int32.not_lt.mp g2) h
  unfold wpX6_common
  intro X46 h46
  refine ⟨fun h => bad (Or.inl h), fun i hi e => ⟨fun h => bad (Or.inr (Or.inl h)), fun h1 => ⟨fun h2 => ?_, fun h => bad (Or.inr (Or.inr h))⟩⟩⟩
  subst e
  rcases hS i hi with ⟨a, b⟩ | ⟨a, k, b1, b2, b3, b4⟩
  · refine br_t a ?_
    unfold wpX7_common
    intro X18 X34 X54 X84 X98 h18 h34 h54 h84 h98
    refine in_br (fun g => absurd g h1) (fun _ g => absurd h2 (Int32.not_le.mpr g)) (fun _ _ => w_need (fun h => (not_sheet hi h).elim) (fun i' hi' e => ?_))
    have e : i = i' := nI_inj (by omega) (by omega) e
    subst e
    rw [b]
    exact br_f (by decide) (h18 _ (br_f (by decide) ⟨rfl, hrel⟩))
  · refine br_f (by rw [a]; decide) ?_
    obtain ⟨w, hw⟩ : ∃ w : Nat → Int32, w = fun j => gS_signs (sh i) j - 97 := ⟨_, rfl⟩
    have ref : ∀ L F (a : Int32), bst t n w k L F → (x2 = 0 → a = nI L) → (¬ x2 = 0 → a = nI F) → wpX7_common r (nI i) x2 (fun b => a = b ∧ Rel (uM, uW, sh, im) r) := fun L F a hb ha0 ha1 => by
      unfold wpX7_common
      intro X18 X34 X54 X84 X98 h18 h34 h54 h84 h98
      refine in_br (fun g => absurd g h1) (fun _ g => absurd h2 (Int32.not_le.mpr g)) (fun _ _ => w_need (fun h => (not_sheet hi h).elim) (fun i' hi' e => ?_))
      have e : i = i' := nI_inj (by omega) (by omega) e
      subst e
      rw [nI_clamp (by omega), b3] at h34 h54
      rw [b3]
      refine br_t (nI_pos' (by omega)) (h18 _ (br_t (by decide) ?_))
      have loop : ∀ d f L' F', f + d = k → F' + L' ≤ k → oc t n w F' L' → (∀ f' l, f' < f → f' + l ≤ k → oc t n w f' l → l ≤ L') → (∀ f', f' < F' → ¬ oc t n w f' L') → X34 (nI L') (nI F') (nI f) := by
        intro d
        induction d with
        | zero =>
          intro f L' F' hf c1 c2 c3 c4
          refine h34 _ _ _ ⟨vp_in_nI hi (by decide), br_t (nI_le (by omega) (by omega)) ?_⟩
          have hb' : bst t n w k L' F' := ⟨c1, c2, fun f' l g1 g2 => by
            rcases Nat.lt_or_ge f' k with q | q
            · exact c3 f' l (by omega) g1 g2
            · omega, c4⟩
          obtain ⟨e1, e2⟩ := bst_uq hb hb'
          subst e1; subst e2
          exact ⟨fun q => ⟨ha0 q, hrel⟩, fun q => ⟨ha1 q, hrel⟩⟩
        | succ d ih =>
          intro f L' F' hf c1 c2 c3 c4
          refine h34 _ _ _ ⟨vp_in_nI hi (by decide), br_f (nI_ge (by omega) (by omega)) ?_⟩
          rw [nI_add, nI_1]
          have inner : ∀ d to L' F', (to + d = k + 1 ∨ k < to ∧ to ≤ 200) → f < to → F' + L' ≤ k → oc t n w F' L' → (∀ f' l, f' < f → f' + l ≤ k → oc t n w f' l → l ≤ L') → (∀ f', f' < F' → ¬ oc t n w f' L') → (∀ l, f + l < to → f + l ≤ k → oc t n w f l → l ≤ L') → f + L' < to → X54 (nI L') (nI F') (nI f) (nI to) := by
            intro d
            induction d with
            | zero =>
              intro to L' F' hto hft c1 c2 c3 c4 c5 c6
              refine h54 _ _ _ _ ⟨vp_in_nI hi (by decide), br_t (nI_lt (by omega) (by omega)) ?_⟩
              rw [nI_1]
              exact ih (f + 1) L' F' (by omega) c1 c2 (fun f' l g1 g2 g3 => by
                rcases Nat.lt_or_ge f' f with q | q
                · exact c3 f' l q g2 g3
                · have : f' = f := by omega
                  subst this
                  exact c5 l (by omega) g2 g3) c4
            | succ d ih2 =>
              intro to L' F' hto hft c1 c2 c3 c4 c5 c6
              refine h54 _ _ _ _ ⟨vp_in_nI hi (by decide), pk_lt k to (fun q => ?_) (fun q => ?_) rfl rfl (by omega) (by omega)⟩
              · rw [nI_1]
                exact ih (f + 1) L' F' (by omega) c1 c2 (fun f' l g1 g2 g3 => by
                  rcases Nat.lt_or_ge f' f with q | q
                  · exact c3 f' l q g2 g3
                  · have : f' = f := by omega
                    subst this
                    exact c5 l (by omega) g2 g3) c4
              · have hends := @w_endsIn t n K r w f (to - f) hB hR i hi (by omega) (fun j hj => by rw [hw]; show _ = gS_signs (sh i) j - 97; rw [b4 j (by omega)])
                rw [show f + (to - f) = to by omega] at hends
                refine hends ?_
                have split : ∀ l, f + l < to + 1 → l ≤ L' ∨ l = to - f ∨ ¬ oc t n w f l ∨ ¬ f + l ≤ k := fun l hl => by
                  rcases Nat.lt_or_ge (f + l) to with q2 | q2
                  · by_cases h : oc t n w f l
                    · exact Or.inl (c5 l q2 (by omega) h)
                    · exact Or.inr (Or.inr (Or.inl h))
                  · exact Or.inr (Or.inl (by omega))
                refine ⟨fun h0 => h84 _ _ _ _ _ (br_t rfl (h98 _ _ _ _ _ (br_t rfl ?_))), fun h0 => h84 _ _ _ _ _ (br_f (by decide) (h98 _ _ _ _ _ (br_f (by decide) ?_)))⟩
                · rw [nI_1]
                  have hno : ¬ oc t n w f (to - f) := by
                    rintro ⟨b, hb⟩
                    have := sv_0.mp h0 b (by have := we_n hb; have := hB.1; omega)
                    rw [hb] at this
                    exact absurd this (by decide)
                  refine ih2 (to + 1) L' F' (by omega) (by omega) c1 c2 c3 c4 (fun l l1 l2 l3 => ?_) (by omega)
                  rcases split l l1 with q2 | q2 | q2 | q2
                  · exact q2
                  · rw [q2] at l3; exact absurd l3 hno
                  · exact absurd l3 q2
                  · exact absurd l2 q2
                · rw [nI_1, pk_sub (by omega)]
                  have hyes : oc t n w f (to - f) := by
                    by_cases he : ∃ b, we t n w f (to - f) b = true
                    · exact he
                    · refine absurd (sv_0.mpr (fun b _ => ?_)) h0
                      cases hq : we t n w f (to - f) b with
                      | false => rfl
                      | true => exact absurd ⟨b, hq⟩ he
                  refine ih2 (to + 1) (to - f) f (by omega) (by omega) (by omega) hyes (fun f' l g1 g2 g3 => ?_) (fun f' g1 g2 => ?_) (fun l l1 l2 l3 => by omega) (by omega)
                  · have := c3 f' l g1 g2 g3
                    omega
                  · have := c3 f' (to - f) g1 (by omega) g2
                    omega
          exact inner (k + 1 - (f + L' + 1)) (f + L' + 1) L' F' (by omega) (by omega) c1 c2 c3 c4 (fun l l1 _ _ => by omega) (by omega)
      exact loop k 0 0 0 (Nat.zero_add _) (Nat.zero_le _) oc_0 (fun f' l g => by omega) (fun f' g => by omega)
    refine ⟨fun q => h46 _ _ (w_longestCommon hB hC b1 b2 hw (fun L F hb => ⟨fun c => absurd c (by decide), fun _ => ref L F _ hb (fun c => ?_) (fun _ => rfl)⟩)), fun q => h46 _ _ (w_longestCommon hB hC b1 b2 hw (fun L F hb => ⟨fun _ => ref L F _ hb (fun _ => rfl) (fun c => ?_), fun c => absurd rfl c⟩))⟩
    · rw [q] at c; exact absurd c (by decide)
    · exfalso
      obtain ⟨x, hx, rfl⟩ := nI_of h1
      have h3 : x ≤ 1 := by
        rcases Nat.lt_or_ge 1 x with g | g
        · exact absurd h2 (nI_ge (a := 1) g hx)
        · exact g
      rcases show x = 0 ∨ x = 1 by omega with e | e
      · subst e; exact c rfl
      · subst e; exact q rfl
