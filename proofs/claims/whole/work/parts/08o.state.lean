/-! states, moves, ends -/
section STATE
variable {t : Nat → Nat} {n K : Nat} {u : MSt} {r : RSt}
theorem cs_le (hB : Base t n K) : cS t n ≤ 121 := by
  have := (c_inv t n).1.2.2
  have := hB.1
  omega
theorem s_br (hB : Base t n K) (hC : ClInv t n K u) {x : Int32} {P R : Prop} (h1 : (∀ s, s < cS t n → x ≠ nI s) → P) (h3 : ∀ s, s < cS t n → x = nI s → R) : (fX2_isState u x = 0 → P) ∧ (¬ fX2_isState u x = 0 → R) := by
  have h121 := cs_le hB
  by_cases h : ∃ s, s < cS t n ∧ x = nI s
  · obtain ⟨s, hs, rfl⟩ := h
    rw [isState_y (hC_st hC) hs h121]
    exact br_f (by decide) (h3 s hs rfl)
  · refine br_t ?_ (h1 (fun s hs e => h ⟨s, hs, e⟩))
    unfold fX2_isState
    rcases i32 x with g | ⟨k, hk, rfl⟩
    · rw [if_pos g]
    · rw [if_neg (nI_pos hk), hC_st hC]
      rcases Nat.lt_or_ge k (cS t n) with g | g
      · exact absurd ⟨k, g, rfl⟩ h
      · rw [if_pos (nI_le g hk)]
theorem rs_br (hB : Base t n K) (hR : RfInv t n K r) {x : Int32} {P R : Prop} (h1 : (∀ s, s < cS t n → x ≠ nI s) → P) (h3 : ∀ s, s < cS t n → x = nI s → R) : (fX7_isState r x = 0 → P) ∧ (¬ fX7_isState r x = 0 → R) := by
  have h121 := cs_le hB
  unfold fX7_isState
  rw [hR_st hR]
  refine ub_br (by omega) (fun h => h1 (fun c hc e => ?_)) (fun h => h1 (fun c hc e => ?_)) h3
  · rw [e] at h; exact nI_pos (by omega) h
  · rw [e] at h; exact nI_ge hc (by omega) h
/-- one number on both sides -/
theorem rs_y (hB : Base t n K) (hR : RfInv t n K r) {s : Nat} (hs : s < cS t n) {P R : Prop} (h : R) : (fX7_isState r (nI s) = 0 → P) ∧ (¬ fX7_isState r (nI s) = 0 → R) := rs_br hB hR (fun g => absurd rfl (g s hs)) (fun _ _ _ => h)
theorem rs_n (hB : Base t n K) (hR : RfInv t n K r) {x : Int32} (hx : ∀ s, s < cS t n → x ≠ nI s) {P R : Prop} (h : P) : (fX7_isState r x = 0 → P) ∧ (¬ fX7_isState r x = 0 → R) := rs_br hB hR (fun _ => h) (fun s hs e => absurd e (hx s hs))
theorem rl_y (hB : Base t n K) (hR : RfInv t n K r) {c : Nat} (hc : c < K) {P R : Prop} (h : R) : (fX7_isLetter r (nI c) = 0 → P) ∧ (¬ fX7_isLetter r (nI c) = 0 → R) := rlet_br (hR_al hR) hB.2.2.1 (fun g => absurd rfl (g c hc)) (fun _ _ _ => h)
theorem rl_n (hB : Base t n K) (hR : RfInv t n K r) {x : Int32} (hx : ∀ c, c < K → x ≠ nI c) {P R : Prop} (h : P) : (fX7_isLetter r x = 0 → P) ∧ (¬ fX7_isLetter r x = 0 → R) := rlet_br (hR_al hR) hB.2.2.1 (fun _ => h) (fun s hs e => absurd e (hx s hs))
theorem c_mv (hB : Base t n K) (hC : ClInv t n K u) {s c : Nat} (hs : s < cS t n) (hc : c < K) : MvOK t n (cS t n) (cL t n) (cF t n) (fX2_moveOf u (nI s) (nI c)) s c := by
  rw [moveOf_at (hC_st hC) hs (cs_le hB) (hC_al hC) hc hB.2.2.1]
  exact hC.1.2.2.2.2.2.2.1 s c hs hc
theorem c_longest (hB : Base t n K) (hC : ClInv t n K u) {s : Nat} (hs : s < cS t n) : fX2_longestOf u (nI s) = nI (cL t n s) := by
  rw [longestOf_at (by have := cs_le hB; omega)]
  exact hC.1.2.2.2.2.2.2.2.1 s hs
theorem c_ends (hB : Base t n K) (hC : ClInv t n K u) {s : Nat} (hs : s < cS t n) : fX2_endsOf u (nI s) = enS t n (cL t n s) (cF t n s) := by
  rw [endsOf_at (hC_st hC) hs (cs_le hB)]
  exact hC.1.2.2.2.2.2.2.2.2.2 s hs
theorem c_link0 (hB : Base t n K) (hC : ClInv t n K u) : fX2_linkOf u 0 = -4 := by
  have : fX2_linkOf u (nI 0) = _ := linkOf_at (hC_st hC) (c_inv t n).1.1 (cs_le hB)
  exact this.trans hC.1.2.2.2.2.2.2.2.2.1.1
theorem c_link (hB : Base t n K) (hC : ClInv t n K u) {s : Nat} (hs0 : 0 < s) (hs : s < cS t n) : ∃ p, p < cS t n ∧ fX2_linkOf u (nI s) = nI p ∧ isLk t n (cL t n) (cF t n) s p := by
  rw [linkOf_at (hC_st hC) hs (cs_le hB)]
  exact hC.1.2.2.2.2.2.2.2.2.1.2 s hs0 hs
theorem r_ends (hR : RfInv t n K r) {s : Nat} (hs : s < cS t n) : gR_ends r s = enS t n (cL t n s) (cF t n s) := hR.1.2.2.2.2.2 s hs
theorem r_longest (hR : RfInv t n K r) {s : Nat} (hs : s < cS t n) : gR_longest r s = nI (cL t n s) := hR.1.2.2.2.2.1 s hs
theorem cL_le (hB : Base t n K) {s : Nat} (hs : s < cS t n) : cL t n s ≤ n := by
  have := (c_inv t n).2.1 s hs
  omega
theorem r_txt (hB : Base t n K) (hR : RfInv t n K r) : Txt t n r := ⟨hB.1, hR.1.2.2.1, fun i hi => by have := hB.2.2.2 i hi; have := hB.2.2.1; omega⟩
/-- the least of the ends -/
theorem en_first {l f : Nat} (hf : f ≤ n) (hl : l ≤ f) : ∃ e, e ≤ n ∧ l ≤ al t f e ∧ ∀ j, j < e → ¬ l ≤ al t f j := by
  obtain ⟨e, h1, h2⟩ := pk_least (fun e => l ≤ al t f e) ⟨f, by rw [al_self]; exact hl⟩
  refine ⟨e, ?_, h1, h2⟩
  rcases Nat.lt_or_ge f e with g | g
  · exact absurd (by rw [al_self]; exact hl) (h2 f g)
  · omega
theorem firstOf_en {l f e : Nat} (hn : n ≤ 60) (he : e ≤ n) (h1 : l ≤ al t f e) (h2 : ∀ j, j < e → ¬ l ≤ al t f j) : fX0_firstOf (enS t n l f) = nI e := by
  unfold enS
  exact firstOf_sv (by omega) (by simp [he, h1]) (fun j hj => by simp; intro _; have := h2 j hj; omega)
theorem least_en {l f e : Nat} (hn : n ≤ 60) (he : e ≤ n) (h1 : l ≤ al t f e) (h2 : ∀ j, j < e → ¬ l ≤ al t f j) {Q : Int32 → Prop} (hq : Q (nI e)) : wpX7_least (enS t n l f) Q := by
  unfold enS
  exact w_least (l := e) (by omega) (by simp [he, h1]) (fun j hj => by simp; intro _; have := h2 j hj; omega) hq
theorem en_sub {l f l' f' : Nat} (hn : n ≤ 60) : (enS t n l f &&& enS t n l' f' = enS t n l' f') ↔ ∀ b, b ≤ n → l' ≤ al t f' b → l ≤ al t f b := by
  unfold enS
  rw [sv_and, sv_eq]
  constructor
  · intro h b hb h2
    have := h b (by omega)
    simp [hb, h2] at this
    exact this
  · intro h b _
    by_cases hb : b ≤ n
    · by_cases h2 : l' ≤ al t f' b
      · simp [hb, h2, h b hb h2]
      · simp [hb, h2]
    · simp [hb]
theorem cand_lt {S : Nat} {len fe : Nat → Nat} (h : SInv t n S len fe) {s y : Nat} (hs : s < S) (hy : y < S) (hne : y ≠ s) (hsub : ∀ b, b ≤ n → len s ≤ al t (fe s) b → len y ≤ al t (fe y) b) : len y < len s := by
  rcases Nat.lt_or_ge (len y) (len s) with g | g
  · exact g
  · refine absurd (S_uq h hy hs (fun b hb hb2 => ?_) hsub) hne
    have h1 : len y ≤ al t (fe y) (fe s) := hsub _ (h.2.1 s hs).2 (S_fe h hs)
    exact Nat.le_trans g (al_tri (al_sym h1) hb2)
theorem w_linkOf (hB : Base t n K) (hR : RfInv t n K r) {s p : Nat} (hs : s < cS t n) (hp : p < cS t n) (hk : isLk t n (cL t n) (cF t n) s p) {Q : Int32 → Prop} (hq : Q (nI p)) : wpX7_linkOf r (nI s) Q := by
  have hI := c_inv t n
  have h121 := cs_le hB
  unfold wpX7_linkOf
  intro X5 X45 X46 X78 X74 h5 h45 h46 h78 h74
  rw [hR_st hR] at h5
  have cand : ∀ y, y < cS t n → y ≠ s → (∀ b, b ≤ n → cL t n s ≤ al t (cF t n s) b → cL t n y ≤ al t (cF t n y) b) → cL t n y ≤ cL t n p := fun y hy hne hsub => S_btw hI hs hy hk (S_fe hI hs) (hsub _ (hI.2.1 s hs).2 (S_fe hI hs)) (cand_lt hI hs hy hne hsub)
  have loop : ∀ d k (v : Int32), k + d = cS t n → ((v = -4 ∧ k ≤ p) ∨ ∃ y, y < k ∧ y < cS t n ∧ v = nI y ∧ y ≠ s ∧ (∀ b, b ≤ n → cL t n s ≤ al t (cF t n s) b → cL t n y ≤ al t (cF t n y) b) ∧ (p < k → y = p)) → X5 v (nI k) := by
    intro d
    induction d with
    | zero =>
      intro k v hk2 hv
      refine h5 _ _ (br_t (nI_le (by omega) (by omega)) ?_)
      rcases hv with ⟨_, h2⟩ | ⟨y, _, _, h2, _, _, h3⟩
      · omega
      · rw [h2, h3 (by omega)]; exact hq
    | succ d ih =>
      intro k v hk2 hv
      have hps : p ≠ s := fun e => by have := hk.1; rw [e] at this; omega
      have skip : k ≠ p → X78 v (nI k) := fun hkp => by
        refine h78 _ _ ?_
        rw [nI_1]
        refine ih (k + 1) v (by omega) ?_
        rcases hv with ⟨h1, h2⟩ | ⟨y, h1, h2, h3, h4, h5', h6⟩
        · exact Or.inl ⟨h1, by omega⟩
        · exact Or.inr ⟨y, by omega, h2, h3, h4, h5', fun g => h6 (by omega)⟩
      have no : k ≠ p → X45 v (nI k) := fun hkp => h45 _ _ (h46 _ _ _ (br_t rfl (skip hkp)))
      refine h5 _ _ (br_f (nI_ge (by omega) (by omega)) (pk_eq k s (fun e => no (by omega)) (fun hne => ?_) rfl rfl (by omega) (by omega)))
      refine ⟨vp_in_nI (by omega) (by decide), vp_in_nI (by omega) (by decide), vp_in_nI (by omega) (by decide), ?_⟩
      rw [nI_clamp (by omega), nI_clamp (by omega), r_ends hR (by omega), r_ends hR hs]
      have hsubp : ∀ b, b ≤ n → cL t n s ≤ al t (cF t n s) b → cL t n p ≤ al t (cF t n p) b := fun b _ h => lk_end hk h
      by_cases hsub : ∀ b, b ≤ n → cL t n s ≤ al t (cF t n s) b → cL t n k ≤ al t (cF t n k) b
      · refine br_t ((en_sub hB.1).mpr hsub) (h46 _ _ _ (br_f (by decide) ?_))
        have take : (p < k → False) → X74 (nI k) := fun hlt => by
          refine h74 _ ?_
          rw [nI_1]
          exact ih (k + 1) (nI k) (by omega) (Or.inr ⟨k, by omega, by omega, rfl, hne, hsub, fun g => by
            rcases Nat.lt_or_ge p k with q | q
            · exact (hlt q).elim
            · omega⟩)
        rcases hv with ⟨h1, h2⟩ | ⟨y, h1, h2, h3, h4, h5', h6⟩
        · exact br_t h1 (take (by omega))
        · subst h3
          refine br_f (nI_m4 (by omega)) ⟨vp_in_nI (by omega) (by decide), vp_in_nI (by omega) (by decide), ?_⟩
          rw [nI_clamp (by omega), nI_clamp (by omega), r_longest hR (by omega), r_longest hR (by omega)]
          have b1 := cL_le hB (s := k) (by omega)
          have b2 := cL_le hB (s := y) (by omega)
          have b3 := hB.1
          refine pk_le (cL t n k) (cL t n y) (fun g => skip (fun e => ?_)) (fun g => take (fun e => ?_)) rfl rfl (by omega) (by omega)
          · subst e
            have c1 := cand y h2 h4 h5'
            have : y = k := S_same hI h2 hp (by omega) (h5' _ (hI.2.1 s hs).2 (S_fe hI hs)) (hsubp _ (hI.2.1 s hs).2 (S_fe hI hs))
            omega
          · have c1 := cand k (by omega) hne hsub
            rw [h6 e] at g
            omega
      · refine br_f (fun e => hsub ((en_sub hB.1).mp e)) (no (fun e => hsub (by rw [e]; exact hsubp)))
  exact loop (cS t n) 0 (-4) (by omega) (Or.inl ⟨rfl, Nat.zero_le _⟩)
theorem w_behind (hn : n ≤ 60) (hT : Txt t n r) (hr : gR_n r = nI n) {p : Nat → Bool} {c : Nat} (hc : c < 5) {Q : Int64 → Prop} (hq : Q (sv (fun b => decide (0 < b ∧ b ≤ n ∧ t (b - 1) = c) && p (b - 1)))) : wpX7_behind r (sv p) (nI c) Q := by
  unfold wpX7_behind
  intro X6 X46 X47 h6 h46 h47
  rw [hr] at h6
  have loop : ∀ d k, k + d = n → X6 (sv (fun b => decide (0 < b ∧ b ≤ k ∧ t (b - 1) = c) && p (b - 1))) (nI k) := by
    intro d
    induction d with
    | zero =>
      intro k hk
      have hk : k = n := by omega
      subst hk
      exact h6 _ _ (br_t (nI_le (Nat.le_refl _) (by omega)) hq)
    | succ d ih =>
      intro k hk
      have hx := ih (k + 1) (by omega)
      have no : ¬ (t k = c ∧ p k = true) → X46 (nI k) (sv (fun b => decide (0 < b ∧ b ≤ k ∧ t (b - 1) = c) && p (b - 1))) := fun hno => by
        refine h46 _ _ (h47 _ _ _ ?_)
        rw [nI_1, ← sv_nil, sv_or]
        rw [show sv (fun b => decide (0 < b ∧ b ≤ k ∧ t (b - 1) = c) && p (b - 1) || false) = sv (fun b => decide (0 < b ∧ b ≤ k + 1 ∧ t (b - 1) = c) && p (b - 1)) from sv_ext (fun b _ => by
          by_cases hb : b = k + 1
          · subst hb
            simp only [Nat.add_sub_cancel]
            cases hp : p k
            · simp
            · simp; intro e; exact (hno ⟨e, hp⟩).elim
          · have e : (b ≤ k + 1) ↔ b ≤ k := by omega
            simp [e])]
        exact hx
      refine h6 _ _ (br_f (nI_ge (by omega) (by omega)) (has0 p (by omega) (fun hp => no (fun h => by rw [hp] at h; exact absurd h.2 (by decide))) (fun hp => ⟨vp_in_nI (by omega) (by decide), ?_⟩)))
      rw [nI_clamp (by omega), hT.2.1 k (by omega)]
      have ht := hT.2.2 k (by omega)
      refine pk_eq (t k) c (fun e => h47 _ _ _ ?_) (fun e => no (fun h => e h.1)) rfl rfl (by omega) (by omega)
      rw [nI_1, sv_bit (by omega), sv_or]
      rw [show sv (fun b => decide (0 < b ∧ b ≤ k ∧ t (b - 1) = c) && p (b - 1) || decide (b = k + 1)) = sv (fun b => decide (0 < b ∧ b ≤ k + 1 ∧ t (b - 1) = c) && p (b - 1)) from sv_ext (fun b _ => by
        by_cases hb : b = k + 1
        · subst hb; simp [hp, e]
        · have e : (b ≤ k + 1) ↔ b ≤ k := by omega
          simp [e, hb])]
      exact hx
  have := loop n 0 (by omega)
  rw [show sv (fun b => decide (0 < b ∧ b ≤ 0 ∧ t (b - 1) = c) && p (b - 1)) = 0 from sv_0.mpr (fun b _ => by
    have h0 : ¬ (0 < b ∧ b ≤ 0 ∧ t (b - 1) = c) := by omega
    rw [decide_eq_false h0]; rfl)] at this
  exact this
theorem w_moveOf (hB : Base t n K) (hR : RfInv t n K r) {s c : Nat} (hs : s < cS t n) (hc : c < K) {v : Int32} (hv : MvOK t n (cS t n) (cL t n) (cF t n) v s c) {Q : Int32 → Prop} (hq : Q v) : wpX7_moveOf r (nI s) (nI c) Q := by
  have hI := c_inv t n
  have h121 := cs_le hB
  have hn := hB.1
  have hK := hB.2.2.1
  unfold wpX7_moveOf
  refine ⟨vp_in_nI (by omega) (by decide), ?_⟩
  rw [nI_clamp (by omega), r_ends hR hs]
  unfold enS
  refine w_behind hn (r_txt hB hR) (hR_n hR) (by omega) ?_
  obtain ⟨x, hx⟩ : ∃ x, x = sv (fun b => decide (0 < b ∧ b ≤ n ∧ t (b - 1) = c) && decide (b - 1 ≤ n ∧ cL t n s ≤ al t (cF t n s) (b - 1))) := ⟨_, rfl⟩
  rw [← hx]
  have huq : ∀ a b, a < cS t n → b < cS t n → gR_ends r a = x → gR_ends r b = x → a = b := fun a b ha hb e1 e2 => by
    rw [r_ends hR ha] at e1
    rw [r_ends hR hb, ← e1] at e2
    exact (S_uq hI hb ha (fun y hy h => ((enS_eq hn).mp e2 y hy).mp h) (fun y hy h => ((enS_eq hn).mp e2 y hy).mpr h)).symm
  rcases hv with ⟨w, hw, e, hm⟩ | ⟨e, hm⟩
  · subst e
    have key : gR_ends r w = x := by
      rw [r_ends hR hw, hx]
      unfold enS
      refine sv_ext (fun b _ => ?_)
      have := hm b
      by_cases hb : b ≤ n
      · have := this hb
        by_cases h1 : cL t n w ≤ al t (cF t n w) b
        · obtain ⟨e, e1, e2, e3⟩ := this.mp h1
          subst e1
          simp [hb, h1, e2, e3]
          omega
        · simp only [hb, h1, and_false, decide_false]
          symm
          simp
          intro g1 g2 g3
          rcases Nat.lt_or_ge (al t (cF t n s) (b - 1)) (cL t n s) with q | q
          · exact q
          · exact absurd (this.mpr ⟨b - 1, by omega, g2, q⟩) h1
      · simp [hb]
    exact w_stateOf (hR_st hR) h121 (fun s' hs' e _ => by rw [huq s' w hs' hw e key]; exact hq) (fun hno => absurd key (hno w hw)) huq
  · subst e
    refine w_stateOf (hR_st hR) h121 (fun s' hs' e _ => ?_) (fun _ => hq) huq
    rw [r_ends hR hs', hx] at e
    unfold enS at e
    have h1 := sv_inj e (cF t n s') (by have := (hI.2.1 s' hs').2; omega)
    have h2 := S_fe hI hs'
    have h3 := (hI.2.1 s' hs').2
    simp only [h3, h2, and_self, decide_true, true_and] at h1
    have h1 := h1.symm
    simp at h1
    exact absurd h1.2.2 (by have := hm (cF t n s' - 1) (by omega) h1.1.2; omega)
end STATE
theorem LS7_ok : LS7 Rel := by
  rintro ⟨uM, uW, sh, im⟩ r x1 x2 ⟨t, n, K, hB, hC, hR, hS, hI⟩
  have hC : ClInv t n K uM := hC
  have hrel : Rel (uM, uW, sh, im) r := ⟨t, n, K, hB, hC, hR, hS, hI⟩
  have hn := hB.1
  have h121 := cs_le hB
  have hV := c_inv t n
  unfold wpX6_state wpX7_state
  refine s_br hB hC (fun h => rs_n hB hR h ⟨rfl, hrel⟩) (fun s hs e => ?_)
  subst e
  have go : ∀ {P R : Prop}, R → (fX7_isState r (nI s) = 0 → P) ∧ (¬ fX7_isState r (nI s) = 0 → R) := fun h => rs_y hB hR hs h
  have lk : 0 < s → ∀ {Q : Int32 → Prop}, (∀ p, p < cS t n → fX2_linkOf uM (nI s) = nI p → Q (nI p)) → wpX7_linkOf r (nI s) Q := fun h0 Q hQ => by
    obtain ⟨p, p1, p2, p3⟩ := c_link hB hC h0 hs
    exact w_linkOf hB hR hs p1 p3 (hQ p p1 p2)
  refine ⟨fun h0 => go (br_t h0 ⟨vp_in_nI (by omega) (by decide), ?_⟩), fun h0 => ⟨fun h1 => go (br_f h0 (br_t h1 ?_)), fun h1 => ⟨fun h2 => go (br_f h0 (br_f h1 (br_t h2 ?_))), fun h2 => ⟨fun h3 => go (br_f h0 (br_f h1 (br_f h2 (br_t h3 ⟨vp_in_nI (by omega) (by decide), ?_⟩)))), fun h3 => ⟨fun h4 => go (br_f h0 (br_f h1 (br_f h2 (br_f h3 (br_t h4 ⟨vp_in_nI (by omega) (by decide), ?_⟩))))), fun h4 => ⟨fun h5 => go (br_f h0 (br_f h1 (br_f h2 (br_f h3 (br_f h4 (br_t h5 ⟨vp_in_nI (by omega) (by decide), ?_⟩)))))), fun h5 => ⟨fun h6 => go (br_f h0 (br_f h1 (br_f h2 (br_f h3 (br_f h4 (br_f h5 (br_t h6 ⟨vp_in_nI (by omega) (by decide), ?_⟩))))))), fun h6 => go (br_f h0 (br_f h1 (br_f h2 (br_f h3 (br_f h4 (br_f h5 (br_f h6 ⟨rfl, hrel⟩)))))))⟩⟩⟩⟩⟩⟩⟩
  · rw [nI_clamp (by omega), c_longest hB hC hs, r_longest hR hs]
    exact ⟨rfl, hrel⟩
  · unfold wpX7_shortest
    refine pk_eq s 0 (fun e => ?_) (fun e => ?_) rfl rfl (by omega) (by decide)
    · subst e
      exact ⟨rfl, hrel⟩
    · refine lk (by omega) (fun p p1 p2 => ⟨vp_in_nI (by omega) (by decide), ?_, hrel⟩)
      rw [nI_clamp (by omega), r_longest hR p1]
      show fX2_shortestOf uM (nI s) = _
      unfold fX2_shortestOf
      have h00 : ¬ nI s ≤ 0 := nI_ge (b := s) (a := 0) (by omega) (by omega)
      rw [if_neg h00, p2, c_longest hB hC p1]
  · refine pk_eq s 0 (fun e => ?_) (fun e => ?_) rfl rfl (by omega) (by decide)
    · subst e
      exact ⟨c_link0 hB hC, hrel⟩
    · exact lk (by omega) (fun p p1 p2 => ⟨p2, hrel⟩)
  · rw [nI_clamp (by omega), c_ends hB hC hs, r_ends hR hs]
    unfold enS
    rw [bitCount_sv]
    exact w_bits ⟨rfl, hrel⟩
  · rw [nI_clamp (by omega), r_ends hR hs]
    have hf := hV.2.1 s hs
    obtain ⟨e, e1, e2, e3⟩ := en_first (t := t) hf.2 hf.1
    refine least_en hn e1 e2 e3 ⟨?_, hrel⟩
    show fX2_firstEndOf uM (nI s) = _
    unfold fX2_firstEndOf
    rw [c_ends hB hC hs]
    exact firstOf_en hn e1 e2 e3
  · rw [nI_clamp (by omega)]
    refine ⟨?_, hrel⟩
    show fX2_madeBehind uM (nI s) = _
    unfold fX2_madeBehind
    rw [kAt_nI (by omega), (hC.2 s hs).1, (hR.2 s hs).1]
  · rw [nI_clamp (by omega)]
    refine ⟨?_, hrel⟩
    show fX2_originalOf uM (nI s) = _
    unfold fX2_originalOf
    rw [isState_y (hC_st hC) hs h121, if_neg (by decide), kAt_nI (by omega), (hC.2 s hs).2, (hR.2 s hs).2]
theorem LS8_ok : LS8 Rel := by
  rintro ⟨uM, uW, sh, im⟩ r x1 x2 ⟨t, n, K, hB, hC, hR, hS, hI⟩
  have hC : ClInv t n K uM := hC
  have hrel : Rel (uM, uW, sh, im) r := ⟨t, n, K, hB, hC, hR, hS, hI⟩
  unfold wpX6_move wpX7_move
  refine s_br hB hC (fun h => rs_n hB hR h ⟨rfl, hrel⟩) (fun s hs e => ?_)
  subst e
  refine let_br (hC_al hC) hB.2.2.1 (fun h => rs_y hB hR hs (rl_n hB hR h ⟨rfl, hrel⟩)) (fun c hc e => rs_y hB hR hs ?_)
  subst e
  refine rl_y hB hR hc (w_moveOf hB hR hs hc (c_mv hB hC hs hc) ⟨rfl, hrel⟩)
theorem LS9_ok : LS9 Rel := by
  rintro ⟨uM, uW, sh, im⟩ r x1 x2 ⟨t, n, K, hB, hC, hR, hS, hI⟩
  have hC : ClInv t n K uM := hC
  have hrel : Rel (uM, uW, sh, im) r := ⟨t, n, K, hB, hC, hR, hS, hI⟩
  have h121 := cs_le hB
  unfold wpX6_end
  refine s_br hB hC (fun h => by unfold wpX7_end; exact rs_n hB hR h ⟨rfl, hrel⟩) (fun s hs e => ?_)
  subst e
  refine ⟨fun h0 => ?_, fun h0 => by unfold wpX7_end; exact rs_y hB hR hs (br_t (Int32.not_le.mp h0) ⟨rfl, hrel⟩)⟩
  have h1 : ¬ x2 < 0 := Int32.not_lt.mpr h0
  obtain ⟨k, hk, rfl⟩ := nI_of h1
  have hce := c_ends hB hC hs
  have ref : ∀ a : Int32, wpX7_kthEnd (enS t n (cL t n s) (cF t n s)) (nI k) (fun b => a = b ∧ Rel (uM, uW, sh, im) r) → wpX7_end r (nI s) (nI k) (fun b => a = b ∧ Rel (uM, uW, sh, im) r) := fun a h => by
    unfold wpX7_end
    exact rs_y hB hR hs (br_f h1 ⟨vp_in_nI (by omega) (by decide), by rw [nI_clamp (by omega), r_ends hR hs]; exact h⟩)
  obtain ⟨p, hp⟩ : ∃ p : Nat → Bool, p = fun b => decide (b ≤ n ∧ cL t n s ≤ al t (cF t n s) b) := ⟨_, rfl⟩
  have he : enS t n (cL t n s) (cF t n s) = sv p := by rw [hp]; rfl
  show wpX0_kthOf (fX2_endsOf uM (nI s)) (nI k) _
  rw [hce]
  rw [he] at ref ⊢
  refine w_kthOf hk (fun g => ref _ ?_) (fun e e1 e2 e3 => ref _ ?_)
  · refine w_kthEnd hk (fun _ => ⟨rfl, hrel⟩) (fun e e1 e2 e3 => ?_)
    have := ct_lt e1 e2
    omega
  · refine w_kthEnd hk (fun g => ?_) (fun e' f1 f2 f3 => ⟨?_, hrel⟩)
    · have := ct_lt e1 e2
      omega
    · rw [ct_inj e2 f2 (by omega)]
