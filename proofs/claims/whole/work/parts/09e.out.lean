/-! how many letters lead out of the words -/
theorem sm_max {f : Nat → Nat} {M : Nat} : ∀ {k : Nat}, (∀ c, c < k → f c ≤ M) → sm f k ≤ k * M := by
  intro k
  induction k with
  | zero => intro _; exact Nat.zero_le _
  | succ k ih =>
    intro h
    have h1 := ih (fun c hc => h c (by omega))
    have h2 := h k (by omega)
    rw [sm_s, Nat.succ_mul]
    omega
theorem sm_full {f : Nat → Nat} {M : Nat} : ∀ {k : Nat}, (∀ c, c < k → f c ≤ M) → sm f k = k * M → ∀ c, c < k → f c = M := by
  intro k
  induction k with
  | zero => intro _ _ c hc; exact absurd hc (Nat.not_lt_zero c)
  | succ k ih =>
    intro h he c hc
    have h1 := sm_max (f := f) (M := M) (k := k) (fun c hc => h c (by omega))
    have h2 := h k (by omega)
    rw [sm_s, Nat.succ_mul] at he
    rcases Nat.lt_or_ge c k with g | g
    · exact ih (fun c hc => h c (by omega)) (by omega) c g
    · rw [show c = k by omega]; omega
theorem sm_same {f : Nat → Nat} {M : Nat} : ∀ {k : Nat}, (∀ c, c < k → f c = M) → sm f k = k * M := by
  intro k
  induction k with
  | zero => intro _; rw [Nat.zero_mul]; rfl
  | succ k ih =>
    intro h
    rw [sm_s, Nat.succ_mul, ih (fun c hc => h c (by omega)), h k (by omega)]
theorem Gp_pow {t : Nat → Nat} {n K : Nat} (ht : ∀ i, i < n → t i < K) : ∀ m (p : Nat → Bool), Gp t n p m ≤ K ^ m := by
  intro m
  induction m with
  | zero =>
    intro p
    by_cases h : ∃ a, a ≤ n ∧ p a = true
    · obtain ⟨a, h1, h2⟩ := h
      rw [Gp_0 h1 h2]; exact Nat.le_refl _
    · rw [Gp_none (fun b hb => ?_)]; exact Nat.zero_le _
      cases hq : p b with
      | false => rfl
      | true => exact absurd ⟨b, hb, hq⟩ h
  | succ m ih =>
    intro p
    rw [Gp_s ht, Nat.pow_succ, Nat.mul_comm]
    exact sm_max (fun c _ => ih _)
theorem Gp_end (t : Nat → Nat) (n : Nat) (p : Nat → Bool) : Gp t n p (n + 1) = 0 := ct_0 (fun e he => bF_no (fun h => by have := h.1; omega))
noncomputable def lw (K : Nat) (g : Nat → Nat) : Nat := Classical.epsilon (fun d => (∀ m, m < d → g m = K ^ m) ∧ g d ≠ K ^ d)
theorem lw_ok {t : Nat → Nat} {n K : Nat} (hK : 1 ≤ K) (p : Nat → Bool) : (∀ m, m < lw K (Gp t n p) → Gp t n p m = K ^ m) ∧ Gp t n p (lw K (Gp t n p)) ≠ K ^ (lw K (Gp t n p)) := by
  refine Classical.epsilon_spec (p := fun d => (∀ m, m < d → Gp t n p m = K ^ m) ∧ Gp t n p d ≠ K ^ d) ?_
  obtain ⟨d, h1, h2⟩ := pk_least (fun d => Gp t n p d ≠ K ^ d) ⟨n + 1, by
    show Gp t n p (n + 1) ≠ K ^ (n + 1)
    rw [Gp_end]
    have := Nat.pow_pos (n := n + 1) hK
    omega⟩
  exact ⟨d, fun m hm => Classical.not_not.mp (h2 m hm), h1⟩
theorem lw_le {t : Nat → Nat} {n K : Nat} (hK : 1 ≤ K) (p : Nat → Bool) : lw K (Gp t n p) ≤ n + 1 := by
  rcases Nat.lt_or_ge (n + 1) (lw K (Gp t n p)) with g | g
  · have h1 := (lw_ok hK p).1 (n + 1) g
    rw [Gp_end] at h1
    have := Nat.pow_pos (n := n + 1) hK
    omega
  · exact g
noncomputable def nD (t : Nat → Nat) (n K s : Nat) : Nat := lw K (Gp t n (eE t n s))
noncomputable def nW (t : Nat → Nat) (n K s c : Nat) : Nat := lw K (Gp t n (pc t n (eE t n s) c))
section OUT
variable {t : Nat → Nat} {n K : Nat} {u : MSt} {r : RSt}
theorem nW_mv {s c v : Nat} (h : isMv t n (cL t n) (cF t n) s c v) : nW t n K s c = nD t n K v := by
  unfold nW nD
  rw [show Gp t n (pc t n (eE t n s) c) = Gp t n (eE t n v) from funext (fun m => Gp_cong (eE_mv h) m)]
theorem nW_no (hB : Base t n K) {s c : Nat} (h : noMv t n (cL t n) (cF t n) s c) : nW t n K s c = 0 := by
  rcases Nat.eq_zero_or_pos (nW t n K s c) with g | g
  · exact g
  · have := (lw_ok (t := t) (n := n) hB.2.1 (pc t n (eE t n s) c)).1 0 g
    rw [Gp_none (eE_no h), Nat.pow_zero] at this
    omega
theorem nD_pos (hB : Base t n K) {s : Nat} (hs : s < cS t n) : 1 ≤ nD t n K s := by
  rcases Nat.eq_zero_or_pos (nD t n K s) with g | g
  · have := (lw_ok (t := t) (n := n) hB.2.1 (eE t n s)).2
    rw [show lw K (Gp t n (eE t n s)) = 0 from g, Gp_0 (eE_fe hs).1 (eE_fe hs).2, Nat.pow_zero] at this
    exact absurd rfl this
  · exact g
theorem nD_low (hB : Base t n K) {s c : Nat} (hc : c < K) : nD t n K s ≤ 1 + nW t n K s c := by
  rcases Nat.lt_or_ge (1 + nW t n K s c) (nD t n K s) with g | g
  · have h1 := (lw_ok (t := t) (n := n) hB.2.1 (eE t n s)).1 (nW t n K s c + 1) (by rw [Nat.add_comm]; exact g)
    rw [Gp_s hB.2.2.2, Nat.pow_succ, Nat.mul_comm] at h1
    exact absurd (sm_full (fun c _ => Gp_pow hB.2.2.2 _ _) h1 c hc) (lw_ok (t := t) (n := n) hB.2.1 (pc t n (eE t n s) c)).2
  · exact g
theorem nD_at (hB : Base t n K) {s : Nat} (hs : s < cS t n) : ∃ c, c < K ∧ 1 + nW t n K s c ≤ nD t n K s := by
  by_cases h : ∃ c, c < K ∧ 1 + nW t n K s c ≤ nD t n K s
  · exact h
  · obtain ⟨m, hm⟩ : ∃ m, nD t n K s = m + 1 := ⟨nD t n K s - 1, by have := nD_pos hB hs; omega⟩
    have h1 := (lw_ok (t := t) (n := n) hB.2.1 (eE t n s)).2
    rw [show lw K (Gp t n (eE t n s)) = m + 1 from hm, Gp_s hB.2.2.2, Nat.pow_succ, Nat.mul_comm] at h1
    refine absurd (sm_same (fun c hc => ?_)) h1
    refine (lw_ok (t := t) (n := n) hB.2.1 (pc t n (eE t n s) c)).1 m ?_
    rcases Nat.lt_or_ge m (nW t n K s c) with g | g
    · exact g
    · exact absurd ⟨c, hc, by omega⟩ h
theorem wayOutBy_ok (hB : Base t n K) (hC : ClInv t n K u) {w : WSt} {s c : Nat} (hs : s < cS t n) (hc : c < K) (hw : ∀ v, v < cS t n → cL t n s < cL t n v → gW_onward w v = nI (nD t n K v)) : fX5_wayOutBy w u (nI s) (nI c) = nI (1 + nW t n K s c) := by
  have h121 := cs_le hB
  unfold fX5_wayOutBy
  rcases c_mv hB hC hs hc with ⟨v, hv, e, hm⟩ | ⟨e, hm⟩
  · rw [e, if_neg (nI_m4 (by omega)), kAt_nI (by omega), nW_mv hm, hw v hv (mv_len (c_inv t n) hv hm)]
    exact nI_add 1 _
  · rw [e, if_pos rfl, nW_no hB hm]; rfl
def mn (f : Nat → Nat) : Nat → Nat
  | 0 => f 0
  | c + 1 => if f (c + 1) < mn f c then f (c + 1) else mn f c
theorem mn_low (f : Nat → Nat) : ∀ {k c : Nat}, c ≤ k → mn f k ≤ f c := by
  intro k
  induction k with
  | zero => intro c hc; rw [show c = 0 by omega]; exact Nat.le_refl _
  | succ k ih =>
    intro c hc
    show (if f (k + 1) < mn f k then f (k + 1) else mn f k) ≤ f c
    rcases Nat.lt_or_ge k c with g | g
    · rw [show c = k + 1 by omega]
      by_cases h : f (k + 1) < mn f k
      · rw [if_pos h]; exact Nat.le_refl _
      · rw [if_neg h]; omega
    · have := ih g
      by_cases h : f (k + 1) < mn f k
      · rw [if_pos h]; omega
      · rw [if_neg h]; exact this
theorem mn_at (f : Nat → Nat) : ∀ k, ∃ c, c ≤ k ∧ mn f k = f c := by
  intro k
  induction k with
  | zero => exact ⟨0, Nat.le_refl _, rfl⟩
  | succ k ih =>
    obtain ⟨c, h1, h2⟩ := ih
    show ∃ c, c ≤ k + 1 ∧ (if f (k + 1) < mn f k then f (k + 1) else mn f k) = f c
    by_cases h : f (k + 1) < mn f k
    · exact ⟨k + 1, Nat.le_refl _, if_pos h⟩
    · exact ⟨c, by omega, by rw [if_neg h]; exact h2⟩
theorem nD_mn (hB : Base t n K) {s : Nat} (hs : s < cS t n) : mn (fun c => 1 + nW t n K s c) (K - 1) = nD t n K s := by
  have hK := hB.2.1
  obtain ⟨c, h1, h2⟩ := nD_at hB hs
  obtain ⟨c', h3, h4⟩ := mn_at (fun c => 1 + nW t n K s c) (K - 1)
  have h5 := mn_low (fun c => 1 + nW t n K s c) (k := K - 1) (c := c) (by omega)
  have h6 := nD_low hB (s := s) (c := c') (by omega)
  omega
theorem w_countWayOut (hB : Base t n K) (hC : ClInv t n K u) {w : WSt} {Q : WSt → Prop} (hq : ∀ w', (∀ s, s < cS t n → gW_onward w' s = nI (nD t n K s)) → Q w') : wpX5_countWayOut w u Q := by
  have hn := hB.1
  have hK1 := hB.2.1
  have hK5 := hB.2.2.1
  have h121 := cs_le hB
  unfold wpX5_countWayOut
  intro X14 X37 h14 h37
  rw [hC_al hC] at h37
  rw [hC_st hC, m1_eq]
  refine w_order hB hC (fun w1 ho1 => ?_)
  have inner : ∀ d c tW y1 s, c + 1 + d = K → s < cS t n → (∀ v, v < cS t n → cL t n s < cL t n v → gW_onward tW v = nI (nD t n K v)) → X14 (y1 + (-1)) (gW_set_onward tW (upd (gW_onward tW) s (nI (nD t n K s)))) → X37 y1 (nI s) (nI (mn (fun c => 1 + nW t n K s c) c)) (nI (c + 1)) tW := by
    intro d
    induction d with
    | zero =>
      intro c tW y1 s hc hs hw hx
      have hc : c = K - 1 := by omega
      refine h37 _ _ _ _ _ (br_t (nI_le (by omega) (by omega)) ?_)
      rw [kPut_nI (by omega), hc, nD_mn hB hs]
      exact hx
    | succ d ih =>
      intro c tW y1 s hc hs hw hx
      refine h37 _ _ _ _ _ (br_f (nI_ge (by omega) (by omega)) ?_)
      have b1 := lw_le (t := t) (n := n) hK1 (pc t n (eE t n s) (c + 1))
      have b1 : nW t n K s (c + 1) ≤ n + 1 := b1
      have b2 := mn_low (fun c => 1 + nW t n K s c) (k := c) (c := c) (Nat.le_refl _)
      have b3 := lw_le (t := t) (n := n) hK1 (pc t n (eE t n s) c)
      have b3 : nW t n K s c ≤ n + 1 := b3
      rw [wayOutBy_ok hB hC hs (by omega) hw, nI_1]
      have e : (if (nI (1 + nW t n K s (c + 1)) : Int32) < nI (mn (fun c => 1 + nW t n K s c) c) then nI (1 + nW t n K s (c + 1)) else nI (mn (fun c => 1 + nW t n K s c) c)) = nI (mn (fun c => 1 + nW t n K s c) (c + 1)) := by
        show _ = nI (if 1 + nW t n K s (c + 1) < mn (fun c => 1 + nW t n K s c) c then 1 + nW t n K s (c + 1) else mn (fun c => 1 + nW t n K s c) c)
        rcases Nat.lt_or_ge (1 + nW t n K s (c + 1)) (mn (fun c => 1 + nW t n K s c) c) with g | g
        · rw [if_pos (nI_lt g (by omega)), if_pos g]
        · rw [if_neg (nI_nlt g (by omega)), if_neg (by omega)]
      rw [e]
      exact ih (c + 1) tW y1 s (by omega) hs hw hx
  have outer : ∀ i tW, i ≤ cS t n → (∀ s, s < cS t n → gW_order tW (rk (cL t n) (cS t n) s) = nI s) → (∀ s, s < cS t n → i ≤ rk (cL t n) (cS t n) s → gW_onward tW s = nI (nD t n K s)) → X14 (nI i + (-1)) tW := by
    intro i
    induction i with
    | zero =>
      intro tW _ _ h2
      rw [m1_0]
      exact h14 _ _ (br_t (by decide) (hq tW (fun s hs => h2 s hs (Nat.zero_le _))))
    | succ i ih =>
      intro tW hi ho h2
      rw [pk_m1]
      obtain ⟨s, hs, hr⟩ := rk_sur (len := cL t n) (S := cS t n) (M := 61) (p := i) (fun s hs => by have := cL_le hB hs; omega) (by omega)
      have hw : ∀ v, v < cS t n → cL t n s < cL t n v → gW_onward tW v = nI (nD t n K v) := fun v hv hl => h2 v hv (by
        have := rk_mono (S := cS t n) hs hl
        omega)
      refine h14 _ _ (br_f (nI_pos (by omega)) ?_)
      rw [kAt_nI (by omega), show gW_order tW i = nI s by rw [← hr]; exact ho s hs, show fX5_wayOutBy tW u (nI s) 0 = nI (mn (fun c => 1 + nW t n K s c) 0) from wayOutBy_ok (c := 0) hB hC hs (by omega) hw]
      refine inner (K - 1) 0 tW (nI i) s (by omega) hs hw ?_
      refine ih _ (by omega) ho (fun s' hs' hr' => ?_)
      show upd (gW_onward tW) s (nI (nD t n K s)) s' = _
      by_cases hss : s' = s
      · subst hss; exact pk_us
      · rw [pk_un hss]
        refine h2 s' hs' ?_
        rcases Nat.lt_or_ge i (rk (cL t n) (cS t n) s') with g | g
        · exact g
        · exact absurd (rk_inj (len := cL t n) hs' hs (by omega)) hss
  exact outer (cS t n) w1 (Nat.le_refl _) ho1 (fun s hs hr => by have := rk_lt (len := cL t n) hs; omega)
end OUT
/-- the class's word from a state -/
def AW (t : Nat → Nat) (n K : Nat) : Nat → Nat → (Nat → Nat) → Prop
  | 0, _, _ => False
  | m + 1, s, f => nD t n K s = m + 1 ∧ f 0 < K ∧ (∀ c, c < f 0 → m + 1 < 1 + nW t n K s c) ∧ 1 + nW t n K s (f 0) = m + 1 ∧ ((m = 0 ∧ noMv t n (cL t n) (cF t n) s (f 0)) ∨ ∃ v, v < cS t n ∧ isMv t n (cL t n) (cF t n) s (f 0) v ∧ AW t n K m v (fun i => f (i + 1)))
section WAY
variable {t : Nat → Nat} {n K : Nat} {u : MSt} {r : RSt}
theorem aw_ex (hB : Base t n K) : ∀ m s, s < cS t n → nD t n K s = m + 1 → ∃ f, AW t n K (m + 1) s f := by
  intro m
  induction m with
  | zero =>
    intro s hs hm
    obtain ⟨c, h1, h2⟩ := pk_least (fun c => c < K ∧ 1 + nW t n K s c ≤ nD t n K s) (nD_at hB hs)
    have h3 := nD_low hB (s := s) h1.1
    refine ⟨fun _ => c, hm, h1.1, fun c' hc' => ?_, ?_, ?_⟩
    · show 0 + 1 < 1 + nW t n K s c'
      have hc' : c' < c := hc'
      have := h2 c' hc'
      have := h1.1
      omega
    · show 1 + nW t n K s c = 0 + 1
      omega
    · rcases mv_ex (c_inv t n) (c := c) hs with ⟨v, hv, hmv⟩ | hno
      · have := nD_pos hB hv
        have := nW_mv (K := K) hmv
        omega
      · exact Or.inl ⟨rfl, hno⟩
  | succ m ih =>
    intro s hs hm
    obtain ⟨c, h1, h2⟩ := pk_least (fun c => c < K ∧ 1 + nW t n K s c ≤ nD t n K s) (nD_at hB hs)
    have h3 := nD_low hB (s := s) h1.1
    rcases mv_ex (c_inv t n) (c := c) hs with ⟨v, hv, hmv⟩ | hno
    · have e := nW_mv (K := K) hmv
      obtain ⟨f, hf⟩ := ih v hv (by omega)
      refine ⟨fun i => match i with | 0 => c | i + 1 => f i, hm, h1.1, fun c' hc' => ?_, ?_, Or.inr ⟨v, hv, hmv, hf⟩⟩
      · have hc' : c' < c := hc'
        have := h2 c' hc'
        have := h1.1
        omega
      · show 1 + nW t n K s c = _
        omega
    · have := nW_no hB hno
      omega
theorem aw_let : ∀ {m s : Nat} {f : Nat → Nat}, AW t n K m s f → ∀ i, i < m → f i < K := by
  intro m
  induction m with
  | zero => intro s f h; exact h.elim
  | succ m ih =>
    intro s f h i hi
    obtain ⟨_, h1, _, _, h2⟩ := h
    cases i with
    | zero => exact h1
    | succ i =>
      rcases h2 with ⟨g, _⟩ | ⟨v, _, _, g⟩
      · omega
      · exact ih g i (by omega)
theorem w_writeAbsent (hB : Base t n K) (hC : ClInv t n K u) {w : WSt} {s0 : SSt} {m : Nat} {f : Nat → Nat} (hA : AW t n K m 0 f) (hm : m ≤ 61) {Q : WSt → SSt → Prop} (hq : ∀ w' s', gS_there s' = 1 → gS_length s' = nI m → (∀ j, j < m → gS_signs s' j = 97 + nI (f j)) → Q w' s') : wpX5_writeAbsent w u s0 Q := by
  have hn := hB.1
  have hK1 := hB.2.1
  have hK5 := hB.2.2.1
  have h121 := cs_le hB
  unfold wpX5_writeAbsent
  intro X13 X28 X66 h13 h28 h66
  rw [hC_al hC, eK1 hB] at h28
  refine w_countWayOut hB hC (fun w1 hw => ?_)
  refine w_layOut (k := 0) (by decide) (fun s1 a1 a2 _ => ?_)
  obtain ⟨sg0, th, ln⟩ := s1
  have a1 : th = 1 := a1
  have a2 : ln = nI 0 := a2
  subst a1; subst a2
  have loop : ∀ m s (f : Nat → Nat) j (sg : Nat → Int32), AW t n K m s f → s < cS t n → j + m ≤ 61 → (∀ sg' : Nat → Int32, (∀ i, i < j → sg' i = sg i) → (∀ i, i < m → sg' (j + i) = 97 + nI (f i)) → Q w1 (sg', 1, nI (j + m))) → X13 (nI s) (nI j) w1 (sg, 1, nI j) := by
    intro m
    induction m with
    | zero => intro s f j sg h; exact h.elim
    | succ m ih =>
      intro s f j sg hA hs hj hx
      obtain ⟨h0, hc, h1, h2, h3⟩ := hA
      have step : ∀ sg' : Nat → Int32, (∀ i, i < j + 1 → sg' i = upd sg j (97 + nI (f 0)) i) → (∀ i, i < m → sg' (j + 1 + i) = 97 + nI (f (i + 1))) → Q w1 (sg', 1, nI (j + 1 + m)) := fun sg' q1 q2 => by
        rw [show j + 1 + m = j + (m + 1) by omega]
        refine hx sg' (fun i hi => by rw [q1 i (by omega), pk_un (by omega)]) (fun i hi => ?_)
        cases i with
        | zero => rw [Nat.add_zero, q1 j (by omega), pk_us]
        | succ i => rw [show j + (i + 1) = j + 1 + i by omega]; exact q2 i (by omega)
      have search : ∀ d c, c + d = f 0 → X28 (nI s) (nI j) (nI c) w1 (sg, 1, nI j) := by
        intro d
        induction d with
        | zero =>
          intro c hcd
          have hcd : c = f 0 := by omega
          subst hcd
          have g : X66 (nI s) (nI j) (nI (f 0)) w1 (sg, 1, nI j) := by
            refine h66 _ _ _ _ _ ?_
            rw [nI_1, addLetter_S (by omega)]
            rcases h3 with ⟨g1, g2⟩ | ⟨v, hv, hmv, g2⟩
            · have e : fX2_moveOf u (nI s) (nI (f 0)) = -4 := by
                rcases c_mv hB hC hs hc with ⟨v, hv, _, hmv⟩ | ⟨e, _⟩
                · exact (mv_no (c_inv t n) hv hmv g2).elim
                · exact e
              subst g1
              have fin : Q w1 (upd sg j (97 + nI (f 0)), 1, nI (j + 1)) := step _ (fun _ _ => rfl) (fun i hi => absurd hi (Nat.not_lt_zero i))
              rw [e]
              exact h13 _ _ _ _ ⟨fun _ => fin, fun _ => br_t rfl fin⟩
            · rw [c_mvE hB hC hs hc hv hmv]
              exact ih v _ (j + 1) _ g2 hv (by omega) step
          refine h28 _ _ _ _ _ ⟨fun _ => g, fun _ => ⟨fun _ => g, fun hno => absurd ?_ hno⟩⟩
          rw [wayOutBy_ok hB hC hs hc (fun x hx _ => hw x hx), kAt_nI (by omega), hw s hs]
          exact nI_le (by omega) (by omega)
        | succ d ihd =>
          intro c hcd
          have h4 := h1 c (by omega)
          have b1 : nW t n K s c ≤ n + 1 := lw_le (t := t) (n := n) hK1 (pc t n (eE t n s) c)
          refine h28 _ _ _ _ _ (br_f (nI_ge (by omega) (by omega)) ?_)
          rw [wayOutBy_ok hB hC hs (by omega) (fun x hx _ => hw x hx), kAt_nI (by omega), hw s hs, nI_1]
          exact br_f (nI_ge (by omega) (by omega)) (ihd (c + 1) (by omega))
      have h60 : ¬ (60 : Int32) < nI j := nI_nlt (b := j) (a := 60) (by omega) (by decide)
      exact h13 _ _ _ _ (br_f h60 (br_f (nI_m4 (by omega)) (search (f 0) 0 (by omega))))
  exact loop m 0 f 0 sg0 hA (c_inv t n).1.1 (by omega) (fun sg' _ q2 => by
    rw [Nat.zero_add]
    exact hq _ _ rfl rfl (fun j hj => by have := q2 j hj; rw [Nat.zero_add] at this; exact this))
end WAY
