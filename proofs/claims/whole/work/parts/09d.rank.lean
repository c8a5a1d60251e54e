/-! which one a word is -/
def wpa (u : MSt) (w : Nat → Int32) : Nat → Int32
  | 0 => 0
  | l + 1 => fX2_moveOf u (wpa u w l) (w l)
theorem m1_add (a b : Nat) : nI a + (-1) + nI b = nI (a + b) + (-1) := by
  rw [Int32.add_assoc, Int32.add_comm (-1), ← Int32.add_assoc, nI_add]
theorem m1_1 (a : Nat) : nI a + (-1) + 1 = nI (a + 1) + (-1) := m1_add a 1
section RANK
variable {t : Nat → Nat} {n K : Nat} {u : MSt} {r : RSt}
theorem wpa_st (hB : Base t n K) (hC : ClInv t n K u) (w : Nat → Int32) : ∀ l, stW t n w 0 l (wpa u w l) := by
  intro l
  induction l with
  | zero => exact stW_0
  | succ l ih =>
    have := stW_step hB hC ih
    rw [Nat.zero_add] at this
    exact this
theorem rank_path (hB : Base t n K) (hC : ClInv t n K u) {w : Nat → Int32} {k b : Nat} (hb : we t n w 0 k b = true) : ∃ ss cc : Nat → Nat, ss 0 = 0 ∧ (∀ l, l ≤ k → ss l < cS t n) ∧ ∀ l, l < k → cc l < K ∧ w l = nI (cc l) ∧ fX2_moveOf u (nI (ss l)) (nI (cc l)) = nI (ss (l + 1)) := by
  have h121 := cs_le hB
  have hK5 := hB.2.2.1
  have none : ∀ l, l ≤ k → ¬ ∀ b, we t n w 0 l b = false := fun l hl h => by
    have := we_none h hl b
    rw [hb] at this
    exact absurd this (by decide)
  have h1 : ∀ l, l ≤ k → (wpa u w l).toNatClampNeg < cS t n ∧ wpa u w l = nI (wpa u w l).toNatClampNeg := fun l hl => by
    rcases wpa_st hB hC w l with ⟨s, q1, q2, _⟩ | ⟨_, q⟩
    · rw [q2, nI_clamp (by omega)]; exact ⟨q1, rfl⟩
    · exact absurd q (none l hl)
  have h2 : ∀ l, l < k → (w l).toNatClampNeg < K ∧ w l = nI (w l).toNatClampNeg := fun l hl => by
    by_cases he : ∃ b, we t n w 0 (l + 1) b = true
    · obtain ⟨b, q⟩ := he
      obtain ⟨q1, q2, q3, _⟩ := we_s.mp q
      rw [Nat.zero_add] at q3
      have := hB.2.2.2 (b - 1) (by omega)
      rw [← q3, nI_clamp (by omega)]
      exact ⟨this, rfl⟩
    · exact absurd (fun b => by
        cases hq : we t n w 0 (l + 1) b with
        | false => rfl
        | true => exact absurd ⟨b, hq⟩ he) (none (l + 1) hl)
  refine ⟨fun l => (wpa u w l).toNatClampNeg, fun l => (w l).toNatClampNeg, rfl, fun l hl => (h1 l hl).1, fun l hl => ⟨(h2 l hl).1, (h2 l hl).2, ?_⟩⟩
  show fX2_moveOf u (nI (wpa u w l).toNatClampNeg) (nI (w l).toNatClampNeg) = nI (wpa u w (l + 1)).toNatClampNeg
  rw [← (h1 l (by omega)).2, ← (h2 l hl).2, ← (h1 (l + 1) hl).2]
  rfl
noncomputable def ra (t : Nat → Nat) (n : Nat) (ss cc : Nat → Nat) (l : Nat) : Nat := sm (fun i => sm (nU t n (ss i)) (cc i)) l
theorem ra_s (ss cc : Nat → Nat) (l : Nat) : ra t n ss cc (l + 1) = ra t n ss cc l + sm (nU t n (ss l)) (cc l) := rfl
theorem w_ahead (hB : Base t n K) (hC : ClInv t n K u) {w : WSt} {s : SSt} {k : Nat} {ss cc : Nat → Nat} (hk : k ≤ 64) (hs : gS_length s = nI k) (h0 : ss 0 = 0) (h1 : ∀ l, l ≤ k → ss l < cS t n) (h2 : ∀ l, l < k → cc l < K ∧ gS_signs s l - 97 = nI (cc l) ∧ fX2_moveOf u (nI (ss l)) (nI (cc l)) = nI (ss (l + 1))) {Q : Int32 → WSt → Prop} (hq : ∀ w', Q (nI (ra t n ss cc k + k) + (-1)) w') : wpX5_wordsAheadOf w u s Q := by
  have hn := hB.1
  have hK5 := hB.2.2.1
  have h121 := cs_le hB
  unfold wpX5_wordsAheadOf
  intro X11 X31 X66 h11 h31 h66
  rw [hs] at h11
  rw [hC_al hC] at h31
  refine w_countOnward hB hC (fun w1 hw => ?_)
  have loop : ∀ d l, l + d = k → X11 (nI (ss l)) (nI (ra t n ss cc l + l) + (-1)) (nI l) w1 := by
    intro d
    induction d with
    | zero =>
      intro l hl
      have hl : l = k := by omega
      refine h11 _ _ _ _ (br_t (nI_le (by omega) (by omega)) ?_)
      rw [hl]
      exact hq w1
    | succ d ih =>
      intro l hl
      obtain ⟨c1, c2, c3⟩ := h2 l (by omega)
      have hsl := h1 l (by omega)
      refine h11 _ _ _ _ (br_f (nI_ge (by omega) (by omega)) ?_)
      rw [letterAt_S (by omega), c2]
      have inner : ∀ d c, c + d = cc l → X31 (nI (ss l)) (nI (ra t n ss cc l + l + sm (nU t n (ss l)) c) + (-1)) (nI l) (nI (cc l)) (nI c) w1 := by
        intro d2
        induction d2 with
        | zero =>
          intro c hc
          have hc : c = cc l := by omega
          refine h31 _ _ _ _ _ _ (br_t (nI_le (by omega) (by omega)) (h66 _ _ _ _ _ ?_))
          rw [c3, nI_1, m1_1, hc, show ra t n ss cc l + l + sm (nU t n (ss l)) (cc l) + 1 = ra t n ss cc (l + 1) + (l + 1) by rw [ra_s]; omega]
          exact ih (l + 1) (by omega)
        | succ d2 ihd =>
          intro c hc
          refine h31 _ _ _ _ _ _ (br_f (nI_ge (by omega) (by omega)) (br_f (nI_ge (by omega) (by omega)) ?_))
          rw [onwardBy_ok hB hC hsl (by omega) (fun x hx _ => hw x hx), m1_add, nI_1, Nat.add_assoc, ← sm_s]
          exact ihd (c + 1) (by omega)
      exact inner (cc l) 0 (by omega)
  have := loop k 0 (by omega)
  rw [h0, show ra t n ss cc 0 + 0 = 0 from rfl, m1_0] at this
  exact this
theorem r_rank (hB : Base t n K) (hC : ClInv t n K u) (hR : RfInv t n K r) {i k : Nat} {w : Nat → Int32} {ss cc : Nat → Nat} (hi : i < 4) (hk : k ≤ 64) (hk0 : 0 < k) (hz : gR_sizes r i = nI k) (hw : ∀ j, j < k → gR_sheets r (64 * i + j) - 97 = w j) {b : Nat} (hb : we t n w 0 k b = true) (h0 : ss 0 = 0) (h1 : ∀ l, l ≤ k → ss l < cS t n) (h2 : ∀ l, l < k → cc l < K ∧ w l = nI (cc l) ∧ fX2_moveOf u (nI (ss l)) (nI (cc l)) = nI (ss (l + 1))) {Q : Int32 → RSt → Prop} (hq : ∀ pa, Q (nI (ra t n ss cc k + (k - 1))) (gR_set_paths r pa)) : wpX7_rank r (nI i) Q := by
  have hn := hB.1
  have hK5 := hB.2.2.1
  have h121 := cs_le hB
  unfold wpX7_rank
  intro X53 X84 X139 X120 h53 h84 h139 h120
  refine w_need (fun h => (not_sheet hi h).elim) (fun i' hi' e => ?_)
  have e : i = i' := nI_inj (by omega) (by omega) e
  subst e
  rw [hz]
  refine br_t (nI_pos' (by omega)) (br_t (by decide) ⟨vp_in_nI hi (by decide), ?_⟩)
  rw [nI_clamp (by omega), hz]
  refine br_f (nI_ne0 hk0 (by omega)) ⟨vp_in_nI hi (by decide), ?_⟩
  have key := w_endsIn (a := 0) (l := k) (w := w) hB hR hi (by omega) (fun j hj => hw j (by omega)) (Q := fun r4 => ((r4 : Int64) = 0 → Q (-4) r) ∧ (¬ ((r4 : Int64) = 0) → wpX7_layPaths r (fun uR6 => X53 0 0 0 uR6))) ?_
  · rw [Nat.zero_add] at key
    exact key
  refine br_f (fun q => ?_) ?_
  · have := sv_0.mp q b (by have := we_n hb; omega)
    rw [hb] at this
    exact absurd this (by decide)
  refine r_layPaths hB hR (fun pa hpa => ?_)
  have hRp : RfInv t n K (gR_set_paths r pa) := Rf_same rfl rfl rfl rfl rfl rfl rfl rfl hR
  have loop : ∀ d l, l + d = k → X53 (nI (ra t n ss cc l + (l - 1))) (nI (ss l)) (nI l) (gR_set_paths r pa) := by
    intro d
    induction d with
    | zero =>
      intro l hl
      have hl : l = k := by omega
      refine h53 _ _ _ _ ⟨vp_in_nI hi (by decide), ?_⟩
      rw [nI_clamp (by omega), show gR_sizes (gR_set_paths r pa) i = nI k from hz]
      refine br_t (nI_le (by omega) (by omega)) ?_
      rw [hl]
      exact hq pa
    | succ d ih =>
      intro l hl
      obtain ⟨c1, c2, c3⟩ := h2 l (by omega)
      have hsl := h1 l (by omega)
      refine h53 _ _ _ _ ⟨vp_in_nI hi (by decide), ?_⟩
      rw [nI_clamp (by omega), show gR_sizes (gR_set_paths r pa) i = nI k from hz]
      refine br_f (nI_ge (by omega) (by omega)) ?_
      rw [ix64, nI_clamp (by omega), show gR_sheets (gR_set_paths r pa) (64 * i + l) - 97 = nI (cc l) from (hw l (by omega)).trans c2]
      refine ⟨vp_in_nI (by omega) (by decide), ?_⟩
      have last : ∀ z : Int32, ∀ g : Nat, z = nI g → g + (l - 1) = l → X139 (nI (ss l)) (nI l) (nI (cc l)) z (nI (ra t n ss cc l + (l - 1) + sm (nU t n (ss l)) (cc l))) (gR_set_paths r pa) := fun z g hz hg => by
        refine h139 _ _ _ _ _ _ (w_moveOf hB hRp hsl c1 (c_mv hB hC hsl c1) ?_)
        rw [c3, hz, nI_add, nI_1, show ra t n ss cc l + (l - 1) + sm (nU t n (ss l)) (cc l) + g = ra t n ss cc (l + 1) + (l + 1 - 1) by rw [ra_s]; omega]
        exact ih (l + 1) (by omega)
      have inner : ∀ d c, c + d = cc l → X84 (nI (ra t n ss cc l + (l - 1) + sm (nU t n (ss l)) c)) (nI (ss l)) (nI l) (nI (cc l)) (nI c) (gR_set_paths r pa) := by
        intro d2
        induction d2 with
        | zero =>
          intro c hc
          have hc : c = cc l := by omega
          refine h84 _ _ _ _ _ _ (br_t (nI_le (by omega) (by omega)) ?_)
          rw [hc]
          exact pk_le l 0 (fun q => last 0 0 rfl (by omega)) (fun q => last 1 1 rfl (by omega)) rfl rfl (by omega) (by decide)
        | succ d2 ihd =>
          intro c hc
          have go : ∀ z : Int32, z = nI (nU t n (ss l) c) → X120 (nI (ss l)) (nI l) (nI (cc l)) (nI c) z (nI (ra t n ss cc l + (l - 1) + sm (nU t n (ss l)) c)) (gR_set_paths r pa) := fun z hz => by
            refine h120 _ _ _ _ _ _ _ ?_
            rw [hz, nI_add, nI_1, Nat.add_assoc, ← sm_s]
            exact ihd (c + 1) (by omega)
          refine h84 _ _ _ _ _ _ (br_f (nI_ge (by omega) (by omega)) (w_moveOf hB hRp hsl (by omega) (c_mv hB hC hsl (by omega : c < K)) ?_))
          rcases c_mv hB hC hsl (by omega : c < K) with ⟨v, hv, e, hm⟩ | ⟨e, hm⟩
          · rw [e]
            refine br_f (nI_m4 (by omega)) ⟨vp_in_nI (by omega) (by decide), go _ ?_⟩
            rw [nI_clamp (by omega), nU_mv hm]
            exact hpa v hv
          · rw [e]
            exact br_t rfl (go 0 (by rw [nU_no hm]; rfl))
      exact inner (cc l) 0 (by omega)
  have := loop k 0 (by omega)
  rw [h0, show ra t n ss cc 0 + (0 - 1) = 0 from rfl] at this
  exact this
end RANK
theorem LS18_ok : LS18 Rel := by
  rintro ⟨uM, uW, sh, im⟩ r x1 ⟨t, n, K, hB, hC, hR, hS, hI⟩
  have hC : ClInv t n K uM := hC
  have hS : ShR sh (gR_sizes r) (gR_sheets r) := hS
  have hrel : Rel (uM, uW, sh, im) r := ⟨t, n, K, hB, hC, hR, hS, hI⟩
  unfold wpX6_rank
  refine ⟨fun h => ?_, fun i hi e => ?_⟩
  · unfold wpX7_rank
    intro X53 X84 X139 X120 h53 h84 h139 h120
    exact w_need (fun _ => br_f (by decide) ⟨rfl, hrel⟩) (fun i hi e => by subst e; exact (not_sheet hi h).elim)
  subst e
  rcases hS i hi with ⟨a, b⟩ | ⟨a, k, b1, b2, b3, b4⟩
  · refine br_t a ?_
    unfold wpX7_rank
    intro X53 X84 X139 X120 h53 h84 h139 h120
    refine w_need (fun h => (not_sheet hi h).elim) (fun i' hi' e => ?_)
    have e : i = i' := nI_inj (by omega) (by omega) e
    subst e
    rw [b]; exact br_f (by decide) (br_f (by decide) ⟨rfl, hrel⟩)
  · refine br_f (by rw [a]; decide) ?_
    rw [show gS_length ((uM, uW, sh, im).2.2.1 i) = nI k from b2]
    refine pk_eq k 0 (fun hk => ?_) (fun hk => ?_) rfl rfl (by omega) (by decide)
    · unfold wpX7_rank
      intro X53 X84 X139 X120 h53 h84 h139 h120
      refine w_need (fun h => (not_sheet hi h).elim) (fun i' hi' e => ?_)
      have e : i = i' := nI_inj (by omega) (by omega) e
      subst e
      rw [b3]
      refine br_t (nI_pos' (by omega)) (br_t (by decide) ⟨vp_in_nI hi (by decide), ?_⟩)
      rw [nI_clamp (by omega), b3]
      exact br_t (by rw [hk]; rfl) ⟨rfl, hrel⟩
    · refine w_stateOfS hB hC b1 b2 (fun v hv => ?_)
      rcases hv with ⟨s, hs, e, hb⟩ | ⟨e, hno⟩
      · have h121 := cs_le hB
        rw [e]
        refine br_f (nI_m4 (by omega)) ?_
        have hwb := (hb _ ((c_inv t n).2.1 s hs).2).mp (S_fe (c_inv t n) hs)
        obtain ⟨ss, cc, p0, p1, p2⟩ := rank_path hB hC hwb
        refine w_ahead hB hC b1 b2 p0 p1 p2 (fun w' => ?_)
        refine r_rank hB hC hR hi b1 (by omega) b3 (fun j hj => by rw [← b4 j hj]) hwb p0 p1 p2 (fun pa => ⟨?_, t, n, K, hB, hC, Rf_same rfl rfl rfl rfl rfl rfl rfl rfl hR, hS, hI⟩)
        rw [show ra t n ss cc k + k = ra t n ss cc k + (k - 1) + 1 by omega, pk_m1]
      · rw [e]
        refine br_t rfl ?_
        unfold wpX7_rank
        intro X53 X84 X139 X120 h53 h84 h139 h120
        refine w_need (fun h => (not_sheet hi h).elim) (fun i' hi' e => ?_)
        have e : i = i' := nI_inj (by omega) (by omega) e
        subst e
        rw [b3]
        refine br_t (nI_pos' (by omega)) (br_t (by decide) ⟨vp_in_nI hi (by decide), ?_⟩)
        rw [nI_clamp (by omega)]
        refine ⟨fun _ => ⟨rfl, hrel⟩, fun _ => ?_⟩
        have := w_word hB hR hi b1 b4 b3 (Q := fun r4 => ((r4 : Int64) = 0 → -4 = (-4 : Int32) ∧ Rel (uM, uW, sh, im) r) ∧ (¬ ((r4 : Int64) = 0) → wpX7_layPaths r (fun uR6 => X53 0 0 0 uR6))) (br_t (sv_0.mpr (fun b _ => hno b)) ⟨rfl, hrel⟩)
        rw [nI_clamp (by omega)] at this
        exact this
