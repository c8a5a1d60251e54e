/-! the k-th word -/
def KW (t : Nat → Nat) (n K : Nat) : Nat → Nat → Nat → (Nat → Nat) → Prop
  | 0, _, left, _ => left = 0
  | m + 1, s, left, f => 0 < left ∧ f 0 < K ∧ sm (nU t n s) (f 0) ≤ left - 1 ∧ left - 1 < sm (nU t n s) (f 0 + 1) ∧ ∃ v, v < cS t n ∧ isMv t n (cL t n) (cF t n) s (f 0) v ∧ KW t n K m v (left - 1 - sm (nU t n s) (f 0)) (fun i => f (i + 1))
section KTH
variable {t : Nat → Nat} {n K : Nat} {u : MSt} {r : RSt}
theorem kw_step (hB : Base t n K) {s left : Nat} (hs : s < cS t n) (h0 : 0 < left) (hl : left < nT t n s) : ∃ c v, c < K ∧ v < cS t n ∧ isMv t n (cL t n) (cF t n) s c v ∧ sm (nU t n s) c ≤ left - 1 ∧ left - 1 < sm (nU t n s) (c + 1) ∧ left - 1 - sm (nU t n s) c < nT t n v := by
  rw [nT_rec hB.2.2.2 hs] at hl
  obtain ⟨k, k1, k2⟩ := pk_least (fun c => left - 1 < sm (nU t n s) c) ⟨K, by omega⟩
  cases k with
  | zero => exact absurd k1 (Nat.not_lt_zero _)
  | succ c =>
    have hc : c < K := by
      rcases Nat.lt_or_ge c K with g | g
      · exact g
      · exact absurd (show left - 1 < sm (nU t n s) K by omega) (k2 K (by omega))
    have h1 := k2 c (by omega)
    rw [sm_s] at k1
    rcases mv_ex (c_inv t n) (c := c) hs with ⟨v, hv, hm⟩ | hm
    · refine ⟨c, v, hc, hv, hm, by omega, by rw [sm_s]; exact k1, ?_⟩
      rw [← nU_mv hm]
      omega
    · rw [nU_no hm] at k1
      exact absurd k1 h1
theorem kw_ex (hB : Base t n K) : ∀ d s left, s < cS t n → n ≤ cL t n s + d → left < nT t n s → ∃ m f, KW t n K m s left f ∧ m + cL t n s ≤ n := by
  intro d
  induction d with
  | zero =>
    intro s left hs hd hl
    rcases Nat.eq_zero_or_pos left with g | g
    · exact ⟨0, fun _ => 0, g, by have := cL_le hB hs; omega⟩
    · obtain ⟨c, v, _, hv, hm, _⟩ := kw_step hB hs g hl
      have h1 := mv_len (c_inv t n) hv hm
      have h2 := cL_le hB hv
      omega
  | succ d ih =>
    intro s left hs hd hl
    rcases Nat.eq_zero_or_pos left with g | g
    · exact ⟨0, fun _ => 0, g, by have := cL_le hB hs; omega⟩
    · obtain ⟨c, v, hc, hv, hm, h1, h2, h3⟩ := kw_step hB hs g hl
      have h4 := mv_len (c_inv t n) hv hm
      obtain ⟨m, f, h5, h6⟩ := ih v _ hv (by omega) h3
      exact ⟨m + 1, fun i => match i with | 0 => c | i + 1 => f i, ⟨g, hc, h1, h2, v, hv, hm, h5⟩, by omega⟩
theorem c_mvE (hB : Base t n K) (hC : ClInv t n K u) {s c v : Nat} (hs : s < cS t n) (hc : c < K) (hv : v < cS t n) (hm : isMv t n (cL t n) (cF t n) s c v) : fX2_moveOf u (nI s) (nI c) = nI v := by
  rcases c_mv hB hC hs hc with ⟨x, h1, h2, h3⟩ | ⟨_, h2⟩
  · rw [h2, mv_uq (c_inv t n) h1 hv h3 hm]
  · exact (mv_no (c_inv t n) hv hm h2).elim
theorem eK1 (hB : Base t n K) : nI K - 1 = nI (K - 1) := pk_sub (b := 1) hB.2.1
theorem w_writeKth (hB : Base t n K) (hC : ClInv t n K u) {w : WSt} {s0 : SSt} {k m : Nat} {f : Nat → Nat} (hk : KW t n K m 0 (k + 1) f) (hm : m ≤ 60) (hk4 : k < 5000) {Q : WSt → SSt → Prop} (hq : ∀ w' s', gS_there s' = 1 → gS_length s' = nI m → (∀ j, j < m → gS_signs s' j = 97 + nI (f j)) → Q w' s') : wpX5_writeKth w u s0 (nI k) Q := by
  have hn := hB.1
  have hK5 := hB.2.2.1
  have h121 := cs_le hB
  unfold wpX5_writeKth
  intro X17 X32 X76 h17 h32 h76
  rw [hC_al hC, eK1 hB] at h32
  refine w_countOnward hB hC (fun w1 hw => ?_)
  refine w_layOut (k := 0) (by decide) (fun s1 a1 a2 _ => ?_)
  obtain ⟨sg0, th, ln⟩ := s1
  have a1 : th = 1 := a1
  have a2 : ln = nI 0 := a2
  subst a1; subst a2
  have loop : ∀ m s left (f : Nat → Nat) j (sg : Nat → Int32), KW t n K m s left f → s < cS t n → left ≤ 5000 → j + m ≤ 60 → (∀ sg' : Nat → Int32, (∀ i, i < j → sg' i = sg i) → (∀ i, i < m → sg' (j + i) = 97 + nI (f i)) → Q w1 (sg', 1, nI (j + m))) → X17 (nI s) (nI left + (-1)) (nI j) w1 (sg, 1, nI j) := by
    intro m
    induction m with
    | zero =>
      intro s left f j sg hkw hs hl hj hx
      have hkw : left = 0 := hkw
      have fin : Q w1 (sg, 1, nI j) := hx sg (fun _ _ => rfl) (fun i hi => absurd hi (Nat.not_lt_zero i))
      rw [hkw, m1_0]
      exact h17 _ _ _ _ _ ⟨fun _ => fin, fun _ => br_t (by decide) fin⟩
    | succ m ih =>
      intro s left f j sg hkw hs hl hj hx
      obtain ⟨h0, hc, h1, h2, v, hv, hmv, hkw⟩ := hkw
      obtain ⟨l, rfl⟩ : ∃ l, left = l + 1 := ⟨left - 1, by omega⟩
      rw [Nat.add_sub_cancel] at h1 h2 hkw
      rw [pk_m1]
      have search : ∀ d c, c + d = f 0 → X32 (nI s) (nI (l - sm (nU t n s) c)) (nI j) (nI c) w1 (sg, 1, nI j) := by
        intro d
        induction d with
        | zero =>
          intro c hcd
          have hcd : c = f 0 := by omega
          subst hcd
          have g : X76 (nI s) (nI (l - sm (nU t n s) (f 0))) (nI j) (nI (f 0)) w1 (sg, 1, nI j) := by
            refine h76 _ _ _ _ _ _ ?_
            rw [c_mvE hB hC hs hc hv hmv, nI_1, addLetter_S (by omega)]
            refine ih v _ _ (j + 1) _ hkw hv (by omega) (by omega) (fun sg' q1 q2 => ?_)
            rw [show j + 1 + m = j + (m + 1) by omega]
            refine hx sg' (fun i hi => by rw [q1 i (by omega), pk_un (by omega)]) (fun i hi => ?_)
            cases i with
            | zero => rw [Nat.add_zero, q1 j (by omega), pk_us]
            | succ i => rw [show j + (i + 1) = j + 1 + i by omega]; exact q2 i (by omega)
          refine h32 _ _ _ _ _ _ ⟨fun _ => g, fun _ => ⟨fun _ => g, fun hno => absurd ?_ hno⟩⟩
          have hU := nU_le (t := t) hn s (f 0)
          rw [onwardBy_ok hB hC hs hc (fun x hx _ => hw x hx)]
          rw [sm_s] at h2
          exact nI_lt (by omega) (by omega)
        | succ d ihd =>
          intro c hcd
          have hm1 : sm (nU t n s) (c + 1) ≤ sm (nU t n s) (f 0) := sm_mono _ (by omega)
          rw [sm_s] at hm1
          refine h32 _ _ _ _ _ _ (br_f (nI_ge (by omega) (by omega)) ?_)
          rw [onwardBy_ok hB hC hs (by omega) (fun x hx _ => hw x hx)]
          refine br_f (nI_nlt (by omega) (by omega)) ?_
          rw [pk_sub (by omega), nI_1, show l - sm (nU t n s) c - nU t n s c = l - sm (nU t n s) (c + 1) by rw [sm_s]; omega]
          exact ihd (c + 1) (by omega)
      have h60 : ¬ (60 : Int32) ≤ nI j := nI_ge (b := 60) (by omega) (by decide)
      exact h17 _ _ _ _ _ (br_f h60 (br_f (nI_pos (by omega)) (search (f 0) 0 (by omega))))
  have := loop m 0 (k + 1) f 0 sg0 hk (c_inv t n).1.1 (by omega) (by omega) (fun sg' _ q2 => by
    rw [Nat.zero_add]
    exact hq _ _ rfl rfl (fun j hj => by have := q2 j hj; rw [Nat.zero_add] at this; exact this))
  rw [pk_m1] at this
  exact this
theorem r_kth (hB : Base t n K) (hR : RfInv t n K r) {i k m : Nat} {f : Nat → Nat} (hi : i < 4) (hk : KW t n K m 0 (k + 1) f) (hm : m ≤ 60) (hkT : k + 1 < nT t n 0) {Q : Int32 → RSt → Prop} (hq : ∀ pa ss : Nat → Int32, (∀ j, j < m → ss (64 * i + j) = 97 + nI (f j)) → (∀ y j, y ≠ i → j < 64 → ss (64 * y + j) = gR_sheets r (64 * y + j)) → Q (nI m) (gR_set_sizes (gR_set_sheets (gR_set_paths r pa) ss) (upd (gR_sizes r) i (nI m)))) : wpX7_kth r (nI k) (nI i) Q := by
  have hn := hB.1
  have hK5 := hB.2.2.1
  have h121 := cs_le hB
  have hT0 := nT_le (t := t) hn 0
  unfold wpX7_kth
  intro X42 X61 X79 X98 h42 h61 h79 h98
  refine br_f (nI_pos (by omega)) (sheet_br (fun h => (not_sheet hi h).elim) (fun i' hi' _ => ?_))
  refine r_layPaths hB hR (fun pa hpa => ⟨vp_in_nI (N := 121) (n := 0) (by decide) (by decide), ?_⟩)
  have hRp : ∀ ss, RfInv t n K (gR_set_sheets (gR_set_paths r pa) ss) := fun ss => Rf_same rfl rfl rfl rfl rfl rfl rfl rfl hR
  have loop : ∀ m s left (f : Nat → Nat) j (ss : Nat → Int32), KW t n K m s left f → s < cS t n → left ≤ 5000 → j + m ≤ 60 → (∀ ss' : Nat → Int32, (∀ x, (x < 64 * i + j ∨ 64 * i + 64 ≤ x) → ss' x = ss x) → (∀ q, q < m → ss' (64 * i + (j + q)) = 97 + nI (f q)) → Q (nI (j + m)) (gR_set_sizes (gR_set_sheets (gR_set_paths r pa) ss') (upd (gR_sizes r) i (nI (j + m))))) → X42 (nI left) (nI s) (nI j) (gR_set_sheets (gR_set_paths r pa) ss) := by
    intro m
    induction m with
    | zero =>
      intro s left f j ss hkw hs hl hj hx
      have hkw : left = 0 := hkw
      rw [hkw]
      refine h42 _ _ _ _ (br_t (by decide) ⟨vp_in_nI hi (by decide), ?_⟩)
      rw [nI_clamp (by omega)]
      exact hx ss (fun _ _ => rfl) (fun i hi => absurd hi (Nat.not_lt_zero i))
    | succ m ih =>
      intro s left f j ss hkw hs hl hj hx
      obtain ⟨h0, hc, h1, h2, v, hv, hmv, hkw⟩ := hkw
      obtain ⟨l, rfl⟩ : ∃ l, left = l + 1 := ⟨left - 1, by omega⟩
      rw [Nat.add_sub_cancel] at h1 h2 hkw
      have search : ∀ d c, c + d = f 0 → ∀ v', MvOK t n (cS t n) (cL t n) (cF t n) v' s c → X61 (nI (l - sm (nU t n s) c)) (nI s) (nI j) (nI c) v' (gR_set_sheets (gR_set_paths r pa) ss) := by
        intro d
        induction d with
        | zero =>
          intro c hcd v' hv'
          have hcd : c = f 0 := by omega
          subst hcd
          have hv' : v' = nI v := by
            rcases hv' with ⟨x, q1, q2, q3⟩ | ⟨_, q2⟩
            · rw [q2, mv_uq (c_inv t n) q1 hv q3 hmv]
            · exact (mv_no (c_inv t n) hv hmv q2).elim
          have hU := nU_le (t := t) hn s (f 0)
          subst hv'
          refine h61 _ _ _ _ _ _ (br_f (nI_m4 (by omega)) ⟨vp_in_nI (by omega) (by decide), ?_⟩)
          rw [nI_clamp (by omega), show gR_paths (gR_set_sheets (gR_set_paths r pa) ss) v = nI (nU t n s (f 0)) by rw [nU_mv hmv]; exact hpa v hv]
          rw [sm_s] at h2
          rw [ix64, nI_clamp (by omega), nI_1]
          refine br_t (nI_lt (by omega) (by omega)) ⟨vp_in_nI (by omega) (by decide), ?_⟩
          refine ih v _ _ (j + 1) (upd ss (64 * i + j) (97 + nI (f 0))) hkw hv (by omega) (by omega) (fun ss' q1 q2 => ?_)
          rw [show j + 1 + m = j + (m + 1) by omega]
          refine hx ss' (fun x hx => by rw [q1 x (by omega), pk_un (by omega)]) (fun q hq => ?_)
          cases q with
          | zero => rw [Nat.add_zero, q1 _ (by omega), pk_us]
          | succ q => rw [show 64 * i + (j + (q + 1)) = 64 * i + (j + 1 + q) by omega]; exact q2 q (by omega)
        | succ d ihd =>
          intro c hcd v' hv'
          have hU := nU_le (t := t) hn s c
          have hm1 : sm (nU t n s) (c + 1) ≤ sm (nU t n s) (f 0) := sm_mono _ (by omega)
          rw [sm_s] at hm1
          obtain ⟨v2, hv2⟩ := mvOK_ex (t := t) (n := n) s (c + 1) hs
          have next : ∀ z : Int32, z = nI (nU t n s c) → X98 (nI s) (nI j) (nI c) z (nI (l - sm (nU t n s) c)) (gR_set_sheets (gR_set_paths r pa) ss) := fun z hz => by
            refine h98 _ _ _ _ _ _ ?_
            rw [nI_1, hz, pk_sub (by omega), show l - sm (nU t n s) c - nU t n s c = l - sm (nU t n s) (c + 1) by rw [sm_s]; omega]
            exact w_moveOf hB (hRp ss) hs (by omega) hv2 (ihd (c + 1) (by omega) v2 hv2)
          rcases hv' with ⟨x, q1, q2, q3⟩ | ⟨q1, q2⟩
          · subst q2
            have e : gR_paths (gR_set_sheets (gR_set_paths r pa) ss) x = nI (nU t n s c) := by rw [nU_mv q3]; exact hpa x q1
            refine h61 _ _ _ _ _ _ (br_f (nI_m4 (by omega)) ⟨vp_in_nI (by omega) (by decide), ?_⟩)
            rw [nI_clamp (by omega), e]
            refine br_f (nI_nlt (by omega) (by omega)) (h79 _ _ _ _ _ _ (br_f (nI_m4 (by omega)) ⟨vp_in_nI (by omega) (by decide), next _ ?_⟩))
            rw [nI_clamp (by omega), e]
          · rw [q1]
            exact h61 _ _ _ _ _ _ (br_t rfl (h79 _ _ _ _ _ _ (br_t rfl (next 0 (by rw [nU_no q2]; rfl)))))
      obtain ⟨v0, hv0⟩ := mvOK_ex (t := t) (n := n) s 0 hs
      refine h42 _ _ _ _ (br_f (nI_nle (by omega) (by omega)) ?_)
      rw [pk_m1]
      exact w_moveOf (c := 0) hB (hRp ss) hs (by have := hB.2.1; omega) hv0 (search (f 0) 0 (by omega) v0 hv0)
  have e0 : gR_paths (gR_set_paths r pa) (0 : Int32).toNatClampNeg - 1 = nI (nT t n 0 - 1) := by
    show pa 0 - 1 = _
    rw [hpa 0 (c_inv t n).1.1]
    exact pk_sub (b := 1) (by omega)
  rw [e0, nI_1]
  refine br_t (nI_lt (by omega) (by omega)) ?_
  exact loop m 0 (k + 1) f 0 (gR_sheets r) hk (c_inv t n).1.1 (by omega) (by omega) (fun ss' q1 q2 => by
    rw [Nat.zero_add]
    exact hq pa ss' (fun j hj => by have := q2 j hj; rw [Nat.zero_add] at this; exact this) (fun y j hy hj => q1 _ (by omega)))
end KTH
theorem LS17_ok : LS17 Rel := by
  rintro ⟨uM, uW, sh, im⟩ r x1 x2 ⟨t, n, K, hB, hC, hR, hS, hI⟩
  have hC : ClInv t n K uM := hC
  have hS : ShR sh (gR_sizes r) (gR_sheets r) := hS
  have hI : ImR im (gR_keptLetters r) (gR_keptMany r) (gR_keptText r) := hI
  have hrel : Rel (uM, uW, sh, im) r := ⟨t, n, K, hB, hC, hR, hS, hI⟩
  have hV := c_inv t n
  have hn := hB.1
  have hT0 := nT_le (t := t) hn 0
  have eT := nT_0 t n
  have bad : (x1 < 0 ∨ (x2 < 0 ∨ 4 ≤ x2)) → wpX7_kth r x1 x2 (fun b r' => -1 = b ∧ Rel (uM, uW, sh, im) r') := fun h => by
    unfold wpX7_kth
    intro X42 X61 X79 X98 h42 h61 h79 h98
    refine ⟨fun _ => ⟨rfl, hrel⟩, fun g => sheet_br (fun _ => ⟨rfl, hrel⟩) (fun i hi e => ?_)⟩
    rcases h with h | h
    · exact absurd h g
    · subst e; exact (not_sheet hi h).elim
  unfold wpX6_kth
  refine ⟨fun h => ⟨fun _ => bad (Or.inr h), fun _ => bad (Or.inr h)⟩, fun i hi e => ⟨fun h => bad (Or.inl h), fun h0 => ?_⟩⟩
  subst e
  obtain ⟨k, k2, rfl⟩ := nI_of h0
  rw [show gM_length (uM, uW, sh, im).1 = nI n from hC_len hC]
  refine w_unlikeUpTo hB hC (Nat.le_refl _) ?_
  refine pk_lt k _ (fun hk => ?_) (fun hk => ?_) rfl rfl k2 (by omega)
  · obtain ⟨m, f, hkw, hmn⟩ := kw_ex hB n 0 (k + 1) hV.1.1 (by omega) (by omega)
    refine w_writeKth hB hC hkw (by omega) (by omega) (fun w' s' a1 a2 a3 => ?_)
    refine r_kth hB hR hi hkw (by omega) (by omega) (fun pa ss b1 b2 => ⟨a2, t, n, K, hB, hC, Rf_same rfl rfl rfl rfl rfl rfl rfl rfl hR, ?_, hI⟩)
    exact ShR_up hS (k := m) (by omega) a1 a2 pk_us (fun j hj => by rw [a3 j hj]; exact (b1 j hj).symm) (fun x hx => pk_un hx) b2
  · unfold wpX7_kth
    intro X42 X61 X79 X98 h42 h61 h79 h98
    refine br_f h0 (sheet_br (fun h => (not_sheet hi h).elim) (fun i' hi' _ => ?_))
    refine r_layPaths hB hR (fun pa hpa => ⟨vp_in_nI (N := 121) (n := 0) (by decide) (by decide), ?_⟩)
    have e0 : gR_paths (gR_set_paths r pa) (0 : Int32).toNatClampNeg - 1 = nI (nT t n 0 - 1) := by
      show pa 0 - 1 = _
      rw [hpa 0 hV.1.1]
      exact pk_sub (b := 1) (by omega)
    rw [e0]
    exact br_f (nI_nlt (by omega) (by omega)) ⟨rfl, t, n, K, hB, hC, Rf_same rfl rfl rfl rfl rfl rfl rfl rfl hR, hS, hI⟩
