/-! the longest that comes so often -/
noncomputable def bo (P : Nat → Nat → Prop) : Nat → Nat
  | 0 => 0
  | j + 1 => @ite Nat (P j (bo P j)) (Classical.propDecidable _) j (bo P j)
theorem bo_y {P : Nat → Nat → Prop} {j : Nat} (h : P j (bo P j)) : bo P (j + 1) = j := @if_pos _ (Classical.propDecidable _) h _ _ _
theorem bo_n {P : Nat → Nat → Prop} {j : Nat} (h : ¬ P j (bo P j)) : bo P (j + 1) = bo P j := @if_neg _ (Classical.propDecidable _) h _ _ _
theorem bo_lt {P : Nat → Nat → Prop} {S : Nat} (h0 : 0 < S) : ∀ {j : Nat}, j ≤ S → bo P j < S := by
  intro j
  induction j with
  | zero => intro _; exact h0
  | succ j ih =>
    intro hj
    rcases Classical.em (P j (bo P j)) with g | g
    · rw [bo_y g]; omega
    · rw [bo_n g]; exact ih (by omega)
theorem w_bits_en {t : Nat → Nat} {n l f : Nat} {Q : Int32 → Prop} (hq : Q (nI (ct (fun b => decide (b ≤ n ∧ l ≤ al t f b)) 61))) : wpX7_bits (enS t n l f) Q := w_bits hq
theorem bits_en {t : Nat → Nat} {n l f : Nat} : fJ13_bitCount_95d88 (enS t n l f) = nI (ct (fun b => decide (b ≤ n ∧ l ≤ al t f b)) 61) := bitCount_sv _
theorem LS21_ok : LS21 Rel := by
  rintro ⟨uM, uW, sh, im⟩ r x1 x2 ⟨t, n, K, hB, hC, hR, hS, hI⟩
  have hC : ClInv t n K uM := hC
  have hS : ShR sh (gR_sizes r) (gR_sheets r) := hS
  have hrel : Rel (uM, uW, sh, im) r := ⟨t, n, K, hB, hC, hR, hS, hI⟩
  have hV := c_inv t n
  have hn := hB.1
  have h121 := cs_le hB
  have bad : (x1 < 1 ∨ (x2 < 0 ∨ 4 ≤ x2)) → wpX7_often r x1 x2 (fun b r' => -1 = b ∧ Rel (uM, uW, sh, im) r') := fun h => by
    unfold wpX7_often
    intro X32 X60 X115 X116 X149 X144 h32 h60 h115 h116 h149 h144
    refine ⟨fun _ => ⟨rfl, hrel⟩, fun g => sheet_br (fun _ => ⟨rfl, hrel⟩) (fun i hi e => ?_)⟩
    rcases h with h | h
    · exact absurd h g
    · subst e; exact (not_sheet hi h).elim
  unfold wpX6_often
  refine ⟨fun h => ⟨fun _ => bad (Or.inr h), fun _ => bad (Or.inr h)⟩, fun i hi e => ⟨fun h => bad (Or.inl h), fun h0 => ?_⟩⟩
  subst e
  obtain ⟨k, k1, k2, rfl⟩ := i32_1 h0
  have hc0 : fJ13_bitCount_95d88 (fX2_endsOf (uM, uW, sh, im).1 0) = nI (n + 1) := by
    have e0 : fX2_endsOf uM (nI 0) = _ := c_ends hB hC hV.1.1
    have e1 : fJ13_bitCount_95d88 (fX2_endsOf uM (nI 0)) = nI (n + 1) := by
      rw [e0, bits_en, hV.1.2.1]
      congr 1
      have : ∀ m, m ≤ n + 1 → ct (fun b => decide (b ≤ n ∧ 0 ≤ al t (cF t n 0) b)) m = m := by
        intro m
        induction m with
        | zero => intro _; rfl
        | succ m ih => intro hm; rw [ct_s, ih (by omega), if_pos (by simp; omega)]
      rw [← this (n + 1) (Nat.le_refl _)]
      exact ct_flat (by omega) (fun j j1 _ => by simp; omega)
    exact e1
  rw [hc0]
  refine pk_le k (n + 1) (fun hk => ?_) (fun hk => ?_) rfl rfl k2 (by omega)
  case _ =>
    obtain ⟨fst, hf⟩ := fst_ex hB hC
    obtain ⟨P, hP⟩ : ∃ P : Nat → Nat → Prop, ∀ j b, P j b ↔ (0 < j ∧ k ≤ ct (fun x => decide (x ≤ n ∧ cL t n j ≤ al t (cF t n j) x)) 61 ∧ (cL t n b < cL t n j ∨ (cL t n j = cL t n b ∧ ahd t (fst j) (fst b) (cL t n j) = true))) := ⟨fun _ _ => _, fun _ _ => Iff.rfl⟩
    have b1 : bo P 1 = 0 := bo_n (by rw [hP]; rintro ⟨h, _⟩; omega)
    have flen : ∀ s, s < cS t n → cL t n s ≤ fst s := fun s hs => by
      have := al_le' t (cF t n s) (fst s)
      have := (hf s hs).2.1
      omega
    have ref : ∀ s', gS_there s' = 1 → gS_length s' = nI (cL t n (bo P (cS t n))) → (∀ j, j < cL t n (bo P (cS t n)) → gS_signs s' j = 97 + nI (t (fst (bo P (cS t n)) - cL t n (bo P (cS t n)) + j))) → wpX7_often r (nI k) (nI i) (fun b r' => gS_length s' = b ∧ Rel (uM, uW, va_up sh i s', im) r') := fun s' a1 a2 a3 => by
      unfold wpX7_often
      intro X32 X60 X115 X116 X149 X144 h32 h60 h115 h116 h149 h144
      refine br_f h0 (sheet_br (fun h => (not_sheet hi h).elim) (fun i' hi' _ => ?_))
      rw [hR_n hR, nI_1]
      refine br_t (nI_le hk (by omega)) ?_
      have loop : ∀ d j, j + d = cS t n → 1 ≤ j → X32 (nI (bo P j)) (nI j) r := by
        intro d
        induction d with
        | zero =>
          intro j hj _
          have hj : j = cS t n := by omega
          have hbl := bo_lt (P := P) hV.1.1 (j := j) (by omega)
          refine h32 _ _ _ ?_
          rw [hR_st hR]
          refine br_t (nI_le (by omega) (by omega)) ⟨vp_in_nI (by omega) (by decide), ?_⟩
          rw [nI_clamp (by omega), r_ends hR hbl, r_longest hR hbl]
          obtain ⟨f1, f2, f3, f4⟩ := hf _ hbl
          refine least_en hn f1 f2 f3 ⟨vp_in_nI (by omega) (by decide), w_toSheet hB hR hi f1 (flen _ hbl) (fun ss s1 s2 => ⟨?_, t, n, K, hB, hC, Rf_same rfl rfl rfl rfl rfl rfl rfl rfl hR, ?_, hI⟩)⟩
          · rw [a2, hj]
          · subst hj
            exact ShR_up hS (by have := cL_le hB hbl; omega) a1 a2 pk_us (fun x hx => by rw [a3 x hx]; exact (s1 x hx).symm) (fun x hx => pk_un hx) s2
        | succ d ih =>
          intro j hj hj1
          have hjS : j < cS t n := by omega
          have hbl := bo_lt (P := P) hV.1.1 (j := j) (by omega)
          have hx := ih (j + 1) (by omega) (by omega)
          have c1 := ct_le (fun x => decide (x ≤ n ∧ cL t n j ≤ al t (cF t n j) x)) 61
          have l1 := cL_le hB hjS
          have l2 := cL_le hB hbl
          have take : P j (bo P j) → X144 (nI j) r := fun hp => by
            refine h144 _ _ ?_
            rw [bo_y hp] at hx
            rw [nI_1]; exact hx
          have skip : ¬ P j (bo P j) → X149 (nI (bo P j)) (nI j) r := fun hp => by
            refine h149 _ _ _ ?_
            rw [bo_n hp] at hx
            rw [nI_1]; exact hx
          have go : ∀ z : Int32, (z = 0 ∧ ct (fun x => decide (x ≤ n ∧ cL t n j ≤ al t (cF t n j) x)) 61 < k) ∨ (¬ z = 0 ∧ k ≤ ct (fun x => decide (x ≤ n ∧ cL t n j ≤ al t (cF t n j) x)) 61) → X60 (nI (bo P j)) (nI j) z r := fun z hz => by
            have last : ∀ z1 : Int32, (z1 = 0 ∧ ¬ (cL t n j = cL t n (bo P j) ∧ ahd t (fst j) (fst (bo P j)) (cL t n j) = true)) ∨ (¬ z1 = 0 ∧ cL t n j = cL t n (bo P j) ∧ ahd t (fst j) (fst (bo P j)) (cL t n j) = true) → X116 (nI (bo P j)) (nI j) z z1 r := fun z1 hz1 => by
              refine h116 _ _ _ _ _ ⟨fun q => skip (fun hp => ?_), fun q => ⟨vp_in_nI (by omega) (by decide), vp_in_nI (by omega) (by decide), ?_⟩⟩
              · rw [hP] at hp
                have := hp.2.1
                rcases hz with z1 | z1
                · omega
                · exact z1.1 q
              · have hk2 : k ≤ ct (fun x => decide (x ≤ n ∧ cL t n j ≤ al t (cF t n j) x)) 61 := by
                  rcases hz with z1 | z1
                  · exact absurd z1.1 q
                  · exact z1.2
                rw [nI_clamp (by omega), nI_clamp (by omega), r_longest hR hjS, r_longest hR hbl]
                refine pk_lt _ _ (fun g => take ?_) (fun g => ⟨fun q1 => skip (fun hp => ?_), fun q1 => take ?_⟩) rfl rfl (by omega) (by omega)
                · rw [hP]; exact ⟨by omega, hk2, Or.inl g⟩
                · rw [hP] at hp
                  rcases hp.2.2 with c | c
                  · omega
                  · rcases hz1 with z | z
                    · exact z.2 c
                    · exact z.1 q1
                · rcases hz1 with z | z
                  · exact absurd z.1 q1
                  · rw [hP]; exact ⟨by omega, hk2, Or.inr z.2⟩
            refine h60 _ _ _ _ ⟨vp_in_nI (by omega) (by decide), vp_in_nI (by omega) (by decide), ?_⟩
            rw [nI_clamp (by omega), nI_clamp (by omega), r_longest hR hjS, r_longest hR hbl, r_ends hR hjS, r_ends hR hbl]
            obtain ⟨f1, f2, f3, f4⟩ := hf _ hjS
            obtain ⟨g1, g2, g3, g4⟩ := hf _ hbl
            refine pk_eq _ _ (fun g => ⟨vp_in_nI (by omega) (by decide), least_en hn f1 f2 f3 ⟨vp_in_nI (by omega) (by decide), least_en hn g1 g2 g3 ⟨vp_in_nI (by omega) (by decide), w_isAheadR hB hR f1 g1 (flen _ hjS) (by rw [g]; exact flen _ hbl) ?_⟩⟩⟩) (fun g => h115 _ _ _ _ (last 0 (Or.inl ⟨rfl, fun c => g c.1⟩))) rfl rfl (by omega) (by omega)
            cases ha : ahd t (fst j) (fst (bo P j)) (cL t n j) with
            | true => exact br_f (by decide) (last 1 (Or.inr ⟨by decide, g, ha⟩))
            | false => exact br_t rfl (h115 _ _ _ _ (last 0 (Or.inl ⟨rfl, fun c => by rw [ha] at c; exact absurd c.2 (by decide)⟩)))
          refine h32 _ _ _ ?_
          rw [hR_st hR]
          refine br_f (nI_ge (by omega) (by omega)) ⟨vp_in_nI (by omega) (by decide), ?_⟩
          rw [nI_clamp (by omega), r_ends hR hjS]
          exact w_bits_en (pk_lt _ _ (fun g => go 0 (Or.inl ⟨rfl, g⟩)) (fun g => go 1 (Or.inr ⟨by decide, g⟩)) rfl rfl (by omega) k2)
      have := loop (cS t n - 1) 1 (by have := hV.1.1; omega) (Nat.le_refl _)
      rw [b1] at this
      exact this
    unfold wpX5_longestStateWith
    intro X4 X58 X86 h4 h58 h86
    rw [show gM_states (uM, uW, sh, im).1 = nI (cS t n) from hC_st hC] at h4
    have loop : ∀ d j, j + d = cS t n → 1 ≤ j → X4 (nI (bo P j)) (nI j) := by
      intro d
      induction d with
      | zero =>
        intro j hj _
        have hj : j = cS t n := by omega
        have hbl := bo_lt (P := P) hV.1.1 (j := j) (by omega)
        obtain ⟨f1, f2, f3, f4⟩ := hf _ hbl
        refine h4 _ _ (br_t (nI_le (by omega) (by omega)) ?_)
        show wpX4_copyWord uM (sh i) (fX2_firstEndOf uM (nI (bo P j))) (fX2_longestOf uM (nI (bo P j))) _
        rw [f4, c_longest hB hC hbl]
        rw [← hj] at ref
        exact w_copyWord hB hC f1 (flen _ hbl) ref
      | succ d ih =>
        intro j hj hj1
        have hjS : j < cS t n := by omega
        have hbl := bo_lt (P := P) hV.1.1 (j := j) (by omega)
        have hx := ih (j + 1) (by omega) (by omega)
        have c1 := ct_le (fun x => decide (x ≤ n ∧ cL t n j ≤ al t (cF t n j) x)) 61
        have l1 := cL_le hB hjS
        have l2 := cL_le hB hbl
        have take : P j (bo P j) → X86 (nI j) := fun hp => by
          refine h86 _ ?_
          rw [bo_y hp] at hx
          rw [nI_1]; exact hx
        have skip : ¬ P j (bo P j) → X4 (nI (bo P j)) (nI j + 1) := fun hp => by
          rw [bo_n hp] at hx
          rw [nI_1]; exact hx
        refine h4 _ _ (br_f (nI_ge (by omega) (by omega)) ?_)
        rw [show fX2_endsOf (uM, uW, sh, im).1 (nI j) = _ from c_ends hB hC hjS, bits_en, show fX2_longestOf (uM, uW, sh, im).1 (nI (bo P j)) = _ from c_longest hB hC hbl, show fX2_longestOf (uM, uW, sh, im).1 (nI j) = _ from c_longest hB hC hjS]
        refine pk_lt _ _ (fun g => h58 _ _ _ _ _ (br_t rfl (skip (fun hp => ?_)))) (fun g => h58 _ _ _ _ _ (br_f (by decide) ?_)) rfl rfl (by omega) k2
        · rw [hP] at hp
          have := hp.2.1
          omega
        · rcases Nat.lt_trichotomy (cL t n (bo P j)) (cL t n j) with q | q | q
          · rw [pk_sub (by omega)]
            refine br_t (nI_lt (a := 0) (by omega) (by omega)) (take ?_)
            rw [hP]; exact ⟨by omega, g, Or.inl q⟩
          · have e0 : nI (cL t n j) - nI (cL t n (bo P j)) = 0 := by rw [pk_sub (by omega), q, Nat.sub_self]; rfl
            rw [e0]
            obtain ⟨f1, f2, f3, f4⟩ := hf _ hjS
            obtain ⟨g1, g2, g3, g4⟩ := hf _ hbl
            refine br_f (by decide) (br_t rfl (w_isAheadC hB hC f4 g4 f1 g1 (flen _ hjS) (by rw [← q]; exact flen _ hbl) ?_))
            cases ha : ahd t (fst j) (fst (bo P j)) (cL t n j) with
            | true => exact br_f (by decide) (take (by rw [hP]; exact ⟨by omega, g, Or.inr ⟨q.symm, ha⟩⟩))
            | false =>
              refine br_t rfl (skip (fun hp => ?_))
              rw [hP] at hp
              rcases hp.2.2 with c | c
              · omega
              · rw [ha] at c; exact absurd c.2 (by decide)
          · have hneg := pk_sneg (a := cL t n j) (b := cL t n (bo P j)) (by omega) q
            refine br_f (fun c => Int32.lt_irrefl (Int32.lt_trans c hneg)) (br_f (fun c => by rw [c] at hneg; exact absurd hneg (by decide)) (skip (fun hp => ?_)))
            rw [hP] at hp
            rcases hp.2.2 with c | c
            · omega
            · omega
    have := loop (cS t n - 1) 1 (by have := hV.1.1; omega) (Nat.le_refl _)
    rw [b1] at this
    exact this
  case _ =>
    unfold wpX7_often
    intro X32 X60 X115 X116 X149 X144 h32 h60 h115 h116 h149 h144
    refine br_f h0 (sheet_br (fun h => (not_sheet hi h).elim) (fun i' hi' _ => ?_))
    rw [hR_n hR, nI_1]
    exact br_f (nI_ge hk k2) ⟨rfl, hrel⟩
