/-! the shortest that comes once -/
theorem ahd_irr (t : Nat → Nat) (a : Nat) : ∀ m, ahd t a a m = false := by
  intro m
  induction m with
  | zero => rfl
  | succ m ih => rw [ahd_s, if_pos rfl]; exact ih
def ltS (t : Nat → Nat) (fst sho : Nat → Nat) (j b : Nat) : Prop := sho j < sho b ∨ (sho j = sho b ∧ ahd t (fst j) (fst b) (sho j) = true)
theorem ltS_tr {t : Nat → Nat} {fst sho : Nat → Nat} {a b c : Nat} (h1 : ltS t fst sho a b) (h2 : ltS t fst sho b c) : ltS t fst sho a c := by
  rcases h1 with h1 | ⟨h1, h1'⟩
  · rcases h2 with h2 | ⟨h2, h2'⟩
    · exact Or.inl (by omega)
    · exact Or.inl (by omega)
  · rcases h2 with h2 | ⟨h2, h2'⟩
    · exact Or.inl (by omega)
    · exact Or.inr ⟨by omega, ahd_tr h1' (by rw [h1]; exact h2')⟩
theorem ltS_irr {t : Nat → Nat} {fst sho : Nat → Nat} {a : Nat} : ¬ ltS t fst sho a a := by
  rintro (h | ⟨_, h⟩)
  · omega
  · rw [ahd_irr] at h; exact absurd h (by decide)
noncomputable def cnt (t : Nat → Nat) (n s : Nat) : Nat := ct (fun b => decide (b ≤ n ∧ cL t n s ≤ al t (cF t n s) b)) 61
theorem cnt_le (t : Nat → Nat) (n s : Nat) : cnt t n s ≤ 61 := ct_le _ _
theorem LS24_ok : LS24 Rel := by
  rintro ⟨uM, uW, sh, im⟩ r x1 ⟨t, n, K, hB, hC, hR, hS, hI⟩
  have hC : ClInv t n K uM := hC
  have hS : ShR sh (gR_sizes r) (gR_sheets r) := hS
  have hrel : Rel (uM, uW, sh, im) r := ⟨t, n, K, hB, hC, hR, hS, hI⟩
  have hV := c_inv t n
  have hn := hB.1
  have h121 := cs_le hB
  unfold wpX6_single
  refine ⟨fun h => ?_, fun i hi e => ?_⟩
  · unfold wpX7_single
    intro X21 X92 X96 X97 X110 h21 h92 h96 h97 h110
    exact sheet_br (fun _ => ⟨rfl, hrel⟩) (fun i hi e => by subst e; exact (not_sheet hi h).elim)
  subst e
  obtain ⟨fst, hf⟩ := fst_ex hB hC
  obtain ⟨sho, ho⟩ := sho_ex hB hC hR
  have flen : ∀ s, s < cS t n → cL t n s ≤ fst s := fun s hs => by
    have := al_le' t (cF t n s) (fst s)
    have := (hf s hs).2.1
    omega
  have olen : ∀ s, s < cS t n → sho s ≤ fst s := fun s hs => Nat.le_trans (ho s hs).1 (flen s hs)
  have on : ∀ s, s < cS t n → sho s ≤ n := fun s hs => Nat.le_trans (olen s hs) (hf s hs).1
  have uq : ∀ a b, a < cS t n → b < cS t n → ¬ ltS t fst sho a b → ¬ ltS t fst sho b a → a = b := fun a b ha hb h1 h2 => by
    have e0 : sho a = sho b := by
      rcases Nat.lt_trichotomy (sho a) (sho b) with g | g | g
      · exact absurd (Or.inl g) h1
      · exact g
      · exact absurd (Or.inl g) h2
    have e1 : ahd t (fst a) (fst b) (sho a) = false := by
      cases hq : ahd t (fst a) (fst b) (sho a) with
      | false => rfl
      | true => exact absurd (Or.inr ⟨e0, hq⟩) h1
    have e2 : ahd t (fst b) (fst a) (sho a) = false := by
      cases hq : ahd t (fst b) (fst a) (sho a) with
      | false => rfl
      | true => exact absurd (Or.inr ⟨e0.symm, by rw [← e0]; exact hq⟩) h2
    have e3 : sho a ≤ al t (fst a) (fst b) := ahd_al e1 e2 (olen a ha) (by rw [e0]; exact olen b hb)
    have ka : sho a ≤ al t (cF t n a) (fst a) := Nat.le_trans (ho a ha).1 (hf a ha).2.1
    have kb : sho a ≤ al t (cF t n b) (fst b) := by rw [e0]; exact Nat.le_trans (ho b hb).1 (hf b hb).2.1
    have kab : sho a ≤ al t (cF t n a) (cF t n b) := al_tri (al_tri ka e3) (al_sym kb)
    exact hV.2.2.1 a b ha hb (fun x hx => by
      rw [(ho a ha).2.1 x hx, (ho b hb).2.1 x hx, ← e0]
      exact ⟨fun q => al_tri (al_sym kab) q, fun q => al_tri kab q⟩)
  obtain ⟨la, l1, l2, l3, l4⟩ := c_last hC
  have hla : cnt t n la = 1 := by
    unfold cnt
    rw [l2, l3]
    have z : ∀ j, j ≠ n → decide (j ≤ n ∧ n ≤ al t n j) = false := fun j hj => decide_eq_false (fun h => by
      have := al_le' t n j
      omega)
    have a1 : ct (fun b => decide (b ≤ n ∧ n ≤ al t n b)) n = 0 := ct_0 (fun b hb => z b (by omega))
    have a2 : ct (fun b => decide (b ≤ n ∧ n ≤ al t n b)) (n + 1) = 1 := by
      rw [ct_s, a1, if_pos (decide_eq_true ⟨Nat.le_refl _, by rw [al_self]; exact Nat.le_refl _⟩)]
    rw [ct_flat (a := n + 1) (b := 61) (by omega) (fun j j1 _ => z j (by omega)), a2]
  have ref : ∀ b s', b < cS t n → cnt t n b = 1 → (∀ j, j < cS t n → cnt t n j = 1 → ¬ ltS t fst sho j b) → gS_there s' = 1 → gS_length s' = nI (sho b) → (∀ j, j < sho b → gS_signs s' j = 97 + nI (t (fst b - sho b + j))) → wpX7_single r (nI i) (fun x r' => gS_length s' = x ∧ Rel (uM, uW, va_up sh i s', im) r') := fun b s' hb hcb hmin a1 a2 a3 => by
    unfold wpX7_single
    intro X21 X92 X96 X97 X110 h21 h92 h96 h97 h110
    refine sheet_br (fun h => (not_sheet hi h).elim) (fun i' hi' _ => ?_)
    rw [hR_n hR, nI_1]
    have loop : ∀ d j (y2 y3 : Int32), j + d = cS t n → (((∀ x, x < j → cnt t n x ≠ 1) ∧ y2 = 0 ∧ y3 = nI (n + 1)) ∨ ∃ c, c < cS t n ∧ cnt t n c = 1 ∧ y2 = nI c ∧ y3 = nI (sho c) ∧ ∀ x, x < j → cnt t n x = 1 → ¬ ltS t fst sho x c) → X21 y2 y3 (nI j) r := by
      intro d
      induction d with
      | zero =>
        intro j y2 y3 hj hv
        have hj : j = cS t n := by omega
        rcases hv with ⟨v1, _⟩ | ⟨c, c1, c2, c3, c4, c5⟩
        · exact absurd hla (v1 la (by omega))
        · have hcb2 : c = b := uq c b c1 hb (hmin c c1 c2) (c5 b (by omega) hcb)
          subst hcb2; subst c3; subst c4
          refine h21 _ _ _ _ ?_
          rw [hR_st hR]
          refine br_t (nI_le (by omega) (by omega)) ⟨vp_in_nI (by omega) (by decide), ?_⟩
          rw [nI_clamp (by omega), r_ends hR hb]
          obtain ⟨f1, f2, f3, f4⟩ := hf _ hb
          refine least_en hn f1 f2 f3 (w_toSheet hB hR hi f1 (olen _ hb) (fun ss s1 s2 => ⟨a2, t, n, K, hB, hC, Rf_same rfl rfl rfl rfl rfl rfl rfl rfl hR, ?_, hI⟩))
          exact ShR_up hS (by have := on _ hb; omega) a1 a2 pk_us (fun x hx => by rw [a3 x hx]; exact (s1 x hx).symm) (fun x hx => pk_un hx) s2
      | succ d ih =>
        intro j y2 y3 hj hv
        have hjS : j < cS t n := by omega
        obtain ⟨o1, o2, o3, o4⟩ := ho j hjS
        have oj := on j hjS
        have c61 := cnt_le t n j
        have take : cnt t n j = 1 → (∀ x, x < j → cnt t n x = 1 → ¬ ltS t fst sho x j) → X92 y2 y3 (nI j) (nI (sho j)) r := fun hc hm => by
          refine h92 _ _ _ _ _ (h97 _ _ _ _ _ _ (br_f (by decide) (h110 _ _ _ _ _ _ (br_f (by decide) ?_))))
          rw [nI_1]
          exact ih (j + 1) _ _ (by omega) (Or.inr ⟨j, hjS, hc, rfl, rfl, fun x hx hcx => by
            rcases Nat.lt_or_ge x j with g | g
            · exact hm x g hcx
            · rw [show x = j by omega]; exact ltS_irr⟩)
        refine h21 _ _ _ _ ?_
        rw [hR_st hR]
        refine br_f (nI_ge (by omega) (by omega)) ⟨vp_in_nI (by omega) (by decide), ?_⟩
        rw [nI_clamp (by omega), r_ends hR hjS]
        refine w_bits_en (pk_eq (cnt t n j) 1 (fun hc => o4 _ ?_) (fun hc => ?_) rfl rfl (by omega) (by decide))
        · rcases hv with ⟨v1, v2, v3⟩ | ⟨c, c1, c2, c3, c4, c5⟩
          · rw [v3] at take ⊢
            exact br_t (nI_lt (by omega) (by omega)) (take hc (fun x hx hcx => absurd hcx (v1 x hx)))
          · have oc' := on c c1
            have better : ltS t fst sho j c → X92 y2 y3 (nI j) (nI (sho j)) r := fun hlt => take hc (fun x hx hcx q => c5 x hx hcx (ltS_tr q hlt))
            have worse : ¬ ltS t fst sho j c → X96 y2 y3 (nI j) (nI (sho j)) r := fun hlt => by
              refine h96 _ _ _ _ _ (h97 _ _ _ _ _ _ (br_t rfl (h110 _ _ _ _ _ _ (br_t rfl ?_))))
              rw [nI_1]
              exact ih (j + 1) _ _ (by omega) (Or.inr ⟨c, c1, c2, c3, c4, fun x hx hcx => by
                rcases Nat.lt_or_ge x j with g | g
                · exact c5 x g hcx
                · rw [show x = j by omega]; exact hlt⟩)
            subst c3; subst c4
            refine pk_lt (sho j) (sho c) (fun g => better (Or.inl g)) (fun g => pk_eq (sho j) (sho c) (fun g2 => ⟨vp_in_nI (by omega) (by decide), ?_⟩) (fun g2 => worse (fun q => ?_)) rfl rfl (by omega) (by omega)) rfl rfl (by omega) (by omega)
            · rw [nI_clamp (by omega), r_ends hR c1]
              obtain ⟨f1, f2, f3, f4⟩ := hf _ hjS
              obtain ⟨g1, g2', g3, g4⟩ := hf _ c1
              refine least_en hn f1 f2 f3 ⟨vp_in_nI (by omega) (by decide), least_en hn g1 g2' g3 (w_isAheadR hB hR f1 g1 (olen _ hjS) (by rw [g2]; exact olen _ c1) ?_)⟩
              cases ha : ahd t (fst j) (fst c) (sho j) with
              | true => exact br_f (by decide) (better (Or.inr ⟨g2, ha⟩))
              | false =>
                refine br_t rfl (worse (fun q => ?_))
                rcases q with q | q
                · omega
                · rw [ha] at q; exact absurd q.2 (by decide)
            · rcases q with q | q
              · omega
              · exact g2 q.1
        · rw [nI_1]
          refine ih (j + 1) _ _ (by omega) ?_
          rcases hv with ⟨v1, v2, v3⟩ | ⟨c, c1, c2, c3, c4, c5⟩
          · exact Or.inl ⟨fun x hx => by
              rcases Nat.lt_or_ge x j with g | g
              · exact v1 x g
              · rw [show x = j by omega]; exact hc, v2, v3⟩
          · exact Or.inr ⟨c, c1, c2, c3, c4, fun x hx hcx => by
              rcases Nat.lt_or_ge x j with g | g
              · exact c5 x g hcx
              · rw [show x = j by omega] at hcx; exact absurd hcx hc⟩
    exact loop (cS t n) 0 0 (nI (n + 1)) (Nat.zero_add _) (Or.inl ⟨fun x hx => absurd hx (Nat.not_lt_zero x), rfl, rfl⟩)
  unfold wpX5_shortestStateAlone
  intro X10 X62 X89 h10 h62 h89
  rw [show gM_states (uM, uW, sh, im).1 = nI (cS t n) from hC_st hC] at h10
  have loop : ∀ d j c, j + d = cS t n → c < cS t n → cnt t n c = 1 → (∀ x, x < j → cnt t n x = 1 → ¬ ltS t fst sho x c) → X10 (nI c) (nI j) := by
    intro d
    induction d with
    | zero =>
      intro j c hj c1 c2 c5
      have hj : j = cS t n := by omega
      subst hj
      obtain ⟨f1, f2, f3, f4⟩ := hf _ c1
      refine h10 _ _ (br_t (nI_le (by omega) (by omega)) ?_)
      show wpX4_copyWord uM (sh i) (fX2_firstEndOf uM (nI c)) (fX2_shortestOf uM (nI c)) _
      rw [f4, (ho c c1).2.2.1]
      exact w_copyWord hB hC f1 (olen _ c1) (fun s' a1 a2 a3 => ref c s' c1 c2 c5 a1 a2 a3)
    | succ d ih =>
      intro j c hj c1 c2 c5
      have hjS : j < cS t n := by omega
      have oj := on j hjS
      have oc' := on c c1
      have c61 := cnt_le t n j
      have skip : (cnt t n j = 1 → ¬ ltS t fst sho j c) → X10 (nI c) (nI j + 1) := fun hm => by
        rw [nI_1]
        exact ih (j + 1) c (by omega) c1 c2 (fun x hx hcx => by
          rcases Nat.lt_or_ge x j with g | g
          · exact c5 x g hcx
          · have e : x = j := by omega
            subst e; exact hm hcx)
      have take : cnt t n j = 1 → ltS t fst sho j c → X89 (nI j) := fun hc hlt => by
        refine h89 _ ?_
        rw [nI_1]
        exact ih (j + 1) j (by omega) hjS hc (fun x hx hcx => by
          rcases Nat.lt_or_ge x j with g | g
          · exact fun q => c5 x g hcx (ltS_tr q hlt)
          · rw [show x = j by omega]; exact ltS_irr)
      refine h10 _ _ (br_f (nI_ge (by omega) (by omega)) ?_)
      rw [show fX2_endsOf (uM, uW, sh, im).1 (nI j) = _ from c_ends hB hC hjS, bits_en, show fX2_shortestOf (uM, uW, sh, im).1 (nI j) = _ from (ho j hjS).2.2.1, show fX2_shortestOf (uM, uW, sh, im).1 (nI c) = _ from (ho c c1).2.2.1]
      refine pk_eq (cnt t n j) 1 (fun hc => h62 _ _ _ _ _ (br_f (by decide) ?_)) (fun hc => h62 _ _ _ _ _ (br_t rfl (skip (fun q => absurd q hc)))) rfl rfl (by omega) (by decide)
      rcases Nat.lt_trichotomy (sho j) (sho c) with q | q | q
      · exact br_t (pk_sneg (by omega) q) (take hc (Or.inl q))
      · have e0 : nI (sho j) - nI (sho c) = 0 := by rw [pk_sub (by omega), q, Nat.sub_self]; rfl
        rw [e0]
        obtain ⟨f1, f2, f3, f4⟩ := hf _ hjS
        obtain ⟨g1, g2, g3, g4⟩ := hf _ c1
        refine br_f (by decide) (br_t rfl (w_isAheadC hB hC f4 g4 f1 g1 (olen _ hjS) (by rw [q]; exact olen _ c1) ?_))
        cases ha : ahd t (fst j) (fst c) (sho j) with
        | true => exact br_f (by decide) (take hc (Or.inr ⟨q, ha⟩))
        | false =>
          refine br_t rfl (skip (fun _ hp => ?_))
          rcases hp with p | p
          · omega
          · rw [ha] at p; exact absurd p.2 (by decide)
      · rw [pk_sub (by omega)]
        refine br_f (nI_pos (by omega)) (br_f (nI_ne0 (by omega) (by omega)) (skip (fun _ hp => ?_)))
        rcases hp with p | p
        · omega
        · omega
  rw [show fX2_lastState (uM, uW, sh, im).1 = nI la from l4]
  exact loop (cS t n) 0 la (Nat.zero_add _) l1 hla (fun x hx => absurd hx (Nat.not_lt_zero x))
