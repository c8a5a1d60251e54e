/-! the tables of onward numbers, of class and reference -/
theorem FE_cong {t : Nat → Nat} {n : Nat} {p q : Nat → Bool} (h : ∀ b, b ≤ n → p b = q b) {m e : Nat} (he : e ≤ n) : FE t p m e ↔ FE t q m e := by
  unfold FE
  constructor
  · rintro ⟨h1, h2, h3⟩
    exact ⟨h1, by rw [← h _ (by omega)]; exact h2, fun e' g1 g2 g3 => h3 e' g1 g2 (by rw [h _ (by omega)]; exact g3)⟩
  · rintro ⟨h1, h2, h3⟩
    exact ⟨h1, by rw [h _ (by omega)]; exact h2, fun e' g1 g2 g3 => h3 e' g1 g2 (by rw [← h _ (by omega)]; exact g3)⟩
theorem Gp_cong {t : Nat → Nat} {n : Nat} {p q : Nat → Bool} (h : ∀ b, b ≤ n → p b = q b) (m : Nat) : Gp t n p m = Gp t n q m := by
  unfold Gp
  refine ct_cong (fun e he => ?_)
  by_cases hq : FE t p m e
  · rw [bF_iff.mpr hq, bF_iff.mpr ((FE_cong h (by omega)).mp hq)]
  · rw [bF_no hq, bF_no (fun g => hq ((FE_cong h (by omega)).mpr g))]
theorem Tp_cong {t : Nat → Nat} {n : Nat} {p q : Nat → Bool} (h : ∀ b, b ≤ n → p b = q b) : Tp t n p = Tp t n q := sm_cong (fun m _ => Gp_cong h m)
noncomputable def eE (t : Nat → Nat) (n s b : Nat) : Bool := decide (b ≤ n ∧ cL t n s ≤ al t (cF t n s) b)
theorem eE_iff {t : Nat → Nat} {n s b : Nat} : eE t n s b = true ↔ b ≤ n ∧ cL t n s ≤ al t (cF t n s) b := by unfold eE; exact decide_eq_true_iff
theorem eE_fe {t : Nat → Nat} {n s : Nat} (hs : s < cS t n) : cF t n s ≤ n ∧ eE t n s (cF t n s) = true := ⟨((c_inv t n).2.1 s hs).2, eE_iff.mpr ⟨((c_inv t n).2.1 s hs).2, S_fe (c_inv t n) hs⟩⟩
theorem eE_mv {t : Nat → Nat} {n s c v : Nat} (h : isMv t n (cL t n) (cF t n) s c v) : ∀ b, b ≤ n → pc t n (eE t n s) c b = eE t n v b := fun b hb => by
  have := h b hb
  apply Bool.eq_iff_iff.mpr
  rw [pc_iff, eE_iff, eE_iff]
  constructor
  · rintro ⟨h1, h2, h3, h4, h5⟩
    exact ⟨hb, this.mpr ⟨b - 1, by omega, h3, h5⟩⟩
  · rintro ⟨_, h1⟩
    obtain ⟨e, rfl, h2, h3⟩ := this.mp h1
    exact ⟨by omega, hb, h2, by omega, h3⟩
theorem eE_no {t : Nat → Nat} {n s c : Nat} (h : noMv t n (cL t n) (cF t n) s c) : ∀ b, b ≤ n → pc t n (eE t n s) c b = false := fun b hb => by
  cases hq : pc t n (eE t n s) c b with
  | false => rfl
  | true =>
    obtain ⟨h1, h2, h3, h4⟩ := pc_iff.mp hq
    exact absurd (eE_iff.mp h4).2 (h (b - 1) (by omega) h3)
theorem eE_0 {t : Nat → Nat} {n : Nat} : ∀ b, b ≤ n → eE t n 0 b = true := fun b hb => eE_iff.mpr ⟨hb, by rw [(c_inv t n).1.2.1]; exact Nat.zero_le _⟩
noncomputable def nT (t : Nat → Nat) (n s : Nat) : Nat := Tp t n (eE t n s)
noncomputable def nU (t : Nat → Nat) (n s c : Nat) : Nat := Tp t n (pc t n (eE t n s) c)
theorem nT_rec {t : Nat → Nat} {n K s : Nat} (ht : ∀ i, i < n → t i < K) (hs : s < cS t n) : nT t n s = 1 + sm (nU t n s) K := Tp_rec ht (eE_fe hs).1 (eE_fe hs).2
theorem nT_0 (t : Nat → Nat) (n : Nat) : nT t n 0 = 1 + sm (fun e => e - ag t e) (n + 1) := Tp_root t n eE_0
theorem nT_le {t : Nat → Nat} {n : Nat} (hn : n ≤ 60) (s : Nat) : nT t n s ≤ 4000 := Tp_le t n _ hn
theorem nU_le {t : Nat → Nat} {n : Nat} (hn : n ≤ 60) (s c : Nat) : nU t n s c ≤ 4000 := Tp_le t n _ hn
theorem nU_mv {t : Nat → Nat} {n s c v : Nat} (h : isMv t n (cL t n) (cF t n) s c v) : nU t n s c = nT t n v := Tp_cong (eE_mv h)
theorem nU_no {t : Nat → Nat} {n s c : Nat} (h : noMv t n (cL t n) (cF t n) s c) : nU t n s c = 0 := Tp_none (eE_no h)
theorem m1_eq (a : Nat) : nI a - 1 = nI a + (-1) := Int32.sub_eq_add_neg _ _
section TABLE
variable {t : Nat → Nat} {n K : Nat} {u : MSt} {r : RSt}
theorem onwardBy_ok (hB : Base t n K) (hC : ClInv t n K u) {w : WSt} {s c : Nat} (hs : s < cS t n) (hc : c < K) (hw : ∀ v, v < cS t n → cL t n s < cL t n v → gW_onward w v = nI (nT t n v)) : fX5_onwardBy w u (nI s) (nI c) = nI (nU t n s c) := by
  have h121 := cs_le hB
  unfold fX5_onwardBy
  rcases c_mv hB hC hs hc with ⟨v, hv, e, hm⟩ | ⟨e, hm⟩
  · rw [e, if_neg (nI_m4 (by omega)), kAt_nI (by omega), nU_mv hm]
    exact hw v hv (mv_len (c_inv t n) hv hm)
  · rw [e, if_pos rfl, nU_no hm]; rfl
theorem w_countOnward (hB : Base t n K) (hC : ClInv t n K u) {w : WSt} {Q : WSt → Prop} (hq : ∀ w', (∀ s, s < cS t n → gW_onward w' s = nI (nT t n s)) → Q w') : wpX5_countOnward w u Q := by
  have hn := hB.1
  have hK5 := hB.2.2.1
  have h121 := cs_le hB
  unfold wpX5_countOnward
  intro X14 X32 h14 h32
  rw [hC_al hC] at h32
  rw [hC_st hC, m1_eq]
  refine w_order hB hC (fun w1 ho1 => ?_)
  have inner : ∀ d c tW y1 s, c + d = K → s < cS t n → (∀ v, v < cS t n → cL t n s < cL t n v → gW_onward tW v = nI (nT t n v)) → X14 (y1 + (-1)) (gW_set_onward tW (upd (gW_onward tW) s (nI (nT t n s)))) → X32 y1 (nI s) (nI (1 + sm (nU t n s) c)) (nI c) tW := by
    intro d
    induction d with
    | zero =>
      intro c tW y1 s hc hs hw hx
      have hc : c = K := by omega
      refine h32 _ _ _ _ _ (br_t (nI_le (by omega) (by omega)) ?_)
      rw [kPut_nI (by omega), hc, ← nT_rec hB.2.2.2 hs]
      exact hx
    | succ d ih =>
      intro c tW y1 s hc hs hw hx
      refine h32 _ _ _ _ _ (br_f (nI_ge (by omega) (by omega)) ?_)
      rw [onwardBy_ok hB hC hs (by omega) hw, nI_add, nI_1, show 1 + sm (nU t n s) c + nU t n s c = 1 + sm (nU t n s) (c + 1) by rw [sm_s]; omega]
      exact ih (c + 1) tW y1 s (by omega) hs hw hx
  have outer : ∀ i tW, i ≤ cS t n → (∀ s, s < cS t n → gW_order tW (rk (cL t n) (cS t n) s) = nI s) → (∀ s, s < cS t n → i ≤ rk (cL t n) (cS t n) s → gW_onward tW s = nI (nT t n s)) → X14 (nI i + (-1)) tW := by
    intro i
    induction i with
    | zero =>
      intro tW _ _ h2
      rw [m1_0]
      exact h14 _ _ (br_t (by decide) (hq tW (fun s hs => h2 s hs (Nat.zero_le _))))
    | succ i ih =>
      intro tW hi ho h2
      rw [pk_m1]
      obtain ⟨s, hs, hr⟩ := rk_sur (len := cL t n) (S := cS t n) (M := 61) (p := i) (fun s hs => by have := cL_le hB hs; omega) (by omega)
      refine h14 _ _ (br_f (nI_pos (by omega)) ?_)
      rw [kAt_nI (by omega), show gW_order tW i = nI s by rw [← hr]; exact ho s hs]
      refine inner K 0 tW (nI i) s (by omega) hs (fun v hv hl => h2 v hv ?_) ?_
      · have := rk_mono (S := cS t n) hs hl
        omega
      · refine ih _ (by omega) ho (fun s' hs' hr' => ?_)
        show upd (gW_onward tW) s (nI (nT t n s)) s' = _
        by_cases hss : s' = s
        · subst hss; exact pk_us
        · rw [pk_un hss]
          refine h2 s' hs' ?_
          rcases Nat.lt_or_ge i (rk (cL t n) (cS t n) s') with g | g
          · exact g
          · exact absurd (rk_inj (len := cL t n) hs' hs (by omega)) hss
  exact outer (cS t n) w1 (Nat.le_refl _) ho1 (fun s hs hr => by have := rk_lt (len := cL t n) hs; omega)
theorem mvOK_ex (s c : Nat) (hs : s < cS t n) : ∃ v, MvOK t n (cS t n) (cL t n) (cF t n) v s c := by
  rcases mv_ex (c_inv t n) (c := c) hs with ⟨v, h1, h2⟩ | h
  · exact ⟨nI v, Or.inl ⟨v, h1, rfl, h2⟩⟩
  · exact ⟨-4, Or.inr ⟨rfl, h⟩⟩
theorem r_layPaths (hB : Base t n K) (hR : RfInv t n K r) {Q : RSt → Prop} (hq : ∀ pa : Nat → Int32, (∀ s, s < cS t n → pa s = nI (nT t n s)) → Q (gR_set_paths r pa)) : wpX7_layPaths r Q := by
  have hn := hB.1
  have hK5 := hB.2.2.1
  have h121 := cs_le hB
  have hRp : ∀ pa, RfInv t n K (gR_set_paths r pa) := fun pa => Rf_same rfl rfl rfl rfl rfl rfl rfl rfl hR
  unfold wpX7_layPaths
  intro X5 X11 X38 X79 h5 h11 h38 h79
  have p3 : ∀ d c (pa : Nat → Int32) l s, c + d = K → s < cS t n → cL t n s = l → (∀ v, v < cS t n → l < cL t n v → pa v = nI (nT t n v)) → pa s = nI (1 + sm (nU t n s) c) → (∀ pa' : Nat → Int32, (∀ v, v ≠ s → pa' v = pa v) → pa' s = nI (nT t n s) → X11 (nI l) (nI (s + 1)) (gR_set_paths r pa')) → X38 (nI l) (nI s) (nI c) (gR_set_paths r pa) := by
    intro d
    induction d with
    | zero =>
      intro c pa l s hc hs hl hw hp hx
      have hc : c = K := by omega
      refine h38 _ _ _ _ ?_
      rw [hR_al (hRp pa), nI_1]
      exact br_t (nI_le (by omega) (by omega)) (hx pa (fun _ _ => rfl) (by rw [hp, hc, ← nT_rec hB.2.2.2 hs]))
    | succ d ih =>
      intro c pa l s hc hs hl hw hp hx
      refine h38 _ _ _ _ ?_
      rw [hR_al (hRp pa), nI_1]
      obtain ⟨v, hv⟩ := mvOK_ex (t := t) (n := n) s c hs
      refine br_f (nI_ge (by omega) (by omega)) (w_moveOf hB (hRp pa) hs (by omega) hv ⟨vp_in_nI (by omega) (by decide), ?_⟩)
      have go : ∀ z : Int32, z = nI (nU t n s c) → X79 (nI l) (nI s) (nI c) z (pa s) (nI s) (gR_set_paths r pa) := fun z hz => by
        refine h79 _ _ _ _ _ _ _ ⟨vp_in_nI (by omega) (by decide), ?_⟩
        rw [nI_1, hz, hp, nI_add, nI_clamp (by omega), show 1 + sm (nU t n s) c + nU t n s c = 1 + sm (nU t n s) (c + 1) by rw [sm_s]; omega]
        refine ih (c + 1) (upd pa s (nI (1 + sm (nU t n s) (c + 1)))) l s (by omega) hs hl (fun v hv hlv => ?_) pk_us (fun pa' q1 q2 => hx pa' (fun v hv => ?_) q2)
        · rw [pk_un (fun e => by subst e; omega)]
          exact hw v hv hlv
        · rw [q1 v hv, pk_un hv]
      rw [nI_clamp (by omega)]
      rcases hv with ⟨x, hx1, e, hm⟩ | ⟨e, hm⟩
      · rw [e]
        refine br_f (nI_m4 (by omega)) ⟨vp_in_nI (by omega) (by decide), go _ ?_⟩
        rw [nI_clamp (by omega), nU_mv hm]
        exact hw x hx1 (by rw [← hl]; exact mv_len (c_inv t n) hx1 hm)
      · rw [e]
        exact br_t rfl (go _ (by rw [nU_no hm]; rfl))
  have p2 : ∀ d y (pa : Nat → Int32) l, y + d = cS t n → l ≤ n → (∀ v, v < cS t n → l < cL t n v → pa v = nI (nT t n v)) → (∀ v, v < y → cL t n v = l → pa v = nI (nT t n v)) → (∀ pa' : Nat → Int32, (∀ v, v < cS t n → l ≤ cL t n v → pa' v = nI (nT t n v)) → X5 (nI l + (-1)) (gR_set_paths r pa')) → X11 (nI l) (nI y) (gR_set_paths r pa) := by
    intro d
    induction d with
    | zero =>
      intro y pa l hy hl h1 h2 hx
      have hy : y = cS t n := by omega
      refine h11 _ _ _ ?_
      rw [hR_st (hRp pa)]
      refine br_t (nI_le (by omega) (by omega)) (hx pa (fun v hv hlv => ?_))
      rcases Nat.lt_or_ge l (cL t n v) with g | g
      · exact h1 v hv g
      · exact h2 v (by omega) (by omega)
    | succ d ih =>
      intro y pa l hy hl h1 h2 hx
      have hyS : y < cS t n := by omega
      have hyl := cL_le hB hyS
      refine h11 _ _ _ ?_
      rw [hR_st (hRp pa)]
      refine br_f (nI_ge (by omega) (by omega)) ⟨vp_in_nI (by omega) (by decide), ?_⟩
      rw [nI_clamp (by omega), r_longest (hRp pa) hyS, nI_1]
      refine pk_eq _ _ (fun g => ⟨vp_in_nI (by omega) (by decide), ?_⟩) (fun g => ?_) rfl rfl (by omega) (by omega)
      · refine p3 K 0 (upd pa y 1) l y (by omega) hyS g (fun v hv hlv => ?_) pk_us (fun pa' q1 q2 => ?_)
        · rw [pk_un (fun e => by subst e; omega)]
          exact h1 v hv hlv
        · refine ih (y + 1) pa' l (by omega) hl (fun v hv hlv => ?_) (fun v hv hlv => ?_) hx
          · have hne : v ≠ y := fun e => by subst e; omega
            rw [q1 v hne, pk_un hne]
            exact h1 v hv hlv
          · by_cases hvy : v = y
            · subst hvy; exact q2
            · rw [q1 v hvy, pk_un hvy]
              exact h2 v (by omega) hlv
      · exact ih (y + 1) pa l (by omega) hl h1 (fun v hv hlv => by
          rcases Nat.lt_or_ge v y with q | q
          · exact h2 v q hlv
          · exact absurd (by rw [show v = y by omega] at hlv; exact hlv) g) hx
  have p1 : ∀ i (pa : Nat → Int32), i ≤ n + 1 → (∀ v, v < cS t n → i ≤ cL t n v → pa v = nI (nT t n v)) → X5 (nI i + (-1)) (gR_set_paths r pa) := by
    intro i
    induction i with
    | zero =>
      intro pa _ h1
      rw [m1_0]
      exact h5 _ _ (br_t (by decide) (hq pa (fun s hs => h1 s hs (Nat.zero_le _))))
    | succ i ih =>
      intro pa hi h1
      rw [pk_m1]
      exact h5 _ _ (br_f (nI_pos (by omega)) (p2 (cS t n) 0 pa i (by omega) (by omega) (fun v hv hlv => h1 v hv hlv) (fun v hv => absurd hv (Nat.not_lt_zero v)) (fun pa' q => ih pa' (by omega) q)))
  have := p1 (n + 1) (gR_paths r) (Nat.le_refl _) (fun v hv hlv => by have := cL_le hB hv; omega)
  rw [pk_m1] at this
  rw [hR_n hR]
  exact this
end TABLE
