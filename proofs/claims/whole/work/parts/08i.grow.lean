section GROW
variable {t : Nat → Nat} {n S K q : Nat} {len fe : Nat → Nat}
/-- the holder: the longest that ends the old text and had the letter behind -/
theorem H_none (h : SInv t n S len fe) (hall : ∀ u, u < S → len u ≤ al t (fe u) n → noMv t n len fe u (t n)) : ag t (n + 1) = 0 := by
  cases hA : ag t (n + 1) with
  | zero => rfl
  | succ m =>
    obtain ⟨b, h1, h2⟩ := ag_ex (t := t) (e := n + 1) (m := m) (by omega)
    obtain ⟨a', b', e1, e2, e3, e4⟩ := al_pos h2
    have e1 : n = a' := by omega
    subst e1
    obtain ⟨s, g1, g2, g3, g4⟩ := S_of h (e := n) (m := m) (Nat.le_trans e4 (al_le t _ _)) (Nat.le_refl _)
    have hs : len s ≤ al t (fe s) n := (g4 n (Nat.le_refl _)).mpr (by rw [al_self]; exact Nat.le_trans e4 (al_le t _ _))
    exact absurd ((g4 b' (by omega)).mpr e4) (hall s g1 hs b' (by omega) e3.symm)
theorem H_some (h : SInv t n S len fe) (hq : q < S) (hel : ∀ b, b ≤ n → (len q ≤ al t (fe q) b ↔ ag t (n + 1) ≤ al t (n + 1) b)) {p u : Nat} (hp : p < S) (hu : u < S) (hps : len p ≤ al t (fe p) n) (hm : isMv t n len fe p (t n) u) (hall : ∀ s, s < S → len s ≤ al t (fe s) n → len p < len s → noMv t n len fe s (t n)) : ag t (n + 1) = len p + 1 ∧ u = q := by
  obtain ⟨e, h1, h2, h3⟩ := mv_fe h hu hm
  have hfu := (h.2.1 u hu).2
  have hA : ag t (n + 1) = len p + 1 := by
    have g1 : len p + 1 ≤ al t (n + 1) (fe u) := by
      rw [h1, al_y h2.symm]
      have := al_tri (al_sym hps) h3
      omega
    have g2 := ag_ge (t := t) (e := n + 1) (b := fe u) (by omega)
    cases hA : ag t (n + 1) with
    | zero => omega
    | succ m =>
      obtain ⟨b, h1, h2⟩ := ag_ex (t := t) (e := n + 1) (m := m) (by omega)
      obtain ⟨a', b', e1, e2, e3, e4⟩ := al_pos h2
      have e1 : n = a' := by omega
      subst e1
      obtain ⟨s, g1', g2', g3', g4'⟩ := S_of h (e := n) (m := m) (Nat.le_trans e4 (al_le t _ _)) (Nat.le_refl _)
      have hs : len s ≤ al t (fe s) n := (g4' n (Nat.le_refl _)).mpr (by rw [al_self]; exact Nat.le_trans e4 (al_le t _ _))
      rcases Nat.lt_or_ge (len p) (len s) with g | g
      · exact absurd ((g4' b' (by omega)).mpr e4) (hall s g1' hs g b' (by omega) e3.symm)
      · omega
  refine ⟨hA, h.2.2.1 u q hu hq (fun b hb => ?_)⟩
  rw [hm b hb, hel b hb, hA]
  constructor
  · intro ⟨e', q1, q2, q3⟩
    rw [q1, al_y q2.symm]
    have := al_tri (al_sym hps) q3
    omega
  · intro h5
    obtain ⟨a', b', e1, e2, e3, e4⟩ := al_pos h5
    have e1 : n = a' := by omega
    subst e1
    exact ⟨b', e2, e3.symm, al_tri hps e4⟩
/-- longer ones that end the text and have the letter behind: shorter ones have, too -/
theorem H_down {p s c : Nat} (hps : len p ≤ al t (fe p) n) (hs : len s ≤ al t (fe s) n) (hl : len s ≤ len p) (hm : noMv t n len fe s c) : noMv t n len fe p c := fun e he h2 h3 => hm e he h2 (al_tri hs (Nat.le_trans hl (al_tri (al_sym hps) h3)))
/-- a state between two that move to the same one moves there, too -/
theorem H_mid (h : SInv t n S len fe) {a s b c u v : Nat} (hu : u < S) (hv : v < S) (ha : len a ≤ al t (fe a) n) (hs : len s ≤ al t (fe s) n) (hb : len b ≤ al t (fe b) n) (h1 : len a ≤ len s) (h2 : len s ≤ len b) (ma : isMv t n len fe a c u) (mb : isMv t n len fe b c u) (ms : isMv t n len fe s c v) : v = u := by
  refine S_uq h hv hu (fun x hx g => ?_) (fun x hx g => ?_)
  · obtain ⟨e, q1, q2, q3⟩ := (ms x hx).mp g
    exact (ma x hx).mpr ⟨e, q1, q2, al_tri ha (Nat.le_trans h1 (al_tri (al_sym hs) q3))⟩
  · obtain ⟨e, q1, q2, q3⟩ := (mb x hx).mp g
    exact (ms x hx).mpr ⟨e, q1, q2, al_tri hs (Nat.le_trans h2 (al_tri (al_sym hb) q3))⟩
set_option maxHeartbeats 4000000 in
theorem w_append (hI : SInv t n S len fe) {u : MSt} (hC : CInv t n K S len fe u) (hn : n < 60) (hK : K ≤ 5) (hc : t n < K) (hq : q < S) (hel : ∀ b, b ≤ n → (len q ≤ al t (fe q) b ↔ ag t (n + 1) ≤ al t (n + 1) b)) (hA : ag t (n + 1) ≤ len q) {Q : MSt → Prop}
    (hQ : ∀ u', CInv t (n + 1) K (nS t n S len q) (nLen t n S len) (nFe n S fe q) u' → (∀ s, s < S → gM_made u' s = gM_made u s ∧ gM_original u' s = gM_original u s) → (gM_made u' S = nI (n + 1) ∧ gM_original u' S = -4) → (len q ≠ ag t (n + 1) → gM_made u' (S + 1) = nI (n + 1) ∧ gM_original u' (S + 1) = nI q) → gM_letters u' = upd (gM_letters u) n (nI (t n)) → Q u') :
    wpX2_append u (nI (t n)) Q := by
  obtain ⟨K', ln, st, l0, le, agr, mv, lo, li, ma, og, en⟩ := u
  obtain ⟨c1, c2, c3, ⟨la, la1, la2, la3, la4⟩, cle, cag, cmv, clo, ⟨cl0, clk⟩, cen⟩ := hC
  have c1 : K' = nI K := c1
  have c2 : ln = nI n := c2
  have c3 : st = nI S := c3
  have la4 : l0 = nI la := la4
  subst c1; subst c2; subst c3; subst la4
  have cle : ∀ i, i < n → le i = nI (t i) := cle
  have cag : agr 0 = -1 ∧ ∀ e, 0 < e → e ≤ n → agr e = nI (ag t e) := cag
  have cmv : ∀ s c, s < S → c < K → MvOK t n S len fe (mv (s * 5 + c)) s c := cmv
  have clo : ∀ s, s < S → lo s = nI (len s) := clo
  have cl0 : li 0 = -4 := cl0
  have clk : ∀ s, 0 < s → s < S → ∃ p, p < S ∧ li s = nI p ∧ isLk t n len fe s p := clk
  have cen : ∀ s, s < S → en s = enS t n (len s) (fe s) := cen
  have hS1 := hI.1.1
  have hS2 := hI.1.2.2
  have hnI := nInv hI hq hel hA
  have hqA := q_in hI hq hel
  unfold wpX2_append
  intro X82 h82
  rw [isLetter_y rfl hc hK]
  refine br_f one_ne ?_
  rw [show fX2_hasRoomFor (nI K, nI n, nI S, nI la, le, agr, mv, lo, li, ma, og, en) 1 = 1 by
    unfold fX2_hasRoomFor
    show (if (60 : Int32) < nI n + 1 then (0 : Int32) else 1) = 1
    rw [nI_1]
    exact if_neg (nI_nlt (a := 60) (b := n + 1) (by omega) (by decide))]
  refine br_f one_ne ?_
  show wpX2_addState (nI K, nI n + 1, nI S, nI la, kPut 60 le (nI n) (nI (t n)), agr, mv, lo, li, ma, og, en) (nI n + 1) _
  rw [nI_1, kPut_nI (by omega)]
  have hle' : ∀ i, i < n + 1 → upd le n (nI (t n)) i = nI (t i) := fun i hi => by
    by_cases hin : i = n
    · subst hin; exact pk_us
    · rw [pk_un hin]; exact cle i (by omega)
  refine w_addState (by omega) (fun mv1 hm1 hm2 => ?_)
  have hl1 : upd li S (-4) 0 = -4 := by rw [pk_un (by omega)]; exact cl0
  have hk1 : ∀ s, 0 < s → s < S → ∃ p, p < S ∧ upd li S (-4) s = nI p ∧ isLk t n len fe s p := fun s a b => by
    obtain ⟨p, x, y, z⟩ := clk s a b
    exact ⟨p, x, by rw [pk_un (by omega)]; exact y, z⟩
  refine w_redirect hI (by omega) (S' := S + 1) (by omega) (by omega) hc hK hl1 (fun s a b _ => hk1 s a b) la1 (by rw [la2, la3, al_self]; exact Nat.le_refl _) (fun β r mv2 g1 g2 g3 => ?_)
  have e1 : ∀ s c, s < S → c < 5 → mv1 (s * 5 + c) = mv (s * 5 + c) := fun s c hs hc' => hm2 _ (fun k hk => by omega)
  have hlen : ∀ s, s < S → len s ≤ n := fun s hs => by have := hI.2.1 s hs; omega
  -- what stands behind the first walk along the links
  have m2o : ∀ s c, s < S → c < 5 → c ≠ t n → mv2 (s * 5 + c) = mv (s * 5 + c) := fun s c hs hc5 hne => by
    rw [g2 _ (fun u hu _ _ _ => by omega)]; exact e1 s c hs hc5
  have m2n : ∀ s, s < S → ¬ len s ≤ al t (fe s) n → mv2 (s * 5 + t n) = mv (s * 5 + t n) := fun s hs hns => by
    rw [g2 _ (fun u hu hu1 _ _ e => hns (by have : u = s := by omega
                                            rw [← this]; exact hu1))]
    exact e1 s _ hs (by omega)
  have m2y : ∀ s, s < S → len s ≤ al t (fe s) n → β ≤ len s → noMv t n len fe s (t n) ∧ mv2 (s * 5 + t n) = nI S := fun s hs hsu hb => by
    have x := g1 s hs hsu hb (by rw [la2]; exact hlen s hs)
    refine ⟨?_, x.2⟩
    rw [e1 s _ hs (by omega)] at x
    rcases cmv s _ hs hc with ⟨u, u1, u2, u3⟩ | ⟨u1, u2⟩
    · rw [x.1] at u2; exact absurd u2.symm (nI_m4 (by omega))
    · exact u2
  have m2b : ∀ s, s < S → len s < β → mv2 (s * 5 + t n) = mv (s * 5 + t n) := fun s hs hb => by
    rw [g2 _ (fun u hu _ hu2 _ e => by have : u = s := by omega
                                       rw [this] at hu2; omega)]
    exact e1 s _ hs (by omega)
  have m2S : ∀ c, c < 5 → mv2 (S * 5 + c) = -4 := fun c hc5 => by
    rw [g2 _ (fun u hu _ _ _ => by omega)]; exact hm1 c hc5
  -- the moves of old states, when nothing is split
  have old : ∀ (S' : Nat), S ≤ S' → ∀ s c, s < S → c < K → (c = t n → len s ≤ al t (fe s) n → β ≤ len s ∨ ∃ u, u < S ∧ mv2 (s * 5 + t n) = nI u ∧ isMv t (n + 1) len fe s (t n) u) → S < S' → MvOK t (n + 1) S' (nLen t n S len) (nFe n S fe q) (mv2 (s * 5 + c)) s c := by
    intro S' hSS s c hs hcK hx hSS'
    by_cases hcn : c = t n
    · subst hcn
      by_cases hsu : len s ≤ al t (fe s) n
      · rcases hx rfl hsu with g | ⟨u, u1, u2, u3⟩
        · obtain ⟨x1, x2⟩ := m2y s hs hsu g
          rw [x2]
          exact Or.inl ⟨S, hSS', rfl, M_toS hs hsu x1⟩
        · rw [u2]
          exact Or.inl ⟨u, by omega, rfl, M_up hs u1 u3⟩
      · rw [m2n s hs hsu]
        rcases cmv s _ hs hcK with ⟨u, u1, u2, u3⟩ | ⟨u1, u2⟩
        · exact Or.inl ⟨u, by omega, u2, M_up hs u1 (M_non hI u1 hsu u3)⟩
        · exact Or.inr ⟨u1, N_up hs (N_non hsu u2)⟩
    · rw [m2o s c hs (by omega) hcn]
      rcases cmv s _ hs hcK with ⟨u, u1, u2, u3⟩ | ⟨u1, u2⟩
      · exact Or.inl ⟨u, by omega, u2, M_up hs u1 (M_other hI u1 hcn u3)⟩
      · exact Or.inr ⟨u1, N_up hs (N_other hcn u2)⟩
  -- the ends of old states, and of the new one, ahead of the marking
  have hen0 : ∀ s, s < S → en s = enS t n (nLen t n S len s) (nFe n S fe q s) := fun s hs => by rw [cen s hs, nLen_o hs, nFe_o hs]
  have henS : (0 : Int64) = enS t n (nLen t n S len S) (nFe n S fe q S) := by
    rw [nLen_S, nFe_S]
    unfold enS
    refine (sv_0.mpr (fun b _ => ?_)).symm
    have := al_le' t (n + 1) b
    simp
    intro _; omega
  -- nothing split
  have same : ∀ zz, zz = q → len q = ag t (n + 1) → (∀ s, s < S → len s ≤ al t (fe s) n → len s < β → ∃ u, u < S ∧ mv2 (s * 5 + t n) = nI u ∧ isMv t (n + 1) len fe s (t n) u) → X82 (nI S) (nI zz) (nI S) (nI K, nI (n + 1), nI (S + 1), nI la, upd le n (nI (t n)), agr, mv2, upd lo S (nI (n + 1)), upd li S (-4), upd ma S (nI (n + 1)), upd og S (-4), vp_updL en S 0) := by
    intro zz hzz hlq hx
    subst hzz
    have hnS : nS t n S len zz = S + 1 := if_pos hlq
    rw [hnS] at hnI hQ
    refine h82 _ _ _ _ ?_
    refine app_end (S' := S + 1) (zz := zz) (len := len) (fe := fe) (q := zz) hn (by omega) (by omega) hnI (by omega) (by omega) (by rw [nLen_o hq, hlq]) ⟨?_, ?_, ?_⟩ hS1 hle' cag (fun s c hs hcK => ?_) (fun s hs => ?_) hl1 (fun s h1 h2 h3 => ?_) (fun s hs => ?_) (fun en' ag2 hci => ?_)
    · rw [nLen_o hq, nLen_S, hlq]; exact ag_lt (by omega)
    · rw [nLen_o hq, nFe_S, nFe_o hq, hlq]; exact hqA
    · intro b hb h5
      rw [nLen_S, nFe_S]
      rw [nLen_o hq, nFe_S, hlq] at h5
      rcases Nat.lt_or_ge b (n + 1) with g | g
      · have := al_new (t := t) (n := n) (b := b) (by omega); omega
      · rw [show b = n + 1 by omega, al_self]; exact Nat.le_refl _
    · rcases Nat.lt_or_ge s S with g | g
      · refine old (S + 1) (by omega) s c g hcK (fun _ hsu => ?_) (by omega)
        rcases Nat.lt_or_ge (len s) β with g2 | g2
        · exact Or.inr (hx s g hsu g2)
        · exact Or.inl g2
      · have : s = S := by omega
        subst this
        rw [m2S c (by omega)]
        exact Or.inr ⟨rfl, N_S⟩
    · by_cases hsS : s = S
      · subst hsS; rw [nLen_S]; exact pk_us
      · rw [pk_un hsS, nLen_o (by omega)]; exact clo s (by omega)
    · obtain ⟨p, x, y, z⟩ := hk1 s h1 (by omega)
      exact ⟨p, by omega, y, isLk_cong (nLen_o (by omega)) (nFe_o (by omega)) (nLen_o x) (nFe_o x) (L_old hI hq hel (by omega) z (Or.inr hlq))⟩
    · by_cases hsS : s = S
      · subst hsS; rw [pk_uLs]; exact henS
      · rw [pk_uLn hsS]; exact hen0 s (by omega)
    · refine hQ _ hci (fun s hs => ⟨?_, ?_⟩) ⟨pk_us, pk_us⟩ (fun g => absurd hlq g) rfl
      · show upd ma S (nI (n + 1)) s = ma s
        exact pk_un (by omega)
      · show upd og S (-4) s = og s
        exact pk_un (by omega)
  rcases g3 with ⟨r1, r2⟩ | ⟨p, p1, p2, p3, p4, p5, p6⟩
  · -- the letter is new
    subst r1; subst r2
    refine br_t rfl ?_
    have hA0 : ag t (n + 1) = 0 := H_none hI (fun u hu hu1 => (m2y u hu hu1 (Nat.zero_le _)).1)
    have hq0 : len q = 0 := by
      have := (hel 0 (Nat.zero_le _)).mpr (by rw [hA0]; exact Nat.zero_le _)
      rw [al_0r] at this
      omega
    have hqz : q = 0 := S_zero hI hq hq0
    exact same 0 hqz.symm (by rw [hq0, hA0]) (fun s _ _ g => absurd g (Nat.not_lt_zero _))
  · subst p3
    refine br_f (nI_m4 (by omega)) ?_
    have hmp := cmv p _ p1 hc
    rw [e1 p _ p1 (by omega)] at p6
    obtain ⟨u, u1, u2, u3⟩ : ∃ u, u < S ∧ mv (p * 5 + t n) = nI u ∧ isMv t n len fe p (t n) u := by
      rcases hmp with g | g
      · exact g
      · exact absurd g.1 p6
    obtain ⟨hAp, huq⟩ := H_some hI hq hel p1 u1 p2 u3 (fun s hs hsu hps => (m2y s hs hsu (by omega)).1)
    subst huq
    -- shorter ones have the letter behind, too
    have sh : ∀ s, s < S → len s ≤ al t (fe s) n → len s < β → ∃ v, v < S ∧ mv (s * 5 + t n) = nI v ∧ isMv t n len fe s (t n) v := by
      intro s hs hsu hb
      rcases cmv s _ hs hc with g | ⟨x1, x2⟩
      · exact g
      · exact absurd (H_down p2 hsu (by omega) x2) (fun z => mv_no hI u1 u3 z)
    unfold wpX2_stateJustBehind
    intro X77 h77
    have hmo : fX2_moveOf (nI K, nI (n + 1), nI (S + 1), nI la, upd le n (nI (t n)), agr, mv2, upd lo S (nI (n + 1)), upd li S (-4), upd ma S (nI (n + 1)), upd og S (-4), vp_updL en S 0) (nI p) (nI (t n)) = nI u := by
      rw [moveOf_at (S := S + 1) (K := K) rfl (by omega) (by omega) rfl hc hK]
      show mv2 (p * 5 + t n) = nI u
      rw [m2b p p1 (by omega)]; exact u2
    rw [hmo, longestOf_at (by omega), longestOf_at (by omega)]
    rw [show gM_longest (nI K, nI (n + 1), nI (S + 1), nI la, upd le n (nI (t n)), agr, mv2, upd lo S (nI (n + 1)), upd li S (-4), upd ma S (nI (n + 1)), upd og S (-4), vp_updL en S 0) u = nI (len u) from (pk_un (by omega)).trans (clo u u1),
      show gM_longest (nI K, nI (n + 1), nI (S + 1), nI la, upd le n (nI (t n)), agr, mv2, upd lo S (nI (n + 1)), upd li S (-4), upd ma S (nI (n + 1)), upd og S (-4), vp_updL en S 0) p = nI (len p) from (pk_un (by omega)).trans (clo p p1), nI_1, ← hAp]
    have hlu := hlen u u1
    have hag60 : ag t (n + 1) ≤ n := by have := ag_lt (t := t) (e := n + 1) (by omega); omega
    refine pk_eq (len u) (ag t (n + 1)) (fun hlq => ?_) (fun hlq => ?_)
    · refine same u rfl hlq (fun s hs hsu hb => ?_)
      obtain ⟨v, v1, v2, v3⟩ := sh s hs hsu hb
      refine ⟨v, v1, by rw [m2b s hs hb]; exact v2, ?_⟩
      rcases M_suf hI hq hel v1 hsu v3 with g | g
      · exact g.1
      · omega
    · -- split
      have hAq : ag t (n + 1) < len u := by omega
      have hnS : nS t n S len u = S + 2 := if_neg hlq
      rw [hnS] at hnI hQ
      refine w_addState (by omega) (fun mv3 hm3 hm4 => ?_)
      have hu0 : 0 < u := by
        rcases Nat.eq_zero_or_pos u with g | g
        · rw [g, hI.1.2.1] at hAq; omega
        · exact g
      obtain ⟨pu, pu1, pu2, pu3⟩ := clk u hu0 u1
      have hpuA := L_q hI hq pu1 hel pu3
      -- what the new state is given
      show X77 (nI u) (nI (S + 1)) 0 (nI K, nI (n + 1), nI (S + 1 + 1), nI la, upd le n (nI (t n)), agr, mv3, upd (upd lo S (nI (n + 1))) (S + 1) (nI (ag t (n + 1))), kPut 121 (upd (upd li S (-4)) (S + 1) (-4)) (nI (S + 1)) (fX2_linkOf (nI K, nI (n + 1), nI (S + 1 + 1), nI la, upd le n (nI (t n)), agr, mv3, upd (upd lo S (nI (n + 1))) (S + 1) (nI (ag t (n + 1))), upd (upd li S (-4)) (S + 1) (-4), upd (upd ma S (nI (n + 1))) (S + 1) (nI (n + 1)), kPut 121 (upd (upd og S (-4)) (S + 1) (-4)) (nI (S + 1)) (nI u), vp_updL (vp_updL en S 0) (S + 1) 0) (nI u)), upd (upd ma S (nI (n + 1))) (S + 1) (nI (n + 1)), kPut 121 (upd (upd og S (-4)) (S + 1) (-4)) (nI (S + 1)) (nI u), kPutL 121 (vp_updL (vp_updL en S 0) (S + 1) 0) (nI (S + 1)) (fX2_endsOf (nI K, nI (n + 1), nI (S + 1 + 1), nI la, upd le n (nI (t n)), agr, mv3, upd (upd lo S (nI (n + 1))) (S + 1) (nI (ag t (n + 1))), kPut 121 (upd (upd li S (-4)) (S + 1) (-4)) (nI (S + 1)) (fX2_linkOf (nI K, nI (n + 1), nI (S + 1 + 1), nI la, upd le n (nI (t n)), agr, mv3, upd (upd lo S (nI (n + 1))) (S + 1) (nI (ag t (n + 1))), upd (upd li S (-4)) (S + 1) (-4), upd (upd ma S (nI (n + 1))) (S + 1) (nI (n + 1)), kPut 121 (upd (upd og S (-4)) (S + 1) (-4)) (nI (S + 1)) (nI u), vp_updL (vp_updL en S 0) (S + 1) 0) (nI u)), upd (upd ma S (nI (n + 1))) (S + 1) (nI (n + 1)), kPut 121 (upd (upd og S (-4)) (S + 1) (-4)) (nI (S + 1)) (nI u), vp_updL (vp_updL en S 0) (S + 1) 0) (nI u)))
      rw [linkOf_at (S := S + 1 + 1) rfl (by omega) (by omega), endsOf_at (S := S + 1 + 1) rfl (by omega) (by omega), kPut_nI (by omega), kPut_nI (by omega), kPutL_nI (by omega)]
      rw [show gM_link (nI K, nI (n + 1), nI (S + 1 + 1), nI la, upd le n (nI (t n)), agr, mv3, upd (upd lo S (nI (n + 1))) (S + 1) (nI (ag t (n + 1))), upd (upd li S (-4)) (S + 1) (-4), upd (upd ma S (nI (n + 1))) (S + 1) (nI (n + 1)), upd (upd (upd og S (-4)) (S + 1) (-4)) (S + 1) (nI u), vp_updL (vp_updL en S 0) (S + 1) 0) u = nI pu from (pk_un (by omega)).trans ((pk_un (by omega)).trans pu2)]
      rw [show gM_ends (nI K, nI (n + 1), nI (S + 1 + 1), nI la, upd le n (nI (t n)), agr, mv3, upd (upd lo S (nI (n + 1))) (S + 1) (nI (ag t (n + 1))), upd (upd (upd li S (-4)) (S + 1) (-4)) (S + 1) (nI pu), upd (upd ma S (nI (n + 1))) (S + 1) (nI (n + 1)), upd (upd (upd og S (-4)) (S + 1) (-4)) (S + 1) (nI u), vp_updL (vp_updL en S 0) (S + 1) 0) u = en u from (pk_uLn (by omega)).trans (pk_uLn (by omega))]
      obtain ⟨loF, hloF⟩ : ∃ f, f = upd (upd lo S (nI (n + 1))) (S + 1) (nI (ag t (n + 1))) := ⟨_, rfl⟩
      obtain ⟨liF, hliF⟩ : ∃ f, f = upd (upd (upd li S (-4)) (S + 1) (-4)) (S + 1) (nI pu) := ⟨_, rfl⟩
      obtain ⟨maF, hmaF⟩ : ∃ f, f = upd (upd ma S (nI (n + 1))) (S + 1) (nI (n + 1)) := ⟨_, rfl⟩
      obtain ⟨ogF, hogF⟩ : ∃ f, f = upd (upd (upd og S (-4)) (S + 1) (-4)) (S + 1) (nI u) := ⟨_, rfl⟩
      obtain ⟨enF, henF⟩ : ∃ f, f = vp_updL (vp_updL (vp_updL en S 0) (S + 1) 0) (S + 1) (en u) := ⟨_, rfl⟩
      obtain ⟨leF, hleF⟩ : ∃ f, f = upd le n (nI (t n)) := ⟨_, rfl⟩
      rw [← hloF, ← hliF, ← hmaF, ← hogF, ← henF, ← hleF]
      rw [← hleF] at hle'
      have x3 : ∀ i, (∀ c, c < 5 → i ≠ (S + 1) * 5 + c) → mv3 i = mv2 i := hm4
      -- the moves are copied
      have cpy : ∀ d c (mvc : Nat → Int32), c + d = K → (∀ k, k < c → mvc ((S + 1) * 5 + k) = mv2 (u * 5 + k)) → (∀ i, (∀ k, k < 5 → i ≠ (S + 1) * 5 + k) → mvc i = mv2 i) → X77 (nI u) (nI (S + 1)) (nI c) (nI K, nI (n + 1), nI (S + 1 + 1), nI la, leF, agr, mvc, loF, liF, maF, ogF, enF) := by
        intro d
        induction d with
        | succ d ih =>
          intro c mvc hcd h1 h2
          refine h77 _ _ _ _ (br_f (nI_ge (by omega) (by omega)) ?_)
          rw [moveOf_at (S := S + 1 + 1) (K := K) rfl (by omega) (by omega) rfl (by omega) hK, setMove_at (by omega) (by omega), nI_1]
          refine ih (c + 1) _ (by omega) (fun k hk => ?_) (fun i hi => ?_)
          · by_cases hkc : k = c
            · subst hkc
              rw [pk_us]
              exact h2 _ (fun k _ => by omega)
            · rw [pk_un (by omega)]; exact h1 k (by omega)
          · rw [pk_un (hi c (by omega))]; exact h2 i hi
        | zero =>
          intro c mvc hcd h1 h2
          have hcd : c = K := by omega
          subst hcd
          refine h77 _ _ _ _ (br_t (nI_le (Nat.le_refl _) (by omega)) ?_)
          show wpX2_redirect (nI c, nI (n + 1), nI (S + 1 + 1), nI la, leF, agr, mvc, loF, kPut 121 liF (nI u) (nI (S + 1)), maF, ogF, enF) (nI p) (nI (t n)) (nI u) (nI (S + 1)) _
          rw [kPut_nI (by omega)]
          -- along the links from the holder q's own link doesn't matter
          have hliO : ∀ s, s < S → liF s = li s := fun s hs => by rw [hliF, pk_un (by omega), pk_un (by omega), pk_un (by omega)]
          have hli2 : ∀ s, s < S → s ≠ u → upd liF u (nI (S + 1)) s = li s := fun s hs hsu => by rw [pk_un hsu]; exact hliO s hs
          have hmvc : ∀ s c', s < S + 1 → c' < 5 → mvc (s * 5 + c') = mv2 (s * 5 + c') := fun s c' hs hc' => h2 _ (fun k hk => by omega)
          refine w_redirect hI (by omega) (S' := S + 1 + 1) (by omega) (by omega) hc hK (by rw [pk_un (by omega), hliO 0 hS1]; exact cl0) (fun s a b hls => by rw [hli2 s b (fun e => by rw [e] at hls; omega)]; exact clk s a b) p1 p2 (fun β' r' mv5 k1 k2 k3 => ?_)
          have m5o : ∀ s c', s < S + 2 → c' < 5 → (s < S → c' = t n → len s ≤ al t (fe s) n → β' ≤ len s → len s ≤ len p → False) → mv5 (s * 5 + c') = mvc (s * 5 + c') := fun s c' hs hc5 hx => k2 _ (fun v hv hv1 hv2 hv3 e => by
            have e1 : v = s := by omega
            have e2 : c' = t n := by omega
            subst e1
            exact hx hv e2 hv1 hv2 hv3)
          have oldu : ∀ c', c' < c → MvOK t (n + 1) (S + 2) (nLen t n S len) (nFe n S fe u) (mv2 (u * 5 + c')) u c' := fun c' hc' => old (S + 2) (by omega) u c' u1 hc' (fun _ _ => Or.inl (by omega)) (by omega)
          refine h82 _ _ _ _ ?_
          refine app_end (S' := S + 2) (zz := S + 1) (len := len) (fe := fe) (q := u) hn (by omega) (by omega) hnI (by omega) (by omega) nLen_c ⟨?_, ?_, ?_⟩ hS1 hle' cag (fun s c' hs hcK => ?_) (fun s hs => ?_) ?_ (fun s h1' h2' h3' => ?_) (fun s hs => ?_) (fun en' ag2 hci => ?_)
          · rw [nLen_c, nLen_S]; omega
          · rw [nLen_c, nFe_S, nFe_c]; exact hqA
          · intro b hb h5
            rw [nLen_S, nFe_S]
            rw [nLen_c, nFe_S] at h5
            rcases Nat.lt_or_ge b (n + 1) with g | g
            · have := al_new (t := t) (n := n) (b := b) (by omega); omega
            · rw [show b = n + 1 by omega, al_self]; exact Nat.le_refl _
          · -- moves
            rcases Nat.lt_trichotomy s S with g | g | g
            · by_cases hin : c' = t n ∧ len s ≤ al t (fe s) n ∧ β' ≤ len s ∧ len s ≤ len p
              · obtain ⟨i1, i2, i3, i4⟩ := hin
                subst i1
                obtain ⟨y1, y2⟩ := k1 s g i2 i3 i4
                rw [y2]
                rw [hmvc s _ (by omega) (by omega), m2b s g (by omega)] at y1
                obtain ⟨v, v1, v2, v3⟩ := sh s g i2 (by omega)
                rw [y1] at v2
                have : u = v := nI_inj (by omega) (by omega) v2
                subst this
                exact Or.inl ⟨S + 1, by omega, rfl, M_toC hI hq hel g i2 v3⟩
              · rw [m5o s c' (by omega) (by omega) (fun _ a b d e => hin ⟨a, b, d, e⟩), hmvc s c' (by omega) (by omega)]
                refine old (S + 2) (by omega) s c' g hcK (fun hcn hsu => ?_) (by omega)
                rcases Nat.lt_or_ge (len s) β with g4 | g4
                · refine Or.inr ?_
                  obtain ⟨v, v1, v2, v3⟩ := sh s g hsu g4
                  rcases M_suf hI hq hel v1 hsu v3 with g5 | g5
                  · exact ⟨v, v1, by rw [m2b s g g4]; exact v2, g5.1⟩
                  · have hlb : len s < β' := by
                      rcases Nat.lt_or_ge (len s) β' with g6 | g6
                      · exact g6
                      · exact absurd ⟨hcn, hsu, g6, by omega⟩ hin
                    rcases k3 with ⟨z1, z2⟩ | ⟨s', z1, z2, z3, z4, z5, z6⟩
                    · omega
                    · obtain ⟨w, w1, w2, w3⟩ := sh s' z1 z2 (by omega)
                      rw [hmvc s' _ (by omega) (by omega), m2b s' z1 (by omega)] at z6
                      have hv : v = u := g5.1
                      subst hv
                      have := H_mid hI v1 w1 hsu z2 p2 (by omega) z5 v3 u3 w3
                      subst this
                      exact absurd w2 z6
                · exact Or.inl g4
            · subst g
              rw [m5o s c' (by omega) (by omega) (fun a => by omega), hmvc s c' (by omega) (by omega), m2S c' (by omega)]
              exact Or.inr ⟨rfl, N_S⟩
            · have hs1 : s = S + 1 := by omega
              subst hs1
              rw [m5o (S + 1) c' (by omega) (by omega) (fun a => by omega), h1 c' hcK]
              rcases oldu c' hcK with ⟨v, v1, v2, v3⟩ | ⟨v1, v2⟩
              · exact Or.inl ⟨v, v1, v2, (M_cl (C_ends hI hq hel)).mpr v3⟩
              · exact Or.inr ⟨v1, (N_cl (C_ends hI hq hel)).mpr v2⟩
          · rw [hloF]
            rcases Nat.lt_trichotomy s S with g | g | g
            · rw [pk_un (by omega), pk_un (by omega), nLen_o g]; exact clo s g
            · subst g; rw [pk_un (by omega), pk_us, nLen_S]
            · have hs1 : s = S + 1 := by omega
              subst hs1; rw [pk_us, nLen_c]
          · rw [pk_un (by omega), hliO 0 hS1]; exact cl0
          · by_cases hsu : s = u
            · subst hsu
              refine ⟨S + 1, by omega, pk_us, ?_, ?_, ?_⟩
              · rw [nLen_c, nLen_o u1]; exact hAq
              · rw [nLen_c, nFe_o u1, nFe_c, al_self]; have := (hI.2.1 s u1).1; omega
              · intro b hb h5
                rw [nLen_c, nFe_o u1] at h5
                rw [nLen_o u1, nFe_o u1]
                rcases Nat.lt_or_ge b (n + 1) with g | g
                · exact pu3.2.2 b (by omega) (by omega)
                · have hb1 : b = n + 1 := by omega
                  subst hb1
                  have := al_new (t := t) (n := n) (b := fe s) (hI.2.1 s u1).2
                  rw [al_comm] at h5
                  omega
            · rcases Nat.lt_or_ge s S with g | g
              · obtain ⟨p', x, y, z⟩ := clk s h1' g
                exact ⟨p', by omega, by rw [hli2 s g hsu]; exact y, isLk_cong (nLen_o g) (nFe_o g) (nLen_o x) (nFe_o x) (L_old hI hq hel g z (Or.inl hsu))⟩
              · have hs1 : s = S + 1 := by omega
                subst hs1
                refine ⟨pu, by omega, by rw [pk_un hsu, hliF, pk_us], ?_, ?_, ?_⟩
                · rw [nLen_c, nLen_o pu1]; exact hpuA
                · rw [nLen_o pu1, nFe_c, nFe_o pu1]; exact pu3.2.1
                · intro b hb h5
                  rw [nLen_o pu1, nFe_c] at h5
                  rw [nLen_c, nFe_c]
                  rcases Nat.lt_or_ge b (n + 1) with g | g
                  · have := pu3.2.2 b (by omega) h5; omega
                  · rw [show b = n + 1 by omega]; exact al_sym hqA
          · rw [henF]
            rcases Nat.lt_trichotomy s S with g | g | g
            · rw [pk_uLn (by omega), pk_uLn (by omega), pk_uLn (by omega)]; exact hen0 s g
            · subst g; rw [pk_uLn (by omega), pk_uLn (by omega), pk_uLs]; exact henS
            · have hs1 : s = S + 1 := by omega
              subst hs1
              rw [pk_uLs, show en u = enS t n (len u) (fe u) from cen u u1]
              unfold enS
              refine sv_ext (fun b _ => ?_)
              have hce := C_ends (len := len) (fe := fe) hI hq hel b
              rw [nLen_o u1, nFe_o u1] at hce
              by_cases hb : b ≤ n
              · simp [hb, hce hb]
              · simp [hb]
          · refine hQ _ hci (fun s hs => ⟨?_, ?_⟩) ⟨?_, ?_⟩ (fun _ => ⟨?_, ?_⟩) hleF
            · show maF s = ma s
              rw [hmaF, pk_un (by omega), pk_un (by omega)]
            · show ogF s = og s
              rw [hogF, pk_un (by omega), pk_un (by omega), pk_un (by omega)]
            · show maF S = _
              rw [hmaF, pk_un (by omega), pk_us]
            · show ogF S = _
              rw [hogF, pk_un (by omega), pk_un (by omega), pk_us]
            · show maF (S + 1) = _
              rw [hmaF, pk_us]
            · show ogF (S + 1) = _
              rw [hogF, pk_us]
      exact cpy K 0 mv3 (by omega) (fun k hk => absurd hk (Nat.not_lt_zero k)) (fun i hi => x3 i hi)
end GROW
