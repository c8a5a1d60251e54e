/-! the class's machine: its reads, its loops -/
theorem kAt_nI {N i : Nat} {f : Nat → Int32} (h : i < N) (hN : N < 2 ^ 31 := by decide) : kAt N f (nI i) = f i := by
  unfold kAt; rw [if_neg (nI_pos (by omega)), if_neg (nI_ge h hN), nI_clamp (by omega)]
theorem kAtL_nI {N i : Nat} {f : Nat → Int64} (h : i < N) (hN : N < 2 ^ 31 := by decide) : kAtL N f (nI i) = f i := by
  unfold kAtL; rw [if_neg (nI_pos (by omega)), if_neg (nI_ge h hN), nI_clamp (by omega)]
theorem kPut_nI {N i : Nat} {f : Nat → Int32} {v : Int32} (h : i < N) (hN : N < 2 ^ 31 := by decide) : kPut N f (nI i) v = upd f i v := by
  unfold kPut; rw [if_neg (nI_pos (by omega)), if_neg (nI_ge h hN), nI_clamp (by omega)]
theorem kPutL_nI {N i : Nat} {f : Nat → Int64} {v : Int64} (h : i < N) (hN : N < 2 ^ 31 := by decide) : kPutL N f (nI i) v = vp_updL f i v := by
  unfold kPutL; rw [if_neg (nI_pos (by omega)), if_neg (nI_ge h hN), nI_clamp (by omega)]
theorem ix5 (s c : Nat) : (nI s * 5) + nI c = nI (s * 5 + c) := by rw [show (5 : Int32) = nI 5 from rfl, pk_mul, nI_add]
theorem one_ne : ¬ (1 : Int32) = 0 := by decide
theorem isState_y {u : MSt} {S s : Nat} (h : gM_states u = nI S) (hs : s < S) (hS : S ≤ 121) : fX2_isState u (nI s) = 1 := by
  unfold fX2_isState; rw [if_neg (nI_pos (by omega)), h, if_neg (nI_ge hs (by omega))]
theorem isLetter_y {u : MSt} {K c : Nat} (h : gM_alphabet u = nI K) (hc : c < K) (hK : K ≤ 5) : fX2_isLetter u (nI c) = 1 := by
  unfold fX2_isLetter; rw [if_neg (nI_pos (by omega)), h, if_neg (nI_ge hc (by omega))]
theorem moveOf_at {u : MSt} {S K s c : Nat} (h1 : gM_states u = nI S) (hs : s < S) (hS : S ≤ 121) (h2 : gM_alphabet u = nI K) (hc : c < K) (hK : K ≤ 5) : fX2_moveOf u (nI s) (nI c) = gM_moves u (s * 5 + c) := by
  unfold fX2_moveOf; rw [isState_y h1 hs hS, if_neg one_ne, isLetter_y h2 hc hK, if_neg one_ne, ix5, kAt_nI (by omega)]
theorem linkOf_at {u : MSt} {S s : Nat} (h1 : gM_states u = nI S) (hs : s < S) (hS : S ≤ 121) : fX2_linkOf u (nI s) = gM_link u s := by
  unfold fX2_linkOf; rw [isState_y h1 hs hS, if_neg one_ne, kAt_nI (by omega)]
theorem endsOf_at {u : MSt} {S s : Nat} (h1 : gM_states u = nI S) (hs : s < S) (hS : S ≤ 121) : fX2_endsOf u (nI s) = gM_ends u s := by
  unfold fX2_endsOf; rw [isState_y h1 hs hS, if_neg one_ne, kAtL_nI (by omega)]
theorem longestOf_at {u : MSt} {s : Nat} (hs : s < 121) : fX2_longestOf u (nI s) = gM_longest u s := by
  unfold fX2_longestOf; rw [kAt_nI hs]
theorem setMove_at {K ln st la : Int32} {le ag' mv lo li ma og : Nat → Int32} {en : Nat → Int64} {s c : Nat} {v : Int32} (hs : s < 121) (hc : c < 5) : fX2_setMove (K, ln, st, la, le, ag', mv, lo, li, ma, og, en) (nI s) (nI c) v = (K, ln, st, la, le, ag', upd mv (s * 5 + c) v, lo, li, ma, og, en) := by
  unfold fX2_setMove; rw [ix5]
  show (K, ln, st, la, le, ag', kPut 605 mv (nI (s * 5 + c)) v, lo, li, ma, og, en) = _
  rw [kPut_nI (by omega)]
section MACH
variable {K' ln la : Int32} {le ag' mv lo li ma og : Nat → Int32} {en : Nat → Int64}
theorem w_addState {S : Nat} {x : Int32} (hS : S < 121) {Q : Int32 → MSt → Prop}
    (hq : ∀ mv' : Nat → Int32, (∀ c, c < 5 → mv' (S * 5 + c) = -4) → (∀ i, (∀ c, c < 5 → i ≠ S * 5 + c) → mv' i = mv i) → Q (nI S) (K', ln, nI (S + 1), la, le, ag', mv', upd lo S x, upd li S (-4), upd ma S ln, upd og S (-4), vp_updL en S 0)) :
    wpX2_addState (K', ln, nI S, la, le, ag', mv, lo, li, ma, og, en) x Q := by
  unfold wpX2_addState
  intro X h
  show X (nI S) 0 (K', ln, nI S + 1, la, le, ag', mv, kPut 121 lo (nI S) x, kPut 121 li (nI S) (-4), kPut 121 ma (nI S) ln, kPut 121 og (nI S) (-4), kPutL 121 en (nI S) 0)
  rw [kPut_nI hS, kPut_nI hS, kPut_nI hS, kPut_nI hS, kPutL_nI hS, nI_1]
  have loop : ∀ d c (mvc : Nat → Int32), c + d = 5 → (∀ k, k < c → mvc (S * 5 + k) = -4) → (∀ i, (∀ k, k < c → i ≠ S * 5 + k) → mvc i = mv i) → X (nI S) (nI c) (K', ln, nI (S + 1), la, le, ag', mvc, upd lo S x, upd li S (-4), upd ma S ln, upd og S (-4), vp_updL en S 0) := by
    intro d
    induction d with
    | zero =>
      intro c mvc hc h1 h2
      have hc : c = 5 := by omega
      subst hc
      exact h _ _ _ (br_t (by decide) (hq mvc h1 h2))
    | succ d ih =>
      intro c mvc hc h1 h2
      refine h _ _ _ (br_f (nI_ge (b := 5) (by omega) (by decide)) ?_)
      rw [setMove_at hS (by omega), nI_1]
      refine ih (c + 1) _ (by omega) (fun k hk => ?_) (fun i hi => ?_)
      · by_cases hkc : k = c
        · subst hkc; exact pk_us
        · rw [pk_un (by omega)]; exact h1 k (by omega)
      · rw [pk_un (hi c (by omega))]; exact h2 i (fun k hk => hi k (by omega))
  exact loop 5 0 mv rfl (fun k hk => absurd hk (Nat.not_lt_zero k)) (fun i _ => rfl)
section CHAIN
variable {t : Nat → Nat} {n S : Nat} {len fe : Nat → Nat}
theorem w_redirect (h : SInv t n S len fe) (hn : n ≤ 60) {S' c K : Nat} (hS' : S ≤ S') (hS2 : S' ≤ 121) (hc : c < K) (hK : K ≤ 5) (hl0 : li 0 = -4) {s0 : Nat} (hlk : ∀ s, 0 < s → s < S → len s ≤ len s0 → ∃ p, p < S ∧ li s = nI p ∧ isLk t n len fe s p) (hs0 : s0 < S) (hsuf : len s0 ≤ al t (fe s0) n) {f v : Int32} {Q : Int32 → MSt → Prop}
    (hq : ∀ (β : Nat) (r : Int32) (mv' : Nat → Int32), (∀ u, u < S → len u ≤ al t (fe u) n → β ≤ len u → len u ≤ len s0 → mv (u * 5 + c) = f ∧ mv' (u * 5 + c) = v) → (∀ i, (∀ u, u < S → len u ≤ al t (fe u) n → β ≤ len u → len u ≤ len s0 → i ≠ u * 5 + c) → mv' i = mv i) → ((r = -4 ∧ β = 0) ∨ ∃ s, s < S ∧ len s ≤ al t (fe s) n ∧ r = nI s ∧ β = len s + 1 ∧ len s ≤ len s0 ∧ mv (s * 5 + c) ≠ f) → Q r (nI K, ln, nI S', la, le, ag', mv', lo, li, ma, og, en)) :
    wpX2_redirect (nI K, ln, nI S', la, le, ag', mv, lo, li, ma, og, en) (nI s0) (nI c) f v Q := by
  unfold wpX2_redirect
  intro X hX
  have hln : ∀ s, s < S → len s ≤ 60 := fun s hs => by have := h.2.1 s hs; omega
  have loop : ∀ d s, len s ≤ d → s < S → len s ≤ al t (fe s) n → len s ≤ len s0 → ∀ (k : Nat) (mvc : Nat → Int32), k + len s ≤ len s0 → (∀ u, u < S → len u ≤ al t (fe u) n → len s < len u → len u ≤ len s0 → mv (u * 5 + c) = f ∧ mvc (u * 5 + c) = v) → (∀ i, (∀ u, u < S → len u ≤ al t (fe u) n → len s < len u → len u ≤ len s0 → i ≠ u * 5 + c) → mvc i = mv i) → X (nI s) (nI k) (nI K, ln, nI S', la, le, ag', mvc, lo, li, ma, og, en) := by
    intro d
    induction d with
    | zero =>
      intro s hd hs hsu hls k mvc hk h1 h2
      have hk60 : k ≤ 60 := by have := hln s0 hs0; omega
      have hs0 : s = 0 := S_zero h hs (by omega)
      subst hs0
      refine hX _ _ _ (br_f (nI_ge (b := 121) (by omega) (by decide)) (br_f (nI_pos (by omega)) ?_))
      rw [moveOf_at (S := S') (K := K) rfl (by omega) hS2 rfl hc hK]
      have hcur : gM_moves (nI K, ln, nI S', la, le, ag', mvc, lo, li, ma, og, en) (0 * 5 + c) = mv (0 * 5 + c) := h2 _ (fun u hu hu1 hu2 _ => by
        intro e
        have : u = 0 := by omega
        subst this; omega)
      rw [hcur]
      by_cases hf : mv (0 * 5 + c) = f
      · refine br_t hf ?_
        rw [setMove_at (by omega) (by omega), linkOf_at (S := S') rfl (by omega) hS2]
        show X (li 0) _ _
        rw [hl0]
        refine hX _ _ _ ?_
        rw [nI_1]
        refine br_f (nI_ge (b := 121) (by omega) (by decide)) (br_t (by decide) ?_)
        refine hq 0 (-4) _ (fun u hu hu1 _ hu2 => ?_) (fun i hi => ?_) (Or.inl ⟨rfl, rfl⟩)
        · by_cases hu0 : u = 0
          · subst hu0; exact ⟨hf, pk_us⟩
          · have : len u ≠ 0 := fun e => hu0 (S_zero h hu e)
            rw [pk_un (by omega)]
            exact h1 u hu hu1 (by omega) hu2
        · rw [pk_un (hi 0 hs hsu (Nat.zero_le _) hls)]
          exact h2 i (fun u a1 a2 a3 a4 => hi u a1 a2 (Nat.zero_le _) a4)
      · refine br_f hf ?_
        refine hq (len 0 + 1) (nI 0) mvc (fun u hu hu1 a b => h1 u hu hu1 (by omega) b) (fun i hi => h2 i (fun u a1 a2 a3 a4 => hi u a1 a2 (by omega) a4)) (Or.inr ⟨0, hs, hsu, rfl, rfl, hls, hf⟩)
    | succ d ih =>
      intro s hd hs hsu hls k mvc hk h1 h2
      have hk60 : k ≤ 60 := by have := hln s0 hs0; omega
      refine hX _ _ _ (br_f (nI_ge (b := 121) (by omega) (by decide)) (br_f (nI_pos (by omega)) ?_))
      rw [moveOf_at (S := S') (K := K) rfl (by omega) hS2 rfl hc hK]
      have hcur : gM_moves (nI K, ln, nI S', la, le, ag', mvc, lo, li, ma, og, en) (s * 5 + c) = mv (s * 5 + c) := h2 _ (fun u hu hu1 hu2 _ => by
        intro e
        have : u = s := by omega
        subst this; omega)
      rw [hcur]
      by_cases hf : mv (s * 5 + c) = f
      · refine br_t hf ?_
        rw [setMove_at (by omega) (by omega), linkOf_at (S := S') rfl (by omega) hS2]
        show X (li s) _ _
        rw [nI_1]
        by_cases hz : s = 0
        · subst hz
          rw [hl0]
          refine hX _ _ _ ?_
          refine br_f (nI_ge (b := 121) (by omega) (by decide)) (br_t (by decide) ?_)
          refine hq 0 (-4) _ (fun u hu hu1 _ hu2 => ?_) (fun i hi => ?_) (Or.inl ⟨rfl, rfl⟩)
          · by_cases hu0 : u = 0
            · subst hu0; exact ⟨hf, pk_us⟩
            · have : len u ≠ 0 := fun e => hu0 (S_zero h hu e)
              rw [pk_un (by omega)]
              exact h1 u hu hu1 (by have := h.1.2.1; omega) hu2
          · rw [pk_un (hi 0 hs hsu (Nat.zero_le _) hls)]
            exact h2 i (fun u a1 a2 a3 a4 => hi u a1 a2 (Nat.zero_le _) a4)
        · obtain ⟨p, hp, hlp, hkp⟩ := hlk s (by omega) hs hls
          rw [hlp]
          have hlt := hkp.1
          refine ih p (by omega) hp (lk_end hkp hsu) (by omega) (k + 1) _ (by omega) (fun u hu hu1 hu2 hu3 => ?_) (fun i hi => ?_)
          · by_cases hus : u = s
            · subst hus; exact ⟨hf, pk_us⟩
            · rw [pk_un (by omega)]
              rcases Nat.lt_trichotomy (len u) (len s) with g | g | g
              · have := S_btw h hs hu hkp hsu hu1 g; omega
              · exact absurd (S_same h hu hs g hu1 hsu) hus
              · exact h1 u hu hu1 g hu3
          · rw [pk_un (hi s hs hsu hlt hls)]
            exact h2 i (fun u a1 a2 a3 a4 => hi u a1 a2 (by omega) a4)
      · refine br_f hf ?_
        refine hq (len s + 1) (nI s) mvc (fun u hu hu1 a b => h1 u hu hu1 (by omega) b) (fun i hi => h2 i (fun u a1 a2 a3 a4 => hi u a1 a2 (by omega) a4)) (Or.inr ⟨s, hs, hsu, rfl, rfl, hls, hf⟩)
  exact loop (len s0) s0 (Nat.le_refl _) hs0 hsuf (Nat.le_refl _) 0 mv (by omega) (fun u _ _ a b => by omega) (fun i _ => rfl)
theorem w_markEnd (h : SInv t n S len fe) (hn : n ≤ 60) (hS2 : S ≤ 121) (hl0 : li 0 = -4) (hlk : ∀ s, 0 < s → s < S → ∃ p, p < S ∧ li s = nI p ∧ isLk t n len fe s p) {l0 : Nat} (hl1 : l0 < S) (hl2 : len l0 = n) (hl3 : fe l0 = n) {Q : MSt → Prop}
    (hq : ∀ en' : Nat → Int64, (∀ s, s < S → len s ≤ al t (fe s) n → en' s = en s ||| sv (fun b => decide (b = n))) → (∀ s, s < S → ¬ len s ≤ al t (fe s) n → en' s = en s) → Q (K', nI n, nI S, nI l0, le, ag', mv, lo, li, ma, og, en')) :
    wpX2_markEnd (K', nI n, nI S, nI l0, le, ag', mv, lo, li, ma, og, en) Q := by
  unfold wpX2_markEnd
  intro X hX
  show X ((1 : Int64) <<< ((nI n).toInt64 &&& 63)) (nI l0) 0 (K', nI n, nI S, nI l0, le, ag', mv, lo, li, ma, og, en)
  rw [sv_bit (by omega)]
  have hln : ∀ s, s < S → len s ≤ 60 := fun s hs => by have := h.2.1 s hs; omega
  have fin : ∀ (k : Nat) (enc : Nat → Int64), k ≤ 61 → (∀ u, u < S → len u ≤ al t (fe u) n → enc u = en u ||| sv (fun b => decide (b = n))) → (∀ u, u < S → ¬ len u ≤ al t (fe u) n → enc u = en u) → X (sv (fun b => decide (b = n))) (-4) (nI k) (K', nI n, nI S, nI l0, le, ag', mv, lo, li, ma, og, enc) := by
    intro k enc hk h1 h2
    exact hX _ _ _ _ (br_f (nI_ge (b := 121) (by omega) (by decide)) (br_t (by decide) (hq enc h1 h2)))
  have loop : ∀ d s, len s ≤ d → s < S → len s ≤ al t (fe s) n → ∀ (k : Nat) (enc : Nat → Int64), k + len s ≤ n → (∀ u, u < S → len u ≤ al t (fe u) n → len s < len u → enc u = en u ||| sv (fun b => decide (b = n))) → (∀ u, u < S → (¬ len u ≤ al t (fe u) n ∨ len u ≤ len s) → enc u = en u) → X (sv (fun b => decide (b = n))) (nI s) (nI k) (K', nI n, nI S, nI l0, le, ag', mv, lo, li, ma, og, enc) := by
    intro d
    induction d with
    | zero =>
      intro s hd hs hsu k enc hk h1 h2
      have hz : s = 0 := S_zero h hs (by omega)
      subst hz
      refine hX _ _ _ _ (br_f (nI_ge (b := 121) (by omega) (by decide)) (br_f (nI_pos (by omega)) ?_))
      rw [endsOf_at (S := S) rfl hs hS2, linkOf_at (S := S) rfl hs hS2, nI_1, kPutL_nI (by omega)]
      show X _ (li 0) _ (K', nI n, nI S, nI l0, le, ag', mv, lo, li, ma, og, vp_updL enc 0 (enc 0 ||| _))
      rw [hl0]
      refine fin (k + 1) _ (by omega) (fun u hu hu1 => ?_) (fun u hu hu1 => ?_)
      · by_cases hu0 : u = 0
        · subst hu0; rw [pk_uLs, h2 0 hs (Or.inr (Nat.le_refl _))]
        · rw [pk_uLn hu0]
          have : len u ≠ 0 := fun e => hu0 (S_zero h hu e)
          exact h1 u hu hu1 (by omega)
      · have hu0 : u ≠ 0 := fun e => hu1 (by subst e; exact hsu)
        rw [pk_uLn hu0]
        exact h2 u hu (Or.inl hu1)
    | succ d ih =>
      intro s hd hs hsu k enc hk h1 h2
      refine hX _ _ _ _ (br_f (nI_ge (b := 121) (by omega) (by decide)) (br_f (nI_pos (by omega)) ?_))
      rw [endsOf_at (S := S) rfl hs hS2, linkOf_at (S := S) rfl hs hS2, nI_1, kPutL_nI (by omega)]
      show X _ (li s) _ (K', nI n, nI S, nI l0, le, ag', mv, lo, li, ma, og, vp_updL enc s (enc s ||| _))
      by_cases hz : s = 0
      · subst hz
        rw [hl0]
        refine fin (k + 1) _ (by omega) (fun u hu hu1 => ?_) (fun u hu hu1 => ?_)
        · by_cases hu0 : u = 0
          · subst hu0; rw [pk_uLs, h2 0 hs (Or.inr (Nat.le_refl _))]
          · rw [pk_uLn hu0]
            have : len u ≠ 0 := fun e => hu0 (S_zero h hu e)
            exact h1 u hu hu1 (by have := h.1.2.1; omega)
        · have hu0 : u ≠ 0 := fun e => hu1 (by subst e; exact hsu)
          rw [pk_uLn hu0]
          exact h2 u hu (Or.inl hu1)
      · obtain ⟨p, hp, hlp, hkp⟩ := hlk s (by omega) hs
        rw [hlp]
        have hlt := hkp.1
        refine ih p (by omega) hp (lk_end hkp hsu) (k + 1) _ (by omega) (fun u hu hu1 hu2 => ?_) (fun u hu hu1 => ?_)
        · by_cases hus : u = s
          · subst hus; rw [pk_uLs, h2 u hs (Or.inr (Nat.le_refl _))]
          · rw [pk_uLn hus]
            rcases Nat.lt_trichotomy (len u) (len s) with g | g | g
            · have := S_btw h hs hu hkp hsu hu1 g; omega
            · exact absurd (S_same h hu hs g hu1 hsu) hus
            · exact h1 u hu hu1 g
        · have hus : u ≠ s := fun e => by
            subst e
            rcases hu1 with g | g
            · exact g hsu
            · omega
          rw [pk_uLn hus]
          refine h2 u hu ?_
          rcases hu1 with g | g
          · exact Or.inl g
          · exact Or.inr (by omega)
  exact loop n l0 (by omega) hl1 (by rw [hl2, hl3, al_self]; exact Nat.le_refl _) 0 en (by omega) (fun u hu hu1 g => by have := h.2.1 u hu; omega) (fun u _ _ => rfl)
end CHAIN
end MACH
