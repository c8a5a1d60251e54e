/-! the states of the first k letters of a text, one after the other -/
def smP (t : Nat → Nat) (n S : Nat) (len fe : Nat → Nat) (q : Nat) : Prop := q < S ∧ ag t (n + 1) ≤ len q ∧ ∀ b, b ≤ n → (len q ≤ al t (fe q) b ↔ ag t (n + 1) ≤ al t (n + 1) b)
noncomputable def smq (t : Nat → Nat) (n S : Nat) (len fe : Nat → Nat) : Nat := Classical.epsilon (smP t n S len fe)
noncomputable def smc (t : Nat → Nat) : Nat → Nat × (Nat → Nat) × (Nat → Nat)
  | 0 => (1, fun _ => 0, fun _ => 0)
  | k + 1 => (nS t k (smc t k).1 (smc t k).2.1 (smq t k (smc t k).1 (smc t k).2.1 (smc t k).2.2), nLen t k (smc t k).1 (smc t k).2.1, nFe k (smc t k).1 (smc t k).2.2 (smq t k (smc t k).1 (smc t k).2.1 (smc t k).2.2))
noncomputable def cS (t : Nat → Nat) (k : Nat) : Nat := (smc t k).1
noncomputable def cL (t : Nat → Nat) (k : Nat) : Nat → Nat := (smc t k).2.1
noncomputable def cF (t : Nat → Nat) (k : Nat) : Nat → Nat := (smc t k).2.2
noncomputable def cQ (t : Nat → Nat) (k : Nat) : Nat := smq t k (cS t k) (cL t k) (cF t k)
theorem cS_s (t : Nat → Nat) (k : Nat) : cS t (k + 1) = nS t k (cS t k) (cL t k) (cQ t k) := rfl
theorem cL_s (t : Nat → Nat) (k : Nat) : cL t (k + 1) = nLen t k (cS t k) (cL t k) := rfl
theorem cF_s (t : Nat → Nat) (k : Nat) : cF t (k + 1) = nFe k (cS t k) (cF t k) (cQ t k) := rfl
theorem c_0 (t : Nat → Nat) : SInv t 0 1 (fun _ => 0) (fun _ => 0) := by
  refine ⟨⟨by decide, rfl, by decide⟩, fun s _ => ⟨Nat.le_refl _, Nat.le_refl _⟩, fun s s' h h' _ => by omega, fun e m h1 h2 => ⟨0, by decide, by omega, by omega, fun b _ _ => Nat.zero_le _⟩⟩
theorem c_q {t : Nat → Nat} {k : Nat} (h : SInv t k (cS t k) (cL t k) (cF t k)) : smP t k (cS t k) (cL t k) (cF t k) (cQ t k) := by
  have := S_q h
  obtain ⟨q, h1, h2, h3⟩ := this
  exact Classical.epsilon_spec (p := smP t k (cS t k) (cL t k) (cF t k)) ⟨q, h1, h2, h3⟩
theorem c_inv (t : Nat → Nat) : ∀ k, SInv t k (cS t k) (cL t k) (cF t k) := by
  intro k
  induction k with
  | zero => exact c_0 t
  | succ k ih =>
    obtain ⟨h1, h2, h3⟩ := c_q ih
    rw [cS_s, cL_s, cF_s]
    exact nInv ih h1 h3 h2
theorem c_cong {t t' : Nat → Nat} : ∀ {k : Nat}, (∀ i, i < k → t i = t' i) → smc t k = smc t' k := by
  intro k
  induction k with
  | zero => intro _; rfl
  | succ k ih =>
    intro h
    have e := ih (fun i hi => h i (by omega))
    have hag : ag t (k + 1) = ag t' (k + 1) := ag_cong h
    have hal : ∀ a b, a ≤ k + 1 → b ≤ k + 1 → al t a b = al t' a b := fun a b ha hb => al_cong (fun i hi => h i (by omega)) (fun i hi => h i (by omega))
    have hI := c_inv t' k
    have hq : smq t k (smc t k).1 (smc t k).2.1 (smc t k).2.2 = smq t' k (smc t' k).1 (smc t' k).2.1 (smc t' k).2.2 := by
      rw [e]
      unfold smq
      congr 1
      funext q
      unfold smP
      rw [hag]
      by_cases hqs : q < (smc t' k).1
      · have hf : (smc t' k).2.2 q ≤ k := (hI.2.1 q hqs).2
        apply propext
        refine and_congr_right (fun _ => and_congr_right (fun _ => ?_))
        exact ⟨fun g b hb => by rw [← hal _ _ (by omega) (by omega), ← hal _ _ (by omega) (by omega)]; exact g b hb, fun g b hb => by rw [hal _ _ (by omega) (by omega), hal _ _ (by omega) (by omega)]; exact g b hb⟩
      · simp [hqs]
    show (nS t k (smc t k).1 (smc t k).2.1 _, nLen t k (smc t k).1 (smc t k).2.1, nFe k (smc t k).1 (smc t k).2.2 _) = (nS t' k (smc t' k).1 (smc t' k).2.1 _, nLen t' k (smc t' k).1 (smc t' k).2.1, nFe k (smc t' k).1 (smc t' k).2.2 _)
    rw [hq, e]
    unfold nS nLen
    rw [hag]
/-- where a state was made, of which it is a clone -/
noncomputable def cMO (t : Nat → Nat) : Nat → (Nat → Int32) × (Nat → Int32)
  | 0 => (fun _ => 0, fun _ => -4)
  | k + 1 => (fun s => if s < cS t k then (cMO t k).1 s else nI (k + 1), fun s => if s < cS t k then (cMO t k).2 s else if s = cS t k then -4 else nI (cQ t k))
theorem cQ_cong {t t' : Nat → Nat} {k : Nat} (h : ∀ i, i < k + 1 → t i = t' i) : cQ t k = cQ t' k := by
  have e := c_cong (k := k) (fun i hi => h i (by omega))
  have e2 := c_cong (k := k + 1) h
  have e3 : cF t (k + 1) = cF t' (k + 1) := by unfold cF; rw [e2]
  have hI := c_inv t' k
  have hal : ∀ a b, a ≤ k + 1 → b ≤ k + 1 → al t a b = al t' a b := fun a b ha hb => al_cong (fun i hi => h i (by omega)) (fun i hi => h i (by omega))
  have hag : ag t (k + 1) = ag t' (k + 1) := ag_cong h
  have eS : cS t k = cS t' k := by unfold cS; rw [e]
  have eL : cL t k = cL t' k := by unfold cL; rw [e]
  have eF : cF t k = cF t' k := by unfold cF; rw [e]
  obtain ⟨a1, a2, a3⟩ := c_q (c_inv t k)
  obtain ⟨b1, b2, b3⟩ := c_q (c_inv t' k)
  rw [eS] at a1
  refine hI.2.2.1 _ _ a1 b1 (fun b hb => ?_)
  have hf1 := (hI.2.1 _ a1).2
  have hf2 := (hI.2.1 _ b1).2
  rw [b3 b hb, ← hag, ← hal _ _ (Nat.le_refl _) (by omega), ← a3 b hb, eL, eF, hal _ _ (by omega) (by omega)]
theorem cMO_cong {t t' : Nat → Nat} : ∀ {k : Nat}, (∀ i, i < k → t i = t' i) → cMO t k = cMO t' k := by
  intro k
  induction k with
  | zero => intro _; rfl
  | succ k ih =>
    intro h
    have e := c_cong (k := k) (fun i hi => h i (by omega))
    have eS : cS t k = cS t' k := by unfold cS; rw [e]
    unfold cMO
    rw [ih (fun i hi => h i (by omega)), eS, cQ_cong h]
def ClInv (t : Nat → Nat) (n K : Nat) (u : MSt) : Prop := CInv t n K (cS t n) (cL t n) (cF t n) u ∧ ∀ s, s < cS t n → gM_made u s = (cMO t n).1 s ∧ gM_original u s = (cMO t n).2 s
def RfInv (t : Nat → Nat) (n K : Nat) (r : RSt) : Prop := RInv t n K (cS t n) (cL t n) (cF t n) r ∧ ∀ s, s < cS t n → gR_made r s = (cMO t n).1 s ∧ gR_cloneOf r s = (cMO t n).2 s
theorem cMO_step {t : Nat → Nat} {n : Nat} {f g f' g' : Nat → Int32} (h0 : ∀ s, s < cS t n → f s = (cMO t n).1 s ∧ g s = (cMO t n).2 s) (h1 : ∀ s, s < cS t n → f' s = f s ∧ g' s = g s) (h2 : f' (cS t n) = nI (n + 1) ∧ g' (cS t n) = -4) (h3 : cL t n (cQ t n) ≠ ag t (n + 1) → f' (cS t n + 1) = nI (n + 1) ∧ g' (cS t n + 1) = nI (cQ t n)) : ∀ s, s < cS t (n + 1) → f' s = (cMO t (n + 1)).1 s ∧ g' s = (cMO t (n + 1)).2 s := by
  intro s hs
  rw [cS_s] at hs
  show f' s = (if s < cS t n then (cMO t n).1 s else nI (n + 1)) ∧ g' s = (if s < cS t n then (cMO t n).2 s else if s = cS t n then -4 else nI (cQ t n))
  rcases Nat.lt_trichotomy s (cS t n) with g1 | g1 | g1
  · rw [if_pos g1, if_pos g1, (h1 s g1).1, (h1 s g1).2]; exact h0 s g1
  · subst g1; rw [if_neg (by omega), if_neg (by omega), if_pos rfl]; exact h2
  · unfold nS at hs
    by_cases hl : cL t n (cQ t n) = ag t (n + 1)
    · rw [if_pos hl] at hs; omega
    · rw [if_neg hl] at hs
      have : s = cS t n + 1 := by omega
      subst this
      rw [if_neg (by omega), if_neg (by omega), if_neg (by omega)]
      exact h3 hl
theorem c_append {t : Nat → Nat} {n K : Nat} {u : MSt} (h : ClInv t n K u) (hn : n < 60) (hK : K ≤ 5) (hc : t n < K) {Q : MSt → Prop} (hQ : ∀ u', ClInv t (n + 1) K u' → gM_letters u' = upd (gM_letters u) n (nI (t n)) → Q u') : wpX2_append u (nI (t n)) Q := by
  obtain ⟨a1, a2, a3⟩ := c_q (c_inv t n)
  refine w_append (c_inv t n) h.1 hn hK hc a1 a3 a2 (fun u' h1 h2 h3 h4 h5 => hQ u' ⟨?_, ?_⟩ h5)
  · rw [cS_s, cL_s, cF_s]; exact h1
  · exact cMO_step h.2 h2 h3 h4
def RFr (r r' : RSt) : Prop := gR_sizes r' = gR_sizes r ∧ gR_sheets r' = gR_sheets r ∧ gR_keptLetters r' = gR_keptLetters r ∧ gR_keptMany r' = gR_keptMany r ∧ gR_keptText r' = gR_keptText r
theorem RFr.rf {r : RSt} : RFr r r := ⟨rfl, rfl, rfl, rfl, rfl⟩
theorem RFr.tr {a b c : RSt} (h : RFr a b) (g : RFr b c) : RFr a c := ⟨g.1.trans h.1, g.2.1.trans h.2.1, g.2.2.1.trans h.2.2.1, g.2.2.2.1.trans h.2.2.2.1, g.2.2.2.2.trans h.2.2.2.2⟩
theorem r_grows {t : Nat → Nat} {n K : Nat} {r : RSt} (h : RfInv t n K r) (hn : n < 60) (hK : K ≤ 5) (hc : ∀ i, i ≤ n → t i < K) {Q : RSt → Prop} (hQ : ∀ r', RfInv t (n + 1) K r' → RFr r r' → gR_text r' = upd (gR_text r) n (nI (t n)) → Q r') : wpX7_grows r (nI (t n)) Q := by
  obtain ⟨a1, a2, a3⟩ := c_q (c_inv t n)
  refine w_grows (c_inv t n) h.1 hn hK hc a1 a3 a2 (fun r' h1 h2 h3 h4 h5 h6 => hQ r' ⟨?_, ?_⟩ h5 h6)
  · rw [cS_s, cL_s, cF_s]; exact h1
  · exact cMO_step h.2 h2 h3 h4
/-- the start -/
theorem enS_0 (t : Nat → Nat) : enS t 0 0 0 = 1 := by
  unfold enS
  rw [show (1 : Int64) = lN (2 ^ 0) from rfl]
  refine (sv_of (N := 2 ^ 0) (by decide) (fun b _ => ?_)).symm
  rw [Nat.testBit_two_pow]
  cases b with
  | zero => simp
  | succ b => simp
theorem c_startOver (t : Nat → Nat) {u : MSt} {K : Nat} (hK : K ≤ 5) {Q : MSt → Prop} (hQ : ∀ u', ClInv t 0 K u' → gM_letters u' = gM_letters u → Q u') : wpX2_startOver u (nI K) Q := by
  obtain ⟨K', ln, st, l0, le, agr, mv, lo, li, ma, og, en⟩ := u
  unfold wpX2_startOver
  show wpX2_addState (nI K, 0, nI 0, l0, le, agr, mv, lo, li, ma, og, en) 0 _
  refine w_addState (by decide) (fun mv' h1 h2 => ?_)
  show Q (nI K, 0, nI 1, nI 0, le, kPut 61 agr (nI 0) (-1), mv', upd lo 0 0, upd li 0 (-4), upd ma 0 0, upd og 0 (-4), kPutL 121 (vp_updL en 0 0) (nI 0) 1)
  rw [kPut_nI (by decide), kPutL_nI (by decide)]
  have hs0 : ∀ s, s < cS t 0 → s = 0 := fun s hs => by have : cS t 0 = 1 := rfl; omega
  refine hQ _ ⟨⟨rfl, rfl, rfl, ⟨0, Nat.zero_lt_one, rfl, rfl, rfl⟩, fun i hi => absurd hi (Nat.not_lt_zero i), ⟨show upd agr 0 (-1) 0 = -1 from pk_us, fun e h1 h2 => by omega⟩, fun s c hs hc => ?_, fun s hs => ?_, ⟨show upd li 0 (-4) 0 = -4 from pk_us, fun s h1 h2 => by have := hs0 s h2; omega⟩, fun s hs => ?_⟩, fun s hs => ?_⟩ rfl
  · have hs := hs0 s hs
    subst hs
    exact Or.inr ⟨h1 c (by omega), fun e he => absurd he (Nat.not_lt_zero e)⟩
  · have hs := hs0 s hs
    subst hs
    show upd lo 0 0 0 = nI 0
    rw [pk_us]; rfl
  · have hs := hs0 s hs
    subst hs
    show vp_updL (vp_updL en 0 0) 0 1 0 = enS t 0 0 0
    rw [pk_uLs, enS_0]
  · have hs := hs0 s hs
    subst hs
    exact ⟨show upd ma 0 0 0 = 0 from pk_us, show upd og 0 (-4) 0 = -4 from pk_us⟩
theorem r_begins (t : Nat → Nat) {r : RSt} {K : Nat} {Q : RSt → Prop} (hQ : ∀ r', RfInv t 0 K r' → RFr r r' → gR_text r' = gR_text r → Q r') : wpX7_begins r (nI K) Q := by
  obtain ⟨K', nn, tx, sm', lo, ma, co, en, sz, shs, pa, kl, km, kt⟩ := r
  unfold wpX7_begins
  have hin : vp_in 0 121 := by unfold vp_in; decide
  refine ⟨hin, hin, hin, hin, ?_⟩
  show Q (nI K, 0, tx, 1, upd lo (0 : Int32).toNatClampNeg 0, upd ma (0 : Int32).toNatClampNeg 0, upd co (0 : Int32).toNatClampNeg (-4), vp_updL en (0 : Int32).toNatClampNeg 1, sz, shs, pa, kl, km, kt)
  rw [sb_cl0]
  have hs0 : ∀ s, s < cS t 0 → s = 0 := fun s hs => by have : cS t 0 = 1 := rfl; omega
  refine hQ _ ⟨⟨rfl, rfl, fun i hi => absurd hi (Nat.not_lt_zero i), rfl, fun s hs => ?_, fun s hs => ?_⟩, fun s hs => ?_⟩ RFr.rf rfl
  · have hs := hs0 s hs
    subst hs
    show upd lo 0 0 0 = nI 0
    rw [pk_us]; rfl
  · have hs := hs0 s hs
    subst hs
    show vp_updL en 0 1 0 = enS t 0 0 0
    rw [pk_uLs, enS_0]
  · have hs := hs0 s hs
    subst hs
    exact ⟨show upd ma 0 0 0 = 0 from pk_us, show upd co 0 (-4) 0 = -4 from pk_us⟩
/-- what is said of a text is said of its letters -/
theorem isLk_t {t t' : Nat → Nat} {n : Nat} {len fe : Nat → Nat} {s p : Nat} (h : ∀ a b, a ≤ n → b ≤ n → al t a b = al t' a b) (hs : fe s ≤ n) (hp : fe p ≤ n) (g : isLk t n len fe s p) : isLk t' n len fe s p :=
  ⟨g.1, by rw [← h _ _ hs hp]; exact g.2.1, fun b hb x => by rw [← h _ _ hs hb]; rw [← h _ _ hs hb] at x; exact g.2.2 b hb x⟩
theorem isMv_t {t t' : Nat → Nat} {n : Nat} {len fe : Nat → Nat} {s c u : Nat} (h0 : ∀ i, i < n → t i = t' i) (h : ∀ a b, a ≤ n → b ≤ n → al t a b = al t' a b) (hs : fe s ≤ n) (hu : fe u ≤ n) (g : isMv t n len fe s c u) : isMv t' n len fe s c u := by
  intro b hb
  rw [← h _ _ hu hb, g b hb]
  constructor
  · intro ⟨e, e1, e2, e3⟩
    exact ⟨e, e1, by rw [← h0 e (by omega)]; exact e2, by rw [← h _ _ hs (by omega)]; exact e3⟩
  · intro ⟨e, e1, e2, e3⟩
    exact ⟨e, e1, by rw [h0 e (by omega)]; exact e2, by rw [h _ _ hs (by omega)]; exact e3⟩
theorem noMv_t {t t' : Nat → Nat} {n : Nat} {len fe : Nat → Nat} {s c : Nat} (h0 : ∀ i, i < n → t i = t' i) (h : ∀ a b, a ≤ n → b ≤ n → al t a b = al t' a b) (hs : fe s ≤ n) (g : noMv t n len fe s c) : noMv t' n len fe s c := by
  intro e he e2 e3
  exact g e he (by rw [h0 e he]; exact e2) (by rw [h _ _ hs (by omega)]; exact e3)
theorem enS_t {t t' : Nat → Nat} {n l f : Nat} (h : ∀ a b, a ≤ n → b ≤ n → al t a b = al t' a b) (hf : f ≤ n) : enS t n l f = enS t' n l f := by
  unfold enS
  refine sv_ext (fun b _ => ?_)
  by_cases hb : b ≤ n
  · rw [h _ _ hf hb]
  · simp [hb]
theorem Cl_cong {t t' : Nat → Nat} {n K : Nat} {u : MSt} (h0 : ∀ i, i < n → t i = t' i) (g : ClInv t n K u) : ClInv t' n K u := by
  have e := c_cong h0
  have eS : cS t n = cS t' n := by unfold cS; rw [e]
  have eL : cL t n = cL t' n := by unfold cL; rw [e]
  have eF : cF t n = cF t' n := by unfold cF; rw [e]
  have hal : ∀ a b, a ≤ n → b ≤ n → al t a b = al t' a b := fun a b ha hb => al_cong (fun i hi => h0 i (by omega)) (fun i hi => h0 i (by omega))
  have hf : ∀ s, s < cS t' n → cF t' n s ≤ n := fun s hs => ((c_inv t' n).2.1 s hs).2
  obtain ⟨⟨c1, c2, c3, c4, c5, c6, c7, c8, c9, c10⟩, c11⟩ := g
  rw [eS, eL, eF] at *
  refine ⟨⟨c1, c2, c3, c4, fun i hi => by rw [c5 i hi, h0 i hi], ⟨c6.1, fun e h1 h2 => by rw [c6.2 e h1 h2, ag_cong (fun i hi => h0 i (by omega))]⟩, fun s c hs hc => ?_, c8, ⟨c9.1, fun s h1 h2 => ?_⟩, fun s hs => by rw [c10 s hs, enS_t hal (hf s hs)]⟩, fun s hs => by rw [← cMO_cong h0]; exact c11 s hs⟩
  · rcases c7 s c hs hc with ⟨v, v1, v2, v3⟩ | ⟨v1, v2⟩
    · exact Or.inl ⟨v, v1, v2, isMv_t h0 hal (hf s hs) (hf v v1) v3⟩
    · exact Or.inr ⟨v1, noMv_t h0 hal (hf s hs) v2⟩
  · obtain ⟨p, p1, p2, p3⟩ := c9.2 s h1 h2
    exact ⟨p, p1, p2, isLk_t hal (hf s h2) (hf p p1) p3⟩
theorem Rf_cong {t t' : Nat → Nat} {n K : Nat} {r : RSt} (h0 : ∀ i, i < n → t i = t' i) (g : RfInv t n K r) : RfInv t' n K r := by
  have e := c_cong h0
  have eS : cS t n = cS t' n := by unfold cS; rw [e]
  have eL : cL t n = cL t' n := by unfold cL; rw [e]
  have eF : cF t n = cF t' n := by unfold cF; rw [e]
  have hal : ∀ a b, a ≤ n → b ≤ n → al t a b = al t' a b := fun a b ha hb => al_cong (fun i hi => h0 i (by omega)) (fun i hi => h0 i (by omega))
  have hf : ∀ s, s < cS t' n → cF t' n s ≤ n := fun s hs => ((c_inv t' n).2.1 s hs).2
  obtain ⟨⟨c1, c2, c3, c4, c5, c6⟩, c7⟩ := g
  rw [eS, eL, eF] at *
  exact ⟨⟨c1, c2, fun i hi => by rw [c3 i hi, h0 i hi], c4, c5, fun s hs => by rw [c6 s hs, enS_t hal (hf s hs)]⟩, fun s hs => by rw [← cMO_cong h0]; exact c7 s hs⟩
