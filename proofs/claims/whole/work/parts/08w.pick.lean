/-! picking a state, writing its word -/
def ahd (t : Nat → Nat) (a b : Nat) : Nat → Bool
  | 0 => false
  | m + 1 => if t (a - (m + 1)) = t (b - (m + 1)) then ahd t a b m else decide (t (a - (m + 1)) < t (b - (m + 1)))
theorem ahd_s (t : Nat → Nat) (a b m : Nat) : ahd t a b (m + 1) = if t (a - (m + 1)) = t (b - (m + 1)) then ahd t a b m else decide (t (a - (m + 1)) < t (b - (m + 1))) := rfl
theorem ahd_tr {t : Nat → Nat} {a b c : Nat} : ∀ {m : Nat}, ahd t a b m = true → ahd t b c m = true → ahd t a c m = true := by
  intro m
  induction m with
  | zero => intro h; exact absurd (show false = true from h) (by decide)
  | succ m ih =>
    rw [ahd_s, ahd_s, ahd_s]
    intro h1 h2
    by_cases e1 : t (a - (m + 1)) = t (b - (m + 1))
    · rw [if_pos e1] at h1
      by_cases e2 : t (b - (m + 1)) = t (c - (m + 1))
      · rw [if_pos e2] at h2
        rw [if_pos (e1.trans e2)]
        exact ih h1 h2
      · rw [if_neg e2] at h2
        rw [if_neg (by rw [e1]; exact e2), e1]
        exact h2
    · rw [if_neg e1] at h1
      have h1 := of_decide_eq_true h1
      by_cases e2 : t (b - (m + 1)) = t (c - (m + 1))
      · rw [if_neg (by rw [← e2]; exact e1), ← e2]
        exact decide_eq_true h1
      · rw [if_neg e2] at h2
        have h2 := of_decide_eq_true h2
        rw [if_neg (by omega)]
        exact decide_eq_true (by omega)
theorem ahd_tot {t : Nat → Nat} {a b : Nat} : ∀ {m : Nat}, ahd t a b m = false → ahd t b a m = false → ∀ j, j < m → t (a - (j + 1)) = t (b - (j + 1)) := by
  intro m
  induction m with
  | zero => intro _ _ j hj; omega
  | succ m ih =>
    rw [ahd_s, ahd_s]
    intro h1 h2
    by_cases e1 : t (a - (m + 1)) = t (b - (m + 1))
    · rw [if_pos e1] at h1
      rw [if_pos e1.symm] at h2
      intro j hj
      rcases Nat.lt_or_ge j m with g | g
      · exact ih h1 h2 j g
      · rw [show j = m by omega]; exact e1
    · rw [if_neg e1] at h1
      rw [if_neg (fun q => e1 q.symm)] at h2
      have h1 := of_decide_eq_false h1
      have h2 := of_decide_eq_false h2
      omega
theorem ahd_al {t : Nat → Nat} {a b m : Nat} (h1 : ahd t a b m = false) (h2 : ahd t b a m = false) (ha : m ≤ a) (hb : m ≤ b) : m ≤ al t a b := al_at.mpr ⟨ha, hb, fun j hj => by
  have := ahd_tot h1 h2 j hj
  rw [show a - (j + 1) = a - 1 - j by omega, show b - (j + 1) = b - 1 - j by omega] at this
  exact this⟩
section PICK
variable {t : Nat → Nat} {n K : Nat} {u : MSt} {r : RSt}
theorem w_isAheadC (hB : Base t n K) (hC : ClInv t n K u) {w : WSt} {s s' a b m : Nat} (h1 : fX2_firstEndOf u (nI s) = nI a) (h2 : fX2_firstEndOf u (nI s') = nI b) (ha : a ≤ n) (hb : b ≤ n) (hma : m ≤ a) (hmb : m ≤ b) {Q : Int32 → Prop} (hq : Q (if ahd t a b m then 1 else 0)) : wpX5_isAhead w u (nI s) (nI s') (nI m) Q := by
  have hn := hB.1
  have hK5 := hB.2.2.1
  unfold wpX5_isAhead
  intro X h
  rw [h1, h2]
  have loop : ∀ m, m ≤ a → m ≤ b → Q (if ahd t a b m then 1 else 0) → X (nI a) (nI b) (nI m) := by
    intro m
    induction m with
    | zero => intro _ _ hq; exact h _ _ _ (br_t (by decide) hq)
    | succ m ih =>
      intro ha' hb' hq
      refine h _ _ _ (br_f (nI_nle (by omega) (by omega)) ?_)
      have k1 := hB.2.2.2 (a - (m + 1)) (by omega)
      have k2 := hB.2.2.2 (b - (m + 1)) (by omega)
      rw [pk_sub ha', pk_sub hb', c_letter hB hC (by omega), c_letter hB hC (by omega), pk_m1]
      rw [ahd_s] at hq
      refine pk_eq _ _ (fun q => ?_) (fun q => ?_) rfl rfl (by omega) (by omega)
      · rw [if_pos q] at hq
        exact ih (by omega) (by omega) hq
      · rw [if_neg q] at hq
        refine pk_le _ _ (fun g => ?_) (fun g => ?_) rfl rfl (by omega) (by omega)
        · rw [decide_eq_false (by omega)] at hq; exact hq
        · rw [decide_eq_true (by omega)] at hq; exact hq
  exact loop m hma hmb hq
theorem w_isAheadR (hB : Base t n K) (hR : RfInv t n K r) {a b m : Nat} (ha : a ≤ n) (hb : b ≤ n) (hma : m ≤ a) (hmb : m ≤ b) {Q : Int32 → Prop} (hq : Q (if ahd t a b m then 1 else 0)) : wpX7_isAhead r (nI a) (nI b) (nI m) Q := by
  have hn := hB.1
  have hK5 := hB.2.2.1
  have hT := r_txt hB hR
  unfold wpX7_isAhead
  intro X X35 h h35
  have loop : ∀ m, m ≤ a → m ≤ b → Q (if ahd t a b m then 1 else 0) → X (nI m) := by
    intro m
    induction m with
    | zero => intro _ _ hq; exact h _ (br_t (by decide) (h35 _ (br_t (by decide) hq)))
    | succ m ih =>
      intro ha' hb' hq
      have k1 := hB.2.2.2 (a - (m + 1)) (by omega)
      have k2 := hB.2.2.2 (b - (m + 1)) (by omega)
      have e1 : vp_in (nI a - nI (m + 1)) 60 := by rw [pk_sub ha']; exact vp_in_nI (by omega) (by decide)
      have e2 : vp_in (nI b - nI (m + 1)) 60 := by rw [pk_sub hb']; exact vp_in_nI (by omega) (by decide)
      have f1 : gR_text r (nI a - nI (m + 1)).toNatClampNeg = nI (t (a - (m + 1))) := by rw [pk_sub ha', nI_clamp (by omega)]; exact hT.2.1 _ (by omega)
      have f2 : gR_text r (nI b - nI (m + 1)).toNatClampNeg = nI (t (b - (m + 1))) := by rw [pk_sub hb', nI_clamp (by omega)]; exact hT.2.1 _ (by omega)
      refine h _ (br_f (nI_nle (by omega) (by omega)) ⟨e1, e2, ?_⟩)
      rw [f1, f2, pk_m1]
      rw [ahd_s] at hq
      refine pk_eq _ _ (fun q => ?_) (fun q => ?_) rfl rfl (by omega) (by omega)
      · rw [if_pos q] at hq
        exact ih (by omega) (by omega) hq
      · rw [if_neg q] at hq
        refine h35 _ (br_f (nI_nle (by omega) (by omega)) ⟨e1, e2, ?_⟩)
        rw [f1, f2]
        refine pk_le _ _ (fun g => ?_) (fun g => ?_) rfl rfl (by omega) (by omega)
        · rw [decide_eq_false (by omega)] at hq; exact hq
        · rw [decide_eq_true (by omega)] at hq; exact hq
  exact loop m hma hmb hq
theorem addLetter_S {sg : Nat → Int32} {th x : Int32} {j : Nat} (hj : j < 64) : fX4_addLetter (sg, th, nI j) x = (upd sg j (97 + x), th, nI (j + 1)) := by
  unfold fX4_addLetter
  show (if (64 : Int32) ≤ nI j then (sg, th, nI j) else gS_set_length (fX4_write (sg, th, nI j) (nI j) (97 + x)) ((gS_length (fX4_write (sg, th, nI j) (nI j) (97 + x))) + 1)) = _
  have h64 : ¬ (64 : Int32) ≤ nI j := nI_ge (b := 64) hj (by decide)
  rw [if_neg h64, write_S hj]
  show (upd sg j (97 + x), th, nI j + 1) = _
  rw [nI_1]
theorem w_copyWord (hB : Base t n K) (hC : ClInv t n K u) {s : SSt} {e m : Nat} (he : e ≤ n) (hm : m ≤ e) {Q : SSt → Prop} (hq : ∀ s', gS_there s' = 1 → gS_length s' = nI m → (∀ j, j < m → gS_signs s' j = 97 + nI (t (e - m + j))) → Q s') : wpX4_copyWord u s (nI e) (nI m) Q := by
  have hn := hB.1
  unfold wpX4_copyWord
  intro X h
  refine w_layOut (k := 0) (by decide) (fun s1 a1 a2 _ => ?_)
  obtain ⟨sg, th, ln⟩ := s1
  have a1 : th = 1 := a1
  have a2 : ln = nI 0 := a2
  subst a1; subst a2
  rw [pk_sub hm]
  have loop : ∀ d j, j + d = m → ∀ sg : Nat → Int32, (∀ i, i < j → sg i = 97 + nI (t (e - m + i))) → X (nI (e - m + j)) (sg, 1, nI j) := by
    intro d
    induction d with
    | zero =>
      intro j hj sg hsg
      have hj : j = m := by omega
      subst hj
      exact h _ _ (br_t (nI_le (by omega) (by omega)) (hq _ rfl rfl hsg))
    | succ d ih =>
      intro j hj sg hsg
      refine h _ _ (br_f (nI_ge (by omega) (by omega)) ?_)
      rw [c_letter hB hC (by omega), addLetter_S (by omega), nI_1]
      refine ih (j + 1) (by omega) _ (fun i hi => ?_)
      by_cases hij : i = j
      · subst hij; exact pk_us
      · rw [pk_un hij]; exact hsg i (by omega)
  exact loop m 0 (Nat.zero_add _) sg (fun i hi => absurd hi (Nat.not_lt_zero i))
theorem w_toSheet (hB : Base t n K) (hR : RfInv t n K r) {i e m : Nat} (hi : i < 4) (he : e ≤ n) (hm : m ≤ e) {Q : Int32 → RSt → Prop} (hq : ∀ ss : Nat → Int32, (∀ j, j < m → ss (64 * i + j) = 97 + nI (t (e - m + j))) → (∀ y j, y ≠ i → j < 64 → ss (64 * y + j) = gR_sheets r (64 * y + j)) → Q (nI m) (gR_set_sheets (gR_set_sizes r (upd (gR_sizes r) i (nI m))) ss)) : wpX7_toSheet r (nI e) (nI m) (nI i) Q := by
  have hn := hB.1
  have hT := r_txt hB hR
  unfold wpX7_toSheet
  intro X h
  refine ⟨vp_in_nI hi (by decide), ?_⟩
  rw [nI_clamp (by omega)]
  have loop : ∀ d x, x + d = m → ∀ ss : Nat → Int32, (∀ j, j < x → ss (64 * i + j) = 97 + nI (t (e - m + j))) → (∀ y j, y ≠ i → j < 64 → ss (64 * y + j) = gR_sheets r (64 * y + j)) → X (nI x) (gR_set_sheets (gR_set_sizes r (upd (gR_sizes r) i (nI m))) ss) := by
    intro d
    induction d with
    | zero =>
      intro x hx ss h5 h6
      have hx : x = m := by omega
      subst hx
      exact h _ _ (br_t (nI_le (Nat.le_refl _) (by omega)) (hq ss h5 h6))
    | succ d ih =>
      intro x hx ss h5 h6
      refine h _ _ (br_f (nI_ge (by omega) (by omega)) ?_)
      rw [pk_sub hm, nI_add, ix64, nI_clamp (by omega), nI_clamp (by omega), nI_1]
      refine ⟨vp_in_nI (by omega) (by decide), vp_in_nI (by omega) (by decide), ?_⟩
      refine ih (x + 1) (by omega) (upd ss (64 * i + x) (97 + gR_text r (e - m + x))) (fun j hj => ?_) (fun y j hy hj => ?_)
      · by_cases hjx : j = x
        · subst hjx; rw [pk_us, hT.2.1 _ (by omega)]
        · rw [pk_un (by omega)]; exact h5 j (by omega)
      · rw [pk_un (by omega)]; exact h6 y j hy hj
  exact loop m 0 (Nat.zero_add _) (gR_sheets r) (fun j hj => absurd hj (Nat.not_lt_zero j)) (fun _ _ _ _ => rfl)
theorem fst_ex (hB : Base t n K) (hC : ClInv t n K u) : ∃ fst : Nat → Nat, ∀ s, s < cS t n → fst s ≤ n ∧ cL t n s ≤ al t (cF t n s) (fst s) ∧ (∀ j, j < fst s → ¬ cL t n s ≤ al t (cF t n s) j) ∧ fX2_firstEndOf u (nI s) = nI (fst s) := by
  have h : ∀ s, ∃ e, s < cS t n → e ≤ n ∧ cL t n s ≤ al t (cF t n s) e ∧ (∀ j, j < e → ¬ cL t n s ≤ al t (cF t n s) j) ∧ fX2_firstEndOf u (nI s) = nI e := fun s => by
    by_cases hs : s < cS t n
    · obtain ⟨e, h⟩ := c_firstEnd hB hC hs
      exact ⟨e, fun _ => h⟩
    · exact ⟨0, fun q => absurd q hs⟩
  exact ⟨fun s => Classical.choose (h s), fun s hs => Classical.choose_spec (h s) hs⟩
theorem sho_ex (hB : Base t n K) (hC : ClInv t n K u) (hR : RfInv t n K r) : ∃ sho : Nat → Nat, ∀ s, s < cS t n → sho s ≤ cL t n s ∧ (∀ b, b ≤ n → (cL t n s ≤ al t (cF t n s) b ↔ sho s ≤ al t (cF t n s) b)) ∧ fX2_shortestOf u (nI s) = nI (sho s) ∧ ∀ Q : Int32 → Prop, Q (nI (sho s)) → wpX7_shortest r (nI s) Q := by
  have hI := c_inv t n
  have h121 := cs_le hB
  have h : ∀ s, ∃ m, s < cS t n → m ≤ cL t n s ∧ (∀ b, b ≤ n → (cL t n s ≤ al t (cF t n s) b ↔ m ≤ al t (cF t n s) b)) ∧ fX2_shortestOf u (nI s) = nI m ∧ ∀ Q : Int32 → Prop, Q (nI m) → wpX7_shortest r (nI s) Q := fun s => by
    by_cases hs : s < cS t n
    · rcases Nat.eq_zero_or_pos s with g | g
      · subst g
        refine ⟨0, fun _ => ⟨Nat.zero_le _, fun b _ => by rw [hI.1.2.1], ?_, fun Q hQ => ?_⟩⟩
        · unfold fX2_shortestOf
          rw [if_pos (by decide)]; rfl
        · unfold wpX7_shortest
          exact br_t rfl hQ
      · obtain ⟨p, p1, p2, p3⟩ := c_link hB hC g hs
        have hlp := p3.1
        refine ⟨cL t n p + 1, fun _ => ⟨hlp, fun b hb => ⟨fun q => by omega, fun q => p3.2.2 b hb (by omega)⟩, ?_, fun Q hQ => ?_⟩⟩
        · unfold fX2_shortestOf
          rw [if_neg (nI_nle g (by omega)), p2, c_longest hB hC p1, nI_1]
        · unfold wpX7_shortest
          refine br_f (nI_ne0 g (by omega)) (w_linkOf hB hR hs p1 p3 ⟨vp_in_nI (by omega) (by decide), ?_⟩)
          rw [nI_clamp (by omega), r_longest hR p1, nI_1]
          exact hQ
    · exact ⟨0, fun q => absurd q hs⟩
  exact ⟨fun s => Classical.choose (h s), fun s hs => Classical.choose_spec (h s) hs⟩
end PICK
