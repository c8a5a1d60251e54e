/-! the reference: its reads, and a letter that comes -/
def RInv (t : Nat → Nat) (n K S : Nat) (len fe : Nat → Nat) (r : RSt) : Prop :=
  gR_letters r = nI K ∧ gR_n r = nI n ∧ (∀ i, i < n → gR_text r i = nI (t i)) ∧ gR_stateMany r = nI S ∧ (∀ s, s < S → gR_longest r s = nI (len s)) ∧ (∀ s, s < S → gR_ends r s = enS t n (len s) (fe s))
def Txt (t : Nat → Nat) (m : Nat) (r : RSt) : Prop := m ≤ 60 ∧ (∀ i, i < m → gR_text r i = nI (t i)) ∧ ∀ i, i < m → t i < 5
section REF
variable {t : Nat → Nat} {m : Nat} {r : RSt}
theorem w_alikeAt (hT : Txt t m r) {a b : Nat} (ha : a ≤ m) (hb : b ≤ m) {Q : Int32 → Prop} (hq : Q (nI (al t a b))) : wpX7_alikeAt r (nI a) (nI b) Q := by
  obtain ⟨hm, hT1, hT2⟩ := hT
  unfold wpX7_alikeAt
  intro X h
  have h1 := al_le t a b
  have h2 := al_le' t a b
  have loop : ∀ d k, k + d = al t a b → X (nI k) := by
    intro d
    induction d with
    | zero =>
      intro k hk
      have hk : k = al t a b := by omega
      refine h _ (pk_le a k (fun _ => by rw [hk]; exact hq) (fun g1 => pk_le b k (fun _ => by rw [hk]; exact hq) (fun g2 => ?_)))
      rw [show (1 : Int32) = nI 1 from rfl, pk_sub (by omega), pk_sub (by omega), pk_sub (by omega), pk_sub (by omega)]
      refine ⟨vp_in_nI (by omega) (by decide), vp_in_nI (by omega) (by decide), ?_⟩
      rw [nI_clamp (by omega), nI_clamp (by omega), hT1 _ (by omega), hT1 _ (by omega)]
      refine br_f (fun e => ?_) (by rw [hk]; exact hq)
      have e1 := nI_inj (by have := hT2 (a - 1 - k) (by omega); omega) (by have := hT2 (b - 1 - k) (by omega); omega) e
      have : k + 1 ≤ al t a b := al_at.mpr ⟨by omega, by omega, fun j hj => by
        rcases Nat.lt_or_ge j k with g | g
        · exact (al_at.mp (show k ≤ al t a b by omega)).2.2 j g
        · rw [show j = k by omega]; exact e1⟩
      omega
    | succ d ih =>
      intro k hk
      refine h _ (br_f (nI_ge (by omega) (by omega)) (br_f (nI_ge (by omega) (by omega)) ?_))
      rw [show (1 : Int32) = nI 1 from rfl, pk_sub (by omega), pk_sub (by omega), pk_sub (by omega), pk_sub (by omega)]
      refine ⟨vp_in_nI (by omega) (by decide), vp_in_nI (by omega) (by decide), ?_⟩
      rw [nI_clamp (by omega), nI_clamp (by omega), hT1 _ (by omega), hT1 _ (by omega)]
      have e1 := (al_at.mp (show k + 1 ≤ al t a b by omega)).2.2 k (by omega)
      refine br_t (by rw [e1]) ?_
      rw [nI_add]
      exact ih (k + 1) (by omega)
  exact loop _ 0 (Nat.zero_add _)
theorem agTo_le (t : Nat → Nat) (e : Nat) : ∀ k, agTo t e k ≤ e := by
  intro k
  induction k with
  | zero => exact Nat.zero_le _
  | succ k ih => unfold agTo; have := al_le t e k; omega
theorem w_againAt (hT : Txt t m r) {e : Nat} (he : e ≤ m) {Q : Int32 → Prop} (hq : Q (nI (ag t e))) : wpX7_againAt r (nI e) Q := by
  have hm := hT.1
  unfold wpX7_againAt
  intro X h
  have loop : ∀ d b, b + d = e → X (nI (agTo t e b)) (nI b) := by
    intro d
    induction d with
    | zero =>
      intro b hb
      have hb : b = e := by omega
      subst hb
      exact h _ _ (br_t (nI_le (Nat.le_refl _) (by omega)) hq)
    | succ d ih =>
      intro b hb
      have hl := agTo_le t e b
      have hl2 := al_le t e b
      refine h _ _ (br_f (nI_ge (by omega) (by omega)) (w_alikeAt hT he (by omega) ?_))
      have hx := ih (b + 1) (by omega)
      unfold agTo at hx
      rw [nI_1]
      refine pk_le (al t e b) (agTo t e b) (fun g => ?_) (fun g => w_alikeAt hT he (by omega) ?_)
      · rw [show max (agTo t e b) (al t e b) = agTo t e b by omega] at hx; exact hx
      · rw [show max (agTo t e b) (al t e b) = al t e b by omega] at hx; exact hx
  exact loop e 0 (Nat.zero_add _)
theorem w_endsOf (hT : Txt t m r) {e size up : Nat} (he : e ≤ m) (hs : size ≤ e) (hu : up ≤ m) {Q : Int64 → Prop} (hq : Q (enS t up size e)) : wpX7_endsOf r (nI e) (nI size) (nI up) Q := by
  have hm := hT.1
  unfold wpX7_endsOf
  intro X6 X31 X39 h6 h31 h39
  have fin : ∀ b, up < b → b ≤ 61 → X6 (sv (fun x => decide (x < b ∧ x ≤ up ∧ size ≤ al t e x))) (nI b) := by
    intro b h1 h2
    refine h6 _ _ (br_t (nI_lt h1 (by omega)) ?_)
    rw [show sv (fun x => decide (x < b ∧ x ≤ up ∧ size ≤ al t e x)) = enS t up size e from sv_ext (fun x _ => by
      by_cases hx : x ≤ up
      · simp [hx, show x < b by omega]
      · simp [hx])]
    exact hq
  have loop : ∀ d b, b + d = up + 1 → size ≤ b → X6 (sv (fun x => decide (x < b ∧ x ≤ up ∧ size ≤ al t e x))) (nI b) := by
    intro d
    induction d with
    | zero => intro b h1 h2; exact fin b (by omega) (by omega)
    | succ d ih =>
      intro b h1 h2
      have hx := ih (b + 1) (by omega) (by omega)
      have yes : size ≤ al t e b → X31 (nI b) (sv (fun x => decide (x < b ∧ x ≤ up ∧ size ≤ al t e x))) := by
        intro hy
        refine h31 _ _ (h39 _ _ _ ?_)
        rw [sv_bit (by omega), sv_or, nI_1]
        rw [show sv (fun b_1 => decide (b_1 < b ∧ b_1 ≤ up ∧ size ≤ al t e b_1) || decide (b_1 = b)) = sv (fun x => decide (x < b + 1 ∧ x ≤ up ∧ size ≤ al t e x)) from sv_ext (fun x _ => by
          by_cases hxb : x = b
          · subst hxb; simp [hy]; omega
          · by_cases hlt : x < b
            · simp [hlt, hxb, show x < b + 1 by omega]
            · simp [hlt, hxb, show ¬ x < b + 1 by omega])]
        exact hx
      refine h6 _ _ (br_f (nI_nlt (by omega) (by omega)) (pk_eq b e (fun g => ?_) (fun g => w_alikeAt hT he (by omega) ?_)))
      · subst g
        exact yes (by rw [al_self]; exact hs)
      · refine pk_lt (al t e b) size (fun g2 => ?_) (fun g2 => yes g2) rfl rfl (by have := al_le t e b; omega) (by omega)
        refine h39 _ _ _ ?_
        rw [nI_1, ← sv_nil, sv_or]
        rw [show sv (fun b_1 => decide (b_1 < b ∧ b_1 ≤ up ∧ size ≤ al t e b_1) || false) = sv (fun x => decide (x < b + 1 ∧ x ≤ up ∧ size ≤ al t e x)) from sv_ext (fun x _ => by
          by_cases hxb : x = b
          · subst hxb; simp; omega
          · by_cases hlt : x < b
            · simp [hlt, show x < b + 1 by omega]
            · simp [hlt, show ¬ x < b + 1 by omega])]
        exact hx
  have start : sv (fun x => decide (x < size ∧ x ≤ up ∧ size ≤ al t e x)) = 0 := sv_0.mpr (fun b _ => by
    simp
    intro h1 _
    have := al_le' t e b
    omega)
  rcases Nat.lt_or_ge up size with g | g
  · have := fin size g (by omega)
    rw [start] at this
    exact this
  · have := loop (up + 1 - size) size (by omega) (Nat.le_refl _)
    rw [start] at this
    exact this
theorem w_stateOf {S : Nat} (hS : gR_stateMany r = nI S) (hS2 : S ≤ 121) {x : Int64} {Q : Int32 → Prop} (hy : ∀ s, s < S → gR_ends r s = x → (∀ s', s' < S → gR_ends r s' = x → s' = s) → Q (nI s)) (hn : (∀ s, s < S → gR_ends r s ≠ x) → Q (-4)) (huq : ∀ s s', s < S → s' < S → gR_ends r s = x → gR_ends r s' = x → s = s') : wpX7_stateOf r x Q := by
  unfold wpX7_stateOf
  intro X h
  have loop : ∀ d k (v : Int32), k + d = S → ((v = -4 ∧ ∀ s, s < k → gR_ends r s ≠ x) ∨ ∃ s, s < k ∧ v = nI s ∧ gR_ends r s = x) → X v (nI k) := by
    intro d
    induction d with
    | zero =>
      intro k v hk hv
      have hk : k = S := by omega
      subst hk
      refine h _ _ (br_t (by rw [hS]; exact nI_le (Nat.le_refl _) (by omega)) ?_)
      rcases hv with ⟨h1, h2⟩ | ⟨s, h1, h2, h3⟩
      · rw [h1]; exact hn h2
      · rw [h2]; exact hy s h1 h3 (fun s' a b => huq s' s a h1 b h3)
    | succ d ih =>
      intro k v hk hv
      refine h _ _ (br_f (by rw [hS]; exact nI_ge (by omega) (by omega)) ⟨vp_in_nI (by omega) (by decide), ?_⟩)
      rw [nI_clamp (by omega), nI_1]
      by_cases he : gR_ends r k = x
      · exact br_t he (ih (k + 1) _ (by omega) (Or.inr ⟨k, by omega, rfl, he⟩))
      · refine br_f he (ih (k + 1) _ (by omega) ?_)
        rcases hv with ⟨h1, h2⟩ | ⟨s, h1, h2, h3⟩
        · refine Or.inl ⟨h1, fun s hs => ?_⟩
          rcases Nat.lt_or_ge s k with g | g
          · exact h2 s g
          · rw [show s = k by omega]; exact he
        · exact Or.inr ⟨s, by omega, h2, h3⟩
  exact loop S 0 _ (Nat.zero_add _) (Or.inl ⟨rfl, fun s hs => absurd hs (Nat.not_lt_zero s)⟩)
end REF
theorem enS_eq {t : Nat → Nat} {n l f l' f' : Nat} (hn : n ≤ 60) : enS t n l f = enS t n l' f' ↔ ∀ b, b ≤ n → (l ≤ al t f b ↔ l' ≤ al t f' b) := by
  unfold enS
  rw [sv_eq]
  constructor
  · intro h b hb
    have := h b (by omega)
    simp only [hb, true_and] at this
    exact decide_eq_decide.mp this
  · intro h b _
    by_cases hb : b ≤ n
    · simp [hb, h b hb]
    · simp [hb]
theorem w_least_en {t : Nat → Nat} {n l f : Nat} (hn : n ≤ 60) (hf : f ≤ n) (hl : l ≤ f) {Q : Int32 → Prop} (hq : ∀ e, e ≤ n → l ≤ al t f e → (∀ j, j < e → ¬ l ≤ al t f j) → Q (nI e)) : wpX7_least (enS t n l f) Q := by
  obtain ⟨e, h1, h2⟩ := pk_least (fun e => l ≤ al t f e) ⟨f, by rw [al_self]; exact hl⟩
  have hef : e ≤ n := by
    rcases Nat.lt_or_ge f e with g | g
    · exact absurd (by rw [al_self]; exact hl) (h2 f g)
    · omega
  unfold enS
  exact w_least (l := e) (by omega) (by simp [hef, h1]) (fun j hj => by simp; intro _; have := h2 j hj; omega) (hq e hef h1 h2)
section RGROW
variable {t : Nat → Nat} {n S K q : Nat} {len fe : Nat → Nat}
theorem w_joins {K' nn : Int32} {tx lo ma co : Nat → Int32} {en : Nat → Int64} {sz shs pa kl km kt : Nat → Int32} {S : Nat} (hS : S < 121) {x1 x2 : Int32} {x3 : Int64} {Q : RSt → Prop} (hq : Q (K', nn, tx, nI (S + 1), upd lo S x1, upd ma S nn, upd co S x2, vp_updL en S x3, sz, shs, pa, kl, km, kt)) : wpX7_joins (K', nn, tx, nI S, lo, ma, co, en, sz, shs, pa, kl, km, kt) x1 x2 x3 Q := by
  unfold wpX7_joins
  have hin : vp_in (nI S) 121 := vp_in_nI hS (by decide)
  refine ⟨hin, hin, hin, hin, ?_⟩
  show Q (K', nn, tx, nI S + 1, upd lo (nI S).toNatClampNeg x1, upd ma (nI S).toNatClampNeg nn, upd co (nI S).toNatClampNeg x2, vp_updL en (nI S).toNatClampNeg x3, sz, shs, pa, kl, km, kt)
  rw [nI_1, nI_clamp (by omega)]
  exact hq
set_option maxHeartbeats 4000000 in
theorem w_grows (hI : SInv t n S len fe) {r : RSt} (hR : RInv t n K S len fe r) (hn : n < 60) (hK : K ≤ 5) (ht : ∀ i, i ≤ n → t i < K) (hq : q < S) (hel : ∀ b, b ≤ n → (len q ≤ al t (fe q) b ↔ ag t (n + 1) ≤ al t (n + 1) b)) (hA : ag t (n + 1) ≤ len q) {Q : RSt → Prop}
    (hQ : ∀ r', RInv t (n + 1) K (nS t n S len q) (nLen t n S len) (nFe n S fe q) r' → (∀ s, s < S → gR_made r' s = gR_made r s ∧ gR_cloneOf r' s = gR_cloneOf r s) → (gR_made r' S = nI (n + 1) ∧ gR_cloneOf r' S = -4) → (len q ≠ ag t (n + 1) → gR_made r' (S + 1) = nI (n + 1) ∧ gR_cloneOf r' (S + 1) = nI q) → (gR_sizes r' = gR_sizes r ∧ gR_sheets r' = gR_sheets r ∧ gR_keptLetters r' = gR_keptLetters r ∧ gR_keptMany r' = gR_keptMany r ∧ gR_keptText r' = gR_keptText r) → gR_text r' = upd (gR_text r) n (nI (t n)) → Q r') :
    wpX7_grows r (nI (t n)) Q := by
  obtain ⟨K', nn, tx, sm', lo, ma, co, en, sz, shs, pa, kl, km, kt⟩ := r
  obtain ⟨r1, r2, r3, r4, r5, r6⟩ := hR
  have r1 : K' = nI K := r1
  have r2 : nn = nI n := r2
  have r4 : sm' = nI S := r4
  subst r1; subst r2; subst r4
  have r3 : ∀ i, i < n → tx i = nI (t i) := r3
  have r5 : ∀ s, s < S → lo s = nI (len s) := r5
  have r6 : ∀ s, s < S → en s = enS t n (len s) (fe s) := r6
  have hS1 := hI.1.1
  have hS2 := hI.1.2.2
  have hqA := q_in hI hq hel
  have hlen : ∀ s, s < S → len s ≤ n := fun s hs => by have := hI.2.1 s hs; omega
  have hag : ag t (n + 1) ≤ n := by have := ag_lt (t := t) (e := n + 1) (by omega); omega
  have htx : ∀ i, i < n + 1 → upd tx n (nI (t n)) i = nI (t i) := fun i hi => by
    by_cases h : i = n
    · subst h; exact pk_us
    · rw [pk_un h]; exact r3 i (by omega)
  have hT : ∀ en', Txt t (n + 1) (nI K, nI (n + 1), upd tx n (nI (t n)), nI S, lo, ma, co, en', sz, shs, pa, kl, km, kt) := fun en' => ⟨by omega, htx, fun i hi => by have := ht i (by omega); omega⟩
  unfold wpX7_grows
  intro X55 X114 X115 X140 h55 h114 h115 h140
  refine ⟨vp_in_nI (by omega) (by decide), ?_⟩
  show wpX7_againAt (nI K, nI n + 1, upd tx (nI n).toNatClampNeg (nI (t n)), nI S, lo, ma, co, en, sz, shs, pa, kl, km, kt) (nI n + 1) (fun r1 => wpX7_endsOf (nI K, nI n + 1, upd tx (nI n).toNatClampNeg (nI (t n)), nI S, lo, ma, co, en, sz, shs, pa, kl, km, kt) (nI n + 1) r1 ((nI n + 1) - 1) (fun r2 => wpX7_stateOf (nI K, nI n + 1, upd tx (nI n).toNatClampNeg (nI (t n)), nI S, lo, ma, co, en, sz, shs, pa, kl, km, kt) r2 (fun r3 => X55 r1 r2 r3 0 (nI K, nI n + 1, upd tx (nI n).toNatClampNeg (nI (t n)), nI S, lo, ma, co, en, sz, shs, pa, kl, km, kt))))
  rw [nI_1, nI_clamp (by omega), nI_pred]
  refine w_againAt (hT en) (Nat.le_refl _) ?_
  refine w_endsOf (hT en) (Nat.le_refl _) (by omega) (by omega) ?_
  have helder : en q = enS t n (ag t (n + 1)) (n + 1) := by rw [r6 q hq, enS_eq (by omega)]; exact hel
  have huq0 : ∀ s s', s < S → s' < S → en s = enS t n (ag t (n + 1)) (n + 1) → en s' = enS t n (ag t (n + 1)) (n + 1) → s = s' := fun s s' hs hs' h1 h2 => by
    rw [r6 s hs] at h1
    rw [r6 s' hs'] at h2
    exact hI.2.2.1 s s' hs hs' ((enS_eq (by omega)).mp (h1.trans h2.symm))
  refine w_stateOf (S := S) rfl (by omega) (fun s hs he huq => ?_) (fun hno => absurd helder (hno q hq)) huq0
  have hsq : q = s := huq q hq helder
  subst hsq
  -- the loop over the states
  have loop : ∀ d k (enc : Nat → Int64), k + d = S → (∀ s, s < k → enc s = enS t (n + 1) (len s) (fe s)) → (∀ s, k ≤ s → enc s = en s) → X55 (nI (ag t (n + 1))) (enS t n (ag t (n + 1)) (n + 1)) (nI q) (nI k) (nI K, nI (n + 1), upd tx n (nI (t n)), nI S, lo, ma, co, enc, sz, shs, pa, kl, km, kt) := by
    intro d
    induction d with
    | zero =>
      intro k enc hk h1 h2
      have hk : k = S := by omega
      subst hk
      refine h55 _ _ _ _ _ (br_t (nI_le (Nat.le_refl _) (by omega)) ?_)
      refine w_joins (by omega) ⟨vp_in_nI (by omega) (by decide), ?_⟩
      rw [nI_clamp (by omega)]
      show (upd lo k (nI (n + 1)) q ≤ nI (ag t (n + 1)) → _) ∧ (¬ upd lo k (nI (n + 1)) q ≤ nI (ag t (n + 1)) → _)
      rw [pk_un (by omega), r5 q hq]
      have henw : (1 : Int64) <<< ((nI (n + 1)).toInt64 &&& 63) = enS t (n + 1) (n + 1) (n + 1) := by
        rw [sv_bit (by omega)]
        unfold enS
        refine sv_ext (fun b _ => ?_)
        by_cases hb : b = n + 1
        · subst hb; simp [al_self]
        · have := al_le' t (n + 1) b
          simp [hb]; omega
      have hlq := hlen q hq
      refine pk_le (len q) (ag t (n + 1)) (fun g => ?_) (fun g => ?_)
      · have hl : len q = ag t (n + 1) := by omega
        have hnS : nS t n k len q = k + 1 := if_pos hl
        rw [hnS] at hQ
        refine hQ _ ⟨rfl, rfl, htx, rfl, fun s hs => ?_, fun s hs => ?_⟩ (fun s hs => ⟨pk_un (by omega), pk_un (by omega)⟩) ⟨pk_us, pk_us⟩ (fun g => absurd hl g) ⟨rfl, rfl, rfl, rfl, rfl⟩ rfl
        · show upd lo k (nI (n + 1)) s = _
          by_cases hs2 : s = k
          · subst hs2; rw [pk_us, nLen_S]
          · rw [pk_un hs2, nLen_o (by omega)]; exact r5 s (by omega)
        · show vp_updL enc k _ s = _
          by_cases hs2 : s = k
          · subst hs2; rw [pk_uLs, nLen_S, nFe_S]; exact henw
          · rw [pk_uLn hs2, nLen_o (by omega), nFe_o (by omega)]; exact h1 s (by omega)
      · have hnS : nS t n k len q = k + 2 := if_neg (by omega)
        rw [hnS] at hQ
        refine w_joins (by omega) ?_
        refine hQ _ ⟨rfl, rfl, htx, rfl, fun s hs => ?_, fun s hs => ?_⟩ (fun s hs => ⟨(pk_un (by omega)).trans (pk_un (by omega)), (pk_un (by omega)).trans (pk_un (by omega))⟩) ⟨(pk_un (by omega)).trans pk_us, (pk_un (by omega)).trans pk_us⟩ (fun _ => ⟨pk_us, pk_us⟩) ⟨rfl, rfl, rfl, rfl, rfl⟩ rfl
        · show upd (upd lo k (nI (n + 1))) (k + 1) _ s = _
          rcases Nat.lt_trichotomy s k with g1 | g1 | g1
          · rw [pk_un (by omega), pk_un (by omega), nLen_o g1]; exact r5 s g1
          · subst g1; rw [pk_un (by omega), pk_us, nLen_S]
          · have hs1 : s = k + 1 := by omega
            subst hs1; rw [pk_us, nLen_c]
        · show vp_updL (vp_updL enc k _) (k + 1) (_ ||| ((1 : Int64) <<< ((nI (n + 1)).toInt64 &&& 63))) s = _
          rcases Nat.lt_trichotomy s k with g1 | g1 | g1
          · rw [pk_uLn (by omega), pk_uLn (by omega), nLen_o g1, nFe_o g1]; exact h1 s g1
          · subst g1; rw [pk_uLn (by omega), pk_uLs, nLen_S, nFe_S]; exact henw
          · have hs1 : s = k + 1 := by omega
            subst hs1
            rw [pk_uLs, nLen_c, nFe_c, sv_bit (by omega)]
            unfold enS
            rw [sv_or]
            refine sv_ext (fun b _ => ?_)
            by_cases hb : b = n + 1
            · subst hb; simp [al_sym hqA]
            · by_cases hb2 : b ≤ n
              · have : ag t (n + 1) ≤ al t (n + 1) b ↔ ag t (n + 1) ≤ al t (fe q) b := ⟨fun x => al_tri (al_sym hqA) x, fun x => al_tri hqA x⟩
                simp [hb, hb2, show b ≤ n + 1 by omega, this]
              · simp [hb, hb2, show ¬ b ≤ n + 1 by omega]
    | succ d ih =>
      intro k enc hk h1 h2
      have hkS : k < S := by omega
      refine h55 _ _ _ _ _ (br_f (nI_ge (by omega) (by omega)) ⟨vp_in_nI (by omega) (by decide), ?_⟩)
      rw [nI_clamp (by omega)]
      show wpX7_least (enc k) _
      have hfk := hI.2.1 k hkS
      rw [h2 k (Nat.le_refl _), r6 k hkS]
      refine w_least_en (by omega) hfk.2 hfk.1 (fun e he1 he2 he3 => ⟨vp_in_nI (by omega) (by decide), ?_⟩)
      show (nI (n + 1) < lo k → _) ∧ (¬ nI (n + 1) < lo k → _)
      rw [r5 k hkS]
      have hlk := hlen k hkS
      refine br_f (nI_nlt (by omega) (by omega)) (w_alikeAt (hT enc) (by omega) (Nat.le_refl _) ⟨vp_in_nI (by omega) (by decide), ?_⟩)
      show (nI (al t e (n + 1)) < lo k → _) ∧ (¬ nI (al t e (n + 1)) < lo k → _)
      rw [r5 k hkS]
      have hsame : len k ≤ al t e (n + 1) ↔ len k ≤ al t (fe k) (n + 1) := ⟨fun x => al_tri he2 x, fun x => al_tri (al_sym he2) x⟩
      have step : ∀ (z : Int64), (enS t n (len k) (fe k) ||| z) = enS t (n + 1) (len k) (fe k) → X140 (nI (ag t (n + 1))) (enS t n (ag t (n + 1)) (n + 1)) (nI q) (nI k) z (enS t n (len k) (fe k)) (nI k) (nI K, nI (n + 1), upd tx n (nI (t n)), nI S, lo, ma, co, enc, sz, shs, pa, kl, km, kt) := by
        intro z hz
        refine h140 _ _ _ _ _ _ _ _ ⟨vp_in_nI (by omega) (by decide), ?_⟩
        show X55 _ _ _ (nI k + 1) (nI K, nI (n + 1), upd tx n (nI (t n)), nI S, lo, ma, co, vp_updL enc (nI k).toNatClampNeg (enS t n (len k) (fe k) ||| z), sz, shs, pa, kl, km, kt)
        rw [nI_1, nI_clamp (by omega), hz]
        refine ih (k + 1) _ (by omega) (fun s hs => ?_) (fun s hs => ?_)
        · by_cases hsk : s = k
          · subst hsk; exact pk_uLs
          · rw [pk_uLn hsk]; exact h1 s (by omega)
        · rw [pk_uLn (by omega)]; exact h2 s (by omega)
      have hek : gR_ends (nI K, nI (n + 1), upd tx n (nI (t n)), nI S, lo, ma, co, enc, sz, shs, pa, kl, km, kt) k = enS t n (len k) (fe k) := (h2 k (Nat.le_refl _)).trans (r6 k hkS)
      have hal60 := al_le t e (n + 1)
      refine pk_lt (al t e (n + 1)) (len k) (fun g => ?_) (fun g => ?_)
      · refine h114 _ _ _ _ _ (h115 _ _ _ _ _ _ ⟨vp_in_nI (by omega) (by decide), br_t rfl ?_⟩)
        rw [nI_clamp (by omega), hek]
        refine step 0 ?_
        rw [← sv_nil]
        unfold enS
        rw [sv_or]
        have hno : ¬ len k ≤ al t (fe k) (n + 1) := fun x => by have := hsame.mpr x; omega
        refine sv_ext (fun b _ => ?_)
        by_cases hb : b = n + 1
        · subst hb; simp [hno]
        · by_cases hb2 : b ≤ n
          · simp [hb2, show b ≤ n + 1 by omega]
          · simp [hb2, show ¬ b ≤ n + 1 by omega]
      · refine h115 _ _ _ _ _ _ ⟨vp_in_nI (by omega) (by decide), br_f (by decide) ?_⟩
        rw [nI_clamp (by omega), hek]
        refine step _ ?_
        show _ ||| ((1 : Int64) <<< ((nI (n + 1)).toInt64 &&& 63)) = _
        rw [sv_bit (by omega)]
        unfold enS
        rw [sv_or]
        have hyes := hsame.mp g
        refine sv_ext (fun b _ => ?_)
        by_cases hb : b = n + 1
        · subst hb; simp [hyes]
        · by_cases hb2 : b ≤ n
          · simp [hb, hb2, show b ≤ n + 1 by omega]
          · simp [hb, hb2, show ¬ b ≤ n + 1 by omega]
  exact loop S 0 en (Nat.zero_add _) (fun s hs => absurd hs (Nat.not_lt_zero s)) (fun s _ => rfl)
end RGROW
