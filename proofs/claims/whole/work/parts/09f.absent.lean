/-! the shortest row of letters that is not there -/
def rdb (t : Nat → Nat) (n : Nat) (p : Nat → Bool) (g : Nat → Nat) : Nat → Nat → Bool
  | 0 => p
  | l + 1 => pc t n (rdb t n p g l) (g l)
theorem rdb_first {t : Nat → Nat} {n : Nat} {p : Nat → Bool} {g : Nat → Nat} : ∀ l, rdb t n p g (l + 1) = rdb t n (pc t n p (g 0)) (fun i => g (i + 1)) l := by
  intro l
  induction l with
  | zero => rfl
  | succ l ih =>
    show pc t n (rdb t n p g (l + 1)) (g (l + 1)) = pc t n (rdb t n (pc t n p (g 0)) (fun i => g (i + 1)) l) (g (l + 1))
    rw [ih]
theorem pc_cong {t : Nat → Nat} {n c : Nat} {p q : Nat → Bool} (h : ∀ b, b ≤ n → p b = q b) : ∀ b, b ≤ n → pc t n p c b = pc t n q c b := fun b hb => by
  unfold pc
  rw [h (b - 1) (by omega)]
theorem rdb_cong {t : Nat → Nat} {n : Nat} {p q : Nat → Bool} {g : Nat → Nat} (h : ∀ b, b ≤ n → p b = q b) : ∀ l b, b ≤ n → rdb t n p g l b = rdb t n q g l b := by
  intro l
  induction l with
  | zero => exact h
  | succ l ih => exact pc_cong ih
/-- rows of letters as numbers -/
def cd (K : Nat) : Nat → (Nat → Nat) → Nat
  | 0, _ => 0
  | m + 1, g => g 0 * K ^ m + cd K m (fun i => g (i + 1))
theorem cd_s (K m : Nat) (g : Nat → Nat) : cd K (m + 1) g = g 0 * K ^ m + cd K m (fun i => g (i + 1)) := rfl
theorem mul_gap {a b P c c' : Nat} (h : a < b) (hc : c < P) : a * P + c < b * P + c' := by
  have h1 := Nat.mul_le_mul_right P (show a + 1 ≤ b from h)
  rw [Nat.succ_mul] at h1
  omega
theorem cd_lt {K : Nat} : ∀ {m : Nat} {g : Nat → Nat}, (∀ i, i < m → g i < K) → cd K m g < K ^ m := by
  intro m
  induction m with
  | zero => intro g _; exact Nat.one_pos
  | succ m ih =>
    intro g h
    have h1 := ih (g := fun i => g (i + 1)) (fun i hi => h (i + 1) (by omega))
    have h2 := mul_gap (c' := 0) (h 0 (by omega)) h1
    rw [cd_s, Nat.pow_succ, Nat.mul_comm (K ^ m) K]
    omega
theorem cd_inj {K : Nat} : ∀ {m : Nat} {g f : Nat → Nat}, (∀ i, i < m → g i < K) → (∀ i, i < m → f i < K) → cd K m g = cd K m f → ∀ i, i < m → g i = f i := by
  intro m
  induction m with
  | zero => intro g f _ _ _ i hi; exact absurd hi (Nat.not_lt_zero i)
  | succ m ih =>
    intro g f hg hf he i hi
    have g1 : ∀ i, i < m → (fun i => g (i + 1)) i < K := fun i hi => hg (i + 1) (by omega)
    have f1 : ∀ i, i < m → (fun i => f (i + 1)) i < K := fun i hi => hf (i + 1) (by omega)
    have g2 := cd_lt g1
    have f2 := cd_lt f1
    rw [cd_s, cd_s] at he
    rcases Nat.lt_trichotomy (g 0) (f 0) with q | q | q
    · have := mul_gap (c' := cd K m (fun i => f (i + 1))) q g2
      omega
    · rw [q] at he
      cases i with
      | zero => exact q
      | succ i => exact ih g1 f1 (by omega) i (by omega)
    · have := mul_gap (c' := cd K m (fun i => g (i + 1))) q f2
      omega
def dt (K m x i : Nat) : Nat := x / K ^ (m - 1 - i) % K
theorem cd_dt (K x : Nat) : ∀ m, cd K m (dt K m x) = x % K ^ m := by
  intro m
  induction m with
  | zero => show 0 = x % 1; omega
  | succ m ih =>
    rw [cd_s, show (fun i => dt K (m + 1) x (i + 1)) = dt K m x from funext (fun i => by unfold dt; rw [show m + 1 - 1 - (i + 1) = m - 1 - i by omega]), ih]
    unfold dt
    rw [show m + 1 - 1 - 0 = m by omega, Nat.pow_succ, Nat.mod_mul, Nat.mul_comm]
    omega
section ABS
variable {t : Nat → Nat} {n K : Nat} {u : MSt} {r : RSt}
theorem rd_mv {s c v m b : Nat} {g : Nat → Nat} (hc : g 0 = c) (hm : isMv t n (cL t n) (cF t n) s c v) (hb : b ≤ n) : rdb t n (eE t n s) g (m + 1) b = rdb t n (eE t n v) (fun i => g (i + 1)) m b := by
  rw [rdb_first, hc]
  exact rdb_cong (eE_mv hm) m b hb
theorem rd_all (hB : Base t n K) : ∀ m s (g : Nat → Nat), s < cS t n → m < nD t n K s → (∀ i, i < m → g i < K) → ∃ b, b ≤ n ∧ rdb t n (eE t n s) g m b = true := by
  intro m
  induction m with
  | zero => intro s g hs _ _; exact ⟨_, eE_fe hs⟩
  | succ m ih =>
    intro s g hs hm hg
    have h1 := nD_low hB (s := s) (hg 0 (by omega))
    rcases mv_ex (c_inv t n) (c := g 0) hs with ⟨v, hv, hmv⟩ | hno
    · have e := nW_mv (K := K) hmv
      obtain ⟨b, b1, b2⟩ := ih v (fun i => g (i + 1)) hv (by omega) (fun i hi => hg (i + 1) (by omega))
      exact ⟨b, b1, by rw [rd_mv rfl hmv b1]; exact b2⟩
    · have := nW_no hB hno
      omega
theorem aw_lt (hB : Base t n K) : ∀ m s (f g : Nat → Nat), s < cS t n → AW t n K m s f → (∀ i, i < m → g i < K) → cd K m g < cd K m f → ∃ b, b ≤ n ∧ rdb t n (eE t n s) g m b = true := by
  intro m
  induction m with
  | zero => intro s f g _ h; exact h.elim
  | succ m ih =>
    intro s f g hs hA hg hlt
    have hf := aw_let hA
    obtain ⟨h0, hc, h1, h2, h3⟩ := hA
    have f2 := cd_lt (K := K) (m := m) (g := fun i => f (i + 1)) (fun i hi => hf (i + 1) (by omega))
    rw [cd_s, cd_s] at hlt
    rcases Nat.lt_trichotomy (g 0) (f 0) with q | q | q
    · have h4 := h1 _ q
      rcases mv_ex (c_inv t n) (c := g 0) hs with ⟨v, hv, hmv⟩ | hno
      · have e := nW_mv (K := K) hmv
        obtain ⟨b, b1, b2⟩ := rd_all hB m v (fun i => g (i + 1)) hv (by omega) (fun i hi => hg (i + 1) (by omega))
        exact ⟨b, b1, by rw [rd_mv rfl hmv b1]; exact b2⟩
      · have := nW_no hB hno
        omega
    · rw [q] at hlt
      rcases h3 with ⟨g1, _⟩ | ⟨v, hv, hmv, g2⟩
      · subst g1
        exact absurd hlt (by show ¬ f 0 * K ^ 0 + 0 < f 0 * K ^ 0 + 0; omega)
      · obtain ⟨b, b1, b2⟩ := ih v _ (fun i => g (i + 1)) hv g2 (fun i hi => hg (i + 1) (by omega)) (by omega)
        exact ⟨b, b1, by rw [rd_mv q hmv b1]; exact b2⟩
    · have := mul_gap (c' := cd K m (fun i => g (i + 1))) q f2
      omega
theorem aw_no : ∀ m s (f : Nat → Nat), AW t n K m s f → ∀ b, b ≤ n → rdb t n (eE t n s) f m b = false := by
  intro m
  induction m with
  | zero => intro s f h; exact h.elim
  | succ m ih =>
    intro s f hA b hb
    obtain ⟨h0, hc, h1, h2, h3⟩ := hA
    rcases h3 with ⟨g1, g2⟩ | ⟨v, hv, hmv, g2⟩
    · subst g1
      exact eE_no g2 b hb
    · rw [rd_mv rfl hmv hb]
      exact ih v _ g2 b hb
theorem we_rdb (hB : Base t n K) {g : Nat → Nat} : ∀ {l : Nat}, (∀ j, j < l → g j < K) → ∀ b, b ≤ n → we t n (fun j => nI (g j)) 0 l b = rdb t n (eE t n 0) g l b := by
  have hK5 := hB.2.2.1
  intro l
  induction l with
  | zero => intro _ b hb; rw [show rdb t n (eE t n 0) g 0 b = true from eE_0 b hb]; exact decide_eq_true hb
  | succ l ih =>
    intro hg b hb
    apply Bool.eq_iff_iff.mpr
    rw [we_s, show rdb t n (eE t n 0) g (l + 1) b = pc t n (rdb t n (eE t n 0) g l) (g l) b from rfl, pc_iff, ih (fun j hj => hg j (by omega)) (b - 1) (by omega), Nat.zero_add]
    have h1 := hg l (by omega)
    constructor
    · rintro ⟨q1, q2, q3, q4⟩
      have := hB.2.2.2 (b - 1) (by omega)
      exact ⟨q1, q2, nI_inj (by omega) (by omega) q3, q4⟩
    · rintro ⟨q1, q2, q3, q4⟩
      exact ⟨q1, q2, by rw [q3], q4⟩
theorem Gp_uo (t : Nat → Nat) (n i : Nat) : Gp t n (eE t n 0) (i + 1) = uo t (i + 1) n := by
  have hp : ∀ b, b ≤ n → eE t n 0 b = true := eE_0
  unfold Gp uo
  refine ct_cong (fun e he => ?_)
  have : FE t (eE t n 0) (i + 1) e ↔ (i + 1 ≤ e ∧ ag t e < i + 1) := by
    constructor
    · rintro ⟨h1, h2, h3⟩
      refine ⟨h1, ?_⟩
      rcases Nat.lt_or_ge (ag t e) (i + 1) with g | g
      · exact g
      · obtain ⟨b, b1, b2⟩ := ag_ex g
        have := al_le' t e b
        exact absurd b2 (h3 b b1 (by omega) (hp _ (by omega)))
    · rintro ⟨h1, h2⟩
      exact ⟨h1, hp _ (by omega), fun e' g1 g2 _ g4 => by have := ag_ge (t := t) g1; omega⟩
  by_cases hq : FE t (eE t n 0) (i + 1) e
  · rw [bF_iff.mpr hq]
    exact (decide_eq_true (this.mp hq)).symm
  · rw [bF_no hq]
    exact (decide_eq_false (fun h => hq (this.mpr h))).symm
theorem s97 (a : Nat) : (97 : Int32) + nI a - 97 = nI a := by
  rw [show (97 : Int32) = nI 97 from rfl, nI_add, pk_sub (by omega)]
  congr 1
  omega
theorem r_absent (hB : Base t n K) (hR : RfInv t n K r) {i d : Nat} {f : Nat → Nat} (hi : i < 4) (hA : AW t n K d 0 f) (hd0 : nD t n K 0 = d) {Q : Int32 → RSt → Prop} (hq : ∀ ss : Nat → Int32, (∀ j, j < d → ss (64 * i + j) = 97 + nI (f j)) → (∀ y j, y ≠ i → j < 64 → ss (64 * y + j) = gR_sheets r (64 * y + j)) → Q (nI d) (gR_set_sheets (gR_set_sizes r (upd (gR_sizes r) i (nI d))) ss)) : wpX7_absent r (nI i) Q := by
  have hn := hB.1
  have hK1 := hB.2.1
  have hK5 := hB.2.2.1
  have hS0 := (c_inv t n).1.1
  have hd1 : 1 ≤ d := by rw [← hd0]; exact nD_pos hB hS0
  have hd61 : d ≤ n + 1 := by rw [← hd0]; exact lw_le hK1 _
  have hlo : ∀ m, m < d → Gp t n (eE t n 0) m = K ^ m := fun m hm => (lw_ok hK1 (eE t n 0)).1 m (by rw [← hd0] at hm; exact hm)
  have hat : Gp t n (eE t n 0) d ≠ K ^ d := by
    have := (lw_ok (t := t) (n := n) hK1 (eE t n 0)).2
    rw [show lw K (Gp t n (eE t n 0)) = d from hd0] at this
    exact this
  have hpw : K ^ d ≤ 305 := by
    have h1 := hlo (d - 1) (by omega)
    have h2 := Gp_le t n (eE t n 0) (d - 1)
    rw [show d = d - 1 + 1 by omega, Nat.pow_succ, ← h1]
    have h3 := Nat.mul_le_mul (show Gp t n (eE t n 0) (d - 1) ≤ 61 by omega) hK5
    omega
  have hF : cd K d f < K ^ d := cd_lt (aw_let hA)
  unfold wpX7_absent
  intro X11 X45 X64 h11 h45 h64
  refine sheet_br (fun h => (not_sheet hi h).elim) (fun i' hi' _ => ?_)
  have hRp : ∀ ss : Nat → Int32, RfInv t n K (gR_set_sheets (gR_set_sizes r (upd (gR_sizes r) i (nI d))) ss) := fun ss => Rf_same rfl rfl rfl rfl rfl rfl rfl rfl hR
  have codes : ∀ e x (ss : Nat → Int32), x + e = cd K d f → (∀ y j, y ≠ i → j < 64 → ss (64 * y + j) = gR_sheets r (64 * y + j)) → X45 (nI d) (nI x) (gR_set_sheets (gR_set_sizes r (upd (gR_sizes r) i (nI d))) ss) := by
    intro e
    induction e with
    | zero =>
      intro x ss hx hss
      refine h45 _ _ _ (w_power hK1 hK5 (hR_al (hRp ss)) (x := d) (by omega) (fun v hv hv2 => ?_))
      have hv : v = K ^ d := by
        rcases hv2 with g | ⟨g1, g2⟩
        · exact g
        · omega
      rw [nI_l (by omega)]
      refine pl_le v x (fun g => by omega) (fun _ => ?_) rfl rfl (by omega) (by omega)
      have digits : ∀ p (ss : Nat → Int32) y, p ≤ d → y = x / K ^ (d - p) → (∀ j, p ≤ j → j < d → ss (64 * i + j) = 97 + nI (dt K d x j)) → (∀ y j, y ≠ i → j < 64 → ss (64 * y + j) = gR_sheets r (64 * y + j)) → X64 (nI d) (nI x) (nI y) (nI p + (-1)) (gR_set_sheets (gR_set_sizes r (upd (gR_sizes r) i (nI d))) ss) := by
        intro p
        induction p with
        | zero =>
          intro ss y _ _ hdg hss
          rw [m1_0]
          have hdt : ∀ j, j < d → dt K d x j < K := fun j _ => Nat.mod_lt _ hK1
          have heq : ∀ j, j < d → dt K d x j = f j := cd_inj hdt (aw_let hA) (by rw [cd_dt, Nat.mod_eq_of_lt (by omega)]; omega)
          refine h64 _ _ _ _ _ (br_t (by decide) ?_)
          have key := w_endsIn (a := 0) (l := d) (w := fun j => nI (dt K d x j)) hB (hRp ss) hi (by omega) (fun j hj => by
            show ss (64 * i + j) - 97 = _
            rw [hdg j (Nat.zero_le _) (by omega), s97]) (Q := fun r8 => ((r8 : Int64) = 0 → Q (nI d) (gR_set_sheets (gR_set_sizes r (upd (gR_sizes r) i (nI d))) ss)) ∧ (¬ ((r8 : Int64) = 0) → X45 (nI d) (nI x + 1) (gR_set_sheets (gR_set_sizes r (upd (gR_sizes r) i (nI d))) ss))) ?_
          · rw [Nat.zero_add] at key
            exact key
          refine br_t (sv_0.mpr (fun b _ => ?_)) (hq ss (fun j hj => by rw [hdg j (Nat.zero_le _) hj, heq j hj]) hss)
          cases hw : we t n (fun j => nI (dt K d x j)) 0 d b with
          | false => rfl
          | true =>
            have hbn := we_n hw
            rw [show (fun j => nI (dt K d x j)) = (fun j => nI ((fun j => dt K d x j) j)) from rfl, we_rdb hB (g := fun j => dt K d x j) hdt b hbn] at hw
            have hcg : ∀ l, l ≤ d → rdb t n (eE t n 0) (fun j => dt K d x j) l = rdb t n (eE t n 0) f l := by
              intro l
              induction l with
              | zero => intro _; rfl
              | succ l ihl =>
                intro hl
                show pc t n (rdb t n (eE t n 0) (fun j => dt K d x j) l) (dt K d x l) = pc t n (rdb t n (eE t n 0) f l) (f l)
                rw [ihl (by omega), heq l (by omega)]
            rw [hcg d (Nat.le_refl _), aw_no d 0 f hA b hbn] at hw
            exact absurd hw (by decide)
        | succ p ih =>
          intro ss y hp hy hdg hss
          rw [pk_m1]
          have hyx : y ≤ x := by rw [hy]; exact Nat.div_le_self _ _
          refine h64 _ _ _ _ _ (br_f (nI_pos (by omega)) ?_)
          rw [hR_al (hRp ss)]
          refine ⟨nI_ne0 hK1 (by omega), ?_⟩
          rw [ix64, nI_clamp (by omega), pk_rem (by omega) hK1 (by omega), pk_div (by omega) hK1 (by omega)]
          refine ⟨vp_in_nI (by omega) (by decide), nI_ne0 hK1 (by omega), ?_⟩
          refine ih (upd ss (64 * i + p) (97 + nI (y % K))) (y / K) (by omega) ?_ (fun j j1 j2 => ?_) (fun z j hz hj => ?_)
          · rw [hy, Nat.div_div_eq_div_mul, ← Nat.pow_succ, show (d - (p + 1)).succ = d - p by omega]
          · by_cases hjp : j = p
            · subst hjp
              rw [pk_us, hy]
              unfold dt
              rw [show d - (j + 1) = d - 1 - j by omega]
            · rw [pk_un (by omega)]; exact hdg j (by omega) j2
          · rw [pk_un (by omega)]; exact hss z j hz hj
      rw [m1_eq]
      exact digits d ss x (Nat.le_refl _) (by rw [Nat.sub_self, Nat.pow_zero, Nat.div_one]) (fun j j1 j2 => by omega) hss
    | succ e ihe =>
      intro x ss hx hss
      refine h45 _ _ _ (w_power hK1 hK5 (hR_al (hRp ss)) (x := d) (by omega) (fun v hv hv2 => ?_))
      have hv : v = K ^ d := by
        rcases hv2 with g | ⟨g1, g2⟩
        · exact g
        · omega
      rw [nI_l (by omega)]
      refine pl_le v x (fun g => by omega) (fun _ => ?_) rfl rfl (by omega) (by omega)
      have digits : ∀ p (ss : Nat → Int32) y, p ≤ d → y = x / K ^ (d - p) → (∀ j, p ≤ j → j < d → ss (64 * i + j) = 97 + nI (dt K d x j)) → (∀ y j, y ≠ i → j < 64 → ss (64 * y + j) = gR_sheets r (64 * y + j)) → X64 (nI d) (nI x) (nI y) (nI p + (-1)) (gR_set_sheets (gR_set_sizes r (upd (gR_sizes r) i (nI d))) ss) := by
        intro p
        induction p with
        | zero =>
          intro ss y _ _ hdg hss
          rw [m1_0]
          have hdt : ∀ j, j < d → (fun j => dt K d x j) j < K := fun j _ => Nat.mod_lt _ hK1
          refine h64 _ _ _ _ _ (br_t (by decide) ?_)
          have key := w_endsIn (a := 0) (l := d) (w := fun j => nI (dt K d x j)) hB (hRp ss) hi (by omega) (fun j hj => by
            show ss (64 * i + j) - 97 = _
            rw [hdg j (Nat.zero_le _) (by omega), s97]) (Q := fun r8 => ((r8 : Int64) = 0 → Q (nI d) (gR_set_sheets (gR_set_sizes r (upd (gR_sizes r) i (nI d))) ss)) ∧ (¬ ((r8 : Int64) = 0) → X45 (nI d) (nI x + 1) (gR_set_sheets (gR_set_sizes r (upd (gR_sizes r) i (nI d))) ss))) ?_
          · rw [Nat.zero_add] at key
            exact key
          refine br_f (fun h0 => ?_) ?_
          · obtain ⟨b, b1, b2⟩ := aw_lt hB d 0 f (fun j => dt K d x j) hS0 hA hdt (by
              show cd K d (dt K d x) < _
              rw [cd_dt, Nat.mod_eq_of_lt (by omega)]
              omega)
            have h1 := sv_0.mp h0 b (by omega)
            rw [we_rdb hB (g := fun j => dt K d x j) hdt b b1, b2] at h1
            exact absurd h1 (by decide)
          · rw [nI_1]
            exact ihe (x + 1) ss (by omega) hss
        | succ p ih =>
          intro ss y hp hy hdg hss
          rw [pk_m1]
          have hyx : y ≤ x := by rw [hy]; exact Nat.div_le_self _ _
          refine h64 _ _ _ _ _ (br_f (nI_pos (by omega)) ?_)
          rw [hR_al (hRp ss)]
          refine ⟨nI_ne0 hK1 (by omega), ?_⟩
          rw [ix64, nI_clamp (by omega), pk_rem (by omega) hK1 (by omega), pk_div (by omega) hK1 (by omega)]
          refine ⟨vp_in_nI (by omega) (by decide), nI_ne0 hK1 (by omega), ?_⟩
          refine ih (upd ss (64 * i + p) (97 + nI (y % K))) (y / K) (by omega) ?_ (fun j j1 j2 => ?_) (fun z j hz hj => ?_)
          · rw [hy, Nat.div_div_eq_div_mul, ← Nat.pow_succ, show (d - (p + 1)).succ = d - p by omega]
          · by_cases hjp : j = p
            · subst hjp
              rw [pk_us, hy]
              unfold dt
              rw [show d - (j + 1) = d - 1 - j by omega]
            · rw [pk_un (by omega)]; exact hdg j (by omega) j2
          · rw [pk_un (by omega)]; exact hss z j hz hj
      rw [m1_eq]
      exact digits d ss x (Nat.le_refl _) (by rw [Nat.sub_self, Nat.pow_zero, Nat.div_one]) (fun j j1 j2 => by omega) hss
  have sizes : ∀ e m, m + e = d → 1 ≤ m → X11 (nI m) r := by
    intro e
    induction e with
    | zero =>
      intro m hm h1
      have hm : m = d := by omega
      subst hm
      refine h11 _ _ ?_
      rw [hR_n hR]
      refine w_unlikeOf (r_txt hB hR) h1 (by omega) (Nat.le_refl _) (w_power hK1 hK5 (hR_al hR) (x := m) (by omega) (fun v hv hv2 => ?_))
      have hu := uo_le t m n
      have e1 := Gp_uo t n (m - 1)
      rw [show m - 1 + 1 = m by omega] at e1
      rw [nI_l (by omega)]
      refine br_f (fun h => ?_) ⟨vp_in_nI hi (by decide), ?_⟩
      · have h2 := (pk_lEQ (by omega) (by omega)).mp h
        rcases hv2 with g | ⟨g1, g2⟩
        · exact hat (by rw [e1, h2]; exact g)
        · omega
      · rw [nI_clamp (by omega)]
        exact codes (cd K m f) 0 (gR_sheets r) (by omega) (fun _ _ _ _ => rfl)
    | succ e ih =>
      intro m hm h1
      refine h11 _ _ ?_
      rw [hR_n hR]
      refine w_unlikeOf (r_txt hB hR) h1 (by omega) (Nat.le_refl _) (w_power hK1 hK5 (hR_al hR) (x := m) (by omega) (fun v hv hv2 => ?_))
      have hu := uo_le t m n
      have e1 := Gp_uo t n (m - 1)
      rw [show m - 1 + 1 = m by omega, hlo m (by omega)] at e1
      have hv : v = uo t m n := by
        rcases hv2 with g | ⟨g1, g2⟩
        · omega
        · omega
      rw [nI_l (by omega), nI_1]
      exact br_t (by rw [hv]) (ih (m + 1) (by omega) (by omega))
  exact sizes (d - 1) 1 (by omega) (Nat.le_refl _)
end ABS
theorem LS19_ok : LS19 Rel := by
  rintro ⟨uM, uW, sh, im⟩ r x1 ⟨t, n, K, hB, hC, hR, hS, hI⟩
  have hC : ClInv t n K uM := hC
  have hS : ShR sh (gR_sizes r) (gR_sheets r) := hS
  have hI : ImR im (gR_keptLetters r) (gR_keptMany r) (gR_keptText r) := hI
  have hrel : Rel (uM, uW, sh, im) r := ⟨t, n, K, hB, hC, hR, hS, hI⟩
  have hn := hB.1
  unfold wpX6_absent
  refine ⟨fun h => ?_, fun i hi e => ?_⟩
  · unfold wpX7_absent
    intro X11 X45 X64 h11 h45 h64
    exact sheet_br (fun _ => ⟨rfl, hrel⟩) (fun i hi e => by subst e; exact (not_sheet hi h).elim)
  subst e
  have hS0 := (c_inv t n).1.1
  have hd1 := nD_pos hB hS0
  have hd61 : nD t n K 0 ≤ n + 1 := lw_le hB.2.1 _
  obtain ⟨d, hd⟩ : ∃ d, nD t n K 0 = d + 1 := ⟨nD t n K 0 - 1, by omega⟩
  obtain ⟨f, hf⟩ := aw_ex hB d 0 hS0 hd
  refine w_writeAbsent hB hC hf (by omega) (fun w' s' a1 a2 a3 => ?_)
  refine r_absent hB hR hi hf hd (fun ss b1 b2 => ⟨a2, t, n, K, hB, hC, Rf_same rfl rfl rfl rfl rfl rfl rfl rfl hR, ?_, hI⟩)
  exact ShR_up hS (k := d + 1) (by omega) a1 a2 pk_us (fun j hj => by rw [a3 j hj]; exact (b1 j hj).symm) (fun x hx => pk_un hx) b2
