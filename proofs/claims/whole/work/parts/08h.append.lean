/-! a letter comes: the class -/
def MvOK (t : Nat → Nat) (n S : Nat) (len fe : Nat → Nat) (v : Int32) (s c : Nat) : Prop := (∃ u, u < S ∧ v = nI u ∧ isMv t n len fe s c u) ∨ (v = -4 ∧ noMv t n len fe s c)
def enS (t : Nat → Nat) (n l f : Nat) : Int64 := sv (fun b => decide (b ≤ n ∧ l ≤ al t f b))
def CInv (t : Nat → Nat) (n K S : Nat) (len fe : Nat → Nat) (u : MSt) : Prop :=
  gM_alphabet u = nI K ∧ gM_length u = nI n ∧ gM_states u = nI S ∧ (∃ la, la < S ∧ len la = n ∧ fe la = n ∧ gM_last u = nI la) ∧
  (∀ i, i < n → gM_letters u i = nI (t i)) ∧ (gM_again u 0 = -1 ∧ ∀ e, 0 < e → e ≤ n → gM_again u e = nI (ag t e)) ∧
  (∀ s c, s < S → c < K → MvOK t n S len fe (gM_moves u (s * 5 + c)) s c) ∧
  (∀ s, s < S → gM_longest u s = nI (len s)) ∧
  (gM_link u 0 = -4 ∧ ∀ s, 0 < s → s < S → ∃ p, p < S ∧ gM_link u s = nI p ∧ isLk t n len fe s p) ∧
  (∀ s, s < S → gM_ends u s = enS t n (len s) (fe s))
def nS (t : Nat → Nat) (n S : Nat) (len : Nat → Nat) (q : Nat) : Nat := if len q = ag t (n + 1) then S + 1 else S + 2
def nLen (t : Nat → Nat) (n S : Nat) (len : Nat → Nat) : Nat → Nat := fun s => if s < S then len s else if s = S then n + 1 else ag t (n + 1)
def nFe (n S : Nat) (fe : Nat → Nat) (q : Nat) : Nat → Nat := fun s => if s < S then fe s else if s = S then n + 1 else fe q
section APP
variable {t : Nat → Nat} {n S K q : Nat} {len fe : Nat → Nat}
theorem nLen_o {s : Nat} (h : s < S) : nLen t n S len s = len s := if_pos h
theorem nLen_S : nLen t n S len S = n + 1 := by unfold nLen; rw [if_neg (by omega), if_pos rfl]
theorem nLen_c : nLen t n S len (S + 1) = ag t (n + 1) := by unfold nLen; rw [if_neg (by omega), if_neg (by omega)]
theorem nFe_o {s : Nat} (h : s < S) : nFe n S fe q s = fe s := if_pos h
theorem nFe_S : nFe n S fe q S = n + 1 := by unfold nFe; rw [if_neg (by omega), if_pos rfl]
theorem nFe_c : nFe n S fe q (S + 1) = fe q := by unfold nFe; rw [if_neg (by omega), if_neg (by omega)]
theorem nInv (h : SInv t n S len fe) (hq : q < S) (hel : ∀ b, b ≤ n → (len q ≤ al t (fe q) b ↔ ag t (n + 1) ≤ al t (n + 1) b)) (hA : ag t (n + 1) ≤ len q) : SInv t (n + 1) (nS t n S len q) (nLen t n S len) (nFe n S fe q) := by
  refine S_step h hq hel hA (fun s => nLen_o) (fun s => nFe_o) nLen_S nFe_S ?_
  unfold nS
  by_cases hs : len q = ag t (n + 1)
  · rw [if_pos hs]; exact Or.inl ⟨rfl, hs⟩
  · rw [if_neg hs]; exact Or.inr ⟨rfl, by omega, nLen_c, nFe_c⟩
theorem nI_m4 {a : Nat} (h : a < 2 ^ 31) : ¬ nI a = -4 := fun e => by
  have := nI_pos h
  rw [e] at this
  exact this (by decide)
/-- from a state that ends the old text and had no move: to the state of all of the text -/
theorem M_toS {s : Nat} (hs : s < S) (hsu : len s ≤ al t (fe s) n) (hm : noMv t n len fe s (t n)) : isMv t (n + 1) (nLen t n S len) (nFe n S fe q) s (t n) S := by
  intro b hb
  rw [nLen_S, nFe_S, nLen_o hs, nFe_o hs]
  constructor
  · intro h1
    have := al_le' t (n + 1) b
    exact ⟨n, by omega, rfl, hsu⟩
  · intro ⟨e, h1, h2, h3⟩
    rcases Nat.lt_or_ge e n with g | g
    · exact absurd h3 (hm e g h2)
    · rw [show b = n + 1 by omega, al_self]; exact Nat.le_refl _
theorem M_toC (h : SInv t n S len fe) (hq : q < S) (hel : ∀ b, b ≤ n → (len q ≤ al t (fe q) b ↔ ag t (n + 1) ≤ al t (n + 1) b)) {s : Nat} (hs : s < S) (hsu : len s ≤ al t (fe s) n) (hm : isMv t n len fe s (t n) q) : isMv t (n + 1) (nLen t n S len) (nFe n S fe q) s (t n) (S + 1) := by
  have hqA := q_in h hq hel
  intro b hb
  rw [nLen_c, nFe_c, nLen_o hs, nFe_o hs]
  rcases Nat.lt_or_ge b (n + 1) with g | g
  · rw [← hm b (by omega), hel b (by omega)]
    exact ⟨fun x => al_tri hqA x, fun x => al_tri (al_sym hqA) x⟩
  · rw [show b = n + 1 by omega]
    exact ⟨fun _ => ⟨n, rfl, rfl, hsu⟩, fun _ => al_sym hqA⟩
theorem N_S {c : Nat} : noMv t (n + 1) (nLen t n S len) (nFe n S fe q) S c := by
  intro e he _ h
  rw [nLen_S, nFe_S] at h
  have := al_le' t (n + 1) e
  omega
theorem M_up {s c u : Nat} (hs : s < S) (hu : u < S) (h : isMv t (n + 1) len fe s c u) : isMv t (n + 1) (nLen t n S len) (nFe n S fe q) s c u := isMv_cong (nLen_o hs) (nFe_o hs) (nLen_o hu) (nFe_o hu) h
theorem N_up {s c : Nat} (hs : s < S) (h : noMv t (n + 1) len fe s c) : noMv t (n + 1) (nLen t n S len) (nFe n S fe q) s c := noMv_cong (nLen_o hs) (nFe_o hs) h
/-- what is split off has the old ends of the split one -/
theorem C_ends (h : SInv t n S len fe) (hq : q < S) (hel : ∀ b, b ≤ n → (len q ≤ al t (fe q) b ↔ ag t (n + 1) ≤ al t (n + 1) b)) : ∀ e, e ≤ n → (nLen t n S len (S + 1) ≤ al t (nFe n S fe q (S + 1)) e ↔ nLen t n S len q ≤ al t (nFe n S fe q q) e) := by
  have hqA := q_in h hq hel
  intro e he
  rw [nLen_c, nFe_c, nLen_o hq, nFe_o hq, hel e he]
  exact ⟨fun x => al_tri hqA x, fun x => al_tri (al_sym hqA) x⟩
/-- the end of a letter's coming, when states, links and moves stand -/
theorem app_end {agr mvF loF liF maF ogF leF : Nat → Int32} {enF : Nat → Int64} {l0 : Int32} {S' zz : Nat} (hn : n < 60) (hS : S < S') (hS2 : S' ≤ 121)
    (hI : SInv t (n + 1) S' (nLen t n S len) (nFe n S fe q)) (hz : zz < S') (hz2 : zz ≠ S) (hzl : nLen t n S len zz = ag t (n + 1)) (hzk : isLk t (n + 1) (nLen t n S len) (nFe n S fe q) S zz) (h0 : 0 < S)
    (hle : ∀ i, i < n + 1 → leF i = nI (t i)) (hag : agr 0 = -1 ∧ ∀ e, 0 < e → e ≤ n → agr e = nI (ag t e))
    (hmv : ∀ s c, s < S' → c < K → MvOK t (n + 1) S' (nLen t n S len) (nFe n S fe q) (mvF (s * 5 + c)) s c)
    (hlo : ∀ s, s < S' → loF s = nI (nLen t n S len s)) (hl0 : liF 0 = -4)
    (hlk : ∀ s, 0 < s → s < S' → s ≠ S → ∃ p, p < S' ∧ liF s = nI p ∧ isLk t (n + 1) (nLen t n S len) (nFe n S fe q) s p)
    (hen : ∀ s, s < S' → enF s = enS t n (nLen t n S len s) (nFe n S fe q s)) {Q : MSt → Prop}
    (hQ : ∀ (en' : Nat → Int64) (ag2 : Nat → Int32), CInv t (n + 1) K S' (nLen t n S len) (nFe n S fe q) (nI K, nI (n + 1), nI S', nI S, leF, ag2, mvF, loF, upd liF S (nI zz), maF, ogF, en') → Q (nI K, nI (n + 1), nI S', nI S, leF, ag2, mvF, loF, upd liF S (nI zz), maF, ogF, en')) :
    wpX2_markEnd (gM_set_last (gM_set_link (nI K, nI (n + 1), nI S', l0, leF, agr, mvF, loF, liF, maF, ogF, enF) (kPut 121 liF (nI S) (nI zz))) (nI S)) (fun uM10 =>
      Q (gM_set_again uM10 (kPut 61 (gM_again uM10) (gM_length uM10) (fX2_longestOf uM10 (fX2_linkOf uM10 (nI S)))))) := by
  rw [kPut_nI (by omega)]
  show wpX2_markEnd (nI K, nI (n + 1), nI S', nI S, leF, agr, mvF, loF, upd liF S (nI zz), maF, ogF, enF) _
  have hlk' : ∀ s, 0 < s → s < S' → ∃ p, p < S' ∧ upd liF S (nI zz) s = nI p ∧ isLk t (n + 1) (nLen t n S len) (nFe n S fe q) s p := by
    intro s h1 h2
    by_cases hs : s = S
    · subst hs; exact ⟨zz, hz, pk_us, hzk⟩
    · obtain ⟨p, a, b, c⟩ := hlk s h1 h2 hs
      exact ⟨p, a, by rw [pk_un hs]; exact b, c⟩
  have hl0' : upd liF S (nI zz) 0 = -4 := by rw [pk_un (by omega)]; exact hl0
  refine w_markEnd hI (by omega) hS2 hl0' hlk' hS nLen_S nFe_S (fun en' he1 he2 => ?_)
  rw [linkOf_at (S := S') rfl hS hS2]
  rw [show gM_link (nI K, nI (n + 1), nI S', nI S, leF, agr, mvF, loF, upd liF S (nI zz), maF, ogF, en') S = nI zz from pk_us, longestOf_at (by omega)]
  rw [show gM_longest (nI K, nI (n + 1), nI S', nI S, leF, agr, mvF, loF, upd liF S (nI zz), maF, ogF, en') zz = nI (ag t (n + 1)) from (hlo zz hz).trans (by rw [hzl])]
  show Q (nI K, nI (n + 1), nI S', nI S, leF, kPut 61 agr (nI (n + 1)) (nI (ag t (n + 1))), mvF, loF, upd liF S (nI zz), maF, ogF, en')
  rw [kPut_nI (by omega)]
  refine hQ en' _ ⟨rfl, rfl, rfl, ⟨S, hS, nLen_S, nFe_S, rfl⟩, hle, ⟨?_, fun e h1 h2 => ?_⟩, hmv, hlo, ⟨hl0', hlk'⟩, fun s hs => ?_⟩
  · show upd agr (n + 1) (nI (ag t (n + 1))) 0 = -1
    rw [pk_un (by omega)]; exact hag.1
  · show upd agr (n + 1) (nI (ag t (n + 1))) e = nI (ag t e)
    by_cases he : e = n + 1
    · subst he; exact pk_us
    · rw [pk_un he]; exact hag.2 e h1 (by omega)
  · show en' s = _
    by_cases hsu : nLen t n S len s ≤ al t (nFe n S fe q s) (n + 1)
    · rw [he1 s hs hsu, hen s hs]
      unfold enS
      rw [sv_or]
      refine sv_ext (fun b _ => ?_)
      by_cases hb : b = n + 1
      · subst hb; simp [hsu]
      · by_cases hb2 : b ≤ n
        · simp [hb, hb2, show b ≤ n + 1 by omega]
        · simp [hb, hb2, show ¬ b ≤ n + 1 by omega]
    · rw [he2 s hs hsu, hen s hs]
      unfold enS
      refine sv_ext (fun b _ => ?_)
      by_cases hb : b = n + 1
      · subst hb; simp [hsu]
      · by_cases hb2 : b ≤ n
        · simp [hb2, show b ≤ n + 1 by omega]
        · simp [hb2, show ¬ b ≤ n + 1 by omega]
end APP
