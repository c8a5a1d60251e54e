theorem wb_tb (n : Nat) : (lN n).toBitVec = BitVec.ofNat 64 n := rfl
theorem wb_inj {a b : Int64} (h : a.toBitVec = b.toBitVec) : a = b := Int64.toBitVec_inj.mp h
theorem wb_tn {n : Nat} (h : n < 2 ^ 64) : (lN n).toBitVec.toNat = n := by rw [wb_tb, BitVec.toNat_ofNat, Nat.mod_eq_of_lt h]
theorem wb_of (x : Int64) : ∃ n, n < 2 ^ 64 ∧ x = lN n := ⟨x.toBitVec.toNat, x.toBitVec.isLt, wb_inj (by rw [wb_tb]; simp)⟩
theorem wb_of32 (x : Int32) : ∃ n, n < 2 ^ 32 ∧ x = nI n := ⟨x.toBitVec.toNat, x.toBitVec.isLt, Int32.toBitVec_inj.mp (by show _ = BitVec.ofNat 32 _; simp)⟩
theorem wb_c : ∀ k, k < 64 → ((nI k).toInt64 &&& 63) = lN k := by decide +kernel
theorem wb_cu : ∀ k, k < 64 → ((nI k).toInt64.toUInt64 &&& Int64.toUInt64 63) = UInt64.ofNat k := by decide +kernel
theorem wb_sm : ∀ k, k < 64 → (BitVec.ofNat 64 k).smod 64 = BitVec.ofNat 64 k := by decide +kernel
theorem wb_pw {a b : Nat} (h : a ≤ b) : 2 ^ b = 2 ^ a * 2 ^ (b - a) := by rw [← Nat.pow_add]; congr 1; omega
theorem wb_lt2 {a b : Nat} (h : a < b) : 2 ^ a < 2 ^ b := Nat.pow_lt_pow_right (by decide) h
theorem wb_mod (n : Nat) : lN n = lN (n % 2 ^ 64) := wb_inj (by rw [wb_tb, wb_tb]; apply BitVec.eq_of_toNat_eq; rw [BitVec.toNat_ofNat, BitVec.toNat_ofNat, Nat.mod_mod])
theorem wb_shr {n k : Nat} (hn : n < 2 ^ 64) (hk : k < 64) : ((lN n).toUInt64 >>> ((nI k).toInt64.toUInt64 &&& Int64.toUInt64 63)).toInt64 = lN (n / 2 ^ k) := by
  rw [wb_cu k hk]
  apply wb_inj
  apply BitVec.eq_of_toNat_eq
  show ((lN n).toUInt64 >>> UInt64.ofNat k).toNat = (BitVec.ofNat 64 _).toNat
  have h1 : (UInt64.ofNat k).toNat = k := by
    show (BitVec.ofNat 64 k).toNat = k
    rw [BitVec.toNat_ofNat, Nat.mod_eq_of_lt (by omega)]
  have h2 : (lN n).toUInt64.toNat = n := wb_tn hn
  rw [UInt64.toNat_shiftRight, h1, h2, Nat.mod_eq_of_lt hk, Nat.shiftRight_eq_div_pow, BitVec.toNat_ofNat, Nat.mod_eq_of_lt (Nat.lt_of_le_of_lt (Nat.div_le_self _ _) hn)]
theorem wb_shl (n : Nat) {k : Nat} (hk : k < 64) : lN n <<< ((nI k).toInt64 &&& 63) = lN (n * 2 ^ k) := by
  rw [wb_c k hk]
  apply wb_inj
  rw [Int64.toBitVec_shiftLeft, wb_tb, wb_tb, wb_tb, wb_sm k hk]
  apply BitVec.eq_of_toNat_eq
  rw [BitVec.shiftLeft_eq', BitVec.toNat_shiftLeft, BitVec.toNat_ofNat, BitVec.toNat_ofNat, BitVec.toNat_ofNat, Nat.mod_eq_of_lt (show k < 2 ^ 64 by omega), Nat.shiftLeft_eq, Nat.mul_mod, Nat.mod_mod, ← Nat.mul_mod]
theorem wb_and {a b : Nat} (ha : a < 2 ^ 64) (hb : b < 2 ^ 64) : lN a &&& lN b = lN (a &&& b) := by
  apply wb_inj
  rw [Int64.toBitVec_and, wb_tb, wb_tb, wb_tb]
  apply BitVec.eq_of_toNat_eq
  rw [BitVec.toNat_and, BitVec.toNat_ofNat, BitVec.toNat_ofNat, BitVec.toNat_ofNat, Nat.mod_eq_of_lt ha, Nat.mod_eq_of_lt hb, Nat.mod_eq_of_lt (Nat.and_lt_two_pow _ hb)]
theorem wb_or {a b : Nat} (ha : a < 2 ^ 64) (hb : b < 2 ^ 64) : lN a ||| lN b = lN (a ||| b) := by
  apply wb_inj
  rw [Int64.toBitVec_or, wb_tb, wb_tb, wb_tb]
  apply BitVec.eq_of_toNat_eq
  rw [BitVec.toNat_or, BitVec.toNat_ofNat, BitVec.toNat_ofNat, BitVec.toNat_ofNat, Nat.mod_eq_of_lt ha, Nat.mod_eq_of_lt hb, Nat.mod_eq_of_lt (Nat.or_lt_two_pow ha hb)]
theorem wb_mask {n k : Nat} (hn : n < 2 ^ 64) (hk : k < 64) : lN n &&& lN (2 ^ k - 1) = lN (n % 2 ^ k) := by
  rw [wb_and hn (by have := wb_lt2 hk; omega), Nat.and_two_pow_sub_one_eq_mod]
theorem wb_a1 {n : Nat} (hn : n < 2 ^ 64) : lN n &&& 1 = lN (n % 2) := wb_mask (k := 1) hn (by decide)
theorem wb_bit {n k : Nat} (hn : n < 2 ^ 64) (hk : k < 64) : ((lN n).toUInt64 >>> ((nI k).toInt64.toUInt64 &&& Int64.toUInt64 63)).toInt64 &&& 1 = lN (n / 2 ^ k % 2) := by
  rw [wb_shr hn hk, wb_a1 (Nat.lt_of_le_of_lt (Nat.div_le_self _ _) hn)]
theorem pf_lI {a : Nat} (h : a < 2 ^ 63) : (lN a).toInt = (a : Int) := lg_ofNat_toInt h
theorem pf_shr {a d : Nat} {D : Int64} (hD : (D.toBitVec.smod 64).toNat = d) (h : a < 2 ^ 62) : lN a >>> D = lN (a / 2 ^ d) := by
  have hd : a / 2 ^ d ≤ a := Nat.div_le_self _ _
  apply Int64.toInt_inj.mp
  have e : (lN a >>> D).toInt = (lN a).toInt >>> d := by
    rw [← hD]
    exact BitVec.toInt_sshiftRight ..
  rw [e, Int.shiftRight_eq_div_pow, pf_lI (by omega), pf_lI (by omega)]
  rfl
theorem pf_ushr {a d : Nat} {D : UInt64} (hD : D.toNat % 64 = d) (h : a < 2 ^ 62) : ((lN a).toUInt64 >>> D).toInt64 = lN (a / 2 ^ d) := by
  have hd : a / 2 ^ d ≤ a := Nat.div_le_self _ _
  have e : (lN a).toUInt64 >>> D = UInt64.ofNat (a / 2 ^ d) := UInt64.toNat_inj.mp (by
    rw [UInt64.toNat_shiftRight, hD, Nat.shiftRight_eq_div_pow, UInt64.toNat_ofNat']
    show (UInt64.ofNat a).toNat / 2 ^ d = _
    rw [UInt64.toNat_ofNat', Nat.mod_eq_of_lt (by omega), Nat.mod_eq_of_lt (by omega)])
  rw [e]
  rfl
theorem pf_andw (x : Int64) : ∃ m, m < 2 ^ 32 ∧ x &&& 4294967295 = lN m := ⟨x.toBitVec.toNat % 2 ^ 32, Nat.mod_lt _ (by decide), Int64.toBitVec_inj.mp (BitVec.eq_of_toNat_eq (by
  show (x.toBitVec &&& 4294967295#64).toNat = (BitVec.ofNat 64 (x.toBitVec.toNat % 2 ^ 32)).toNat
  rw [BitVec.toNat_and, show (4294967295#64).toNat = 2 ^ 32 - 1 from by decide, Nat.and_two_pow_sub_one_eq_mod, BitVec.toNat_ofNat]
  omega))⟩
/-! sets of ends as bits -/
def ct (p : Nat → Bool) : Nat → Nat
  | 0 => 0
  | k + 1 => ct p k + (if p k then 1 else 0)
theorem ct_s (p : Nat → Bool) (k : Nat) : ct p (k + 1) = ct p k + (if p k then 1 else 0) := rfl
theorem ct_cong {p q : Nat → Bool} : ∀ {k : Nat}, (∀ b, b < k → p b = q b) → ct p k = ct q k := by
  intro k
  induction k with
  | zero => intro _; rfl
  | succ k ih => intro h; rw [ct_s, ct_s, ih (fun b hb => h b (by omega)), h k (by omega)]
theorem ct_mono (p : Nat → Bool) : ∀ {k m : Nat}, k ≤ m → ct p k ≤ ct p m := by
  intro k m h
  induction m with
  | zero => rw [show k = 0 by omega]; exact Nat.le_refl _
  | succ m ih =>
    rcases Nat.lt_or_ge k (m + 1) with h1 | h1
    · have := ih (by omega); rw [ct_s]; omega
    · rw [show k = m + 1 by omega]; exact Nat.le_refl _
theorem ct_lt {p : Nat → Bool} {k m : Nat} (h : k < m) (hp : p k = true) : ct p k < ct p m := by
  have := ct_mono p (show k + 1 ≤ m by omega)
  rw [ct_s, if_pos hp] at this
  omega
theorem ct_0 {p : Nat → Bool} : ∀ {k : Nat}, (∀ b, b < k → p b = false) → ct p k = 0 := by
  intro k
  induction k with
  | zero => intro _; rfl
  | succ k ih => intro h; rw [ct_s, ih (fun b hb => h b (by omega)), h k (by omega)]; rfl
theorem ct_ex {p : Nat → Bool} : ∀ {k i : Nat}, i < ct p k → ∃ b, b < k ∧ p b = true ∧ ct p b = i := by
  intro k
  induction k with
  | zero => intro i h; unfold ct at h; omega
  | succ k ih =>
    intro i h
    rw [ct_s] at h
    rcases Nat.lt_or_ge i (ct p k) with h1 | h1
    · obtain ⟨b, h2, h3⟩ := ih h1
      exact ⟨b, by omega, h3⟩
    · by_cases hp : p k = true
      · rw [if_pos hp] at h; exact ⟨k, by omega, hp, by omega⟩
      · rw [if_neg hp] at h; omega
theorem ct_le (p : Nat → Bool) : ∀ k, ct p k ≤ k := by
  intro k
  induction k with
  | zero => exact Nat.le_refl _
  | succ k ih => rw [ct_s]; split <;> omega
theorem ct_inj {p : Nat → Bool} {a b : Nat} (ha : p a = true) (hb : p b = true) (h : ct p a = ct p b) : a = b := by
  rcases Nat.lt_trichotomy a b with h1 | h1 | h1
  · have := ct_lt h1 ha; omega
  · exact h1
  · have := ct_lt h1 hb; omega
def ms (p : Nat → Bool) : Nat → Nat
  | 0 => 0
  | k + 1 => ms p k ||| (if p k then 2 ^ k else 0)
theorem ms_tb (p : Nat → Bool) : ∀ k b, (ms p k).testBit b = (decide (b < k) && p b) := by
  intro k
  induction k with
  | zero => intro b; simp [ms]
  | succ k ih =>
    intro b
    unfold ms
    rw [Nat.testBit_or, ih b]
    by_cases hp : p k = true
    · rw [if_pos hp, Nat.testBit_two_pow]
      by_cases hb : k = b
      · subst hb; simp [hp]
      · rcases Nat.lt_or_ge b k with h | h
        · simp [h, hb, show b < k + 1 by omega]
        · simp [hb, show ¬ b < k by omega, show ¬ b < k + 1 by omega]
    · rw [if_neg hp]
      by_cases hb : k = b
      · subst hb; simp [hp]
      · rcases Nat.lt_or_ge b k with h | h
        · simp [h, show b < k + 1 by omega]
        · simp [show ¬ b < k by omega, show ¬ b < k + 1 by omega]
theorem ms_lt (p : Nat → Bool) (k : Nat) : ms p k < 2 ^ k := by
  induction k with
  | zero => simp [ms]
  | succ k ih =>
    unfold ms
    have h1 : ms p k < 2 ^ (k + 1) := Nat.lt_trans ih (wb_lt2 (by omega))
    refine Nat.or_lt_two_pow h1 ?_
    split
    · exact wb_lt2 (by omega)
    · exact Nat.two_pow_pos _
def sv (p : Nat → Bool) : Int64 := lN (ms p 61)
theorem sv_of {N : Nat} {p : Nat → Bool} (h : N < 2 ^ 61) (hp : ∀ b, b < 61 → N.testBit b = p b) : lN N = sv p := by
  unfold sv
  congr 1
  apply Nat.eq_of_testBit_eq
  intro b
  rw [ms_tb]
  rcases Nat.lt_or_ge b 61 with hb | hb
  · rw [hp b hb]; simp [hb]
  · rw [Nat.testBit_lt_two_pow (Nat.lt_of_lt_of_le h (Nat.pow_le_pow_right (by decide) hb))]
    simp [show ¬ b < 61 by omega]
theorem sv_ext {p q : Nat → Bool} (h : ∀ b, b < 61 → p b = q b) : sv p = sv q :=
  sv_of (ms_lt p 61) (fun b hb => by rw [ms_tb, h b hb]; simp [hb])
theorem ms61 (p : Nat → Bool) : ms p 61 < 2 ^ 63 := Nat.lt_trans (ms_lt p 61) (by decide)
theorem ms61' (p : Nat → Bool) : ms p 61 < 2 ^ 64 := Nat.lt_trans (ms_lt p 61) (by decide)
theorem sv_inj {p q : Nat → Bool} (h : sv p = sv q) : ∀ b, b < 61 → p b = q b := by
  intro b hb
  have h1 := (pk_lEQ (ms61 p) (ms61 q)).mp h
  have h2 := ms_tb p 61 b
  have h3 := ms_tb q 61 b
  rw [h1, h3] at h2
  simpa [hb] using h2.symm
theorem sv_eq {p q : Nat → Bool} : sv p = sv q ↔ ∀ b, b < 61 → p b = q b := ⟨sv_inj, sv_ext⟩
theorem sv_nil : sv (fun _ => false) = 0 := by
  unfold sv
  rw [show ms (fun _ => false) 61 = 0 by decide]
  rfl
theorem sv_0 {p : Nat → Bool} : sv p = 0 ↔ ∀ b, b < 61 → p b = false := by
  rw [← sv_nil, sv_eq]
theorem sv_bit {k : Nat} (hk : k < 61) : (1 : Int64) <<< ((nI k).toInt64 &&& 63) = sv (fun b => decide (b = k)) := by
  rw [show (1 : Int64) = lN 1 from rfl, wb_shl 1 (by omega), Nat.one_mul]
  refine sv_of (wb_lt2 hk) (fun b hb => ?_)
  rw [Nat.testBit_two_pow]
  by_cases h : k = b
  · subst h; simp
  · simp [h, show ¬ b = k by omega]
theorem sv_or (p q : Nat → Bool) : sv p ||| sv q = sv (fun b => p b || q b) := by
  unfold sv
  rw [wb_or (ms61' p) (ms61' q)]
  refine sv_of (Nat.or_lt_two_pow (ms_lt p 61) (ms_lt q 61)) (fun b hb => ?_)
  rw [Nat.testBit_or, ms_tb, ms_tb]
  simp [hb]
theorem sv_and (p q : Nat → Bool) : sv p &&& sv q = sv (fun b => p b && q b) := by
  unfold sv
  rw [wb_and (ms61' p) (ms61' q)]
  refine sv_of (Nat.and_lt_two_pow _ (ms_lt q 61)) (fun b hb => ?_)
  rw [Nat.testBit_and, ms_tb, ms_tb]
  simp [hb]
theorem sv_has (p : Nat → Bool) {k : Nat} (hk : k < 61) : fX7_has (sv p) (nI k) = if p k then 1 else 0 := by
  unfold fX7_has sv
  rw [pf_shr (d := k) (by rw [wb_c k (by omega), wb_tb, wb_sm k (by omega), BitVec.toNat_ofNat, Nat.mod_eq_of_lt (by omega)]) (Nat.lt_trans (ms_lt p 61) (by decide)), wb_a1 (Nat.lt_of_le_of_lt (Nat.div_le_self _ _) (ms61' p))]
  have h1 := ms_tb p 61 k
  rw [Nat.testBit_eq_decide_div_mod_eq] at h1
  simp only [hk, decide_true, Bool.true_and] at h1
  have h3 : ms p 61 / 2 ^ k % 2 < 2 := Nat.mod_lt _ (by decide)
  by_cases hp : p k = true
  · rw [hp] at h1
    rw [if_pos hp, of_decide_eq_true h1]
    rfl
  · have hp' : p k = false := by simpa using hp
    rw [hp'] at h1
    have h2 := of_decide_eq_false h1
    rw [if_neg hp, show ms p 61 / 2 ^ k % 2 = 0 by omega]
    rfl
theorem sv_all {n : Nat} (hn : n ≤ 60) : ((1 : Int64) <<< (((nI n + 1) : Int32).toInt64 &&& 63)) - 1 = sv (fun b => decide (b ≤ n)) := by
  rw [nI_1, show (1 : Int64) = lN 1 from rfl, wb_shl 1 (by omega), Nat.one_mul, lN_sub (Nat.two_pow_pos _)]
  have h1 : 2 ^ (n + 1) ≤ 2 ^ 61 := Nat.pow_le_pow_right (by decide) (by omega)
  have h2 := Nat.two_pow_pos (n + 1)
  refine sv_of (by omega) (fun b hb => ?_)
  rw [Nat.testBit_two_pow_sub_one]
  by_cases h : b ≤ n
  · simp [h, show b < n + 1 by omega]
  · simp [h, show ¬ b < n + 1 by omega]
/-- what the least end does to the bits below it -/
theorem low_mod {N l : Nat} (h1 : N.testBit l = true) (h2 : ∀ j, j < l → N.testBit j = false) : N % 2 ^ (l + 1) = 2 ^ l := by
  apply Nat.eq_of_testBit_eq
  intro j
  rw [Nat.testBit_mod_two_pow, Nat.testBit_two_pow]
  rcases Nat.lt_trichotomy j l with h | h | h
  · rw [h2 j h]; simp [show ¬ l = j by omega]
  · subst h; rw [h1]; simp
  · simp [show ¬ j < l + 1 by omega, show ¬ l = j by omega]
theorem low_pred {N l : Nat} (h1 : N.testBit l = true) (h2 : ∀ j, j < l → N.testBit j = false) (b : Nat) : (N - 1).testBit b = if b < l then true else if b = l then false else N.testBit b := by
  have e := low_mod h1 h2
  have hp := Nat.two_pow_pos l
  have hd := Nat.div_add_mod N (2 ^ (l + 1))
  rw [e] at hd
  have h3 : N - 1 = 2 ^ (l + 1) * (N / 2 ^ (l + 1)) + (2 ^ l - 1) := by omega
  have hl : 2 ^ l < 2 ^ (l + 1) := wb_lt2 (by omega)
  rw [h3, Nat.testBit_two_pow_mul_add _ (by omega) b]
  by_cases hb : b < l + 1
  · rw [if_pos hb, Nat.testBit_two_pow_sub_one]
    by_cases hb2 : b < l
    · simp [hb2]
    · simp [hb2, show b = l by omega]
  · rw [if_neg hb, if_neg (by omega), if_neg (by omega)]
    have h4 : N.testBit b = (2 ^ (l + 1) * (N / 2 ^ (l + 1)) + 2 ^ l).testBit b := by rw [hd]
    rw [h4, Nat.testBit_two_pow_mul_add _ hl b, if_neg hb]
theorem sv_without {p : Nat → Bool} {l : Nat} (hl : l < 61) (h1 : p l = true) (h2 : ∀ j, j < l → p j = false) : sv p &&& (sv p - 1) = sv (fun b => p b && !decide (b = l)) := by
  have t1 : (ms p 61).testBit l = true := by rw [ms_tb]; simp [hl, h1]
  have t2 : ∀ j, j < l → (ms p 61).testBit j = false := fun j hj => by rw [ms_tb, h2 j hj]; simp
  have hpos : 1 ≤ ms p 61 := by
    rcases Nat.eq_zero_or_pos (ms p 61) with h | h
    · rw [h] at t1; simp at t1
    · exact h
  unfold sv
  rw [show (1 : Int64) = lN 1 from rfl, lN_sub hpos, wb_and (ms61' p) (by have := ms61' p; omega)]
  refine sv_of (Nat.lt_of_le_of_lt Nat.and_le_left (ms_lt p 61)) (fun b hb => ?_)
  rw [Nat.testBit_and, low_pred t1 t2, ms_tb]
  rcases Nat.lt_trichotomy b l with h | h | h
  · simp [h, h2 b h]
  · subst h; simp
  · simp [hb, show ¬ b < l by omega, show ¬ b = l by omega]
theorem sv_low {p : Nat → Bool} {l : Nat} (hl : l < 61) (h1 : p l = true) (h2 : ∀ j, j < l → p j = false) : (sv p &&& (-sv p)) - 1 = sv (fun b => decide (b < l)) := by
  have t1 : (ms p 61).testBit l = true := by rw [ms_tb]; simp [hl, h1]
  have t2 : ∀ j, j < l → (ms p 61).testBit j = false := fun j hj => by rw [ms_tb, h2 j hj]; simp
  have hpos : 1 ≤ ms p 61 := by
    rcases Nat.eq_zero_or_pos (ms p 61) with h | h
    · rw [h] at t1; simp at t1
    · exact h
  have hlt := ms61' p
  have hneg : -sv p = lN (2 ^ 64 - ms p 61) := by
    unfold sv
    apply wb_inj
    rw [Int64.toBitVec_neg, wb_tb, wb_tb]
    apply BitVec.eq_of_toNat_eq
    rw [BitVec.toNat_neg, BitVec.toNat_ofNat, BitVec.toNat_ofNat, Nat.mod_eq_of_lt hlt]
  rw [hneg]
  unfold sv
  rw [wb_and hlt (by omega)]
  have hand : ms p 61 &&& (2 ^ 64 - ms p 61) = 2 ^ l := by
    apply Nat.eq_of_testBit_eq
    intro b
    rw [Nat.testBit_and, show 2 ^ 64 - ms p 61 = 2 ^ 64 - ((ms p 61 - 1) + 1) by omega, Nat.testBit_two_pow_sub_succ (by omega), low_pred t1 t2, Nat.testBit_two_pow, ms_tb]
    rcases Nat.lt_trichotomy b l with h | h | h
    · simp [h2 b h, show ¬ l = b by omega]
    · subst h; simp [h1, hl, show b < 64 by omega]
    · by_cases hb : b < 61
      · simp [hb, show ¬ b < l by omega, show ¬ b = l by omega, show ¬ l = b by omega]
        intro hp _; exact hp
      · simp [hb, show ¬ l = b by omega]
  rw [hand, show (1 : Int64) = lN 1 from rfl, lN_sub (Nat.two_pow_pos _)]
  have h3 := wb_lt2 hl
  refine sv_of (by omega) (fun b hb => ?_)
  rw [Nat.testBit_two_pow_sub_one]
