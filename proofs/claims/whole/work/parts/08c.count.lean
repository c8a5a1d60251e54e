/-! Long.bitCount counts the bits: numbers by their digits -/
def dg (w : Nat) : Nat → (Nat → Nat) → Nat
  | 0, _ => 0
  | k + 1, f => 2 ^ w * dg w k (fun i => f (i + 1)) + f 0
theorem dg_s (w k : Nat) (f : Nat → Nat) : dg w (k + 1) f = 2 ^ w * dg w k (fun i => f (i + 1)) + f 0 := rfl
theorem dg_cong {w : Nat} : ∀ {k : Nat} {f g : Nat → Nat}, (∀ i, i < k → f i = g i) → dg w k f = dg w k g := by
  intro k
  induction k with
  | zero => intros; rfl
  | succ k ih => intro f g h; rw [dg_s, dg_s, ih (fun i hi => h (i + 1) (by omega)), h 0 (by omega)]
theorem dg_add {w : Nat} : ∀ {k : Nat} {f g : Nat → Nat}, dg w k f + dg w k g = dg w k (fun i => f i + g i) := by
  intro k
  induction k with
  | zero => intros; rfl
  | succ k ih => intro f g; rw [dg_s, dg_s, dg_s, ← ih, Nat.mul_add]; omega
theorem dg_lt {w : Nat} : ∀ {k : Nat} {f : Nat → Nat}, (∀ i, i < k → f i < 2 ^ w) → dg w k f < 2 ^ (w * k) := by
  intro k
  induction k with
  | zero => intro f _; simp [dg]
  | succ k ih =>
    intro f h
    rw [dg_s, Nat.mul_succ, Nat.pow_add]
    have h1 := ih (f := fun i => f (i + 1)) (fun i hi => h (i + 1) (by omega))
    have h2 := h 0 (by omega)
    have h3 : 2 ^ w * (dg w k (fun i => f (i + 1)) + 1) ≤ 2 ^ w * 2 ^ (w * k) := Nat.mul_le_mul_left _ h1
    rw [Nat.mul_add, Nat.mul_one, Nat.mul_comm (2 ^ w) (2 ^ (w * k))] at h3
    omega
theorem and_split {w x y a b : Nat} (ha : a < 2 ^ w) (hb : b < 2 ^ w) : (2 ^ w * x + a) &&& (2 ^ w * y + b) = 2 ^ w * (x &&& y) + (a &&& b) := by
  apply Nat.eq_of_testBit_eq
  intro i
  rw [Nat.testBit_and, Nat.testBit_two_pow_mul_add _ ha, Nat.testBit_two_pow_mul_add _ hb, Nat.testBit_two_pow_mul_add _ (Nat.and_lt_two_pow _ hb)]
  by_cases h : i < w
  · rw [if_pos h, if_pos h, if_pos h, Nat.testBit_and]
  · rw [if_neg h, if_neg h, if_neg h, Nat.testBit_and]
theorem dg_and {w : Nat} : ∀ {k : Nat} {f g : Nat → Nat}, (∀ i, i < k → f i < 2 ^ w) → (∀ i, i < k → g i < 2 ^ w) → dg w k f &&& dg w k g = dg w k (fun i => f i &&& g i) := by
  intro k
  induction k with
  | zero => intros; simp [dg]
  | succ k ih =>
    intro f g h1 h2
    rw [dg_s, dg_s, dg_s, and_split (h1 0 (by omega)) (h2 0 (by omega)), ih (fun i hi => h1 (i + 1) (by omega)) (fun i hi => h2 (i + 1) (by omega))]
theorem dg_div {w k : Nat} {f : Nat → Nat} (h : f 0 < 2 ^ w) : dg w (k + 1) f / 2 ^ w = dg w k (fun i => f (i + 1)) := by
  rw [dg_s, Nat.mul_add_div (Nat.two_pow_pos w), Nat.div_eq_of_lt h, Nat.add_zero]
theorem dg_top {w : Nat} : ∀ {k : Nat} {f : Nat → Nat}, f k = 0 → dg w (k + 1) f = dg w k f := by
  intro k
  induction k with
  | zero => intro f h; rw [dg_s, h]; rfl
  | succ k ih => intro f h; rw [dg_s, ih (f := fun i => f (i + 1)) h, dg_s]
/-- a shift by a digit, above all zeros -/
theorem dg_shr {w k : Nat} {f : Nat → Nat} (h : f 0 < 2 ^ w) (hk : f (k + 1) = 0) : dg w (k + 1) f / 2 ^ w = dg w (k + 1) (fun i => f (i + 1)) := by
  rw [dg_div h, dg_top (f := fun i => f (i + 1)) hk]
theorem dg_two {w : Nat} : ∀ {k : Nat} {f : Nat → Nat}, dg w (2 * k) f = dg (2 * w) k (fun i => f (2 * i) + 2 ^ w * f (2 * i + 1)) := by
  intro k
  induction k with
  | zero => intro f; rfl
  | succ k ih =>
    intro f
    rw [show 2 * (k + 1) = 2 * k + 1 + 1 by omega, dg_s, dg_s, ih, dg_s]
    have e : dg (2 * w) k (fun i => f (2 * i + 1 + 1) + 2 ^ w * f (2 * i + 1 + 1 + 1)) = dg (2 * w) k (fun i => f (2 * (i + 1)) + 2 ^ w * f (2 * (i + 1) + 1)) := dg_cong (fun i _ => by rw [show 2 * (i + 1) = 2 * i + 1 + 1 by omega])
    have e2 : 2 ^ (2 * w) = 2 ^ w * 2 ^ w := by rw [Nat.two_mul, Nat.pow_add]
    show 2 ^ w * (2 ^ w * dg (2 * w) k (fun i => f (2 * i + 1 + 1) + 2 ^ w * f (2 * i + 1 + 1 + 1)) + f (0 + 1)) + f 0 = _
    rw [e, e2, Nat.mul_add, Nat.mul_assoc]
    show _ = _ + (f 0 + 2 ^ w * f 1)
    simp only [Nat.zero_add]
    omega
def b01 (p : Nat → Bool) (i : Nat) : Nat := if p i then 1 else 0
theorem dg_of : ∀ {k N : Nat}, N < 2 ^ k → N = dg 1 k (b01 (fun i => N.testBit i)) := by
  intro k
  induction k with
  | zero => intro N h; have : N = 0 := by simpa using h
            rw [this]; rfl
  | succ k ih =>
    intro N h
    have h1 : N / 2 < 2 ^ k := by rw [Nat.pow_succ] at h; omega
    have h2 := ih h1
    rw [dg_s]
    have e : dg 1 k (fun i => b01 (fun i => N.testBit i) (i + 1)) = dg 1 k (b01 (fun i => (N / 2).testBit i)) := dg_cong (fun i _ => by show (if N.testBit (i + 1) = true then 1 else 0) = (if (N / 2).testBit i = true then 1 else 0); rw [Nat.testBit_succ])
    rw [e, ← h2]
    show N = 2 ^ 1 * (N / 2) + (if N.testBit 0 = true then 1 else 0)
    rw [Nat.testBit_zero]
    have := Nat.div_add_mod N 2
    have h3 : N % 2 < 2 := Nat.mod_lt _ (by decide)
    by_cases hq : N % 2 = 1
    · simp [hq]; omega
    · simp [hq]; omega
def sm (f : Nat → Nat) : Nat → Nat
  | 0 => 0
  | k + 1 => sm f k + f k
theorem sm_s (f : Nat → Nat) (k : Nat) : sm f (k + 1) = sm f k + f k := rfl
theorem sm_two (f : Nat → Nat) : ∀ k, sm f (2 * k) = sm (fun i => f (2 * i) + f (2 * i + 1)) k := by
  intro k
  induction k with
  | zero => rfl
  | succ k ih => rw [show 2 * (k + 1) = 2 * k + 1 + 1 by omega]; rw [sm_s, sm_s, sm_s, ← ih]; omega
theorem sm_ct (p : Nat → Bool) : ∀ k, sm (b01 p) k = ct p k := by
  intro k
  induction k with
  | zero => rfl
  | succ k ih => unfold sm; rw [ih, ct_s]; rfl
theorem d1 {x y : Nat} (hx : x < 2) : (x + 2 ^ 1 * y) &&& 1 = x := by
  have := Nat.and_two_pow_sub_one_eq_mod (x + 2 ^ 1 * y) 1
  simp only [Nat.pow_one, Nat.reduceSub] at this ⊢
  rw [this]; omega
theorem d3 {x y : Nat} (hx : x < 4) : (x + 2 ^ 2 * y) &&& 3 = x := by
  have := Nat.and_two_pow_sub_one_eq_mod (x + 2 ^ 2 * y) 2
  rw [show (2 : Nat) ^ 2 - 1 = 3 by decide] at this
  rw [this]; omega
theorem d15 {x y : Nat} (hx : x < 16) : (x + 2 ^ 4 * y) &&& 15 = x := by
  have := Nat.and_two_pow_sub_one_eq_mod (x + 2 ^ 4 * y) 4
  rw [show (2 : Nat) ^ 4 - 1 = 15 by decide] at this
  rw [this]; omega
set_option maxRecDepth 20000 in
theorem bitCount_lN {N : Nat} (hN : N < 2 ^ 62) : fJ13_bitCount_95d88 (lN N) = nI (ct (fun i => N.testBit i) 64) := by
  have hN64 : N < 2 ^ 64 := Nat.lt_trans hN (by decide)
  obtain ⟨b, hb⟩ : ∃ b, b = b01 (fun i => N.testBit i) := ⟨_, rfl⟩
  have hb1 : ∀ i, b i < 2 := fun i => by rw [hb]; unfold b01; split <;> omega
  have hbz : ∀ i, 62 ≤ i → b i = 0 := fun i hi => by
    rw [hb]; show (if N.testBit i = true then 1 else 0) = 0
    rw [Nat.testBit_lt_two_pow (Nat.lt_of_lt_of_le hN (Nat.pow_le_pow_right (by decide) hi))]
    rfl
  have e0 : N = dg 1 64 b := by rw [hb]; exact dg_of hN64
  -- pairs
  have e0' : N = dg 2 32 (fun i => b (2 * i) + 2 ^ 1 * b (2 * i + 1)) := by rw [e0]; exact dg_two (w := 1) (k := 32)
  have s0 : N / 2 ^ 1 = dg 1 64 (fun i => b (i + 1)) := by rw [e0]; exact dg_shr (k := 63) (hb1 0) (hbz 64 (by decide))
  have s0' : N / 2 ^ 1 = dg 2 32 (fun i => b (2 * i + 1) + 2 ^ 1 * b (2 * i + 1 + 1)) := by rw [s0]; exact dg_two (w := 1) (k := 32)
  have m5 : (6148914691236517205 : Nat) = dg 2 32 (fun _ => 1) := by decide +kernel
  have a0 : N / 2 ^ 1 &&& 6148914691236517205 = dg 2 32 (fun i => b (2 * i + 1)) := by
    rw [s0', m5, dg_and (fun i _ => by have := hb1 (2 * i + 1); have := hb1 (2 * i + 1 + 1); omega) (fun _ _ => by decide)]
    exact dg_cong (fun i _ => d1 (hb1 _))
  obtain ⟨c1, hc1⟩ : ∃ c, c = fun i => b (2 * i) + b (2 * i + 1) := ⟨_, rfl⟩
  have c1v : ∀ i, c1 i = b (2 * i) + b (2 * i + 1) := fun i => by rw [hc1]
  have c1l : ∀ i, c1 i ≤ 2 := fun i => by rw [c1v]; have := hb1 (2 * i); have := hb1 (2 * i + 1); omega
  have c1z : ∀ i, 31 ≤ i → c1 i = 0 := fun i hi => by rw [c1v, hbz _ (by omega), hbz _ (by omega)]
  have e1 : N = dg 2 32 c1 + dg 2 32 (fun i => b (2 * i + 1)) := by
    rw [dg_add, hc1]
    refine e0'.trans (dg_cong (fun i _ => ?_))
    show b (2 * i) + 2 ^ 1 * b (2 * i + 1) = b (2 * i) + b (2 * i + 1) + b (2 * i + 1)
    omega
  obtain ⟨N1, hN1⟩ : ∃ N1, N1 = dg 2 32 c1 := ⟨_, rfl⟩
  have l1 : N1 < 2 ^ 64 := by rw [hN1]; exact dg_lt (w := 2) (k := 32) (fun i _ => by have := c1l i; omega)
  have y1 : lN N - (((lN N).toUInt64 >>> ((1 : Int32).toInt64.toUInt64 &&& Int64.toUInt64 63)).toInt64 &&& 6148914691236517205) = lN N1 := by
    rw [show (1 : Int32) = nI 1 from rfl, wb_shr hN64 (by decide), show (6148914691236517205 : Int64) = lN 6148914691236517205 from rfl, wb_and (Nat.lt_of_le_of_lt (Nat.div_le_self _ _) hN64) (by decide), a0, lN_sub (by omega)]
    congr 1; omega
  -- fours
  have m3 : (3689348814741910323 : Nat) = dg 4 16 (fun _ => 3) := by decide +kernel
  have e1' : N1 = dg 4 16 (fun i => c1 (2 * i) + 2 ^ 2 * c1 (2 * i + 1)) := by rw [hN1]; exact dg_two (w := 2) (k := 16)
  have s1 : N1 / 2 ^ 2 = dg 4 16 (fun i => c1 (2 * i + 1) + 2 ^ 2 * c1 (2 * i + 1 + 1)) := by
    rw [hN1, dg_shr (k := 31) (w := 2) (f := c1) (by have := c1l 0; omega) (c1z 32 (by decide))]
    exact dg_two (w := 2) (k := 16)
  have c1s : ∀ i, c1 i < 4 := fun i => by have := c1l i; omega
  have a1 : N1 &&& 3689348814741910323 = dg 4 16 (fun i => c1 (2 * i)) := by
    rw [e1', m3, dg_and (fun i _ => by have := c1s (2 * i); have := c1s (2 * i + 1); omega) (fun _ _ => by decide)]
    exact dg_cong (fun i _ => d3 (c1s _))
  have a2 : N1 / 2 ^ 2 &&& 3689348814741910323 = dg 4 16 (fun i => c1 (2 * i + 1)) := by
    rw [s1, m3, dg_and (fun i _ => by have := c1s (2 * i + 1); have := c1s (2 * i + 1 + 1); omega) (fun _ _ => by decide)]
    exact dg_cong (fun i _ => d3 (c1s _))
  obtain ⟨c2, hc2⟩ : ∃ c, c = fun i => c1 (2 * i) + c1 (2 * i + 1) := ⟨_, rfl⟩
  have c2v : ∀ i, c2 i = c1 (2 * i) + c1 (2 * i + 1) := fun i => by rw [hc2]
  have c2l : ∀ i, c2 i ≤ 4 := fun i => by rw [c2v]; have := c1l (2 * i); have := c1l (2 * i + 1); omega
  have c2z : ∀ i, 16 ≤ i → c2 i = 0 := fun i hi => by rw [c2v, c1z _ (by omega), c1z _ (by omega)]
  obtain ⟨N2, hN2⟩ : ∃ N2, N2 = dg 4 16 c2 := ⟨_, rfl⟩
  have l2 : N2 < 2 ^ 64 := by rw [hN2]; exact dg_lt (w := 4) (k := 16) (fun i _ => by have := c2l i; omega)
  have y2 : (lN N1 &&& 3689348814741910323) + (((lN N1).toUInt64 >>> ((2 : Int32).toInt64.toUInt64 &&& Int64.toUInt64 63)).toInt64 &&& 3689348814741910323) = lN N2 := by
    rw [show (2 : Int32) = nI 2 from rfl, wb_shr l1 (by decide), show (3689348814741910323 : Int64) = lN 3689348814741910323 from rfl, wb_and l1 (by decide), wb_and (Nat.lt_of_le_of_lt (Nat.div_le_self _ _) l1) (by decide), a1, a2, lN_add, dg_add, hN2, hc2]
  -- eights
  have m15 : (1085102592571150095 : Nat) = dg 8 8 (fun _ => 15) := by decide +kernel
  have c2s : ∀ i, c2 i < 16 := fun i => by have := c2l i; omega
  have s2 : N2 / 2 ^ 4 = dg 4 16 (fun i => c2 (i + 1)) := by
    rw [hN2]; exact dg_shr (k := 15) (w := 4) (f := c2) (c2s 0) (c2z 16 (by decide))
  have s2' : N2 + N2 / 2 ^ 4 = dg 8 8 (fun i => (c2 (2 * i) + c2 (2 * i + 1)) + 2 ^ 4 * (c2 (2 * i + 1) + c2 (2 * i + 1 + 1))) := by
    rw [s2, hN2, dg_add]
    exact dg_two (w := 4) (k := 8)
  obtain ⟨c3, hc3⟩ : ∃ c, c = fun i => c2 (2 * i) + c2 (2 * i + 1) := ⟨_, rfl⟩
  have c3v : ∀ i, c3 i = c2 (2 * i) + c2 (2 * i + 1) := fun i => by rw [hc3]
  have c3l : ∀ i, c3 i ≤ 8 := fun i => by rw [c3v]; have := c2l (2 * i); have := c2l (2 * i + 1); omega
  have c3z : ∀ i, 8 ≤ i → c3 i = 0 := fun i hi => by rw [c3v, c2z _ (by omega), c2z _ (by omega)]
  have a3 : N2 + N2 / 2 ^ 4 &&& 1085102592571150095 = dg 8 8 c3 := by
    rw [s2', m15, dg_and (fun i _ => by have := c2l (2 * i); have := c2l (2 * i + 1); have := c2l (2 * i + 1 + 1); omega) (fun _ _ => by decide), hc3]
    exact dg_cong (fun i _ => d15 (by have := c2l (2 * i); have := c2l (2 * i + 1); omega))
  have l2' : N2 + N2 / 2 ^ 4 < 2 ^ 64 := by
    rw [s2']
    exact dg_lt (w := 8) (k := 8) (fun i _ => by have := c2l (2 * i); have := c2l (2 * i + 1); have := c2l (2 * i + 1 + 1); omega)
  obtain ⟨N3, hN3⟩ : ∃ N3, N3 = dg 8 8 c3 := ⟨_, rfl⟩
  have l3 : N3 < 2 ^ 64 := by rw [hN3]; exact dg_lt (w := 8) (k := 8) (fun i _ => by have := c3l i; omega)
  have y3 : (lN N2 + ((lN N2).toUInt64 >>> ((4 : Int32).toInt64.toUInt64 &&& Int64.toUInt64 63)).toInt64) &&& 1085102592571150095 = lN N3 := by
    rw [show (4 : Int32) = nI 4 from rfl, wb_shr l2 (by decide), show (1085102592571150095 : Int64) = lN 1085102592571150095 from rfl, lN_add, wb_and l2' (by decide), a3, hN3]
  -- the sum
  have sh : ∀ (j : Nat) (c : Nat → Nat), j ≤ 8 → (∀ i, c i < 256) → (∀ i, 8 ≤ i → c i = 0) → dg 8 8 c / 2 ^ (8 * j) = dg 8 8 (fun i => c (i + j)) := by
    intro j
    induction j with
    | zero => intro c _ _ _; rw [Nat.mul_zero, Nat.pow_zero, Nat.div_one]; rfl
    | succ j ih =>
      intro c hj h1 h2
      rw [Nat.mul_succ, Nat.pow_add, ← Nat.div_div_eq_div_mul, ih c (by omega) h1 h2, dg_shr (k := 7) (w := 8) (f := fun i => c (i + j)) (h1 _) (h2 _ (by omega))]
      exact dg_cong (fun i _ => by rw [show i + 1 + j = i + (j + 1) by omega])
  obtain ⟨c4, hc4⟩ : ∃ c, c = fun i => c3 i + c3 (i + 1) := ⟨_, rfl⟩
  have c4v : ∀ i, c4 i = c3 i + c3 (i + 1) := fun i => by rw [hc4]
  obtain ⟨c5, hc5⟩ : ∃ c, c = fun i => c4 i + c4 (i + 2) := ⟨_, rfl⟩
  have c5v : ∀ i, c5 i = c4 i + c4 (i + 2) := fun i => by rw [hc5]
  obtain ⟨c6, hc6⟩ : ∃ c, c = fun i => c5 i + c5 (i + 4) := ⟨_, rfl⟩
  have c6v : ∀ i, c6 i = c5 i + c5 (i + 4) := fun i => by rw [hc6]
  have c4l : ∀ i, c4 i ≤ 16 := fun i => by rw [c4v]; have := c3l i; have := c3l (i + 1); omega
  have c5l : ∀ i, c5 i ≤ 32 := fun i => by rw [c5v]; have := c4l i; have := c4l (i + 2); omega
  have c6l : ∀ i, c6 i ≤ 64 := fun i => by rw [c6v]; have := c5l i; have := c5l (i + 4); omega
  have c4z : ∀ i, 8 ≤ i → c4 i = 0 := fun i hi => by rw [c4v, c3z _ hi, c3z _ (by omega)]
  have c5z : ∀ i, 8 ≤ i → c5 i = 0 := fun i hi => by rw [c5v, c4z _ hi, c4z _ (by omega)]
  have y4 : lN N3 + ((lN N3).toUInt64 >>> ((8 : Int32).toInt64.toUInt64 &&& Int64.toUInt64 63)).toInt64 = lN (dg 8 8 c4) := by
    rw [show (8 : Int32) = nI 8 from rfl, wb_shr l3 (by decide), lN_add, hN3, sh 1 c3 (by decide) (fun i => by have := c3l i; omega) c3z, dg_add, hc4]
  have l4 : dg 8 8 c4 < 2 ^ 64 := dg_lt (w := 8) (k := 8) (fun i _ => by have := c4l i; omega)
  have y5 : lN (dg 8 8 c4) + ((lN (dg 8 8 c4)).toUInt64 >>> ((16 : Int32).toInt64.toUInt64 &&& Int64.toUInt64 63)).toInt64 = lN (dg 8 8 c5) := by
    rw [show (16 : Int32) = nI 16 from rfl, wb_shr l4 (by decide), lN_add, sh 2 c4 (by decide) (fun i => by have := c4l i; omega) c4z, dg_add, hc5]
  have l5 : dg 8 8 c5 < 2 ^ 64 := dg_lt (w := 8) (k := 8) (fun i _ => by have := c5l i; omega)
  have y6 : lN (dg 8 8 c5) + ((lN (dg 8 8 c5)).toUInt64 >>> ((32 : Int32).toInt64.toUInt64 &&& Int64.toUInt64 63)).toInt64 = lN (dg 8 8 c6) := by
    rw [show (32 : Int32) = nI 32 from rfl, wb_shr l5 (by decide), lN_add, sh 4 c5 (by decide) (fun i => by have := c5l i; omega) c5z, dg_add, hc6]
  unfold fJ13_bitCount_95d88
  simp only [y1, y2, y3, y4, y5, y6]
  rw [lN_i]
  have hsum : c6 0 = ct (fun i => N.testBit i) 64 := by
    rw [← sm_ct, ← hb, show (64 : Nat) = 2 * 32 from rfl, sm_two, ← hc1, show (32 : Nat) = 2 * 16 from rfl, sm_two, ← hc2, show (16 : Nat) = 2 * 8 from rfl, sm_two, ← hc3]
    rw [c6v, c5v, c5v, c4v, c4v, c4v, c4v]
    simp only [sm, Nat.zero_add, Nat.reduceAdd]
    omega
  have e6 : dg 8 8 c6 % 2 ^ 7 = c6 0 := by
    rw [show (8 : Nat) = 7 + 1 from rfl, dg_s]
    have := c6l 0
    omega
  have h7 : (127 : Int32).toBitVec.toNat = 2 ^ 7 - 1 := by decide
  rw [pk_and (nI (dg 8 8 c6)) 7 h7]
  congr 1
  show (BitVec.ofNat 32 (dg 8 8 c6)).toNat % 2 ^ 7 = _
  rw [BitVec.toNat_ofNat, ← hsum, ← e6]
  omega
theorem bitCount_sv (p : Nat → Bool) : fJ13_bitCount_95d88 (sv p) = nI (ct p 61) := by
  unfold sv
  rw [bitCount_lN (Nat.lt_trans (ms_lt p 61) (by decide))]
  congr 1
  have e : ∀ k, 61 ≤ k → ct (fun i => (ms p 61).testBit i) k = ct (fun i => (ms p 61).testBit i) 61 := by
    intro k hk
    induction k with
    | zero => omega
    | succ k ih =>
      rcases Nat.lt_or_ge k 61 with h | h
      · rw [show k + 1 = 61 by omega]
      · rw [ct_s, ih h, ms_tb]
        simp [show ¬ k < 61 by omega]
  rw [e 64 (by decide)]
  exact ct_cong (fun b hb => by rw [ms_tb]; simp [hb])
