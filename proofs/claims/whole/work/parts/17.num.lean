theorem fb_rng (x : Int32) : -2147483648 ≤ x.toInt ∧ x.toInt < 2147483648 := by
  have h1 := Int32.le_toInt x
  have h2 := Int32.toInt_lt x
  omega
theorem fb_bmod {z : Int} (h1 : -2147483648 ≤ z) (h2 : z < 2147483648) : z.bmod (2 ^ 32) = z := by
  rw [Int.bmod_eq_of_le (by omega) (by omega)]
theorem fb_addI {x y : Int32} (h1 : -2147483648 ≤ x.toInt + y.toInt) (h2 : x.toInt + y.toInt < 2147483648) : (x + y).toInt = x.toInt + y.toInt := by
  rw [Int32.toInt_add, fb_bmod h1 h2]
theorem fb_subI {x y : Int32} (h1 : -2147483648 ≤ x.toInt - y.toInt) (h2 : x.toInt - y.toInt < 2147483648) : (x - y).toInt = x.toInt - y.toInt := by
  rw [Int32.toInt_sub, fb_bmod h1 h2]
theorem fb_mulI {x y : Int32} (h1 : -2147483648 ≤ x.toInt * y.toInt) (h2 : x.toInt * y.toInt < 2147483648) : (x * y).toInt = x.toInt * y.toInt := by
  rw [Int32.toInt_mul, fb_bmod h1 h2]
theorem fb_negI {x : Int32} (h : x.toInt ≠ -2147483648) : (-x).toInt = -x.toInt := by
  have := fb_rng x
  rw [Int32.toInt_neg, fb_bmod (by omega) (by omega)]
theorem fb_ofI {z : Int} (h1 : -2147483648 ≤ z) (h2 : z < 2147483648) : (Int32.ofInt z).toInt = z := by
  rw [Int32.toInt_ofInt, fb_bmod h1 h2]
theorem fb_asI (x : Int32) : Int32.ofInt x.toInt = x := Int32.ofInt_toInt x
theorem fb_rngL (x : Int64) : -9223372036854775808 ≤ x.toInt ∧ x.toInt < 9223372036854775808 := by
  have h1 := Int64.le_toInt x
  have h2 := Int64.toInt_lt x
  omega
theorem fb_bmodL {z : Int} (h1 : -9223372036854775808 ≤ z) (h2 : z < 9223372036854775808) : z.bmod (2 ^ 64) = z := by
  rw [Int.bmod_eq_of_le (by omega) (by omega)]
theorem fb_addL {x y : Int64} (h1 : -9223372036854775808 ≤ x.toInt + y.toInt) (h2 : x.toInt + y.toInt < 9223372036854775808) : (x + y).toInt = x.toInt + y.toInt := by
  rw [Int64.toInt_add, fb_bmodL h1 h2]
theorem fb_subL {x y : Int64} (h1 : -9223372036854775808 ≤ x.toInt - y.toInt) (h2 : x.toInt - y.toInt < 9223372036854775808) : (x - y).toInt = x.toInt - y.toInt := by
  rw [Int64.toInt_sub, fb_bmodL h1 h2]
theorem fb_mulL {x y : Int64} (h1 : -9223372036854775808 ≤ x.toInt * y.toInt) (h2 : x.toInt * y.toInt < 9223372036854775808) : (x * y).toInt = x.toInt * y.toInt := by
  rw [Int64.toInt_mul, fb_bmodL h1 h2]
/-! numbers: what an Int32 or Int64 term is as an Int -/
theorem tA {x y : Int32} {a b : Int} (hx : x.toInt = a) (hy : y.toInt = b) (h : -2147483648 ≤ a + b ∧ a + b < 2147483648) : (x + y).toInt = a + b := by
  subst hx; subst hy; exact fb_addI h.1 h.2
theorem tS {x y : Int32} {a b : Int} (hx : x.toInt = a) (hy : y.toInt = b) (h : -2147483648 ≤ a - b ∧ a - b < 2147483648) : (x - y).toInt = a - b := by
  subst hx; subst hy; exact fb_subI h.1 h.2
theorem tM {x y : Int32} {a b : Int} (hx : x.toInt = a) (hy : y.toInt = b) (h : -2147483648 ≤ a * b ∧ a * b < 2147483648) : (x * y).toInt = a * b := by
  subst hx; subst hy; exact fb_mulI h.1 h.2
theorem tN {x : Int32} {a : Int} (hx : x.toInt = a) (h : a ≠ -2147483648) : (-x).toInt = -a := by
  subst hx; exact fb_negI h
theorem tAL {x y : Int64} {a b : Int} (hx : x.toInt = a) (hy : y.toInt = b) (h : -9223372036854775808 ≤ a + b ∧ a + b < 9223372036854775808) : (x + y).toInt = a + b := by
  subst hx; subst hy; exact fb_addL h.1 h.2
theorem tSL {x y : Int64} {a b : Int} (hx : x.toInt = a) (hy : y.toInt = b) (h : -9223372036854775808 ≤ a - b ∧ a - b < 9223372036854775808) : (x - y).toInt = a - b := by
  subst hx; subst hy; exact fb_subL h.1 h.2
theorem tML {x y : Int64} {a b : Int} (hx : x.toInt = a) (hy : y.toInt = b) (h : -9223372036854775808 ≤ a * b ∧ a * b < 9223372036854775808) : (x * y).toInt = a * b := by
  subst hx; subst hy; exact fb_mulL h.1 h.2
theorem tNL {x : Int64} {a : Int} (hx : x.toInt = a) (h : a ≠ -9223372036854775808) : (-x).toInt = -a := by
  subst hx
  have := fb_rngL x
  rw [Int64.toInt_neg, fb_bmodL (by omega) (by omega)]
theorem tL {x : Int32} {a : Int} (hx : x.toInt = a) : x.toInt64.toInt = a := by
  subst hx; exact Int32.toInt_toInt64 x
theorem i_lt {x y : Int32} {a b : Int} (hx : x.toInt = a) (hy : y.toInt = b) : x < y ↔ a < b := by
  subst hx; subst hy; exact Int32.lt_iff_toInt_lt
theorem i_le {x y : Int32} {a b : Int} (hx : x.toInt = a) (hy : y.toInt = b) : x ≤ y ↔ a ≤ b := by
  subst hx; subst hy; exact Int32.le_iff_toInt_le
theorem i_eq {x y : Int32} {a b : Int} (hx : x.toInt = a) (hy : y.toInt = b) : x = y ↔ a = b := by
  subst hx; subst hy; exact Int32.toInt_inj.symm
theorem l_lt {x y : Int64} {a b : Int} (hx : x.toInt = a) (hy : y.toInt = b) : x < y ↔ a < b := by
  subst hx; subst hy; exact Int64.lt_iff_toInt_lt
theorem l_le {x y : Int64} {a b : Int} (hx : x.toInt = a) (hy : y.toInt = b) : x ≤ y ↔ a ≤ b := by
  subst hx; subst hy; exact Int64.le_iff_toInt_le
theorem lc_lt {x y : Int64} : lg_cmp x y < 0 ↔ x.toInt < y.toInt := by
  unfold lg_cmp
  by_cases h : x > y
  · rw [if_pos h]
    have h2 : y.toInt < x.toInt := Int64.lt_iff_toInt_lt.mp h
    exact ⟨fun h3 => absurd h3 (by decide), fun h3 => absurd h3 (by omega)⟩
  · rw [if_neg h]
    have h2 : ¬ y.toInt < x.toInt := fun h3 => h (Int64.lt_iff_toInt_lt.mpr h3)
    by_cases h3 : x = y
    · rw [if_pos h3]
      subst h3
      exact ⟨fun h4 => absurd h4 (by decide), fun h4 => absurd h4 (by omega)⟩
    · rw [if_neg h3]
      have h4 : x.toInt ≠ y.toInt := fun h5 => h3 (Int64.toInt_inj.mp h5)
      exact ⟨fun _ => by omega, fun _ => by decide⟩
theorem lc_gt {x y : Int64} : 0 < lg_cmp x y ↔ y.toInt < x.toInt := by
  unfold lg_cmp
  by_cases h : x > y
  · rw [if_pos h]
    have h2 : y.toInt < x.toInt := Int64.lt_iff_toInt_lt.mp h
    exact ⟨fun _ => h2, fun _ => by decide⟩
  · rw [if_neg h]
    have h2 : ¬ y.toInt < x.toInt := fun h3 => h (Int64.lt_iff_toInt_lt.mpr h3)
    by_cases h3 : x = y
    · rw [if_pos h3]
      exact ⟨fun h4 => absurd h4 (by decide), fun h4 => absurd h4 h2⟩
    · rw [if_neg h3]
      exact ⟨fun h4 => absurd h4 (by decide), fun h4 => absurd h4 h2⟩
theorem i_le_not {x y : Int32} : x ≤ y ↔ ¬ y < x := by
  rw [Int32.le_iff_toInt_le, Int32.lt_iff_toInt_lt]; omega
theorem lc_le {x y : Int64} : lg_cmp x y ≤ 0 ↔ x.toInt ≤ y.toInt := by
  rw [i_le_not, lc_gt]; omega
theorem lc_ge {x y : Int64} : 0 ≤ lg_cmp x y ↔ y.toInt ≤ x.toInt := by
  rw [i_le_not, lc_lt]; omega
theorem b01_z {c : Prop} [Decidable c] : ((if c then (1 : Int32) else 0) = 0) ↔ ¬ c := by
  by_cases h : c <;> simp [h]
theorem b01_n {c : Prop} [Decidable c] : (¬ (if c then (1 : Int32) else 0) = 0) ↔ c := by
  by_cases h : c <;> simp [h]
theorem nI_t {n : Nat} (h : n < 2147483648) : (nI n).toInt = (n : Int) := nI_toInt (by omega)
theorem cl_t {x : Int32} {n : Nat} (h : x.toInt = (n : Int)) : x.toNatClampNeg = n := by
  have e : x.toNatClampNeg = x.toInt.toNat := rfl
  rw [e, h]; rfl
theorem nI_of_t {x : Int32} {n : Nat} (h : x.toInt = (n : Int)) : x = nI n := by
  have := fb_rng x
  exact Int32.toInt_inj.mp (by rw [h, nI_t (by omega)])
theorem vp_t {x : Int32} {n N : Nat} (h : x.toInt = (n : Int)) (hn : n < N) : vp_in x N := vp_in_iff.mpr (by omega)
theorem u_eq {f : Nat → Int32} {k : Nat} {x : Int32} : upd f k x k = x := by simp [upd]
theorem u_ne {f : Nat → Int32} {k j : Nat} {x : Int32} (h : j ≠ k) : upd f k x j = f j := by simp [upd, h]
theorem imax_t {x y : Int32} {a b : Int} (hx : x.toInt = a) (hy : y.toInt = b) : (imax x y).toInt = if a < b then b else a := by
  unfold imax
  by_cases h : x < y
  · rw [if_pos h, if_pos ((i_lt hx hy).mp h), hy]
  · rw [if_neg h, if_neg (fun q => h ((i_lt hx hy).mpr q)), hx]
theorem imin_t {x y : Int32} {a b : Int} (hx : x.toInt = a) (hy : y.toInt = b) : (imin x y).toInt = if b < a then b else a := by
  unfold imin
  by_cases h : y < x
  · rw [if_pos h, if_pos ((i_lt hy hx).mp h), hy]
  · rw [if_neg h, if_neg (fun q => h ((i_lt hy hx).mpr q)), hx]
theorem iabs_t {x : Int32} {a : Int} (hx : x.toInt = a) (h : a ≠ -2147483648) : (iabs x).toInt = if 0 ≤ a then a else -a := by
  unfold iabs
  have h0 : (0 : Int32).toInt = 0 := rfl
  by_cases h1 : 0 ≤ x
  · rw [if_pos h1, if_pos ((i_le h0 hx).mp h1), hx]
  · rw [if_neg h1, if_neg (fun q => h1 ((i_le h0 hx).mpr q)), tN hx h]
/-- |a| up to A times |b| up to B -/
theorem mul_bd {a b : Int} (A B : Int) (h1 : -A ≤ a) (h2 : a ≤ A) (h3 : -B ≤ b) (h4 : b ≤ B) : -(A * B) ≤ a * b ∧ a * b ≤ A * B := by
  have hA : 0 ≤ A := by omega
  have hB : 0 ≤ B := by omega
  have e : a.natAbs * b.natAbs ≤ A.natAbs * B.natAbs := Nat.mul_le_mul (by omega) (by omega)
  have e1 : (a * b).natAbs = a.natAbs * b.natAbs := Int.natAbs_mul a b
  have e2 : (A * B).natAbs = A.natAbs * B.natAbs := Int.natAbs_mul A B
  have e3 : 0 ≤ A * B := Int.mul_nonneg hA hB
  omega
theorem sq_nn (a : Int) : 0 ≤ a * a := by
  rcases Int.le_total 0 a with h | h
  · exact Int.mul_nonneg h h
  · have := Int.mul_nonneg (show 0 ≤ -a by omega) (show 0 ≤ -a by omega)
    rwa [Int.neg_mul_neg] at this
/-! the smallest methods -/
theorem s_isFromTo {x lo hi : Int32} {post : Int32 → Prop} : wp_SeamCell_isFromTo x lo hi post ↔ post (if lo.toInt ≤ x.toInt ∧ x.toInt ≤ hi.toInt then 1 else 0) := by
  unfold wp_SeamCell_isFromTo
  simp only [Int32.lt_iff_toInt_lt]
  by_cases h1 : x.toInt < lo.toInt
  · rw [if_neg (by omega)]; exact ⟨fun h => h.1 h1, fun h => ⟨fun _ => h, fun q => absurd h1 q⟩⟩
  · by_cases h2 : hi.toInt < x.toInt
    · rw [if_neg (by omega)]; exact ⟨fun h => (h.2 h1).1 h2, fun h => ⟨fun q => absurd q h1, fun _ => ⟨fun _ => h, fun q => absurd h2 q⟩⟩⟩
    · rw [if_pos (by omega)]; exact ⟨fun h => (h.2 h1).2 h2, fun h => ⟨fun q => absurd q h1, fun _ => ⟨fun q => absurd q h2, fun _ => h⟩⟩⟩
theorem s_in {x lo hi : Int64} {post : Int32 → Prop} : wp_Model_in x lo hi post ↔ post (if lo.toInt ≤ x.toInt ∧ x.toInt ≤ hi.toInt then 1 else 0) := by
  unfold wp_Model_in
  simp only [lc_lt, lc_gt]
  by_cases h1 : x.toInt < lo.toInt
  · rw [if_neg (by omega)]; exact ⟨fun h => h.1 h1, fun h => ⟨fun _ => h, fun q => absurd h1 q⟩⟩
  · by_cases h2 : hi.toInt < x.toInt
    · rw [if_neg (by omega)]; exact ⟨fun h => (h.2 h1).1 h2, fun h => ⟨fun q => absurd q h1, fun _ => ⟨fun _ => h, fun q => absurd h2 q⟩⟩⟩
    · rw [if_pos (by omega)]; exact ⟨fun h => (h.2 h1).2 h2, fun h => ⟨fun q => absurd q h1, fun _ => ⟨fun q => absurd q h2, fun _ => h⟩⟩⟩
