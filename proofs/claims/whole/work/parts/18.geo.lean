/-! a straight line and an open rectangle -/
def fl4 (u v p q : Int) : Prop := (u - p < 0 ∨ u - q < 0 ∨ v - p < 0 ∨ v - q < 0) ∧ (0 < u - p ∨ 0 < u - q ∨ 0 < v - p ∨ 0 < v - q)
def entP (bx0 by0 bx1 by1 x0 y0 x1 y1 : Int) : Prop := (bx0 < x0 ∨ bx0 < x1) ∧ (x0 < bx1 ∨ x1 < bx1) ∧ (by0 < y0 ∨ by0 < y1) ∧ (y0 < by1 ∨ y1 < by1) ∧ ((x1 - x0 = 0 ∧ y1 - y0 = 0) ∨ fl4 ((x1 - x0) * (by0 - y0)) ((x1 - x0) * (by1 - y0)) ((y1 - y0) * (bx0 - x0)) ((y1 - y0) * (bx1 - x0)))
/-- n by m is below p by q -/
def frl (n m p q : Int) : Prop := n * q < p * m
theorem mul_can {a b c : Int} (hc : 0 < c) (h : a * c < b * c) : a < b := Int.lt_of_mul_lt_mul_right h (Int.le_of_lt hc)
theorem mul_canle {a b c : Int} (hc : 0 < c) (h : a * c ≤ b * c) : a ≤ b := Int.le_of_mul_le_mul_right h hc
theorem frl_le {n m a d p q : Int} (hm : 0 < m) (hd : 0 < d) (hq : 0 < q) (h1 : n * d ≤ a * m) (h2 : a * q < p * d) : n * q < p * m := by
  apply mul_can hd
  have e1 : n * d * q ≤ a * m * q := Int.mul_le_mul_of_nonneg_right h1 (Int.le_of_lt hq)
  have e2 : a * q * m < p * d * m := Int.mul_lt_mul_of_pos_right h2 hm
  have f1 : n * q * d = n * d * q := Int.mul_right_comm n q d
  have f2 : a * q * m = a * m * q := Int.mul_right_comm a q m
  have f3 : p * m * d = p * d * m := Int.mul_right_comm p m d
  omega
theorem frl_ge {n m b d p q : Int} (hm : 0 < m) (hd : 0 < d) (hq : 0 < q) (h1 : b * m ≤ n * d) (h2 : p * d < b * q) : p * m < n * q := by
  apply mul_can hd
  have e1 : b * m * q ≤ n * d * q := Int.mul_le_mul_of_nonneg_right h1 (Int.le_of_lt hq)
  have e2 : p * d * m < b * q * m := Int.mul_lt_mul_of_pos_right h2 hm
  have f1 : n * q * d = n * d * q := Int.mul_right_comm n q d
  have f2 : b * q * m = b * m * q := Int.mul_right_comm b q m
  have f3 : p * m * d = p * d * m := Int.mul_right_comm p m d
  omega
/-- the greater of two lower bounds is below t just where both are -/
theorem lo_max {n m a d p q n2 m2 : Int} (hm : 0 < m) (hd : 0 < d) (hq : 0 < q) (h : (n * d < a * m ∧ n2 = a ∧ m2 = d) ∨ (a * m ≤ n * d ∧ n2 = n ∧ m2 = m)) : n2 * q < p * m2 ↔ (n * q < p * m ∧ a * q < p * d) := by
  rcases h with ⟨h, rfl, rfl⟩ | ⟨h, rfl, rfl⟩
  · exact ⟨fun k => ⟨frl_le hm hd hq (Int.le_of_lt h) k, k⟩, fun k => k.2⟩
  · exact ⟨fun k => ⟨k, frl_le hd hm hq h k⟩, fun k => k.1⟩
theorem hi_min {n m b d p q n2 m2 : Int} (hm : 0 < m) (hd : 0 < d) (hq : 0 < q) (h : (b * m < n * d ∧ n2 = b ∧ m2 = d) ∨ (n * d ≤ b * m ∧ n2 = n ∧ m2 = m)) : p * m2 < n2 * q ↔ (p * m < n * q ∧ p * d < b * q) := by
  rcases h with ⟨h, rfl, rfl⟩ | ⟨h, rfl, rfl⟩
  · exact ⟨fun k => ⟨frl_ge hm hd hq (Int.le_of_lt h) k, k⟩, fun k => k.2⟩
  · exact ⟨fun k => ⟨k, frl_ge hd hm hq h k⟩, fun k => k.1⟩
/-- one axis: what it asks of a time t = p by q that is shut in from both sides -/
def axA (dx x0 b0 b1 : Int) : Int := if 0 < dx then b0 - x0 else x0 - b1
def axB (dx x0 b0 b1 : Int) : Int := if 0 < dx then b1 - x0 else x0 - b0
def axD (dx : Int) : Int := if 0 < dx then dx else -dx
def modP (bx0 by0 bx1 by1 x0 y0 x1 y1 : Int) : Prop :=
  (x1 - x0 = 0 → bx0 < x0 ∧ x0 < bx1) ∧ (y1 - y0 = 0 → by0 < y0 ∧ y0 < by1) ∧
  (x1 - x0 ≠ 0 → axA (x1 - x0) x0 bx0 bx1 < axD (x1 - x0) ∧ 0 < axB (x1 - x0) x0 bx0 bx1) ∧
  (y1 - y0 ≠ 0 → axA (y1 - y0) y0 by0 by1 < axD (y1 - y0) ∧ 0 < axB (y1 - y0) y0 by0 by1) ∧
  (x1 - x0 ≠ 0 → y1 - y0 ≠ 0 → axA (x1 - x0) x0 bx0 bx1 * axD (y1 - y0) < axB (y1 - y0) y0 by0 by1 * axD (x1 - x0) ∧ axA (y1 - y0) y0 by0 by1 * axD (x1 - x0) < axB (x1 - x0) x0 bx0 bx1 * axD (y1 - y0))
theorem ent_iff {bx0 by0 bx1 by1 x0 y0 x1 y1 : Int} (hx : bx0 < bx1) (hy : by0 < by1) : entP bx0 by0 bx1 by1 x0 y0 x1 y1 ↔ modP bx0 by0 bx1 by1 x0 y0 x1 y1 := by
  unfold entP modP fl4 axA axB axD
  generalize hdx : x1 - x0 = dx
  generalize hdy : y1 - y0 = dy
  have mlt : ∀ {k a b : Int}, 0 < k → a < b → k * a < k * b := fun hk h => Int.mul_lt_mul_of_pos_left h hk
  have mgt : ∀ {k a b : Int}, k < 0 → a < b → k * b < k * a := fun {k a b} hk h => by
    have := Int.mul_lt_mul_of_pos_left h (show 0 < -k by omega)
    rw [Int.neg_mul, Int.neg_mul] at this
    omega
  have hA : by0 - y0 < by1 - y0 := by omega
  have hB : bx0 - x0 < bx1 - x0 := by omega
  rcases Int.lt_trichotomy dx 0 with dxn | dxz | dxp
  · rcases Int.lt_trichotomy dy 0 with dyn | dyz | dyp
    · have h1 := mgt dxn hA
      have h2 := mgt dyn hB
      simp only [show ¬ 0 < dx by omega, show ¬ 0 < dy by omega, if_false, show dx ≠ 0 by omega, show dy ≠ 0 by omega, ne_eq, not_false_eq_true, true_imp_iff, false_imp_iff, true_and, false_and, false_or]
      have e1 : (x0 - bx1) * -dy = dy * (bx1 - x0) := by rw [Int.mul_comm, ← Int.neg_sub bx1 x0, Int.neg_mul_neg]
      have e2 : (y0 - by0) * -dx = dx * (by0 - y0) := by rw [Int.mul_comm, ← Int.neg_sub by0 y0, Int.neg_mul_neg]
      have e3 : (y0 - by1) * -dx = dx * (by1 - y0) := by rw [Int.mul_comm, ← Int.neg_sub by1 y0, Int.neg_mul_neg]
      have e4 : (x0 - bx0) * -dy = dy * (bx0 - x0) := by rw [Int.mul_comm, ← Int.neg_sub bx0 x0, Int.neg_mul_neg]
      rw [e1, e2, e3, e4]
      generalize dx * (by0 - y0) = u at *
      generalize dx * (by1 - y0) = v at *
      generalize dy * (bx0 - x0) = p at *
      generalize dy * (bx1 - x0) = q at *
      omega
    · subst dyz
      have h1 := mgt dxn hA
      simp only [show ¬ 0 < dx by omega, if_false, show dx ≠ 0 by omega, ne_eq, not_false_eq_true, true_imp_iff, false_imp_iff, true_and, false_and, false_or, not_true_eq_false, Int.zero_mul, and_true]
      generalize hu : dx * (by0 - y0) = u at *
      generalize hv : dx * (by1 - y0) = v at *
      have s1 : 0 < y0 - by0 → 0 < u := fun h => by
        have := mgt dxn (show by0 - y0 < 0 by omega)
        rw [Int.mul_zero] at this; omega
      have s2 : 0 < by1 - y0 → v < 0 := fun h => by
        have := mgt dxn h
        rw [Int.mul_zero] at this; omega
      omega
    · have h1 := mgt dxn hA
      have h2 := mlt dyp hB
      simp only [show ¬ 0 < dx by omega, show 0 < dy by omega, if_false, if_true, show dx ≠ 0 by omega, show dy ≠ 0 by omega, ne_eq, not_false_eq_true, true_imp_iff, false_imp_iff, true_and, false_and, false_or]
      have e1 : (x0 - bx1) * dy = -(dy * (bx1 - x0)) := by rw [← Int.neg_sub bx1 x0, Int.neg_mul, Int.mul_comm]
      have e2 : (by1 - y0) * -dx = -(dx * (by1 - y0)) := by rw [Int.mul_neg, Int.mul_comm]
      have e3 : (by0 - y0) * -dx = -(dx * (by0 - y0)) := by rw [Int.mul_neg, Int.mul_comm]
      have e4 : (x0 - bx0) * dy = -(dy * (bx0 - x0)) := by rw [← Int.neg_sub bx0 x0, Int.neg_mul, Int.mul_comm]
      rw [e1, e2, e3, e4]
      generalize dx * (by0 - y0) = u at *
      generalize dx * (by1 - y0) = v at *
      generalize dy * (bx0 - x0) = p at *
      generalize dy * (bx1 - x0) = q at *
      omega
  · subst dxz
    rcases Int.lt_trichotomy dy 0 with dyn | dyz | dyp
    · have h2 := mgt dyn hB
      simp only [show ¬ 0 < dy by omega, if_false, show dy ≠ 0 by omega, ne_eq, not_false_eq_true, true_imp_iff, false_imp_iff, true_and, false_and, false_or, not_true_eq_false, Int.zero_mul, and_true, and_false]
      generalize hu : dy * (bx0 - x0) = u at *
      generalize hv : dy * (bx1 - x0) = v at *
      have s1 : 0 < x0 - bx0 → 0 < u := fun h => by
        have := mgt dyn (show bx0 - x0 < 0 by omega)
        rw [Int.mul_zero] at this; omega
      have s2 : 0 < bx1 - x0 → v < 0 := fun h => by
        have := mgt dyn h
        rw [Int.mul_zero] at this; omega
      omega
    · subst dyz
      simp only [ne_eq, not_true_eq_false, false_imp_iff, true_imp_iff, and_true, true_and, and_self, true_or]
      omega
    · have h2 := mlt dyp hB
      simp only [dyp, if_true, show dy ≠ 0 by omega, ne_eq, not_false_eq_true, true_imp_iff, false_imp_iff, true_and, false_and, false_or, not_true_eq_false, Int.zero_mul, and_true, and_false]
      generalize hu : dy * (bx0 - x0) = u at *
      generalize hv : dy * (bx1 - x0) = v at *
      have s1 : 0 < x0 - bx0 → u < 0 := fun h => by
        have := mlt dyp (show bx0 - x0 < 0 by omega)
        rw [Int.mul_zero] at this; omega
      have s2 : 0 < bx1 - x0 → 0 < v := fun h => by
        have := mlt dyp h
        rw [Int.mul_zero] at this; omega
      omega
  · rcases Int.lt_trichotomy dy 0 with dyn | dyz | dyp
    · have h1 := mlt dxp hA
      have h2 := mgt dyn hB
      simp only [dxp, show ¬ 0 < dy by omega, if_false, if_true, show dx ≠ 0 by omega, show dy ≠ 0 by omega, ne_eq, not_false_eq_true, true_imp_iff, false_imp_iff, true_and, false_and, false_or]
      have e1 : (bx0 - x0) * -dy = -(dy * (bx0 - x0)) := by rw [Int.mul_neg, Int.mul_comm]
      have e2 : (y0 - by0) * dx = -(dx * (by0 - y0)) := by rw [← Int.neg_sub by0 y0, Int.neg_mul, Int.mul_comm]
      have e3 : (y0 - by1) * dx = -(dx * (by1 - y0)) := by rw [← Int.neg_sub by1 y0, Int.neg_mul, Int.mul_comm]
      have e4 : (bx1 - x0) * -dy = -(dy * (bx1 - x0)) := by rw [Int.mul_neg, Int.mul_comm]
      rw [e1, e2, e3, e4]
      generalize dx * (by0 - y0) = u at *
      generalize dx * (by1 - y0) = v at *
      generalize dy * (bx0 - x0) = p at *
      generalize dy * (bx1 - x0) = q at *
      omega
    · subst dyz
      have h1 := mlt dxp hA
      simp only [dxp, if_true, show dx ≠ 0 by omega, ne_eq, not_false_eq_true, true_imp_iff, false_imp_iff, true_and, false_and, false_or, not_true_eq_false, Int.zero_mul, and_true]
      generalize hu : dx * (by0 - y0) = u at *
      generalize hv : dx * (by1 - y0) = v at *
      have s1 : 0 < y0 - by0 → u < 0 := fun h => by
        have := mlt dxp (show by0 - y0 < 0 by omega)
        rw [Int.mul_zero] at this; omega
      have s2 : 0 < by1 - y0 → 0 < v := fun h => by
        have := mlt dxp h
        rw [Int.mul_zero] at this; omega
      omega
    · have h1 := mlt dxp hA
      have h2 := mlt dyp hB
      simp only [dxp, dyp, if_true, show dx ≠ 0 by omega, show dy ≠ 0 by omega, ne_eq, not_false_eq_true, true_imp_iff, false_imp_iff, true_and, false_and, false_or]
      rw [Int.mul_comm (bx0 - x0) dy, Int.mul_comm (by1 - y0) dx, Int.mul_comm (by0 - y0) dx, Int.mul_comm (bx1 - x0) dy]
      generalize dx * (by0 - y0) = u at *
      generalize dx * (by1 - y0) = v at *
      generalize dy * (bx0 - x0) = p at *
      generalize dy * (bx1 - x0) = q at *
      omega
