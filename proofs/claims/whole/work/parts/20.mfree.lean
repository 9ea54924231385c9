/-! the reference's free line -/
def shLo (n m a d n2 m2 : Int) : Prop := (n * d < a * m ∧ n2 = a ∧ m2 = d) ∨ (a * m ≤ n * d ∧ n2 = n ∧ m2 = m)
def shHi (n m b d n2 m2 : Int) : Prop := (b * m < n * d ∧ n2 = b ∧ m2 = d) ∨ (n * d ≤ b * m ∧ n2 = n ∧ m2 = m)
theorem s_shutIn {lu ld hu hd : Int64} {at' dv lo hi : Int32} {post : Int32 → Int64 → Int64 → Int64 → Int64 → Prop} {A Dx B0 B1 n m nh mh : Int} (hA : at'.toInt = A) (hDx : dv.toInt = Dx) (hB0 : lo.toInt = B0) (hB1 : hi.toInt = B1)
    (hn : lu.toInt = n) (hm : ld.toInt = m) (hnh : hu.toInt = nh) (hmh : hd.toInt = mh) (bA : -1000 ≤ A ∧ A ≤ 1000) (bD : -2000 ≤ Dx ∧ Dx ≤ 2000) (b0 : -400 ≤ B0 ∧ B0 ≤ 400) (b1 : -400 ≤ B1 ∧ B1 ≤ 400) (bn : -2000 ≤ n ∧ n ≤ 2000) (bm : -2000 ≤ m ∧ m ≤ 2000) (bnh : -2000 ≤ nh ∧ nh ≤ 2000) (bmh : -2000 ≤ mh ∧ mh ≤ 2000)
    (hz : Dx = 0 → (B0 < A ∧ A < B1 → post 1 lu ld hu hd) ∧ (¬ (B0 < A ∧ A < B1) → post 0 lu ld hu hd))
    (hp : Dx ≠ 0 → ∀ (lu' ld' hu' hd' : Int64), shLo n m (axA Dx A B0 B1) (axD Dx) lu'.toInt ld'.toInt → shHi nh mh (axB Dx A B0 B1) (axD Dx) hu'.toInt hd'.toInt → post 1 lu' ld' hu' hd') :
    wp_Model_shutIn lu ld hu hd at' dv lo hi post := by
  have z0 : (0 : Int32).toInt = 0 := rfl
  unfold wp_Model_shutIn
  rw [i_eq hDx z0, i_le hDx z0, i_le hA hB0, i_le hB1 hA]
  refine ⟨fun c => ?_, fun c => ?_⟩
  · have tail : ∀ (w2 w3 w4 : Int64), w2.toInt = axA Dx A B0 B1 → w3.toInt = axB Dx A B0 B1 → w4.toInt = axD Dx → wp_Model_shutIn_j69_7 lu ld hu hd post w2 w3 w4 := by
      intro w2 w3 w4 t2 t3 t4
      have q1 : -1400 ≤ axA Dx A B0 B1 ∧ axA Dx A B0 B1 ≤ 1400 := by unfold axA; split <;> omega
      have q2 : -1400 ≤ axB Dx A B0 B1 ∧ axB Dx A B0 B1 ≤ 1400 := by unfold axB; split <;> omega
      have q3 : -2000 ≤ axD Dx ∧ axD Dx ≤ 2000 := by unfold axD; split <;> omega
      have hp := hp c
      generalize axA Dx A B0 B1 = a at *
      generalize axB Dx A B0 B1 = b at *
      generalize axD Dx = d at *
      have e1 := mul_bd (a := a) (b := m) 1400 2000 (by omega) (by omega) (by omega) (by omega)
      have e2 := mul_bd (a := n) (b := d) 2000 2000 (by omega) (by omega) (by omega) (by omega)
      have e3 := mul_bd (a := b) (b := mh) 1400 2000 (by omega) (by omega) (by omega) (by omega)
      have e4 := mul_bd (a := nh) (b := d) 2000 2000 (by omega) (by omega) (by omega) (by omega)
      unfold wp_Model_shutIn_j69_7
      rw [lc_le, lc_ge, tML t2 hm (by omega), tML hn t4 (by omega), tML t3 hmh (by omega), tML hnh t4 (by omega)]
      refine ⟨fun c1 => ⟨fun c2 => hp _ _ _ _ (Or.inr ⟨c1, hn, hm⟩) (Or.inr ⟨c2, hnh, hmh⟩), fun c2 => hp _ _ _ _ (Or.inr ⟨c1, hn, hm⟩) (Or.inl ⟨by omega, t3, t4⟩)⟩, fun c1 => ⟨fun c2 => hp _ _ _ _ (Or.inl ⟨by omega, t2, t4⟩) (Or.inr ⟨c2, hnh, hmh⟩), fun c2 => hp _ _ _ _ (Or.inl ⟨by omega, t2, t4⟩) (Or.inl ⟨by omega, t3, t4⟩)⟩⟩
    have nD : (-dv).toInt = -Dx := tN hDx (by omega)
    refine ⟨fun c1 => ?_, fun c1 => ?_⟩
    · have e : ¬ 0 < Dx := by omega
      unfold wp_Model_shutIn_j37_9 wp_Model_shutIn_j55_8
      rw [i_le hDx z0]
      refine ⟨fun _ => ⟨fun _ => ?_, fun q => absurd c1 q⟩, fun q => absurd c1 q⟩
      exact tail _ _ _ (by rw [axA, if_neg e]; exact tL (tS hA hB1 (by omega))) (by rw [axB, if_neg e]; exact tL (tS hA hB0 (by omega))) (by rw [axD, if_neg e]; exact tL nD)
    · have e : 0 < Dx := by omega
      unfold wp_Model_shutIn_j37_9 wp_Model_shutIn_j55_8
      rw [i_le hDx z0]
      refine ⟨fun q => absurd q c1, fun _ => ⟨fun q => absurd q c1, fun _ => ?_⟩⟩
      exact tail _ _ _ (by rw [axA, if_pos e]; exact tL (tS hB0 hA (by omega))) (by rw [axB, if_pos e]; exact tL (tS hB1 hA (by omega))) (by rw [axD, if_pos e]; exact tL hDx)
  · have h := hz c
    exact ⟨fun c1 => h.2 (by omega), fun c1 => ⟨fun c2 => h.2 (by omega), fun c2 => h.1 (by omega)⟩⟩
theorem axD_pos {dx : Int} (h : dx ≠ 0) : 0 < axD dx := by unfold axD; split <;> omega
theorem sh_bd {n m a d n2 m2 : Int} (h : shLo n m a d n2 m2) (bn : -2000 ≤ n ∧ n ≤ 2000) (bm : 0 < m ∧ m ≤ 2000) (ba : -2000 ≤ a ∧ a ≤ 2000) (bd : 0 < d ∧ d ≤ 2000) : (-2000 ≤ n2 ∧ n2 ≤ 2000) ∧ (0 < m2 ∧ m2 ≤ 2000) := by
  rcases h with ⟨-, rfl, rfl⟩ | ⟨-, rfl, rfl⟩ <;> omega
theorem sh_bdH {n m a d n2 m2 : Int} (h : shHi n m a d n2 m2) (bn : -2000 ≤ n ∧ n ≤ 2000) (bm : 0 < m ∧ m ≤ 2000) (ba : -2000 ≤ a ∧ a ≤ 2000) (bd : 0 < d ∧ d ≤ 2000) : (-2000 ≤ n2 ∧ n2 ≤ 2000) ∧ (0 < m2 ∧ m2 ≤ 2000) := by
  rcases h with ⟨-, rfl, rfl⟩ | ⟨-, rfl, rfl⟩ <;> omega
