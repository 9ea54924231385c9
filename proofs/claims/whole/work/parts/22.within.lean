/-! within reach -/
def witP (a b x0 y0 x1 y1 : Int) : Prop := x0 * x0 + y0 * y0 ≤ (a + b) * (a + b) ∧ x1 * x1 + y1 * y1 ≤ (a + b) * (a + b) ∧ (a - b) * (a - b) ≤ x0 * x0 + y0 * y0 ∧ (a - b) * (a - b) ≤ x1 * x1 + y1 * y1 ∧
  (0 < -(x0 * (x1 - x0) + y0 * (y1 - y0)) → -(x0 * (x1 - x0) + y0 * (y1 - y0)) < (x1 - x0) * (x1 - x0) + (y1 - y0) * (y1 - y0) → (a - b) * (a - b) * ((x1 - x0) * (x1 - x0) + (y1 - y0) * (y1 - y0)) ≤ (x0 * (y1 - y0) - y0 * (x1 - x0)) * (x0 * (y1 - y0) - y0 * (x1 - x0)))
theorem id_G (x0 y0 x1 y1 : Int) : x1 * x1 + y1 * y1 = (x0 * x0 + y0 * y0) - 2 * (-(x0 * (x1 - x0) + y0 * (y1 - y0))) + ((x1 - x0) * (x1 - x0) + (y1 - y0) * (y1 - y0)) := by grind
theorem id_F (x0 y0 x1 y1 : Int) : (x0 * x0 + y0 * y0) * ((x1 - x0) * (x1 - x0) + (y1 - y0) * (y1 - y0)) = (x0 * (y1 - y0) - y0 * (x1 - x0)) * (x0 * (y1 - y0) - y0 * (x1 - x0)) + (-(x0 * (x1 - x0) + y0 * (y1 - y0))) * (-(x0 * (x1 - x0) + y0 * (y1 - y0))) := by grind
theorem id_H (F al wh cc : Int) (h : F * wh = cc + al * al) : (F - 2 * al + wh) * wh = cc + (wh - al) * (wh - al) := by grind
theorem wit_iff {a b x0 y0 x1 y1 : Int} : witP a b x0 y0 x1 y1 ↔ (x0 * x0 + y0 * y0 ≤ (a + b) * (a + b) ∧ x1 * x1 + y1 * y1 ≤ (a + b) * (a + b) ∧
    (¬ 0 < -(x0 * (x1 - x0) + y0 * (y1 - y0)) → (a - b) * (a - b) ≤ x0 * x0 + y0 * y0) ∧
    (0 < -(x0 * (x1 - x0) + y0 * (y1 - y0)) → ¬ -(x0 * (x1 - x0) + y0 * (y1 - y0)) < (x1 - x0) * (x1 - x0) + (y1 - y0) * (y1 - y0) → (a - b) * (a - b) ≤ x1 * x1 + y1 * y1) ∧
    (0 < -(x0 * (x1 - x0) + y0 * (y1 - y0)) → -(x0 * (x1 - x0) + y0 * (y1 - y0)) < (x1 - x0) * (x1 - x0) + (y1 - y0) * (y1 - y0) → (a - b) * (a - b) * ((x1 - x0) * (x1 - x0) + (y1 - y0) * (y1 - y0)) ≤ (x0 * (y1 - y0) - y0 * (x1 - x0)) * (x0 * (y1 - y0) - y0 * (x1 - x0)))) := by
  unfold witP
  have eG := id_G x0 y0 x1 y1
  have eF := id_F x0 y0 x1 y1
  have s1 := sq_nn (x1 - x0)
  have s2 := sq_nn (y1 - y0)
  generalize x0 * x0 + y0 * y0 = F at *
  generalize x1 * x1 + y1 * y1 = G at *
  generalize hal : -(x0 * (x1 - x0) + y0 * (y1 - y0)) = al at *
  have hwh : 0 ≤ (x1 - x0) * (x1 - x0) + (y1 - y0) * (y1 - y0) := by omega
  generalize (x1 - x0) * (x1 - x0) + (y1 - y0) * (y1 - y0) = wh at *
  generalize (a - b) * (a - b) = N at *
  have hcc := sq_nn (x0 * (y1 - y0) - y0 * (x1 - x0))
  generalize (x0 * (y1 - y0) - y0 * (x1 - x0)) * (x0 * (y1 - y0) - y0 * (x1 - x0)) = cc at *
  have eH := id_H F al wh cc eF
  constructor
  · intro ⟨h1, h2, h3, h4, h5⟩
    exact ⟨h1, h2, fun _ => h3, fun _ _ => h4, h5⟩
  · intro ⟨h1, h2, h3, h4, h5⟩
    rcases Int.lt_or_le 0 al with q | q
    · rcases Int.lt_or_le al wh with q2 | q2
      · have k := h5 q q2
        have hp : 0 < wh := by omega
        refine ⟨h1, h2, ?_, ?_, h5⟩
        · apply mul_canle hp
          have := sq_nn al
          omega
        · rw [eG]
          apply mul_canle hp
          rw [eH]
          have := sq_nn (wh - al)
          omega
      · have k := h4 q (by omega)
        exact ⟨h1, h2, by omega, k, h5⟩
    · have k := h3 (by omega)
      exact ⟨h1, h2, k, by omega, h5⟩
theorem s_square {x : Int32} {post : Int32 → Prop} : wp_SeamCell_square x post ↔ post (x * x) := Iff.rfl
theorem s_msquare {x y : Int64} {post : Int64 → Prop} : wp_Model_square x y post ↔ post (x * x + y * y) := Iff.rfl
theorem tSq {x : Int32} {a : Int} (hx : x.toInt = a) (h1 : -40000 ≤ a) (h2 : a ≤ 40000) : (x * x).toInt = a * a := by
  have := mul_bd (a := a) (b := a) 40000 40000 (by omega) (by omega) (by omega) (by omega)
  exact tM hx hx (by omega)
def linkOK (a b : Int32) : Prop := (10 ≤ a.toInt ∧ a.toInt ≤ 300) ∧ (10 ≤ b.toInt ∧ b.toInt ≤ 300)
theorem s_isWithin {la lb x0 y0 x1 y1 : Int32} {post : Int32 → Prop} (hl : linkOK la lb) (h0 : ptOK x0 y0) (h1 : ptOK x1 y1) (k1 : witP la.toInt lb.toInt x0.toInt y0.toInt x1.toInt y1.toInt → post 1) (k0 : ¬ witP la.toInt lb.toInt x0.toInt y0.toInt x1.toInt y1.toInt → post 0) : wp_Cell_isWithin la lb x0 y0 x1 y1 post := by
  rw [wit_iff] at k1 k0
  unfold wp_Cell_isWithin
  simp only [s_square]
  obtain ⟨⟨l1, l2⟩, l3, l4⟩ := hl
  obtain ⟨⟨a1, a2⟩, a3, a4⟩ := h0
  obtain ⟨⟨a5, a6⟩, a7, a8⟩ := h1
  generalize hA : la.toInt = A at *
  generalize hB : lb.toInt = B at *
  generalize hX0 : x0.toInt = X0 at *
  generalize hX1 : x1.toInt = X1 at *
  generalize hY0 : y0.toInt = Y0 at *
  generalize hY1 : y1.toInt = Y1 at *
  have p1 := mul_bd (a := X0) (b := X0) 1000 1000 (by omega) (by omega) (by omega) (by omega)
  have p2 := mul_bd (a := Y0) (b := Y0) 1000 1000 (by omega) (by omega) (by omega) (by omega)
  have p3 := mul_bd (a := X1) (b := X1) 1000 1000 (by omega) (by omega) (by omega) (by omega)
  have p4 := mul_bd (a := Y1) (b := Y1) 1000 1000 (by omega) (by omega) (by omega) (by omega)
  have p5 := mul_bd (a := X0) (b := X1 - X0) 1000 2000 (by omega) (by omega) (by omega) (by omega)
  have p6 := mul_bd (a := Y0) (b := Y1 - Y0) 1000 2000 (by omega) (by omega) (by omega) (by omega)
  have p7 := mul_bd (a := X1 - X0) (b := X1 - X0) 2000 2000 (by omega) (by omega) (by omega) (by omega)
  have p8 := mul_bd (a := Y1 - Y0) (b := Y1 - Y0) 2000 2000 (by omega) (by omega) (by omega) (by omega)
  have p9 := mul_bd (a := X0) (b := Y1 - Y0) 1000 2000 (by omega) (by omega) (by omega) (by omega)
  have p10 := mul_bd (a := Y0) (b := X1 - X0) 1000 2000 (by omega) (by omega) (by omega) (by omega)
  have p11 := mul_bd (a := A - B) (b := A - B) 300 300 (by omega) (by omega) (by omega) (by omega)
  intro x5 e5 x6 e6
  have t5 : x5.toInt = X0 * X0 + Y0 * Y0 := e5 ▸ tA (tSq hX0 (by omega) (by omega)) (tSq hY0 (by omega) (by omega)) (by omega)
  have t6 : x6.toInt = X1 * X1 + Y1 * Y1 := e6 ▸ tA (tSq hX1 (by omega) (by omega)) (tSq hY1 (by omega) (by omega)) (by omega)
  have tR : ((la + lb) * (la + lb)).toInt = (A + B) * (A + B) := tSq (tA hA hB (by omega)) (by omega) (by omega)
  have tN : ((la - lb) * (la - lb)).toInt = (A - B) * (A - B) := tSq (tS hA hB (by omega)) (by omega) (by omega)
  rw [i_le (imax_t t5 t6) tR]
  refine ⟨fun c => ?_, fun c => k0 (fun h => c (by split <;> omega))⟩
  have c1 : X0 * X0 + Y0 * Y0 ≤ (A + B) * (A + B) := by split at c <;> omega
  have c2 : X1 * X1 + Y1 * Y1 ≤ (A + B) * (A + B) := by split at c <;> omega
  clear c
  intro x7 e7 x8 e8 x9 e9 x10 e10
  have t7 : x7.toInt = X1 - X0 := e7 ▸ tS hX1 hX0 (by omega)
  have t8 : x8.toInt = Y1 - Y0 := e8 ▸ tS hY1 hY0 (by omega)
  have t9 : x9.toInt = -(X0 * (X1 - X0) + Y0 * (Y1 - Y0)) := e9 ▸ Int32.toInt_neg _ ▸ (by
    rw [tA (tM hX0 t7 (by omega)) (tM hY0 t8 (by omega)) (by omega)]
    exact fb_bmod (by omega) (by omega))
  have t10 : x10.toInt = (X1 - X0) * (X1 - X0) + (Y1 - Y0) * (Y1 - Y0) := e10 ▸ tA (tSq t7 (by omega) (by omega)) (tSq t8 (by omega) (by omega)) (by omega)
  have z0 : (0 : Int32).toInt = 0 := rfl
  rw [i_lt z0 t9, i_lt t9 t10, i_lt t6 tN, i_lt t5 tN]
  refine ⟨fun c3 => ⟨fun c4 x12 e12 => ?_, fun c4 => ⟨fun c5 => k0 (fun h => ?_), fun c5 => k1 ⟨c1, c2, fun q => absurd c3 q, fun _ _ => by omega, fun _ q => absurd q c4⟩⟩⟩, fun c3 => ⟨fun c5 => k0 (fun h => ?_), fun c5 => k1 ⟨c1, c2, fun _ => by omega, fun q => absurd q c3, fun q => absurd q c3⟩⟩⟩
  · have t12 : x12.toInt = X0 * (Y1 - Y0) - Y0 * (X1 - X0) := e12 ▸ tSL (tML (tL hX0) (tL t8) (by omega)) (tML (tL hY0) (tL t7) (by omega)) (by omega)
    have q1 := mul_bd (a := X0 * (Y1 - Y0) - Y0 * (X1 - X0)) (b := X0 * (Y1 - Y0) - Y0 * (X1 - X0)) 4000000 4000000 (by omega) (by omega) (by omega) (by omega)
    have q2 := mul_bd (a := (A - B) * (A - B)) (b := (X1 - X0) * (X1 - X0) + (Y1 - Y0) * (Y1 - Y0)) 90000 8000000 (by omega) (by omega) (by omega) (by omega)
    rw [lc_lt, tML t12 t12 (by omega), tML (tL tN) (tL t10) (by omega)]
    exact ⟨fun c5 => k0 (fun h => by have := h.2.2.2.2 c3 c4; omega), fun c5 => k1 ⟨c1, c2, fun q => absurd c3 q, fun _ q => absurd c4 q, fun _ _ => by omega⟩⟩
  · have := h.2.2.2.1 c3 c4; omega
  · have := h.2.2.1 c3; omega
theorem s_misWithin {la lb x0 y0 x1 y1 : Int32} {post : Int32 → Prop} (hl : linkOK la lb) (h0 : ptOK x0 y0) (h1 : ptOK x1 y1) (k1 : witP la.toInt lb.toInt x0.toInt y0.toInt x1.toInt y1.toInt → post 1) (k0 : ¬ witP la.toInt lb.toInt x0.toInt y0.toInt x1.toInt y1.toInt → post 0) : wp_Model_isWithin la lb x0 y0 x1 y1 post := by
  unfold witP at k1 k0
  unfold wp_Model_isWithin
  simp only [s_msquare]
  obtain ⟨⟨l1, l2⟩, l3, l4⟩ := hl
  obtain ⟨⟨a1, a2⟩, a3, a4⟩ := h0
  obtain ⟨⟨a5, a6⟩, a7, a8⟩ := h1
  generalize hA : la.toInt = A at *
  generalize hB : lb.toInt = B at *
  generalize hX0 : x0.toInt = X0 at *
  generalize hX1 : x1.toInt = X1 at *
  generalize hY0 : y0.toInt = Y0 at *
  generalize hY1 : y1.toInt = Y1 at *
  have p1 := mul_bd (a := X0) (b := X0) 1000 1000 (by omega) (by omega) (by omega) (by omega)
  have p2 := mul_bd (a := Y0) (b := Y0) 1000 1000 (by omega) (by omega) (by omega) (by omega)
  have p3 := mul_bd (a := X1) (b := X1) 1000 1000 (by omega) (by omega) (by omega) (by omega)
  have p4 := mul_bd (a := Y1) (b := Y1) 1000 1000 (by omega) (by omega) (by omega) (by omega)
  have p5 := mul_bd (a := X0) (b := X1 - X0) 1000 2000 (by omega) (by omega) (by omega) (by omega)
  have p6 := mul_bd (a := Y0) (b := Y1 - Y0) 1000 2000 (by omega) (by omega) (by omega) (by omega)
  have p7 := mul_bd (a := X1 - X0) (b := X1 - X0) 2000 2000 (by omega) (by omega) (by omega) (by omega)
  have p8 := mul_bd (a := Y1 - Y0) (b := Y1 - Y0) 2000 2000 (by omega) (by omega) (by omega) (by omega)
  have p9 := mul_bd (a := X0) (b := Y1 - Y0) 1000 2000 (by omega) (by omega) (by omega) (by omega)
  have p10 := mul_bd (a := Y0) (b := X1 - X0) 1000 2000 (by omega) (by omega) (by omega) (by omega)
  have p11 := mul_bd (a := A - B) (b := A - B) 300 300 (by omega) (by omega) (by omega) (by omega)
  have p12 := mul_bd (a := A + B) (b := A + B) 600 600 (by omega) (by omega) (by omega) (by omega)
  intro x5 e5 x7 e7
  have t5 : x5.toInt = (A - B) * (A - B) := e5 ▸ tML (tL (tS hA hB (by omega))) (tL (tS hA hB (by omega))) (by omega)
  have t7 : x7.toInt = (A + B) * (A + B) := e7 ▸ tML (tL (tA hA hB (by omega))) (tL (tA hA hB (by omega))) (by omega)
  have tF : (x0.toInt64 * x0.toInt64 + y0.toInt64 * y0.toInt64).toInt = X0 * X0 + Y0 * Y0 := tAL (tML (tL hX0) (tL hX0) (by omega)) (tML (tL hY0) (tL hY0) (by omega)) (by omega)
  have tG : (x1.toInt64 * x1.toInt64 + y1.toInt64 * y1.toInt64).toInt = X1 * X1 + Y1 * Y1 := tAL (tML (tL hX1) (tL hX1) (by omega)) (tML (tL hY1) (tL hY1) (by omega)) (by omega)
  rw [lc_gt, lc_gt, lc_lt, lc_ge, tF, tG, t5, t7]
  refine ⟨fun c => k0 (fun h => by omega), fun c => ⟨fun c1 => k0 (fun h => by omega), fun c1 => ⟨fun c2 => k0 (fun h => by omega), fun c2 => ⟨fun c3 => ?_, fun c3 => k0 (fun h => by omega)⟩⟩⟩⟩
  intro x13 e13 x15 e15 x17 e17
  have t13 : x13.toInt = X1 - X0 := e13 ▸ tL (tS hX1 hX0 (by omega))
  have t15 : x15.toInt = Y1 - Y0 := e15 ▸ tL (tS hY1 hY0 (by omega))
  have t17 : x17.toInt = -(X0 * (X1 - X0) + Y0 * (Y1 - Y0)) := e17 ▸ tNL (tAL (tML (tL hX0) t13 (by omega)) (tML (tL hY0) t15 (by omega)) (by omega)) (by omega)
  have tw : (x13 * x13 + x15 * x15).toInt = (X1 - X0) * (X1 - X0) + (Y1 - Y0) * (Y1 - Y0) := tAL (tML t13 t13 (by omega)) (tML t15 t15 (by omega)) (by omega)
  have z0 : (0 : Int64).toInt = 0 := rfl
  rw [lc_le, lc_lt, t17, tw, z0]
  refine ⟨fun c4 => k1 ⟨by omega, by omega, by omega, by omega, fun q => absurd q (by omega)⟩, fun c4 => ⟨fun c5 x21 e21 => ?_, fun c5 => k1 ⟨by omega, by omega, by omega, by omega, fun _ q => absurd q c5⟩⟩⟩
  have t21 : x21.toInt = X0 * (Y1 - Y0) - Y0 * (X1 - X0) := e21 ▸ tSL (tML (tL hX0) t15 (by omega)) (tML (tL hY0) t13 (by omega)) (by omega)
  have q1 := mul_bd (a := X0 * (Y1 - Y0) - Y0 * (X1 - X0)) (b := X0 * (Y1 - Y0) - Y0 * (X1 - X0)) 4000000 4000000 (by omega) (by omega) (by omega) (by omega)
  have q2 := mul_bd (a := (A - B) * (A - B)) (b := (X1 - X0) * (X1 - X0) + (Y1 - Y0) * (Y1 - Y0)) 90000 8000000 (by omega) (by omega) (by omega) (by omega)
  rw [lc_lt, tML t21 t21 (by omega), tML t5 tw (by omega)]
  exact ⟨fun c6 => k0 (fun h => by have := h.2.2.2.2 (by omega) c5; omega), fun c6 => k1 ⟨by omega, by omega, by omega, by omega, fun _ _ => by omega⟩⟩
