theorem inc_t {x : Int32} {j : Nat} (hx : x.toInt = (j : Int)) (h : j < 2147483647) : (x + (1 : Int32)).toInt = ((j + 1 : Nat) : Int) := by
  have h1 : (1 : Int32).toInt = 1 := rfl
  rw [tA hx h1 (by omega)]; omega
theorem s_entersBar {bX0 bY0 bX1 bY1 : Nat → Int32} {k : Nat} {i x0 y0 x1 y1 : Int32} {post : Int32 → Prop} (hk : i.toInt = (k : Int)) (hk4 : k < 4)
    (bx : -1000 ≤ x0.toInt ∧ x0.toInt ≤ 1000) (by' : -1000 ≤ y0.toInt ∧ y0.toInt ≤ 1000) (bx1 : -1000 ≤ x1.toInt ∧ x1.toInt ≤ 1000) (by1' : -1000 ≤ y1.toInt ∧ y1.toInt ≤ 1000)
    (r0 : -400 ≤ (bX0 k).toInt ∧ (bX0 k).toInt ≤ 400) (r1 : -400 ≤ (bY0 k).toInt ∧ (bY0 k).toInt ≤ 400) (r2 : -400 ≤ (bX1 k).toInt ∧ (bX1 k).toInt ≤ 400) (r3 : -400 ≤ (bY1 k).toInt ∧ (bY1 k).toInt ≤ 400)
    (h1 : entP (bX0 k).toInt (bY0 k).toInt (bX1 k).toInt (bY1 k).toInt x0.toInt y0.toInt x1.toInt y1.toInt → post 1) (h0 : ¬ entP (bX0 k).toInt (bY0 k).toInt (bX1 k).toInt (bY1 k).toInt x0.toInt y0.toInt x1.toInt y1.toInt → post 0) :
    wp_Cell_entersBar bX0 bY0 bX1 bY1 i x0 y0 x1 y1 post := by
  unfold wp_Cell_entersBar
  have hv : vp_in i 4 := vp_t hk hk4
  rw [cl_t hk]
  generalize hX0 : x0.toInt = X0 at *
  generalize hX1 : x1.toInt = X1 at *
  generalize hY0 : y0.toInt = Y0 at *
  generalize hY1 : y1.toInt = Y1 at *
  generalize hBX0 : (bX0 k).toInt = BX0 at *
  generalize hBX1 : (bX1 k).toInt = BX1 at *
  generalize hBY0 : (bY0 k).toInt = BY0 at *
  generalize hBY1 : (bY1 k).toInt = BY1 at *
  have m1 := imax_t hX0 hX1
  have m2 := imin_t hX0 hX1
  have m3 := imax_t hY0 hY1
  have m4 := imin_t hY0 hY1
  rw [i_le m1 hBX0, i_lt m2 hBX1, i_le m3 hBY0, i_lt m4 hBY1]
  refine ⟨hv, fun c1 => h0 (fun hE => ?_), fun c1 => ⟨hv, fun c2 => ⟨hv, fun c3 => h0 (fun hE => ?_), fun c3 => ⟨hv, fun c4 => ?_, fun c4 => h0 (fun hE => ?_)⟩⟩, fun c2 => h0 (fun hE => ?_)⟩⟩
  · have := hE.1; split at c1 <;> omega
  · have := hE.2.2.1; split at c3 <;> omega
  · have c1' : BX0 < X0 ∨ BX0 < X1 := by split at c1 <;> omega
    have c2' : X0 < BX1 ∨ X1 < BX1 := by split at c2 <;> omega
    have c3' : BY0 < Y0 ∨ BY0 < Y1 := by split at c3 <;> omega
    have c4' : Y0 < BY1 ∨ Y1 < BY1 := by split at c4 <;> omega
    clear c1 c2 c3 c4
    intro x6 e6 x7 e7
    have t6 : x6.toInt = X1 - X0 := e6 ▸ tS hX1 hX0 (by omega)
    have t7 : x7.toInt = Y1 - Y0 := e7 ▸ tS hY1 hY0 (by omega)
    have tA0 : (bY0 k - y0).toInt = BY0 - Y0 := tS hBY0 hY0 (by omega)
    have tA1 : (bY1 k - y0).toInt = BY1 - Y0 := tS hBY1 hY0 (by omega)
    have tB0 : (bX0 k - x0).toInt = BX0 - X0 := tS hBX0 hX0 (by omega)
    have tB1 : (bX1 k - x0).toInt = BX1 - X0 := tS hBX1 hX0 (by omega)
    have q1 := mul_bd (a := X1 - X0) (b := BY0 - Y0) 2000 1400 (by omega) (by omega) (by omega) (by omega)
    have q2 := mul_bd (a := X1 - X0) (b := BY1 - Y0) 2000 1400 (by omega) (by omega) (by omega) (by omega)
    have q3 := mul_bd (a := Y1 - Y0) (b := BX0 - X0) 2000 1400 (by omega) (by omega) (by omega) (by omega)
    have q4 := mul_bd (a := Y1 - Y0) (b := BX1 - X0) 2000 1400 (by omega) (by omega) (by omega) (by omega)
    have z0 : (0 : Int32).toInt = 0 := rfl
    refine ⟨fun c5 => ?_, fun c5 => ⟨fun c6 => ?_, fun c6 => h1 ⟨c1', c2', c3', c4', Or.inl ⟨?_, ?_⟩⟩⟩⟩
    · have hnz : ¬ (X1 - X0 = 0 ∧ Y1 - Y0 = 0) := fun z => c5 ((i_eq t6 z0).mpr z.1)
      refine ⟨hv, hv, fun x8 e8 => ⟨hv, hv, fun x9 e9 => ⟨hv, hv, fun x10 e10 => ⟨hv, hv, fun x11 e11 => fun x12 e12 x13 e13 => ?_⟩⟩⟩⟩
      have t8 := e8 ▸ tS (tM t6 tA0 (by omega)) (tM t7 tB0 (by omega)) (by omega)
      have t9 := e9 ▸ tS (tM t6 tA0 (by omega)) (tM t7 tB1 (by omega)) (by omega)
      have t10 := e10 ▸ tS (tM t6 tA1 (by omega)) (tM t7 tB0 (by omega)) (by omega)
      have t11 := e11 ▸ tS (tM t6 tA1 (by omega)) (tM t7 tB1 (by omega)) (by omega)
      have t12 := e12 ▸ imax_t (imax_t t8 t9) (imax_t t10 t11)
      have t13 := e13 ▸ imin_t (imin_t t8 t9) (imin_t t10 t11)
      have z0 : (0 : Int32).toInt = 0 := rfl
      have key : fl4 ((X1 - X0) * (BY0 - Y0)) ((X1 - X0) * (BY1 - Y0)) ((Y1 - Y0) * (BX0 - X0)) ((Y1 - Y0) * (BX1 - X0)) ↔ (¬ 0 ≤ x13 ∧ ¬ x12 ≤ 0) := by
        rw [i_le z0 t13, i_le t12 z0]
        unfold fl4
        generalize (X1 - X0) * (BY0 - Y0) = u
        generalize (X1 - X0) * (BY1 - Y0) = v
        generalize (Y1 - Y0) * (BX0 - X0) = p
        generalize (Y1 - Y0) * (BX1 - X0) = q
        split <;> split <;> split <;> split <;> split <;> split <;> omega
      refine ⟨fun c => h0 (fun hE => ?_), fun c => ⟨fun c' => h0 (fun hE => ?_), fun c' => h1 ⟨by omega, by omega, by omega, by omega, Or.inr (key.mpr ⟨c, c'⟩)⟩⟩⟩
      · rcases hE.2.2.2.2 with ⟨z1, z2⟩ | hE
        · exact absurd ⟨z1, z2⟩ hnz
        · exact (key.mp hE).1 c
      · rcases hE.2.2.2.2 with ⟨z1, z2⟩ | hE
        · exact absurd ⟨z1, z2⟩ hnz
        · exact (key.mp hE).2 c'
    · have hnz : ¬ (X1 - X0 = 0 ∧ Y1 - Y0 = 0) := fun z => c6 ((i_eq t7 z0).mpr z.2)
      refine ⟨hv, hv, fun x8 e8 => ⟨hv, hv, fun x9 e9 => ⟨hv, hv, fun x10 e10 => ⟨hv, hv, fun x11 e11 => fun x12 e12 x13 e13 => ?_⟩⟩⟩⟩
      have t8 := e8 ▸ tS (tM t6 tA0 (by omega)) (tM t7 tB0 (by omega)) (by omega)
      have t9 := e9 ▸ tS (tM t6 tA0 (by omega)) (tM t7 tB1 (by omega)) (by omega)
      have t10 := e10 ▸ tS (tM t6 tA1 (by omega)) (tM t7 tB0 (by omega)) (by omega)
      have t11 := e11 ▸ tS (tM t6 tA1 (by omega)) (tM t7 tB1 (by omega)) (by omega)
      have t12 := e12 ▸ imax_t (imax_t t8 t9) (imax_t t10 t11)
      have t13 := e13 ▸ imin_t (imin_t t8 t9) (imin_t t10 t11)
      have z0 : (0 : Int32).toInt = 0 := rfl
      have key : fl4 ((X1 - X0) * (BY0 - Y0)) ((X1 - X0) * (BY1 - Y0)) ((Y1 - Y0) * (BX0 - X0)) ((Y1 - Y0) * (BX1 - X0)) ↔ (¬ 0 ≤ x13 ∧ ¬ x12 ≤ 0) := by
        rw [i_le z0 t13, i_le t12 z0]
        unfold fl4
        generalize (X1 - X0) * (BY0 - Y0) = u
        generalize (X1 - X0) * (BY1 - Y0) = v
        generalize (Y1 - Y0) * (BX0 - X0) = p
        generalize (Y1 - Y0) * (BX1 - X0) = q
        split <;> split <;> split <;> split <;> split <;> split <;> omega
      refine ⟨fun c => h0 (fun hE => ?_), fun c => ⟨fun c' => h0 (fun hE => ?_), fun c' => h1 ⟨by omega, by omega, by omega, by omega, Or.inr (key.mpr ⟨c, c'⟩)⟩⟩⟩
      · rcases hE.2.2.2.2 with ⟨z1, z2⟩ | hE
        · exact absurd ⟨z1, z2⟩ hnz
        · exact (key.mp hE).1 c
      · rcases hE.2.2.2.2 with ⟨z1, z2⟩ | hE
        · exact absurd ⟨z1, z2⟩ hnz
        · exact (key.mp hE).2 c'
    · exact (i_eq t6 z0).mp c5
    · exact (i_eq t7 z0).mp c6
  · have := hE.2.2.2.1; split at c4 <;> omega
  · have := hE.2.1; split at c2 <;> omega
def barsOK (nb : Nat) (bX0 bY0 bX1 bY1 : Nat → Int32) : Prop := nb ≤ 4 ∧ ∀ k, k < nb → (-400 ≤ (bX0 k).toInt ∧ (bX0 k).toInt ≤ 400) ∧ (-400 ≤ (bY0 k).toInt ∧ (bY0 k).toInt ≤ 400) ∧ (-400 ≤ (bX1 k).toInt ∧ (bX1 k).toInt ≤ 400) ∧ (-400 ≤ (bY1 k).toInt ∧ (bY1 k).toInt ≤ 400) ∧ (bX0 k).toInt < (bX1 k).toInt ∧ (bY0 k).toInt < (bY1 k).toInt
def ptOK (x y : Int32) : Prop := (-1000 ≤ x.toInt ∧ x.toInt ≤ 1000) ∧ (-1000 ≤ y.toInt ∧ y.toInt ≤ 1000)
/-- no bar is entered -/
def freeP (nb : Nat) (bX0 bY0 bX1 bY1 : Nat → Int32) (x0 y0 x1 y1 : Int32) : Prop := ∀ k, k < nb → ¬ entP (bX0 k).toInt (bY0 k).toInt (bX1 k).toInt (bY1 k).toInt x0.toInt y0.toInt x1.toInt y1.toInt
theorem s_isFree {nb : Nat} {bc : Int32} {bX0 bY0 bX1 bY1 : Nat → Int32} {x0 y0 x1 y1 : Int32} {post : Int32 → Prop} (hb : barsOK nb bX0 bY0 bX1 bY1) (hc : bc.toInt = (nb : Int)) (h0 : ptOK x0 y0) (h1 : ptOK x1 y1)
    (k1 : freeP nb bX0 bY0 bX1 bY1 x0 y0 x1 y1 → post 1) (k0 : ¬ freeP nb bX0 bY0 bX1 bY1 x0 y0 x1 y1 → post 0) : wp_Cell_isFree bc bX0 bY0 bX1 bY1 x0 y0 x1 y1 post := by
  unfold wp_Cell_isFree
  refine ⟨nb + 1, ?_⟩
  have key : ∀ (n j : Nat) (x : Int32), x.toInt = (j : Int) → j ≤ nb → nb + 1 ≤ j + n → (∀ k, k < j → ¬ entP (bX0 k).toInt (bY0 k).toInt (bX1 k).toInt (bY1 k).toInt x0.toInt y0.toInt x1.toInt y1.toInt) → wpL_Cell_isFree_3 bc bX0 bY0 bX1 bY1 x0 y0 x1 y1 post n x := by
    intro n
    induction n with
    | zero => intro j x _ h2 h3; omega
    | succ n ih =>
      intro j x hx hj hn hall
      show wpB_Cell_isFree_3 bc bX0 bY0 bX1 bY1 x0 y0 x1 y1 post (wpL_Cell_isFree_3 bc bX0 bY0 bX1 bY1 x0 y0 x1 y1 post n) x
      unfold wpB_Cell_isFree_3
      rw [i_le hc hx]
      refine ⟨fun c => k1 (fun k hk => hall k (by omega)), fun c => ?_⟩
      have hjn : j < nb := by omega
      obtain ⟨r0, r1, r2, r3, -, -⟩ := hb.2 j hjn
      have h4 := hb.1
      refine s_entersBar hx (by omega) h0.1 h0.2 h1.1 h1.2 r0 r1 r2 r3 (fun hE => ⟨fun q => absurd q (by decide), fun _ => k0 (fun hf => hf j hjn hE)⟩) (fun hE => ⟨fun _ x5 e5 => ?_, fun q => absurd rfl q⟩)
      refine ih (j + 1) x5 (by rw [e5]; exact inc_t hx (by omega)) (by omega) (by omega) (fun k hk => ?_)
      rcases Nat.lt_or_ge k j with q | q
      · exact hall k q
      · rw [show k = j by omega]; exact hE
  exact key (nb + 1) 0 0 rfl (by omega) (by omega) (fun k hk => by omega)
