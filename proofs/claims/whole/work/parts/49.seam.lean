/-! bars and seams -/
theorem s_are {x y z w lo hi : Int32} {a b : Int} {post : Int32 → Prop} (hl : lo.toInt = a) (hh : hi.toInt = b) (k0 : ¬ ((a ≤ x.toInt ∧ x.toInt ≤ b) ∧ (a ≤ y.toInt ∧ y.toInt ≤ b) ∧ (a ≤ z.toInt ∧ z.toInt ≤ b) ∧ (a ≤ w.toInt ∧ w.toInt ≤ b)) → post 0) (k1 : (a ≤ x.toInt ∧ x.toInt ≤ b) ∧ (a ≤ y.toInt ∧ y.toInt ≤ b) ∧ (a ≤ z.toInt ∧ z.toInt ≤ b) ∧ (a ≤ w.toInt ∧ w.toInt ≤ b) → post 1) : wp_SeamCell_areFromTo x y z w lo hi post := by
  unfold wp_SeamCell_areFromTo
  exact ft_zn hl hh (fun n => k0 (fun q => n q.1)) (fun y1 => ft_zn hl hh (fun n => k0 (fun q => n q.2.1)) (fun y2 => ft_zn hl hh (fun n => k0 (fun q => n q.2.2.1)) (fun y3 => ft_zn hl hh (fun n => k0 (fun q => n q.2.2.2)) (fun y4 => k1 ⟨y1, y2, y3, y4⟩))))
def gBa (bc : Int32) (bX0 bY0 bX1 bY1 bars : Nat → Int32) : Prop := ∃ nb : Nat, bc.toInt = (nb : Int) ∧ barsOK nb bX0 bY0 bX1 bY1 ∧ barsM nb bars bX0 bY0 bX1 bY1
theorem gBa_0 {bX0 bY0 bX1 bY1 bars : Nat → Int32} : gBa 0 bX0 bY0 bX1 bY1 bars := ⟨0, rfl, ⟨by omega, fun k hk => absurd hk (by omega)⟩, fun k hk => absurd hk (by omega)⟩
theorem j_bar {bc p1 p2 p3 p4 : Int32} {bX0 bY0 bX1 bY1 bars : Nat → Int32} {v1 v2 v3 v4 : Prop} {K : Int32 → (Nat → Int32) → (Nat → Int32) → (Nat → Int32) → (Nat → Int32) → Int32 → (Nat → Int32) → Prop} (hv1 : v1) (hv2 : v2) (hv3 : v3) (hv4 : v4) (hG : gBa bc bX0 bY0 bX1 bY1 bars) (h : ∀ (bc' : Int32) (a b c d e : Nat → Int32), gBa bc' a b c d e → K bc' a b c d bc' e) : wp_SeamCell_bar bc bX0 bY0 bX1 bY1 p1 p2 p3 p4 (fun o0 o1 o2 o3 o4 o5 => v1 ∧ v2 ∧ v3 ∧ v4 ∧ wp_Model_bar bc bars p1 p2 p3 p4 (fun q0 q1 q2 => (o0 = q0 → K o1 o2 o3 o4 o5 q1 q2) ∧ (¬ o0 = q0 → False))) := by
  have h0 := h _ _ _ _ _ _ hG
  obtain ⟨nb, hbc, hOK, hM⟩ := hG
  have h4 := hOK.1
  have c4 : (4 : Int32).toInt = 4 := rfl
  have c400 : (400 : Int32).toInt = 400 := rfl
  have o1 : (1 : Int32).toInt = 1 := rfl
  have s3 : (p3.toInt64 - (1 : Int64)).toInt = p3.toInt - 1 := by
    have := fb_rng p3
    exact tSL (tL rfl) ql_1 (by omega)
  have s4 : (p4.toInt64 - (1 : Int64)).toInt = p4.toInt - 1 := by
    have := fb_rng p4
    exact tSL (tL rfl) ql_1 (by omega)
  have no : ¬ ((-400 ≤ p1.toInt ∧ p1.toInt ≤ p3.toInt - 1) ∧ (-400 ≤ p2.toInt ∧ p2.toInt ≤ p4.toInt - 1) ∧ p3.toInt ≤ 400 ∧ p4.toInt ≤ 400) → v1 ∧ v2 ∧ v3 ∧ v4 ∧ wp_Model_bar bc bars p1 p2 p3 p4 (fun q0 q1 q2 => ((-2 : Int32) = q0 → K bc bX0 bY0 bX1 bY1 q1 q2) ∧ (¬ (-2 : Int32) = q0 → False)) := by
    intro n
    refine ⟨hv1, hv2, hv3, hv4, ?_⟩
    unfold wp_Model_bar
    refine mi_zn (a := -400) rfl s3 (fun _ => eqK h0) (fun y1 => mi_zn (a := -400) rfl s4 (fun _ => eqK h0) (fun y2 => ⟨fun _ => eqK h0, fun c => ⟨fun d => ?_, fun _ => eqK h0⟩⟩))
    rw [i_lt c400 rfl] at c
    rw [i_le rfl c400] at d
    exact absurd ⟨y1, y2, by omega, d⟩ n
  unfold wp_SeamCell_bar
  refine s_are (a := -400) (b := 400) rfl rfl (fun n => ⟨fun _ => no (fun q => n ?_), fun q => absurd rfl q⟩) (fun y => ⟨fun q => absurd q (by decide), fun _ => ⟨fun c => no (fun q => ?_), fun c => ⟨fun d => ?_, fun d => no (fun q => ?_)⟩⟩⟩)
  · omega
  · rw [i_le rfl rfl] at c; omega
  · rw [i_le (rfl : p3.toInt = p3.toInt) (rfl : p1.toInt = p1.toInt)] at c
    rw [i_lt (rfl : p2.toInt = p2.toInt) (rfl : p4.toInt = p4.toInt)] at d
    rw [i_lt hbc c4]
    refine ⟨fun e => ?_, fun e => ⟨hv1, hv2, hv3, hv4, ?_⟩⟩
    · have hne : ¬ bc = 4 := by rw [i_eq hbc c4]; omega
      have hv := vp_t (N := 4) hbc (by omega)
      unfold wp_Cell_putBar
      rw [i_lt hbc c4, cl_t hbc]
      refine ⟨fun _ => ⟨hv, fun g2 e2 => ⟨hv, fun g3 e3 => ⟨hv, fun g4 e4 => ⟨hv, fun g5 e5 f ef => ⟨hv1, hv2, hv3, hv4, ?_⟩⟩⟩⟩⟩, fun q => absurd e q⟩
      subst e2; subst e3; subst e4; subst e5; subst ef
      unfold wp_Model_bar
      refine mi_zn (a := -400) rfl s3 (fun n => absurd (by omega) n) (fun _ => mi_zn (a := -400) rfl s4 (fun n => absurd (by omega) n) (fun _ => ⟨fun q => ?_, fun _ => ⟨fun _ => ⟨fun _ => ?_, fun q => absurd q hne⟩, fun q => ?_⟩⟩))
      · rw [i_lt c400 rfl] at q; omega
      · have i0 : ((4 : Int32) * bc).toInt = ((4 * nb : Nat) : Int) := by rw [tM c4 hbc (by omega)]; omega
        have i1 : ((4 : Int32) * bc + (1 : Int32)).toInt = ((4 * nb + 1 : Nat) : Int) := by rw [tA i0 o1 (by omega)]; omega
        have i2 : ((4 : Int32) * bc + (2 : Int32)).toInt = ((4 * nb + 2 : Nat) : Int) := by rw [tA i0 q_2 (by omega)]; omega
        have i3 : ((4 : Int32) * bc + (3 : Int32)).toInt = ((4 * nb + 3 : Nat) : Int) := by rw [tA i0 q_3 (by omega)]; omega
        rw [cl_t i0, cl_t i1, cl_t i2, cl_t i3]
        refine ⟨vp_t i0 (by omega), fun g8 e8 => ⟨vp_t i1 (by omega), fun g9 e9 => ⟨vp_t i2 (by omega), fun g10 e10 => ⟨vp_t i3 (by omega), fun g11 e11 f ef => ?_⟩⟩⟩⟩
        subst e8; subst e9; subst e10; subst e11; subst ef
        refine eqK (h _ _ _ _ _ _ ⟨nb + 1, ?_, ⟨by omega, fun k hk => ?_⟩, fun k hk => ?_⟩)
        · rw [tA hbc o1 (by omega)]; omega
        · by_cases ek : k = nb
          · rw [ek, u_eq, u_eq, u_eq, u_eq]; omega
          · rw [u_ne ek, u_ne ek, u_ne ek, u_ne ek]; exact hOK.2 k (by omega)
        · by_cases ek : k = nb
          · rw [ek, u_eq, u_eq, u_eq, u_eq]
            refine ⟨?_, ?_, ?_, ?_⟩
            · rw [u_ne (by omega), u_ne (by omega), u_ne (by omega), u_eq]
            · rw [u_ne (by omega), u_ne (by omega), u_eq]
            · rw [u_ne (by omega), u_eq]
            · rw [u_eq]
          · rw [u_ne ek, u_ne ek, u_ne ek, u_ne ek]
            obtain ⟨m0, m1, m2, m3⟩ := hM k (by omega)
            refine ⟨?_, ?_, ?_, ?_⟩
            all_goals rw [u_ne (by omega), u_ne (by omega), u_ne (by omega), u_ne (by omega)]; assumption
      · rw [i_le rfl c400] at q; omega
    · have he : bc = 4 := by rw [i_eq hbc c4]; omega
      unfold wp_Model_bar
      refine mi_zn (a := -400) rfl s3 (fun n => absurd (by omega) n) (fun _ => mi_zn (a := -400) rfl s4 (fun n => absurd (by omega) n) (fun _ => ⟨fun q => ?_, fun _ => ⟨fun _ => ⟨fun q => absurd he q, fun _ => eqK h0⟩, fun q => ?_⟩⟩))
      · rw [i_lt c400 rfl] at q; omega
      · rw [i_le rfl c400] at q; omega
  · rw [i_lt rfl rfl] at d; omega
def gSe (sc : Int32) (sx0 sy0 sx1 sy1 len tm heat seams : Nat → Int32) : Prop := ∃ ns : Nat, sc.toInt = (ns : Int) ∧ seamsOK ns sx0 sy0 sx1 sy1 ∧ seamsM ns seams sx0 sy0 sx1 sy1 ∧ seamsT ns seams sx0 sy0 sx1 sy1 tm heat ∧ ∀ k, k < ns → len k = lenF (sx0 k) (sy0 k) (sx1 k) (sy1 k)
theorem gSe_0 {sx0 sy0 sx1 sy1 len tm heat seams : Nat → Int32} : gSe 0 sx0 sy0 sx1 sy1 len tm heat seams := ⟨0, rfl, ⟨by omega, fun k hk => absurd hk (by omega)⟩, fun k hk => absurd hk (by omega), fun k hk => absurd hk (by omega), fun k hk => absurd hk (by omega)⟩
theorem mp_zn {x y : Int32} {A B : Prop} (k0 : ¬ ((-100 ≤ x.toInt ∧ x.toInt ≤ 100) ∧ (-100 ≤ y.toInt ∧ y.toInt ≤ 100)) → A) (k1 : (-100 ≤ x.toInt ∧ x.toInt ≤ 100) ∧ (-100 ≤ y.toInt ∧ y.toInt ≤ 100) → B) : wp_Model_isPlace x y (fun r => (r = 0 → A) ∧ (¬ r = 0 → B)) := by
  unfold wp_Model_isPlace
  exact mi_zn (a := -100) (b := 100) rfl rfl (fun n => ⟨fun _ => k0 (fun q => n q.1), fun q => absurd rfl q⟩) (fun y1 => mi_zn (a := -100) (b := 100) rfl rfl (fun n => ⟨fun _ => k0 (fun q => n q.2), fun q => absurd rfl q⟩) (fun y2 => ⟨fun q => absurd q (by decide), fun _ => k1 ⟨y1, y2⟩⟩))
/-- what the sixth of a seam's cells becomes -/
theorem s_mseam {sc : Int32} {ns : Nat} {seams : Nat → Int32} {p1 p2 p3 p4 p5 p6 : Int32} {post : Int32 → Int32 → (Nat → Int32) → Prop} (hsc : sc.toInt = (ns : Int)) (hn : ns < 8) (h : ∀ g : Nat → Int32, (∀ k, k < 6 * ns → g k = seams k) → g (6 * ns) = p1 → g (6 * ns + 1) = p2 → g (6 * ns + 2) = p3 → g (6 * ns + 3) = p4 → g (6 * ns + 4) = p5 → g (6 * ns + 5) = p6 → post (sc + (1 : Int32) - (1 : Int32)) (sc + (1 : Int32)) g) :
    ∀ x7_11 : Int32, x7_11 = (6 : Int32) * sc → (vp_in x7_11 48 ∧ (∀ g_12 : Nat → Int32, g_12 = upd seams (x7_11.toNatClampNeg) p1 → (vp_in (x7_11 + (1 : Int32)) 48 ∧ (∀ g_13 : Nat → Int32, g_13 = upd g_12 ((x7_11 + (1 : Int32)).toNatClampNeg) p2 → (vp_in (x7_11 + (2 : Int32)) 48 ∧ (∀ g_14 : Nat → Int32, g_14 = upd g_13 ((x7_11 + (2 : Int32)).toNatClampNeg) p3 → (vp_in (x7_11 + (3 : Int32)) 48 ∧ (∀ g_15 : Nat → Int32, g_15 = upd g_14 ((x7_11 + (3 : Int32)).toNatClampNeg) p4 → (vp_in (x7_11 + (4 : Int32)) 48 ∧ (∀ g_16 : Nat → Int32, g_16 = upd g_15 ((x7_11 + (4 : Int32)).toNatClampNeg) p5 → (vp_in (x7_11 + (5 : Int32)) 48 ∧ (∀ g_17 : Nat → Int32, g_17 = upd g_16 ((x7_11 + (5 : Int32)).toNatClampNeg) p6 → (∀ f_18 : Int32, f_18 = sc + (1 : Int32) → (post (f_18 - (1 : Int32)) f_18 g_17)))))))))))))) := by
  intro x7 e7
  have i0 : x7.toInt = ((6 * ns : Nat) : Int) := by rw [e7, tM q_6 hsc (by omega)]; omega
  have i1 : (x7 + (1 : Int32)).toInt = ((6 * ns + 1 : Nat) : Int) := by rw [tA i0 q_1 (by omega)]; omega
  have i2 : (x7 + (2 : Int32)).toInt = ((6 * ns + 2 : Nat) : Int) := by rw [tA i0 q_2 (by omega)]; omega
  have i3 : (x7 + (3 : Int32)).toInt = ((6 * ns + 3 : Nat) : Int) := by rw [tA i0 q_3 (by omega)]; omega
  have i4 : (x7 + (4 : Int32)).toInt = ((6 * ns + 4 : Nat) : Int) := by rw [tA i0 q_4 (by omega)]; omega
  have i5 : (x7 + (5 : Int32)).toInt = ((6 * ns + 5 : Nat) : Int) := by rw [tA i0 q_5 (by omega)]; omega
  rw [cl_t i0, cl_t i1, cl_t i2, cl_t i3, cl_t i4, cl_t i5]
  refine ⟨vp_t i0 (by omega), fun g1 q1 => ⟨vp_t i1 (by omega), fun g2 q2 => ⟨vp_t i2 (by omega), fun g3 q3 => ⟨vp_t i3 (by omega), fun g4 q4 => ⟨vp_t i4 (by omega), fun g5 q5 => ⟨vp_t i5 (by omega), fun g6 q6 f ef => ?_⟩⟩⟩⟩⟩⟩
  subst q1; subst q2; subst q3; subst q4; subst q5; subst q6; subst ef
  refine h _ (fun k hk => ?_) ?_ ?_ ?_ ?_ ?_ ?_
  · rw [u_ne (by omega), u_ne (by omega), u_ne (by omega), u_ne (by omega), u_ne (by omega), u_ne (by omega)]
  · rw [u_ne (by omega), u_ne (by omega), u_ne (by omega), u_ne (by omega), u_ne (by omega), u_eq]
  · rw [u_ne (by omega), u_ne (by omega), u_ne (by omega), u_ne (by omega), u_eq]
  · rw [u_ne (by omega), u_ne (by omega), u_ne (by omega), u_eq]
  · rw [u_ne (by omega), u_ne (by omega), u_eq]
  · rw [u_ne (by omega), u_eq]
  · rw [u_eq]
theorem gSe_add {sc : Int32} {ns : Nat} {sx0 sy0 sx1 sy1 len tm heat seams g : Nat → Int32} {p1 p2 p3 p4 p5 p6 : Int32} (hsc : sc.toInt = (ns : Int)) (hn : ns < 8) (hS : seamsOK ns sx0 sy0 sx1 sy1) (hM : seamsM ns seams sx0 sy0 sx1 sy1) (hT : seamsT ns seams sx0 sy0 sx1 sy1 tm heat) (hL : ∀ k, k < ns → len k = lenF (sx0 k) (sy0 k) (sx1 k) (sy1 k))
    (y1 : in100 p1) (y2 : in100 p2) (y3 : in100 p3) (y4 : in100 p4) (y5 : 1 ≤ p5.toInt ∧ p5.toInt ≤ 50) (y6 : 0 ≤ p6.toInt ∧ p6.toInt ≤ 1000) (g0 : ∀ k, k < 6 * ns → g k = seams k) (g1 : g (6 * ns) = p1) (g2 : g (6 * ns + 1) = p2) (g3 : g (6 * ns + 2) = p3) (g4 : g (6 * ns + 3) = p4) (g5 : g (6 * ns + 4) = p5) (g6 : g (6 * ns + 5) = p6) :
    gSe (sc + (1 : Int32)) (upd sx0 ns p1) (upd sy0 ns p2) (upd sx1 ns p3) (upd sy1 ns p4) (upd len ns (lenF p1 p2 p3 p4)) (upd tm ns (upF (lenF p1 p2 p3 p4) p5)) (upd heat ns p6) g := by
  refine ⟨ns + 1, ?_, ⟨by omega, fun k hk => ?_⟩, fun k hk => ?_, fun k hk => ?_, fun k hk => ?_⟩
  · rw [tA hsc q_1 (by omega)]; omega
  · by_cases e : k = ns
    · rw [e, u_eq, u_eq, u_eq, u_eq]; exact ⟨y1, y2, y3, y4⟩
    · rw [u_ne e, u_ne e, u_ne e, u_ne e]; exact hS.2 k (by omega)
  · by_cases e : k = ns
    · rw [e, u_eq, u_eq, u_eq, u_eq]; exact ⟨g1, g2, g3, g4⟩
    · rw [u_ne e, u_ne e, u_ne e, u_ne e, g0 _ (by omega), g0 _ (by omega), g0 _ (by omega), g0 _ (by omega)]; exact hM k (by omega)
  · by_cases e : k = ns
    · rw [e, u_eq, u_eq, u_eq, u_eq, u_eq, u_eq, g5, g6]; exact ⟨y5, rfl, y6, rfl⟩
    · rw [u_ne e, u_ne e, u_ne e, u_ne e, u_ne e, u_ne e, g0 _ (by omega), g0 _ (by omega)]; exact hT k (by omega)
  · by_cases e : k = ns
    · rw [e, u_eq, u_eq, u_eq, u_eq, u_eq]
    · rw [u_ne e, u_ne e, u_ne e, u_ne e, u_ne e]; exact hL k (by omega)
theorem j_seam {sc p1 p2 p3 p4 p5 p6 : Int32} {sx0 sy0 sx1 sy1 len tm heat seams : Nat → Int32} {v1 v2 v3 v4 v5 v6 : Prop} {K : Int32 → (Nat → Int32) → (Nat → Int32) → (Nat → Int32) → (Nat → Int32) → (Nat → Int32) → (Nat → Int32) → (Nat → Int32) → Int32 → (Nat → Int32) → Prop} (hv1 : v1) (hv2 : v2) (hv3 : v3) (hv4 : v4) (hv5 : v5) (hv6 : v6) (hG : gSe sc sx0 sy0 sx1 sy1 len tm heat seams) (h : ∀ (sc' : Int32) (a b c d e f g s : Nat → Int32), sc.toInt ≤ sc'.toInt → gSe sc' a b c d e f g s → K sc' a b c d e f g sc' s) : wp_SeamCell_seam sc sx0 sy0 sx1 sy1 len tm heat p1 p2 p3 p4 p5 p6 (fun o0 o1 o2 o3 o4 o5 o6 o7 o8 => v1 ∧ v2 ∧ v3 ∧ v4 ∧ v5 ∧ v6 ∧ wp_Model_seam sc seams p1 p2 p3 p4 p5 p6 (fun q0 q1 q2 => (o0 = q0 → K o1 o2 o3 o4 o5 o6 o7 o8 q1 q2) ∧ (¬ o0 = q0 → False))) := by
  have h0 := h _ _ _ _ _ _ _ _ _ (Int.le_refl _) hG
  obtain ⟨ns, hsc, hS, hM, hT, hL⟩ := hG
  have h8 := hS.1
  have c8 : (8 : Int32).toInt = 8 := rfl
  -- the reference where nothing is taken
  have no : ¬ (((-100 ≤ p1.toInt ∧ p1.toInt ≤ 100) ∧ (-100 ≤ p2.toInt ∧ p2.toInt ≤ 100)) ∧ ((-100 ≤ p3.toInt ∧ p3.toInt ≤ 100) ∧ (-100 ≤ p4.toInt ∧ p4.toInt ≤ 100)) ∧ ¬ (p1 = p3 ∧ p2 = p4) ∧ (1 ≤ p5.toInt ∧ p5.toInt ≤ 50) ∧ (0 ≤ p6.toInt ∧ p6.toInt ≤ 1000)) → v1 ∧ v2 ∧ v3 ∧ v4 ∧ v5 ∧ v6 ∧ wp_Model_seam sc seams p1 p2 p3 p4 p5 p6 (fun q0 q1 q2 => ((-2 : Int32) = q0 → K sc sx0 sy0 sx1 sy1 len tm heat q1 q2) ∧ (¬ (-2 : Int32) = q0 → False)) := by
    intro n
    refine ⟨hv1, hv2, hv3, hv4, hv5, hv6, ?_⟩
    unfold wp_Model_seam
    refine mp_zn (fun _ => eqK h0) (fun y1 => mp_zn (fun _ => eqK h0) (fun y2 => ⟨fun d => ?_, fun d => ⟨fun _ => eqK h0, fun d2 => ?_⟩⟩))
    · exact mi_zn (a := 1) (b := 50) rfl rfl (fun _ => eqK h0) (fun y5 => mi_nz (a := 0) (b := 1000) rfl rfl (fun y6 => absurd ⟨y1, y2, fun q => d q.1, y5, y6⟩ n) (fun _ => eqK h0))
    · exact mi_zn (a := 1) (b := 50) rfl rfl (fun _ => eqK h0) (fun y5 => mi_nz (a := 0) (b := 1000) rfl rfl (fun y6 => absurd ⟨y1, y2, fun q => d2 q.2, y5, y6⟩ n) (fun _ => eqK h0))
  have full : ((-100 ≤ p1.toInt ∧ p1.toInt ≤ 100) ∧ (-100 ≤ p2.toInt ∧ p2.toInt ≤ 100)) → ((-100 ≤ p3.toInt ∧ p3.toInt ≤ 100) ∧ (-100 ≤ p4.toInt ∧ p4.toInt ≤ 100)) → ¬ (p1 = p3 ∧ p2 = p4) → (1 ≤ p5.toInt ∧ p5.toInt ≤ 50) → (0 ≤ p6.toInt ∧ p6.toInt ≤ 1000) → ¬ ns < 8 → v1 ∧ v2 ∧ v3 ∧ v4 ∧ v5 ∧ v6 ∧ wp_Model_seam sc seams p1 p2 p3 p4 p5 p6 (fun q0 q1 q2 => ((-4 : Int32) = q0 → K sc sx0 sy0 sx1 sy1 len tm heat q1 q2) ∧ (¬ (-4 : Int32) = q0 → False)) := by
    intro y1 y2 d y5 y6 hn
    have he : sc = 8 := by rw [i_eq hsc c8]; omega
    refine ⟨hv1, hv2, hv3, hv4, hv5, hv6, ?_⟩
    unfold wp_Model_seam
    refine mp_zn (fun n => absurd y1 n) (fun _ => mp_zn (fun n => absurd y2 n) (fun _ => ⟨fun _ => ?_, fun d1 => ⟨fun d2 => absurd ⟨d1, d2⟩ d, fun _ => ?_⟩⟩))
    · exact mi_zn (a := 1) (b := 50) rfl rfl (fun n => absurd y5 n) (fun _ => mi_nz (a := 0) (b := 1000) rfl rfl (fun _ => ⟨fun q => absurd he q, fun _ => eqK h0⟩) (fun n => absurd y6 n))
    · exact mi_zn (a := 1) (b := 50) rfl rfl (fun n => absurd y5 n) (fun _ => mi_nz (a := 0) (b := 1000) rfl rfl (fun _ => ⟨fun q => absurd he q, fun _ => eqK h0⟩) (fun n => absurd y6 n))
  have yes : ((-100 ≤ p1.toInt ∧ p1.toInt ≤ 100) ∧ (-100 ≤ p2.toInt ∧ p2.toInt ≤ 100)) → ((-100 ≤ p3.toInt ∧ p3.toInt ≤ 100) ∧ (-100 ≤ p4.toInt ∧ p4.toInt ≤ 100)) → ¬ (p1 = p3 ∧ p2 = p4) → (1 ≤ p5.toInt ∧ p5.toInt ≤ 50) → (0 ≤ p6.toInt ∧ p6.toInt ≤ 1000) → ns < 8 → v1 ∧ v2 ∧ v3 ∧ v4 ∧ v5 ∧ v6 ∧ wp_Model_seam sc seams p1 p2 p3 p4 p5 p6 (fun q0 q1 q2 => (sc + (1 : Int32) - (1 : Int32) = q0 → K (sc + (1 : Int32)) (upd sx0 ns p1) (upd sy0 ns p2) (upd sx1 ns p3) (upd sy1 ns p4) (upd len ns (lenF p1 p2 p3 p4)) (upd tm ns (upF (lenF p1 p2 p3 p4) p5)) (upd heat ns p6) q1 q2) ∧ (¬ sc + (1 : Int32) - (1 : Int32) = q0 → False)) := by
    intro y1 y2 d y5 y6 hn
    have hne : ¬ sc = 8 := by rw [i_eq hsc c8]; omega
    have ad := s_mseam (seams := seams) (p1 := p1) (p2 := p2) (p3 := p3) (p4 := p4) (p5 := p5) (p6 := p6) (post := fun q0 q1 q2 => (sc + (1 : Int32) - (1 : Int32) = q0 → K (sc + (1 : Int32)) (upd sx0 ns p1) (upd sy0 ns p2) (upd sx1 ns p3) (upd sy1 ns p4) (upd len ns (lenF p1 p2 p3 p4)) (upd tm ns (upF (lenF p1 p2 p3 p4) p5)) (upd heat ns p6) q1 q2) ∧ (¬ sc + (1 : Int32) - (1 : Int32) = q0 → False)) hsc hn (fun g g0 g1 g2 g3 g4 g5 g6 => eqK (h _ _ _ _ _ _ _ _ _ (by rw [tA hsc q_1 (by omega)]; omega) (gSe_add hsc hn hS hM hT hL y1.1 y1.2 y2.1 y2.2 y5 y6 g0 g1 g2 g3 g4 g5 g6)))
    refine ⟨hv1, hv2, hv3, hv4, hv5, hv6, ?_⟩
    unfold wp_Model_seam
    refine mp_zn (fun n => absurd y1 n) (fun _ => mp_zn (fun n => absurd y2 n) (fun _ => ⟨fun _ => ?_, fun d1 => ⟨fun d2 => absurd ⟨d1, d2⟩ d, fun _ => ?_⟩⟩))
    · exact mi_zn (a := 1) (b := 50) rfl rfl (fun n => absurd y5 n) (fun _ => mi_nz (a := 0) (b := 1000) rfl rfl (fun _ => ⟨fun _ => ad, fun q => absurd q hne⟩) (fun n => absurd y6 n))
    · exact mi_zn (a := 1) (b := 50) rfl rfl (fun n => absurd y5 n) (fun _ => mi_nz (a := 0) (b := 1000) rfl rfl (fun _ => ⟨fun _ => ad, fun q => absurd q hne⟩) (fun n => absurd y6 n))
  unfold wp_SeamCell_seam
  refine s_are (a := -100) (b := 100) rfl rfl (fun n => ⟨fun _ => no (fun q => n ⟨q.1.1, q.1.2, q.2.1.1, q.2.1.2⟩), fun q => absurd rfl q⟩) (fun y => ⟨fun q => absurd q (by decide), fun _ => ⟨fun d => ?_, fun d => ⟨fun d2 => ?_, fun d2 => no (fun q => q.2.2.1 ⟨d, d2⟩)⟩⟩⟩)
  · have y1 := And.intro y.1 y.2.1
    have y2 := y.2.2
    have dd : ¬ (p1 = p3 ∧ p2 = p4) := fun q => d q.1
    refine ft_zn (a := 1) (b := 50) rfl rfl (fun n => no (fun q => n q.2.2.2.1)) (fun y5 => ft_nz (a := 0) (b := 1000) rfl rfl (fun y6 => ?_) (fun n => no (fun q => n q.2.2.2.2)))
    rw [i_lt hsc c8, cl_t hsc]
    refine ⟨fun c => ⟨vp_t hsc (by omega), s_draw y1.1 y1.2 y2.1 y2.2 y5.1 (fun f ef => ?_)⟩, fun c => full y1 y2 dd y5 y6 (by omega)⟩
    subst ef
    exact yes y1 y2 dd y5 y6 (by omega)
  · have y1 := And.intro y.1 y.2.1
    have y2 := y.2.2
    have dd : ¬ (p1 = p3 ∧ p2 = p4) := fun q => d2 q.2
    refine ft_zn (a := 1) (b := 50) rfl rfl (fun n => no (fun q => n q.2.2.2.1)) (fun y5 => ft_nz (a := 0) (b := 1000) rfl rfl (fun y6 => ?_) (fun n => no (fun q => n q.2.2.2.2)))
    rw [i_lt hsc c8, cl_t hsc]
    refine ⟨fun c => ⟨vp_t hsc (by omega), s_draw y1.1 y1.2 y2.1 y2.2 y5.1 (fun f ef => ?_)⟩, fun c => full y1 y2 dd y5 y6 (by omega)⟩
    subst ef
    exact yes y1 y2 dd y5 y6 (by omega)
