/-! touches -/
theorem s_fill2 {fa : Nat → Int32} {x : Int32} {post : (Nat → Int32) → Prop} (h : ∀ f : Nat → Int32, (∀ k, k < 2 → f k = x) → post f) : wp_Arrays_fill 2 fa x post := by
  unfold wp_Arrays_fill
  intro x3 e3
  subst e3
  refine ⟨3, ?_⟩
  show wpB_Arrays_fill_5 2 x post (Int32.ofNat 2) (wpB_Arrays_fill_5 2 x post (Int32.ofNat 2) (wpB_Arrays_fill_5 2 x post (Int32.ofNat 2) (fun _ _ => False))) fa 0
  refine ⟨fun c => absurd c (by decide), fun _ => ⟨vp_in_iff.mpr (by decide), fun g eg y ey => ?_⟩⟩
  subst eg; subst ey
  refine ⟨fun c => absurd c (by decide), fun _ => ⟨vp_in_iff.mpr (by decide), fun g eg y ey => ?_⟩⟩
  subst eg; subst ey
  refine ⟨fun _ => h _ (fun k hk => ?_), fun c => absurd (by decide) c⟩
  show upd (upd fa 0 x) 1 x k = x
  by_cases e : k = 1
  · rw [e, u_eq]
  · rw [u_ne e, show k = 0 by omega, u_eq]
theorem s_forget {tl th : Nat → Int32} {post : Int32 → (Nat → Int32) → (Nat → Int32) → Prop} (h : ∀ a b : Nat → Int32, (∀ k, k < 2 → a k = -20) → (∀ k, k < 2 → b k = 20) → post 0 a b) : wp_Touches_forget tl th post := by
  unfold wp_Touches_forget
  exact s_fill2 (fun a ha => s_fill2 (fun b hb => h a b ha hb))
theorem s_shutAnew {lo hi : Nat → Int32} {post : Int32 → (Nat → Int32) → (Nat → Int32) → Prop} (h : ∀ a b : Nat → Int32, (∀ k, k < 2 → a k = -20) → (∀ k, k < 2 → b k = 20) → post 0 a b) : wp_Model_shutAnew lo hi post := by
  unfold wp_Model_shutAnew
  refine ⟨3, ?_⟩
  show wpB_Model_shutAnew_7 post (wpB_Model_shutAnew_7 post (wpB_Model_shutAnew_7 post (fun _ _ _ => False))) hi lo 0
  refine ⟨fun c => absurd c (by decide), fun _ => ⟨vp_in_iff.mpr (by decide), fun g eg => ⟨vp_in_iff.mpr (by decide), fun g' eg' y ey => ?_⟩⟩⟩
  subst eg; subst ey; subst eg'
  refine ⟨fun c => absurd c (by decide), fun _ => ⟨vp_in_iff.mpr (by decide), fun g eg => ⟨vp_in_iff.mpr (by decide), fun g' eg' y ey => ?_⟩⟩⟩
  subst eg; subst ey; subst eg'
  refine ⟨fun _ => h _ _ (fun k hk => ?_) (fun k hk => ?_), fun c => absurd (by decide) c⟩
  · show upd (upd lo 0 (-20)) 1 (-20) k = -20
    by_cases e : k = 1
    · rw [e, u_eq]
    · rw [u_ne e, show k = 0 by omega, u_eq]
  · show upd (upd hi 0 20) 1 20 k = 20
    by_cases e : k = 1
    · rw [e, u_eq]
    · rw [u_ne e, show k = 0 by omega, u_eq]
/-- how the touches of both sides hang together -/
def gTo (tc : Int32) (tl th lows highs : Nat → Int32) : Prop := (0 ≤ tc.toInt ∧ tc.toInt ≤ 20) ∧ ∀ k, k < 2 → lows k = tl k ∧ highs k = th k ∧ -20 ≤ (tl k).toInt ∧ (tl k).toInt ≤ (th k).toInt ∧ (th k).toInt ≤ 20
theorem gTo_new {tl th lows highs : Nat → Int32} (h1 : ∀ k, k < 2 → tl k = -20) (h2 : ∀ k, k < 2 → th k = 20) (h3 : ∀ k, k < 2 → lows k = -20) (h4 : ∀ k, k < 2 → highs k = 20) : gTo 0 tl th lows highs := by
  refine ⟨by decide, fun k hk => ⟨by rw [h1 k hk, h3 k hk], by rw [h2 k hk, h4 k hk], ?_⟩⟩
  rw [h1 k hk, h2 k hk]
  decide
theorem half_bd {x : Int32} (h : -40 ≤ x.toInt ∧ x.toInt ≤ 40) : -20 ≤ (x / (2 : Int32)).toInt ∧ (x / (2 : Int32)).toInt ≤ 20 := by
  have key : ∀ n : Fin 81, -20 ≤ ((nI n.val - (40 : Int32)) / (2 : Int32)).toInt ∧ ((nI n.val - (40 : Int32)) / (2 : Int32)).toInt ≤ 20 := by decide +kernel
  obtain ⟨n, hn⟩ : ∃ n : Nat, x.toInt + 40 = (n : Int) := ⟨(x.toInt + 40).toNat, by omega⟩
  have c40 : (40 : Int32).toInt = 40 := rfl
  have e : x = nI n - (40 : Int32) := (i_eq rfl (tS (nI_t (n := n) (by omega)) c40 (by omega))).mpr (by omega)
  rw [e]
  exact key ⟨n, by omega⟩
theorem s_middle {tl th : Nat → Int32} {p : Int32} {z : Nat} {post : Int32 → Prop} (hp : p.toInt = (z : Int)) (hz : z < 2) (h : post ((tl z + th z) / (2 : Int32))) : wp_Touches_middle tl th p post := by
  unfold wp_Touches_middle
  have c0 : (0 : Int32).toInt = 0 := rfl
  have c1 : (1 : Int32).toInt = 1 := rfl
  rw [cl_t hp, i_lt hp c0, i_le hp c1]
  exact ⟨fun c => absurd c (by omega), fun _ => ⟨fun _ => ⟨vp_t hp hz, vp_t hp hz, h⟩, fun c => absurd (by omega) c⟩⟩
theorem j_shift {tc : Int32} {tl th lows highs : Nat → Int32} {K : Int32 → Int32 → Int32 → Int32 → Prop} (hG : gTo tc tl th lows highs) (h : ∀ a b : Int32, (-20 ≤ a.toInt ∧ a.toInt ≤ 20) → (-20 ≤ b.toInt ∧ b.toInt ≤ 20) → K a b a b) : wp_SeamCell_shift tl th (fun o0 o1 o2 => wp_Model_shift lows highs (fun q0 q1 q2 => (o0 = q0 → K o1 o2 q1 q2) ∧ (¬ o0 = q0 → False))) := by
  have c0 : (0 : Int32).toInt = ((0 : Nat) : Int) := rfl
  have c1 : (1 : Int32).toInt = ((1 : Nat) : Int) := rfl
  obtain ⟨a1, a2, a3, a4, a5⟩ := hG.2 0 (by omega)
  obtain ⟨b1, b2, b3, b4, b5⟩ := hG.2 1 (by omega)
  unfold wp_SeamCell_shift
  refine s_middle c0 (by omega) (s_middle c1 (by omega) ?_)
  unfold wp_Model_shift
  intro f1 e1 f2 e2
  rw [cl_t c0, a1, a2] at e1
  rw [cl_t c1, b1, b2] at e2
  subst e1; subst e2
  exact eqK (h _ _ (half_bd (by rw [tA rfl rfl (by omega)]; omega)) (half_bd (by rw [tA rfl rfl (by omega)]; omega)))
theorem s_narrow {tc : Int32} {tl th : Nat → Int32} {p lo hi : Int32} {z : Nat} {post : Int32 → Int32 → (Nat → Int32) → (Nat → Int32) → Prop} (hp : p.toInt = (z : Int)) (hz : z < 2) (h1 : imax (tl z) lo ≤ imin (th z) hi → post 1 (tc + (1 : Int32)) (upd tl z (imax (tl z) lo)) (upd th z (imin (th z) hi))) (h0 : ¬ imax (tl z) lo ≤ imin (th z) hi → post 0 tc tl th) : wp_Touches_narrow tc tl th p lo hi post := by
  unfold wp_Touches_narrow
  have c0 : (0 : Int32).toInt = 0 := rfl
  have c1 : (1 : Int32).toInt = 1 := rfl
  have hv := vp_t (N := 2) hp hz
  rw [cl_t hp, i_lt hp c0, i_le hp c1]
  refine ⟨fun c => absurd c (by omega), fun _ => ⟨fun _ => ⟨hv, fun x4 e4 => ⟨hv, fun x5 e5 => ?_⟩⟩, fun c => absurd (by omega) c⟩⟩
  subst e4; subst e5
  refine ⟨fun c => ⟨hv, fun g eg => ⟨hv, fun g' eg' f ef => ?_⟩⟩, fun c => h0 c⟩
  subst eg; subst eg'; subst ef
  exact h1 c
theorem s_mtouch {tc : Int32} {lows highs : Nat → Int32} {p1 p2 p3 p4 : Int32} {z : Nat} {post : Int32 → Int32 → (Nat → Int32) → (Nat → Int32) → Prop} (hp : p1.toInt = (z : Int)) (hz : z < 2)
    (h1 : imax (lows z) ((p3 - p2) - p4) ≤ imin (highs z) ((p3 - p2) + p4) → post (tc + (1 : Int32)) (tc + (1 : Int32)) (upd lows z (imax (lows z) ((p3 - p2) - p4))) (upd highs z (imin (highs z) ((p3 - p2) + p4)))) (h0 : ¬ imax (lows z) ((p3 - p2) - p4) ≤ imin (highs z) ((p3 - p2) + p4) → post (-5) tc lows highs) : vp_in p1 2 ∧ ((((p3 - p2) - p4) ≤ (lows (p1.toNatClampNeg)) → (vp_in p1 2 ∧ (wp_Model_touch_j96_16 tc lows highs p1 p2 p3 p4 post (lows (p1.toNatClampNeg))))) ∧ (¬ ((p3 - p2) - p4) ≤ (lows (p1.toNatClampNeg)) → (wp_Model_touch_j96_16 tc lows highs p1 p2 p3 p4 post ((p3 - p2) - p4)))) := by
  have hv := vp_t (N := 2) hp hz
  have e := cl_t hp
  have t1 : ∀ w10 w11 : Int32, w10 = imax (lows z) ((p3 - p2) - p4) → w11 = imin (highs z) ((p3 - p2) + p4) → wp_Model_touch_j128_15 tc lows highs p1 post w10 w11 := by
    intro w10 w11 e1 e2
    subst e1; subst e2
    unfold wp_Model_touch_j128_15
    rw [e]
    refine ⟨fun c => ⟨hv, fun g eg => ⟨hv, fun g' eg' f ef => ?_⟩⟩, fun c => h0 c⟩
    subst eg; subst eg'; subst ef
    exact h1 c
  have t2 : ∀ w10 : Int32, w10 = imax (lows z) ((p3 - p2) - p4) → wp_Model_touch_j96_16 tc lows highs p1 p2 p3 p4 post w10 := by
    intro w10 e1
    unfold wp_Model_touch_j96_16
    rw [e]
    refine ⟨hv, fun c => ⟨hv, t1 _ _ e1 ?_⟩, fun c => t1 _ _ e1 ?_⟩
    · unfold imin; rw [if_neg (i_le_not.mp c)]
    · unfold imin; rw [if_pos (Classical.not_not.mp (mt i_le_not.mpr c))]
  rw [e]
  refine ⟨hv, fun c => ⟨hv, t2 _ ?_⟩, fun c => t2 _ ?_⟩
  · unfold imax; rw [if_neg (i_le_not.mp c)]
  · unfold imax; rw [if_pos (Classical.not_not.mp (mt i_le_not.mpr c))]
theorem j_touch {tc p1 p2 p3 p4 : Int32} {tl th lows highs : Nat → Int32} {v1 v2 v3 v4 : Prop} {K : Int32 → (Nat → Int32) → (Nat → Int32) → Int32 → (Nat → Int32) → (Nat → Int32) → Prop} (hv1 : v1) (hv2 : v2) (hv3 : v3) (hv4 : v4) (hG : gTo tc tl th lows highs) (h : ∀ (tc' : Int32) (tl' th' lows' highs' : Nat → Int32), gTo tc' tl' th' lows' highs' → K tc' tl' th' tc' lows' highs') : wp_SeamCell_touch tc tl th p1 p2 p3 p4 (fun o0 o1 o2 o3 => v1 ∧ v2 ∧ v3 ∧ v4 ∧ wp_Model_touch tc lows highs p1 p2 p3 p4 (fun q0 q1 q2 q3 => (o0 = q0 → K o1 o2 o3 q1 q2 q3) ∧ (¬ o0 = q0 → False))) := by
  have h0 := h _ _ _ _ _ hG
  have g0 := hG.1
  have c20 : (20 : Int32).toInt = 20 := rfl
  unfold wp_SeamCell_touch
  refine ft_zn (a := 0) (b := 1) rfl rfl (fun n => ⟨hv1, hv2, hv3, hv4, ?_⟩) (fun y1 => ft_nz (a := -100) (b := 100) rfl rfl (fun y2 => ft_zn (a := -200) (b := 200) rfl rfl (fun n => ⟨hv1, hv2, hv3, hv4, ?_⟩) (fun y3 => ft_nz (a := 0) (b := 50) rfl rfl (fun y4 => ?_) (fun n => ⟨hv1, hv2, hv3, hv4, ?_⟩))) (fun n => ⟨hv1, hv2, hv3, hv4, ?_⟩))
  · unfold wp_Model_touch
    exact mi_zn (a := 0) (b := 1) rfl rfl (fun _ => eqK h0) (fun y => absurd y n)
  · unfold wp_Model_touch
    exact mi_zn (a := 0) (b := 1) rfl rfl (fun _ => eqK h0) (fun _ => mi_zn (a := -100) (b := 100) rfl rfl (fun _ => eqK h0) (fun _ => mi_zn (a := -200) (b := 200) rfl rfl (fun _ => eqK h0) (fun y => absurd y n)))
  · obtain ⟨z, hz⟩ : ∃ z : Nat, p1.toInt = (z : Int) := ⟨p1.toInt.toNat, by omega⟩
    have z2 : z < 2 := by omega
    obtain ⟨a1, a2, a3, a4, a5⟩ := hG.2 z z2
    rw [i_lt (rfl : tc.toInt = tc.toInt) c20]
    refine ⟨fun c => ?_, fun c => ⟨hv1, hv2, hv3, hv4, ?_⟩⟩
    · have hne : ¬ tc = 20 := by rw [i_eq (rfl : tc.toInt = tc.toInt) c20]; omega
      refine s_narrow hz z2 (fun d => ⟨fun q => absurd q (by decide), fun _ => ⟨hv1, hv2, hv3, hv4, ?_⟩⟩) (fun d => ⟨fun _ => ⟨hv1, hv2, hv3, hv4, ?_⟩, fun q => absurd rfl q⟩) <;> unfold wp_Model_touch
      · refine mi_zn (a := 0) (b := 1) rfl rfl (fun n => absurd y1 n) (fun _ => mi_zn (a := -100) (b := 100) rfl rfl (fun n => absurd y2 n) (fun _ => mi_zn (a := -200) (b := 200) rfl rfl (fun n => absurd y3 n) (fun _ => mi_nz (a := 0) (b := 50) rfl rfl (fun _ => ⟨fun _ => ?_, fun q => absurd q hne⟩) (fun n => absurd y4 n))))
        refine s_mtouch hz z2 (fun d' => eqK (h _ _ _ _ _ ?_)) (fun d' => absurd (by rw [a1, a2]; exact d) d')
        have td : ((p3 - p2) - p4).toInt = p3.toInt - p2.toInt - p4.toInt := tS (tS rfl rfl (by omega)) rfl (by omega)
        have ts : ((p3 - p2) + p4).toInt = p3.toInt - p2.toInt + p4.toInt := tA (tS rfl rfl (by omega)) rfl (by omega)
        rw [a1, a2]
        have m1 := imax_t (x := tl z) rfl td
        have m2 := imin_t (x := th z) rfl ts
        have d2 := (i_le m1 m2).mp d
        refine ⟨?_, fun k hk => ?_⟩
        · rw [tA (rfl : tc.toInt = tc.toInt) q_1 (by omega)]; omega
        · by_cases e : k = z
          · rw [e, u_eq, u_eq, u_eq, u_eq, m1, m2]
            refine ⟨rfl, rfl, ?_, d2, ?_⟩
            · split <;> omega
            · split <;> omega
          · rw [u_ne e, u_ne e, u_ne e, u_ne e]; exact hG.2 k hk
      · refine mi_zn (a := 0) (b := 1) rfl rfl (fun n => absurd y1 n) (fun _ => mi_zn (a := -100) (b := 100) rfl rfl (fun n => absurd y2 n) (fun _ => mi_zn (a := -200) (b := 200) rfl rfl (fun n => absurd y3 n) (fun _ => mi_nz (a := 0) (b := 50) rfl rfl (fun _ => ⟨fun _ => ?_, fun q => absurd q hne⟩) (fun n => absurd y4 n))))
        exact s_mtouch hz z2 (fun d' => absurd (by rw [a1, a2] at d'; exact d') d) (fun d' => eqK h0)
    · have he : tc = 20 := by rw [i_eq (rfl : tc.toInt = tc.toInt) c20]; omega
      unfold wp_Model_touch
      exact mi_zn (a := 0) (b := 1) rfl rfl (fun n => absurd y1 n) (fun _ => mi_zn (a := -100) (b := 100) rfl rfl (fun n => absurd y2 n) (fun _ => mi_zn (a := -200) (b := 200) rfl rfl (fun n => absurd y3 n) (fun _ => mi_nz (a := 0) (b := 50) rfl rfl (fun _ => ⟨fun q => absurd he q, fun _ => eqK h0⟩) (fun n => absurd y4 n))))
  · unfold wp_Model_touch
    exact mi_zn (a := 0) (b := 1) rfl rfl (fun _ => eqK h0) (fun _ => mi_zn (a := -100) (b := 100) rfl rfl (fun _ => eqK h0) (fun _ => mi_zn (a := -200) (b := 200) rfl rfl (fun _ => eqK h0) (fun _ => mi_nz (a := 0) (b := 50) rfl rfl (fun y => absurd y n) (fun _ => eqK h0))))
  · unfold wp_Model_touch
    exact mi_zn (a := 0) (b := 1) rfl rfl (fun _ => eqK h0) (fun _ => mi_zn (a := -100) (b := 100) rfl rfl (fun _ => eqK h0) (fun y => absurd y n))
theorem j_clear {bc sc rc tc c1 c2 p1 : Int32} {tl th lows highs am : Nat → Int32} {v1 : Prop} {K : Int32 → Int32 → Int32 → Int32 → (Nat → Int32) → (Nat → Int32) → Int32 → Int32 → Int32 → Int32 → Int32 → Int32 → (Nat → Int32) → (Nat → Int32) → (Nat → Int32) → Prop} (hv1 : v1) (hG : gTo tc tl th lows highs) (ha1 : am 0 = c1) (ha2 : am 1 = c2)
    (h0 : K bc sc rc tc tl th c1 c2 bc sc rc tc lows highs am) (hs : K bc 0 0 tc tl th c1 c2 bc 0 0 tc lows highs am) (hb : K 0 sc rc tc tl th c1 c2 0 sc rc tc lows highs am) (ht : ∀ tl' th' lows' highs' : Nat → Int32, gTo 0 tl' th' lows' highs' → K bc sc rc 0 tl' th' c1 c2 bc sc rc 0 lows' highs' am) (ha : ∀ am' : Nat → Int32, am' 0 = 0 → am' 1 = 0 → K bc sc rc tc tl th 0 0 bc sc rc tc lows highs am') (hr : K bc sc 0 tc tl th c1 c2 bc sc 0 tc lows highs am) : wp_SeamCell_clear bc sc rc tc tl th c1 c2 p1 (fun o0 o1 o2 o3 o4 o5 o6 o7 o8 => v1 ∧ wp_Model_clear bc sc rc tc lows highs am p1 (fun q0 q1 q2 q3 q4 q5 q6 q7 => (o0 = q0 → K o1 o2 o3 o4 o5 o6 o7 o8 q1 q2 q3 q4 q5 q6 q7) ∧ (¬ o0 = q0 → False))) := by
  have m : ∀ (o0 o1 o2 o3 o4 : Int32) (o5 o6 : Nat → Int32) (o7 o8 : Int32), ((p1.toInt < 0 ∨ 4 < p1.toInt) → o0 = -1 ∧ K o1 o2 o3 o4 o5 o6 o7 o8 bc sc rc tc lows highs am) → (p1 = 0 → o0 = sc ∧ K o1 o2 o3 o4 o5 o6 o7 o8 bc 0 0 tc lows highs am) → (p1 = 1 → o0 = bc ∧ K o1 o2 o3 o4 o5 o6 o7 o8 0 sc rc tc lows highs am) → (p1 = 2 → o0 = tc ∧ ∀ a b : Nat → Int32, (∀ k, k < 2 → a k = -20) → (∀ k, k < 2 → b k = 20) → K o1 o2 o3 o4 o5 o6 o7 o8 bc sc rc 0 a b am) → (p1 = 3 → o0 = c1 + c2 ∧ ∀ am' : Nat → Int32, am' 0 = 0 → am' 1 = 0 → K o1 o2 o3 o4 o5 o6 o7 o8 bc sc rc tc lows highs am') → (p1 = 4 → o0 = rc ∧ K o1 o2 o3 o4 o5 o6 o7 o8 bc sc 0 tc lows highs am) →
      v1 ∧ wp_Model_clear bc sc rc tc lows highs am p1 (fun q0 q1 q2 q3 q4 q5 q6 q7 => (o0 = q0 → K o1 o2 o3 o4 o5 o6 o7 o8 q1 q2 q3 q4 q5 q6 q7) ∧ (¬ o0 = q0 → False)) := by
    intro o0 o1 o2 o3 o4 o5 o6 o7 o8 g a b c d e
    unfold wp_Model_clear
    refine ⟨hv1, fun q => eqK' (g q).1 (g q).2, fun q => eqK' (a q).1 (a q).2, fun q => eqK' (b q).1 (b q).2, fun q => s_shutAnew (fun x y hx hy => eqK' (c q).1 ((c q).2 x y hx hy)), fun q x2 e2 g6 e6 g7 e7 => ?_, fun q => eqK' (e q).1 (e q).2⟩
    subst e6; subst e7
    refine eqK' ?_ ((d q).2 _ rfl rfl)
    rw [e2, (d q).1]
    show c1 + c2 = am 0 + am 1
    rw [ha1, ha2]
  unfold wp_SeamCell_clear
  refine ft_nz (a := 0) (b := 4) rfl rfl (fun y => ⟨fun a => ⟨fun b => ⟨fun c => ⟨fun d => ?_, fun d => ?_⟩, fun c => ?_⟩, fun b => ?_⟩, fun a => ?_⟩) (fun n => ?_)
  · exact m _ _ _ _ _ _ _ _ _ (fun q => by omega) (fun q => absurd q a) (fun q => absurd q b) (fun q => absurd q c) (fun q => absurd q d) (fun _ => ⟨rfl, hr⟩)
  · intro x2 e2
    exact m _ _ _ _ _ _ _ _ _ (fun q => by omega) (fun q => absurd q a) (fun q => absurd q b) (fun q => absurd q c) (fun _ => ⟨e2, ha⟩) (fun q => absurd (d.symm.trans q) (by decide))
  · refine s_forget (fun tl' th' k1 k2 => ?_)
    exact m _ _ _ _ _ _ _ _ _ (fun q => by omega) (fun q => absurd q a) (fun q => absurd q b) (fun _ => ⟨rfl, fun x y hx hy => ht _ _ _ _ (gTo_new k1 k2 hx hy)⟩) (fun q => absurd (c.symm.trans q) (by decide)) (fun q => absurd (c.symm.trans q) (by decide))
  · exact m _ _ _ _ _ _ _ _ _ (fun q => by omega) (fun q => absurd q a) (fun _ => ⟨rfl, hb⟩) (fun q => absurd (b.symm.trans q) (by decide)) (fun q => absurd (b.symm.trans q) (by decide)) (fun q => absurd (b.symm.trans q) (by decide))
  · exact m _ _ _ _ _ _ _ _ _ (fun q => by omega) (fun _ => ⟨rfl, hs⟩) (fun q => absurd (a.symm.trans q) (by decide)) (fun q => absurd (a.symm.trans q) (by decide)) (fun q => absurd (a.symm.trans q) (by decide)) (fun q => absurd (a.symm.trans q) (by decide))
  · have nn : ∀ x : Int32, 0 ≤ x.toInt ∧ x.toInt ≤ 4 → p1 = x → False := fun x hx e => n (by rw [e]; exact hx)
    exact m _ _ _ _ _ _ _ _ _ (fun _ => ⟨rfl, h0⟩) (fun q => (nn _ (by decide) q).elim) (fun q => (nn _ (by decide) q).elim) (fun q => (nn _ (by decide) q).elim) (fun q => (nn _ (by decide) q).elim) (fun q => (nn _ (by decide) q).elim)
