theorem fin_iff {dx dy ax bx d1 ay by' d2 n m nh mh n2 m2 nh2 mh2 : Int} (p1 : dx ≠ 0 → 0 < d1) (p2 : dy ≠ 0 → 0 < d2) (pm : 0 < m) (pmh : 0 < mh) (pm2 : 0 < m2) (pmh2 : 0 < mh2)
    (L1 : (dx ≠ 0 ∧ shLo (-1) 1 ax d1 n m) ∨ (dx = 0 ∧ n = -1 ∧ m = 1)) (H1 : (dx ≠ 0 ∧ shHi 2 1 bx d1 nh mh) ∨ (dx = 0 ∧ nh = 2 ∧ mh = 1))
    (L2 : (dy ≠ 0 ∧ shLo n m ay d2 n2 m2) ∨ (dy = 0 ∧ n2 = n ∧ m2 = m)) (H2 : (dy ≠ 0 ∧ shHi nh mh by' d2 nh2 mh2) ∨ (dy = 0 ∧ nh2 = nh ∧ mh2 = mh)) (o1 : dx ≠ 0 → ax < bx) (o2 : dy ≠ 0 → ay < by') :
    (n2 * mh2 < nh2 * m2 ∧ n2 < m2 ∧ 0 < nh2) ↔ ((dx ≠ 0 → ax < d1 ∧ 0 < bx) ∧ (dy ≠ 0 → ay < d2 ∧ 0 < by') ∧ (dx ≠ 0 → dy ≠ 0 → ax * d2 < by' * d1 ∧ ay * d1 < bx * d2)) := by
  have hL1 : ∀ p q : Int, 0 < q → (n * q < p * m ↔ (-1 * q < p * 1 ∧ (dx ≠ 0 → ax * q < p * d1))) := by
    intro p q hq
    rcases L1 with ⟨hd, h⟩ | ⟨hd, rfl, rfl⟩
    · rw [lo_max (by decide) (p1 hd) hq h]
      exact ⟨fun k => ⟨k.1, fun _ => k.2⟩, fun k => ⟨k.1, k.2 hd⟩⟩
    · exact ⟨fun k => ⟨k, fun q => absurd hd q⟩, fun k => k.1⟩
  have hH1 : ∀ p q : Int, 0 < q → (p * mh < nh * q ↔ (p * 1 < 2 * q ∧ (dx ≠ 0 → p * d1 < bx * q))) := by
    intro p q hq
    rcases H1 with ⟨hd, h⟩ | ⟨hd, rfl, rfl⟩
    · rw [hi_min (by decide) (p1 hd) hq h]
      exact ⟨fun k => ⟨k.1, fun _ => k.2⟩, fun k => ⟨k.1, k.2 hd⟩⟩
    · exact ⟨fun k => ⟨k, fun q => absurd hd q⟩, fun k => k.1⟩
  have hL2 : ∀ p q : Int, 0 < q → (n2 * q < p * m2 ↔ (n * q < p * m ∧ (dy ≠ 0 → ay * q < p * d2))) := by
    intro p q hq
    rcases L2 with ⟨hd, h⟩ | ⟨hd, rfl, rfl⟩
    · rw [lo_max pm (p2 hd) hq h]
      exact ⟨fun k => ⟨k.1, fun _ => k.2⟩, fun k => ⟨k.1, k.2 hd⟩⟩
    · exact ⟨fun k => ⟨k, fun q => absurd hd q⟩, fun k => k.1⟩
  have hH2 : ∀ p q : Int, 0 < q → (p * mh2 < nh2 * q ↔ (p * mh < nh * q ∧ (dy ≠ 0 → p * d2 < by' * q))) := by
    intro p q hq
    rcases H2 with ⟨hd, h⟩ | ⟨hd, rfl, rfl⟩
    · rw [hi_min pmh (p2 hd) hq h]
      exact ⟨fun k => ⟨k.1, fun _ => k.2⟩, fun k => ⟨k.1, k.2 hd⟩⟩
    · exact ⟨fun k => ⟨k, fun q => absurd hd q⟩, fun k => k.1⟩
  have f2 : n2 < m2 ↔ ((dx ≠ 0 → ax < d1) ∧ (dy ≠ 0 → ay < d2)) := by
    have a := hL2 1 1 (by decide)
    have b := hL1 1 1 (by decide)
    simp only [Int.mul_one, Int.one_mul] at a b
    rw [a, b]
    exact ⟨fun k => ⟨k.1.2, k.2⟩, fun k => ⟨⟨by decide, k.1⟩, k.2⟩⟩
  have f3 : 0 < nh2 ↔ ((dx ≠ 0 → 0 < bx) ∧ (dy ≠ 0 → 0 < by')) := by
    have a := hH2 0 1 (by decide)
    have b := hH1 0 1 (by decide)
    simp only [Int.mul_one, Int.zero_mul] at a b
    rw [a, b]
    exact ⟨fun k => ⟨k.1.2, k.2⟩, fun k => ⟨⟨by decide, k.1⟩, k.2⟩⟩
  have f1 : n2 * mh2 < nh2 * m2 ↔ ((-1 * 1 < 2 * 1 ∧ (dx ≠ 0 → ax * 1 < 2 * d1)) ∧ (dx ≠ 0 → -1 * d1 < bx * 1 ∧ ax * d1 < bx * d1) ∧ (dy ≠ 0 → (-1 * d2 < by' * 1 ∧ (dx ≠ 0 → ax * d2 < by' * d1))) ∧ (dy ≠ 0 → (ay * 1 < 2 * d2 ∧ (dx ≠ 0 → ay * d1 < bx * d2) ∧ ay * d2 < by' * d2))) := by
    rw [hL2 nh2 mh2 pmh2, hH2 n m pm, hH1 n m pm]
    have e1 : n * 1 < 2 * m ↔ (-1 * 1 < 2 * 1 ∧ (dx ≠ 0 → ax * 1 < 2 * d1)) := hL1 2 1 (by decide)
    rw [e1]
    constructor
    · intro k
      refine ⟨k.1.1.1, fun hd => (hL1 bx d1 (p1 hd)).mp (k.1.1.2 hd) |>.imp id (fun q => q hd), fun hd => (hL1 by' d2 (p2 hd)).mp (k.1.2 hd), fun hd => ?_⟩
      have := (hH2 ay d2 (p2 hd)).mp (k.2 hd)
      have t := (hH1 ay d2 (p2 hd)).mp this.1
      exact ⟨t.1, t.2, this.2 hd⟩
    · intro k
      refine ⟨⟨⟨k.1, fun hd => (hL1 bx d1 (p1 hd)).mpr ⟨(k.2.1 hd).1, fun _ => (k.2.1 hd).2⟩⟩, fun hd => (hL1 by' d2 (p2 hd)).mpr (k.2.2.1 hd)⟩, fun hd => ?_⟩
      have t := k.2.2.2 hd
      exact (hH2 ay d2 (p2 hd)).mpr ⟨(hH1 ay d2 (p2 hd)).mpr ⟨t.1, t.2.1⟩, fun _ => t.2.2⟩
  rw [f1, f2, f3]
  constructor
  · intro ⟨⟨_, _, k3, k4⟩, ⟨k5, k6⟩, k7, k8⟩
    exact ⟨fun h => ⟨k5 h, k7 h⟩, fun h => ⟨k6 h, k8 h⟩, fun h h' => ⟨(k3 h').2 h, (k4 h').2.1 h⟩⟩
  · intro ⟨k1, k2, k3⟩
    refine ⟨⟨⟨by decide, fun h => ?_⟩, fun h => ⟨?_, ?_⟩, fun h => ⟨?_, fun h' => (k3 h' h).1⟩, fun h => ⟨?_, fun h' => (k3 h' h).2, ?_⟩⟩, ⟨fun h => (k1 h).1, fun h => (k2 h).1⟩, fun h => (k1 h).2, fun h => (k2 h).2⟩
    · have := k1 h; have := p1 h; omega
    · have := k1 h; have := p1 h; omega
    · exact Int.mul_lt_mul_of_pos_right (o1 h) (p1 h)
    · have := k2 h; have := p2 h; omega
    · have := k2 h; have := p2 h; omega
    · exact Int.mul_lt_mul_of_pos_right (o2 h) (p2 h)
theorem s_goesThrough {bars : Nat → Int32} {k : Nat} {i x0 y0 x1 y1 : Int32} {post : Int32 → Int64 → Int64 → Int64 → Int64 → Prop} (hk : i.toInt = (k : Int)) (hk4 : k < 4) (h0 : ptOK x0 y0) (h1 : ptOK x1 y1)
    (r0 : -400 ≤ (bars (4 * k)).toInt ∧ (bars (4 * k)).toInt ≤ 400) (r1 : -400 ≤ (bars (4 * k + 1)).toInt ∧ (bars (4 * k + 1)).toInt ≤ 400) (r2 : -400 ≤ (bars (4 * k + 2)).toInt ∧ (bars (4 * k + 2)).toInt ≤ 400) (r3 : -400 ≤ (bars (4 * k + 3)).toInt ∧ (bars (4 * k + 3)).toInt ≤ 400)
    (ox : (bars (4 * k)).toInt < (bars (4 * k + 2)).toInt) (oy : (bars (4 * k + 1)).toInt < (bars (4 * k + 3)).toInt)
    (k1 : entP (bars (4 * k)).toInt (bars (4 * k + 1)).toInt (bars (4 * k + 2)).toInt (bars (4 * k + 3)).toInt x0.toInt y0.toInt x1.toInt y1.toInt → ∀ a b c d, post 1 a b c d)
    (k0 : ¬ entP (bars (4 * k)).toInt (bars (4 * k + 1)).toInt (bars (4 * k + 2)).toInt (bars (4 * k + 3)).toInt x0.toInt y0.toInt x1.toInt y1.toInt → ∀ a b c d, post 0 a b c d) :
    wp_Model_goesThrough bars i x0 y0 x1 y1 post := by
  rw [ent_iff ox oy] at k1 k0
  unfold wp_Model_goesThrough
  have c4 : (4 : Int32).toInt = 4 := rfl
  have c1 : (1 : Int32).toInt = 1 := rfl
  have c2 : (2 : Int32).toInt = 2 := rfl
  have c3 : (3 : Int32).toInt = 3 := rfl
  have i0 : ((4 : Int32) * i).toInt = ((4 * k : Nat) : Int) := by rw [tM c4 hk (by omega)]; omega
  have i1 : ((4 : Int32) * i + (1 : Int32)).toInt = ((4 * k + 1 : Nat) : Int) := by rw [tA i0 c1 (by omega)]; omega
  have i2 : ((4 : Int32) * i + (2 : Int32)).toInt = ((4 * k + 2 : Nat) : Int) := by rw [tA i0 c2 (by omega)]; omega
  have i3 : ((4 : Int32) * i + (3 : Int32)).toInt = ((4 * k + 3 : Nat) : Int) := by rw [tA i0 c3 (by omega)]; omega
  rw [cl_t i0, cl_t i1, cl_t i2, cl_t i3]
  obtain ⟨⟨a1, a2⟩, a3, a4⟩ := h0
  obtain ⟨⟨a5, a6⟩, a7, a8⟩ := h1
  have tdx : (x1 - x0).toInt = x1.toInt - x0.toInt := tS rfl rfl (by omega)
  have tdy : (y1 - y0).toInt = y1.toInt - y0.toInt := tS rfl rfl (by omega)
  refine ⟨vp_t i0 (by omega), vp_t i2 (by omega), ?_⟩
  have second : ∀ (lu ld hu hd : Int64), (-2000 ≤ lu.toInt ∧ lu.toInt ≤ 2000) → (0 < ld.toInt ∧ ld.toInt ≤ 2000) → (-2000 ≤ hu.toInt ∧ hu.toInt ≤ 2000) → (0 < hd.toInt ∧ hd.toInt ≤ 2000) →
      ((x1.toInt - x0.toInt ≠ 0 ∧ shLo (-1) 1 (axA (x1.toInt - x0.toInt) x0.toInt (bars (4 * k)).toInt (bars (4 * k + 2)).toInt) (axD (x1.toInt - x0.toInt)) lu.toInt ld.toInt) ∨ (x1.toInt - x0.toInt = 0 ∧ lu.toInt = -1 ∧ ld.toInt = 1)) →
      ((x1.toInt - x0.toInt ≠ 0 ∧ shHi 2 1 (axB (x1.toInt - x0.toInt) x0.toInt (bars (4 * k)).toInt (bars (4 * k + 2)).toInt) (axD (x1.toInt - x0.toInt)) hu.toInt hd.toInt) ∨ (x1.toInt - x0.toInt = 0 ∧ hu.toInt = 2 ∧ hd.toInt = 1)) →
      (x1.toInt - x0.toInt = 0 → (bars (4 * k)).toInt < x0.toInt ∧ x0.toInt < (bars (4 * k + 2)).toInt) →
      ((1 : Int32) = 0 → post 0 lu ld hu hd) ∧ (¬ (1 : Int32) = 0 → (vp_in ((4 : Int32) * i + (1 : Int32)) 16 ∧ (vp_in ((4 : Int32) * i + (3 : Int32)) 16 ∧ (wp_Model_shutIn lu ld hu hd y0 (y1 - y0) (bars (4 * k + 1)) (bars (4 * k + 3)) (fun r_7 mo_lowUp_8 mo_lowDown_9 mo_highUp_10 mo_highDown_11 => ((¬ r_7 = 0 → ((0 ≤ (lg_cmp (mo_lowUp_8 * mo_highDown_11) (mo_highUp_10 * mo_lowDown_9)) → (post (0 : Int32) mo_lowUp_8 mo_lowDown_9 mo_highUp_10 mo_highDown_11)) ∧ (¬ 0 ≤ (lg_cmp (mo_lowUp_8 * mo_highDown_11) (mo_highUp_10 * mo_lowDown_9)) → ((0 ≤ (lg_cmp mo_lowUp_8 mo_lowDown_9) → (post (0 : Int32) mo_lowUp_8 mo_lowDown_9 mo_highUp_10 mo_highDown_11)) ∧ (¬ 0 ≤ (lg_cmp mo_lowUp_8 mo_lowDown_9) → (((lg_cmp mo_highUp_10 (0 : Int64)) ≤ 0 → (post (0 : Int32) mo_lowUp_8 mo_lowDown_9 mo_highUp_10 mo_highDown_11)) ∧ (¬ (lg_cmp mo_highUp_10 (0 : Int64)) ≤ 0 → (post (1 : Int32) mo_lowUp_8 mo_lowDown_9 mo_highUp_10 mo_highDown_11)))))))) ∧ (r_7 = 0 → (post (0 : Int32) mo_lowUp_8 mo_lowDown_9 mo_highUp_10 mo_highDown_11)))))))) := by
    intro lu ld hu hd b1 b2 b3 b4 L1 H1 hx0
    refine ⟨fun q => absurd q (by decide), fun _ => ⟨vp_t i1 (by omega), vp_t i3 (by omega), ?_⟩⟩
    have fin : ∀ (lu' ld' hu' hd' : Int64), (-2000 ≤ lu'.toInt ∧ lu'.toInt ≤ 2000) → (0 < ld'.toInt ∧ ld'.toInt ≤ 2000) → (-2000 ≤ hu'.toInt ∧ hu'.toInt ≤ 2000) → (0 < hd'.toInt ∧ hd'.toInt ≤ 2000) →
        ((y1.toInt - y0.toInt ≠ 0 ∧ shLo lu.toInt ld.toInt (axA (y1.toInt - y0.toInt) y0.toInt (bars (4 * k + 1)).toInt (bars (4 * k + 3)).toInt) (axD (y1.toInt - y0.toInt)) lu'.toInt ld'.toInt) ∨ (y1.toInt - y0.toInt = 0 ∧ lu'.toInt = lu.toInt ∧ ld'.toInt = ld.toInt)) →
        ((y1.toInt - y0.toInt ≠ 0 ∧ shHi hu.toInt hd.toInt (axB (y1.toInt - y0.toInt) y0.toInt (bars (4 * k + 1)).toInt (bars (4 * k + 3)).toInt) (axD (y1.toInt - y0.toInt)) hu'.toInt hd'.toInt) ∨ (y1.toInt - y0.toInt = 0 ∧ hu'.toInt = hu.toInt ∧ hd'.toInt = hd.toInt)) →
        (y1.toInt - y0.toInt = 0 → (bars (4 * k + 1)).toInt < y0.toInt ∧ y0.toInt < (bars (4 * k + 3)).toInt) →
        ((0 ≤ (lg_cmp (lu' * hd') (hu' * ld')) → (post (0 : Int32) lu' ld' hu' hd')) ∧ (¬ 0 ≤ (lg_cmp (lu' * hd') (hu' * ld')) → ((0 ≤ (lg_cmp lu' ld') → (post (0 : Int32) lu' ld' hu' hd')) ∧ (¬ 0 ≤ (lg_cmp lu' ld') → (((lg_cmp hu' (0 : Int64)) ≤ 0 → (post (0 : Int32) lu' ld' hu' hd')) ∧ (¬ (lg_cmp hu' (0 : Int64)) ≤ 0 → (post (1 : Int32) lu' ld' hu' hd'))))))) := by
      intro lu' ld' hu' hd' b1' b2' b3' b4' L2 H2 hy0
      have z0 : (0 : Int64).toInt = 0 := rfl
      have m1 := mul_bd (a := lu'.toInt) (b := hd'.toInt) 2000 2000 (by omega) (by omega) (by omega) (by omega)
      have m2 := mul_bd (a := hu'.toInt) (b := ld'.toInt) 2000 2000 (by omega) (by omega) (by omega) (by omega)
      rw [lc_ge, lc_ge, lc_le, tML (x := lu') (y := hd') rfl rfl (by omega), tML (x := hu') (y := ld') rfl rfl (by omega), z0]
      have key := fin_iff (p1 := axD_pos) (p2 := axD_pos) b2.1 b4.1 b2'.1 b4'.1 L1 H1 L2 H2 (fun _ => by unfold axA axB; split <;> omega) (fun _ => by unfold axA axB; split <;> omega)
      have mp : modP (bars (4 * k)).toInt (bars (4 * k + 1)).toInt (bars (4 * k + 2)).toInt (bars (4 * k + 3)).toInt x0.toInt y0.toInt x1.toInt y1.toInt ↔ (lu'.toInt * hd'.toInt < hu'.toInt * ld'.toInt ∧ lu'.toInt < ld'.toInt ∧ 0 < hu'.toInt) := by
        rw [key]
        unfold modP
        exact ⟨fun h => h.2.2, fun h => ⟨hx0, hy0, h⟩⟩
      refine ⟨fun c => k0 (fun h => by have := (mp.mp h).1; omega) _ _ _ _, fun c => ⟨fun c' => k0 (fun h => by have := (mp.mp h).2.1; omega) _ _ _ _, fun c' => ⟨fun c'' => k0 (fun h => by have := (mp.mp h).2.2; omega) _ _ _ _, fun c'' => k1 (mp.mpr ⟨by omega, by omega, by omega⟩) _ _ _ _⟩⟩⟩
    refine s_shutIn (lu := lu) (ld := ld) (hu := hu) (hd := hd) rfl tdy rfl rfl rfl rfl rfl rfl ⟨a3, a4⟩ (by omega) r1 r3 b1 (by omega) b3 (by omega) (fun hz => ⟨fun hin => ?_, fun hin => ?_⟩) (fun hz lu' ld' hu' hd' s1 s2 => ?_)
    · exact ⟨fun _ => fin lu ld hu hd b1 b2 b3 b4 (Or.inr ⟨hz, rfl, rfl⟩) (Or.inr ⟨hz, rfl, rfl⟩) (fun _ => hin), fun q => absurd q (by decide)⟩
    · exact ⟨fun q => absurd rfl q, fun _ => k0 (fun h => hin (h.2.1 hz)) _ _ _ _⟩
    · have pd := axD_pos hz
      have bd : axD (y1.toInt - y0.toInt) ≤ 2000 := by unfold axD; split <;> omega
      have q1 := sh_bd s1 b1 b2 (by unfold axA; split <;> omega) ⟨pd, bd⟩
      have q2 := sh_bdH s2 b3 b4 (by unfold axB; split <;> omega) ⟨pd, bd⟩
      exact ⟨fun _ => fin lu' ld' hu' hd' q1.1 q1.2 q2.1 q2.2 (Or.inl ⟨hz, s1⟩) (Or.inl ⟨hz, s2⟩) (fun q => absurd q hz), fun q => absurd q (by decide)⟩
  have n1 : (-1 : Int64).toInt = -1 := rfl
  have n2 : (1 : Int64).toInt = 1 := rfl
  have n3 : (2 : Int64).toInt = 2 := rfl
  refine s_shutIn (lu := -1) (ld := 1) (hu := 2) (hd := 1) rfl tdx rfl rfl n1 n2 n3 n2 ⟨a1, a2⟩ (by omega) r0 r2 (by omega) (by omega) (by omega) (by omega) (fun hz => ⟨fun hin => ?_, fun hin => ?_⟩) (fun hz lu' ld' hu' hd' s1 s2 => ?_)
  · exact second (-1) 1 2 1 (by decide) (by decide) (by decide) (by decide) (Or.inr ⟨hz, n1, n2⟩) (Or.inr ⟨hz, n3, n2⟩) (fun _ => hin)
  · exact ⟨fun _ => k0 (fun h => hin (h.1 hz)) _ _ _ _, fun q => absurd rfl q⟩
  · have pd := axD_pos hz
    have bd : axD (x1.toInt - x0.toInt) ≤ 2000 := by unfold axD; split <;> omega
    have q1 := sh_bd s1 (by omega) (by omega) (by unfold axA; split <;> omega) ⟨pd, bd⟩
    have q2 := sh_bdH s2 (by omega) (by omega) (by unfold axB; split <;> omega) ⟨pd, bd⟩
    exact second lu' ld' hu' hd' q1.1 q1.2 q2.1 q2.2 (Or.inl ⟨hz, s1⟩) (Or.inl ⟨hz, s2⟩) (fun q => absurd q hz)
