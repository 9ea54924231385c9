theorem cm_s {n : Nat} (h : n < 8) {x : Int32} (hx : x.toInt = ((n + 1 : Nat) : Int)) : (x - (1 : Int32)).toInt = (n : Int) := by
  have c1 : (1 : Int32).toInt = 1 := rfl
  rw [tS hx c1 (by omega)]; omega
theorem s_workAt {mx my sx sy la lb fl : Int32} {nb ns : Nat} {bX0 bY0 bX1 bY1 sx0 sy0 sx1 sy1 : Nat → Int32} {n : Nat} {bars seams tm heat rS rW qs mb me mr : Nat → Int32} {bc gap turn travel lift cool hx hy kk : Int32} {lu ld hu hd : Int64} {sa : Nat → Nat} {sw : Nat → Int32} {k : Nat} {post : Int64 → Int64 → Int64 → Int64 → (Nat → Int32) → (Nat → Int32) → (Nat → Int32) → Prop} (hc : cellOK mx my sx sy la lb fl) (hb : barsOK nb bX0 bY0 bX1 bY1) (hbm : barsM nb bars bX0 bY0 bX1 bY1) (hbc : bc.toInt = (nb : Int)) (hs : seamsOK ns sx0 sy0 sx1 sy1) (hsm : seamsM ns seams sx0 sy0 sx1 sy1) (hg : gapOK gap) (hp : paceOK turn travel lift cool hx hy) (ht : seamsT ns seams sx0 sy0 sx1 sy1 tm heat) (hk : k < 8) (hkk : kk.toInt = (k : Int))
    (hrS : ∀ j, j ≤ k → (rS j).toInt = (sa j : Int)) (hsa : ∀ j, j ≤ k → sa j < ns) (hrW : ∀ j, j ≤ k → rW j = sw j) (hw : ∀ j, j ≤ k → sw j = 0 ∨ sw j = 1) (hq6 : ∀ j, j ≤ k → qtV mx my sx sy la lb fl nb bX0 bY0 bX1 bY1 sx0 sy0 sx1 sy1 (sa j) ≠ -6) (hqs : ∀ j, j ≤ k → qs (sa j) = qtV mx my sx sy la lb fl nb bX0 bY0 bX1 bY1 sx0 sy0 sx1 sy1 (sa j)) (hme : ∀ j, j < k → me j = END (qtV mx my sx sy la lb fl nb bX0 bY0 bX1 bY1 sx0 sy0 sx1 sy1) (gX mx my sx sy la lb fl nb bX0 bY0 bX1 bY1 sx0 sy0 sx1 sy1) (gY mx my sx sy la lb fl nb bX0 bY0 bX1 bY1 sx0 sy0 sx1 sy1) (freeP nb bX0 bY0 bX1 bY1) tm (rsF heat cool) (nearP gap sx0 sy0 sx1 sy1) turn travel lift hx hy sa sw j)
    (h : ∀ (a b c d : Int64), post a b c d (upd mb k (BEG (qtV mx my sx sy la lb fl nb bX0 bY0 bX1 bY1 sx0 sy0 sx1 sy1) (gX mx my sx sy la lb fl nb bX0 bY0 bX1 bY1 sx0 sy0 sx1 sy1) (gY mx my sx sy la lb fl nb bX0 bY0 bX1 bY1 sx0 sy0 sx1 sy1) (freeP nb bX0 bY0 bX1 bY1) tm (rsF heat cool) (nearP gap sx0 sy0 sx1 sy1) turn travel lift hx hy sa sw k)) (upd me k (END (qtV mx my sx sy la lb fl nb bX0 bY0 bX1 bY1 sx0 sy0 sx1 sy1) (gX mx my sx sy la lb fl nb bX0 bY0 bX1 bY1 sx0 sy0 sx1 sy1) (gY mx my sx sy la lb fl nb bX0 bY0 bX1 bY1 sx0 sy0 sx1 sy1) (freeP nb bX0 bY0 bX1 bY1) tm (rsF heat cool) (nearP gap sx0 sy0 sx1 sy1) turn travel lift hx hy sa sw k)) (upd mr k (RST (qtV mx my sx sy la lb fl nb bX0 bY0 bX1 bY1 sx0 sy0 sx1 sy1) (gX mx my sx sy la lb fl nb bX0 bY0 bX1 bY1 sx0 sy0 sx1 sy1) (gY mx my sx sy la lb fl nb bX0 bY0 bX1 bY1 sx0 sy0 sx1 sy1) (freeP nb bX0 bY0 bX1 bY1) tm (rsF heat cool) (nearP gap sx0 sy0 sx1 sy1) turn travel lift hx hy sa sw k))) : wp_Model_workAt mx my gap turn travel lift cool hx hy bc lu ld hu hd sx sy bars seams rS rW qs mb me mr kk post := by
  have h8 := hs.1
  obtain ⟨p1, p2, p3, p4, p5, p6⟩ := hp
  have v := vp_t (N := 8) hkk hk
  have hsk := hsa k (Nat.le_refl k)
  have hrk := hrS k (Nat.le_refl k)
  have z0 : (0 : Int32).toInt = 0 := rfl
  -- the bound that the times stay from 0 on
  have hT : tOK (fun a => ∃ j, j ≤ k ∧ sa j = a) (qtV mx my sx sy la lb fl nb bX0 bY0 bX1 bY1 sx0 sy0 sx1 sy1) (gX mx my sx sy la lb fl nb bX0 bY0 bX1 bY1 sx0 sy0 sx1 sy1) (gY mx my sx sy la lb fl nb bX0 bY0 bX1 bY1 sx0 sy0 sx1 sy1) (freeP nb bX0 bY0 bX1 bY1) tm (rsF heat cool) (nearP gap sx0 sy0 sx1 sy1) turn travel lift hx hy := tOK_of (ns := ns) (seams := seams) hc hs ⟨p1, p2, p3, p4, p5, p6⟩ ht (fun a ⟨j, hj, e⟩ => by rw [← e]; exact ⟨hsa j hj, hq6 j hj⟩)
  have hth0 := (t_bd (sw := sw) hT (N := k + 1) (by omega) (fun j hj => ⟨j, by omega, rfl⟩) k (by omega)).1.1
  -- the loop over those ahead
  have loop : ∀ (a b c d : Int64) (x2 x9 : Int32), x2.toInt = (sa k : Int) → x9 = thK (qtV mx my sx sy la lb fl nb bX0 bY0 bX1 bY1 sx0 sy0 sx1 sy1) (gX mx my sx sy la lb fl nb bX0 bY0 bX1 bY1 sx0 sy0 sx1 sy1) (gY mx my sx sy la lb fl nb bX0 bY0 bX1 bY1 sx0 sy0 sx1 sy1) (freeP nb bX0 bY0 bX1 bY1) tm (rsF heat cool) (nearP gap sx0 sy0 sx1 sy1) turn travel lift hx hy sa sw (eA (qtV mx my sx sy la lb fl nb bX0 bY0 bX1 bY1 sx0 sy0 sx1 sy1) (gX mx my sx sy la lb fl nb bX0 bY0 bX1 bY1 sx0 sy0 sx1 sy1) (gY mx my sx sy la lb fl nb bX0 bY0 bX1 bY1 sx0 sy0 sx1 sy1) (freeP nb bX0 bY0 bX1 bY1) tm (rsF heat cool) (nearP gap sx0 sy0 sx1 sy1) turn travel lift hx hy sa sw k) k → ∃ m : Nat, wpL_Model_workAt_283 gap cool seams rS mb me mr kk post x2 a b c d x9 m x9 (0 : Int32) := by
    intro a b c d x2 x9 hx2 e9
    refine ⟨k + 1, ?_⟩
    have key : ∀ (m j : Nat) (y : Int32), y.toInt = (j : Int) → j + m = k → wpL_Model_workAt_283 gap cool seams rS mb me mr kk post x2 a b c d x9 (m + 1) (imax x9 (coolF (rsF heat cool) (nearP gap sx0 sy0 sx1 sy1) sa me k j)) y := by
      intro m
      induction m with
      | zero =>
        intro j y hy' hj
        show wpB_Model_workAt_283 gap cool seams rS mb me mr kk post x2 a b c d x9 (wpL_Model_workAt_283 gap cool seams rS mb me mr kk post x2 a b c d x9 0) _ y
        unfold wpB_Model_workAt_283
        rw [i_le hkk hy']
        refine ⟨fun _ => ?_, fun z => absurd (by omega) z⟩
        have eb : imax x9 (coolF (rsF heat cool) (nearP gap sx0 sy0 sx1 sy1) sa me k j) = BEG (qtV mx my sx sy la lb fl nb bX0 bY0 bX1 bY1 sx0 sy0 sx1 sy1) (gX mx my sx sy la lb fl nb bX0 bY0 bX1 bY1 sx0 sy0 sx1 sy1) (gY mx my sx sy la lb fl nb bX0 bY0 bX1 bY1 sx0 sy0 sx1 sy1) (freeP nb bX0 bY0 bX1 bY1) tm (rsF heat cool) (nearP gap sx0 sy0 sx1 sy1) turn travel lift hx hy sa sw k := by
          rw [show j = k by omega, e9, ← th_due hme]
          exact beg_due hme
        rw [eb, cl_t hkk]
        refine ⟨v, fun g27 e27 t28 e28 => ⟨v, fun g29 e29 => s_timeOf hs hsm hsk hx2 (ht (sa k) hsk).1.1 (fun t31 e31 => ⟨v, fun g32 e32 => ?_⟩)⟩⟩
        rw [← (ht (sa k) hsk).2.2.2, ← END_eq] at e31
        rw [e9, ← RST_eq] at e28
        rw [e27, e32, e29, e31, e28]
        exact h a b c d
      | succ m ih =>
        intro j y hy' hj
        show wpB_Model_workAt_283 gap cool seams rS mb me mr kk post x2 a b c d x9 (wpL_Model_workAt_283 gap cool seams rS mb me mr kk post x2 a b c d x9 (m + 1)) _ y
        unfold wpB_Model_workAt_283
        rw [i_le hkk hy', cl_t hy']
        have hrj := hrS j (by omega)
        have hsj := hsa j (by omega)
        have vy := vp_t (N := 8) hy' (by omega)
        have t5 := ix6 hrj (by omega) 5 5 rfl (by omega)
        have next : ∀ y' : Int32, y' = y + (1 : Int32) → y'.toInt = ((j + 1 : Nat) : Int) := fun y' e => by rw [e]; exact inc_t hy' (by omega)
        refine ⟨fun z => absurd z (by omega), fun _ => ⟨vy, s_mareNear hg hs hsm hx2 hsk hrj hsj (fun hn => ⟨fun z => absurd z (by decide), fun _ => ⟨vy, vy, vp_t t5 (by omega), ?_, fun x15 e15 => ?_⟩⟩) (fun hn => ⟨fun _ y' e => ?_, fun z => absurd rfl z⟩)⟩⟩
        · rw [i_eq (x := cool) rfl z0]; omega
        · rw [cl_t t5, (ht (sa j) hsj).2.1] at e15
          have e15' : x15 = me j + rsF heat cool (sa j) := e15
          have nx : ∀ y' : Int32, y' = y + (1 : Int32) → wpL_Model_workAt_283 gap cool seams rS mb me mr kk post x2 a b c d x9 (m + 1) (imax (imax x9 (coolF (rsF heat cool) (nearP gap sx0 sy0 sx1 sy1) sa me k j)) x15) y' := by
            intro y' e
            have := ih (j + 1) y' (next y' e) (by omega)
            rw [show coolF (rsF heat cool) (nearP gap sx0 sy0 sx1 sy1) sa me k (j + 1) = imax (coolF (rsF heat cool) (nearP gap sx0 sy0 sx1 sy1) sa me k j) (me j + rsF heat cool (sa j)) from pif_pos (near_imp hn), ← e15', ← imax_assoc] at this
            exact this
          generalize imax x9 (coolF (rsF heat cool) (nearP gap sx0 sy0 sx1 sy1) sa me k j) = X at *
          refine ⟨fun c' y' e => ?_, fun c' y' e => ?_⟩
          · have := nx y' e
            rw [show imax X x15 = X by unfold imax; rw [if_neg]; rw [Int32.lt_iff_toInt_lt]; rw [Int32.le_iff_toInt_le] at c'; omega] at this
            exact this
          · have := nx y' e
            rw [show imax X x15 = x15 by unfold imax; rw [if_pos]; rw [Int32.lt_iff_toInt_lt]; rw [Int32.le_iff_toInt_le] at c'; omega] at this
            exact this
        · have := ih (j + 1) y' (next y' e) (by omega)
          rw [show coolF (rsF heat cool) (nearP gap sx0 sy0 sx1 sy1) sa me k (j + 1) = coolF (rsF heat cool) (nearP gap sx0 sy0 sx1 sy1) sa me k j from pif_neg (fun q => hn (near_imp q))] at this
          exact this
    have := key k 0 0 rfl (by omega)
    rw [show coolF (rsF heat cool) (nearP gap sx0 sy0 sx1 sy1) sa me k 0 = 0 from rfl, imax_0 (by rw [e9]; exact hth0)] at this
    exact this
  -- from the place where the torch is on
  have tail : ∀ (x2 x3 x4 w4 w5 w6 w8 : Int32), x2.toInt = (sa k : Int) → x3 = sw k → x4 = qtV mx my sx sy la lb fl nb bX0 bY0 bX1 bY1 sx0 sy0 sx1 sy1 (sa k) → w4 = psQ (qtV mx my sx sy la lb fl nb bX0 bY0 bX1 bY1 sx0 sy0 sx1 sy1) sa k → w5 = psX (gX mx my sx sy la lb fl nb bX0 bY0 bX1 bY1 sx0 sy0 sx1 sy1) hx sa sw k → w6 = psX (gY mx my sx sy la lb fl nb bX0 bY0 bX1 bY1 sx0 sy0 sx1 sy1) hy sa sw k → w8 = clk me k → wp_Model_workAt_j147_44 mx my gap turn travel lift cool bc lu ld hu hd sx sy bars seams rS mb me mr kk post x2 x3 x4 w5 w6 (iabs (x4 - w4)) w8 := by
    intro x2 x3 x4 w4 w5 w6 w8 hx2 e3 e4 ew4 e5 e6 e8
    have hin := e400 (e := sw k) (q := qtV mx my sx sy la lb fl nb bX0 bY0 bX1 bY1 sx0 sy0 sx1 sy1 (sa k)) hc hs hsk
    have hxy : in400 w5 ∧ in400 w6 := by
      rw [e5, e6]
      unfold psX
      split
      · exact ⟨p5, p6⟩
      · exact e400 hc hs (hsa _ (by omega))
    have go : ∀ w9 : Int32, turn * w9 = turnF turn w4 x4 → wp_Model_workAt_j170_43 mx my gap turn travel lift cool bc lu ld hu hd sx sy bars seams rS mb me mr kk post x2 x3 x4 w5 w6 w8 w9 := by
      intro w9 e9
      unfold wp_Model_workAt_j170_43
      intro x9 ex9
      have ew := hw k (Nat.le_refl k)
      rw [← e3] at ew
      refine s_placeOf hsm hx2 hsk h8 ew (fun _ => ?_) (fun z => absurd rfl z)
      refine s_placeOf hsm hx2 hsk h8 ew (fun z => absurd z (by decide)) (fun _ => ?_)
      have fin : ∀ far : Int32, far = imax (iabs (eX sx0 sy0 sx1 sy1 mx sx (sa k) x3 x4 - w5)) (iabs (eY sx0 sy0 sx1 sy1 my sy (sa k) x3 x4 - w6)) → wp_Model_workAt_j234_40 gap travel lift cool bc lu ld hu hd bars seams rS mb me mr kk post x2 w5 w6 x9 (eX sx0 sy0 sx1 sy1 mx sx (sa k) x3 x4) (eY sx0 sy0 sx1 sy1 my sy (sa k) x3 x4) far := by
        intro far ef
        unfold wp_Model_workAt_j234_40
        have sum : ∀ g : Int32, g = pif (freeP nb bX0 bY0 bX1 bY1 w5 w6 (eX sx0 sy0 sx1 sy1 mx sx (sa k) x3 x4) (eY sx0 sy0 sx1 sy1 my sy (sa k) x3 x4)) 0 ((2 : Int32) * lift) → x9 + (upF far travel + g) = thK (qtV mx my sx sy la lb fl nb bX0 bY0 bX1 bY1 sx0 sy0 sx1 sy1) (gX mx my sx sy la lb fl nb bX0 bY0 bX1 bY1 sx0 sy0 sx1 sy1) (gY mx my sx sy la lb fl nb bX0 bY0 bX1 bY1 sx0 sy0 sx1 sy1) (freeP nb bX0 bY0 bX1 bY1) tm (rsF heat cool) (nearP gap sx0 sy0 sx1 sy1) turn travel lift hx hy sa sw (eA (qtV mx my sx sy la lb fl nb bX0 bY0 bX1 bY1 sx0 sy0 sx1 sy1) (gX mx my sx sy la lb fl nb bX0 bY0 bX1 bY1 sx0 sy0 sx1 sy1) (gY mx my sx sy la lb fl nb bX0 bY0 bX1 bY1 sx0 sy0 sx1 sy1) (freeP nb bX0 bY0 bX1 bY1) tm (rsF heat cool) (nearP gap sx0 sy0 sx1 sy1) turn travel lift hx hy sa sw k) k := by
          intro g eg
          rw [← th_due hme, thK_eq, ex9, e9, eg, ef, gX_eq, gY_eq, ← ew4, ← e4, ← e3, ← e5, ← e6, ← e8]
          rfl
        have p1' := e400 (e := x3) (q := x4) hc hs hsk
        refine s_up p2.1 (s_misFree hb hbm hbc (pt400 hxy.1 hxy.2) (pt400 p1'.1 p1'.2) (fun f a b c d => ⟨fun z => absurd z (by decide), fun _ => ?_⟩) (fun f a b c d => ⟨fun _ => ?_, fun z => absurd rfl z⟩))
        · unfold wp_Model_workAt_j272_39
          intro y ey
          exact loop a b c d x2 y hx2 (by rw [ey]; exact sum 0 (pif_pos f).symm)
        · unfold wp_Model_workAt_j272_39
          intro y ey
          exact loop a b c d x2 y hx2 (by rw [ey]; exact sum _ (pif_neg f).symm)
      refine s_size (s_size ⟨fun c' => s_size ?_, fun c' => s_size ?_⟩)
      · exact fin _ (imax_le c').symm
      · exact fin _ (imax_nle c').symm
    unfold wp_Model_workAt_j147_44
    obtain ⟨i, hi, ei⟩ : ∃ i : Nat, i < 4 ∧ x4 = nI i := by
      rcases qt_cases mx my sx sy la lb fl nb bX0 bY0 bX1 bY1 sx0 sy0 sx1 sy1 (sa k) with q | ⟨i, q1, q2⟩
      · exact absurd q (hq6 k (Nat.le_refl k))
      · exact ⟨i, q1, e4.trans q2⟩
    obtain ⟨j, hj, ej⟩ : ∃ j : Nat, j < 4 ∧ w4 = nI j := by
      rw [ew4]
      unfold psQ
      split
      · exact ⟨0, by omega, rfl⟩
      · rcases qt_cases mx my sx sy la lb fl nb bX0 bY0 bX1 bY1 sx0 sy0 sx1 sy1 (sa (k - 1)) with q | ⟨i, q1, q2⟩
        · exact absurd q (hq6 (k - 1) (by omega))
        · exact ⟨i, q1, q2⟩
    have te := turn_eq j hj i hi
    rw [← ei, ← ej] at te
    exact ⟨fun c' => go _ (by unfold turnF; rw [te.1 c']), fun c' => go _ (by unfold turnF; rw [te.2 c'])⟩
  unfold wp_Model_workAt
  rw [cl_t hkk]
  refine ⟨v, fun x2 e2 => ⟨v, fun x3 e3 => ⟨by rw [e2]; exact vp_t hrk (by omega), fun x4 e4 => ?_⟩⟩⟩
  have hx2 : x2.toInt = (sa k : Int) := by rw [e2]; exact hrk
  rw [cl_t hx2, hqs k (Nat.le_refl k)] at e4
  rw [hrW k (Nat.le_refl k)] at e3
  rcases Nat.eq_zero_or_pos k with hk0 | hk0
  · have e0 : kk = 0 := (i_eq hkk z0).mpr (by omega)
    refine ⟨fun z => absurd e0 z, fun _ => ?_⟩
    unfold wp_Model_workAt_j43_49
    refine ⟨fun z => absurd e0 z, fun _ => ?_⟩
    unfold wp_Model_workAt_j81_47
    refine ⟨fun z => absurd e0 z, fun _ => ?_⟩
    unfold wp_Model_workAt_j119_45
    refine s_size ⟨fun z => absurd e0 z, fun _ => ?_⟩
    exact tail x2 x3 x4 0 hx hy 0 hx2 e3 e4 (by rw [hk0]; exact psQ_0) (by rw [hk0]; exact psX_0) (by rw [hk0]; exact psX_0) (by rw [hk0]; exact clk_0)
  · obtain ⟨k', rfl⟩ : ∃ k', k = k' + 1 := ⟨k - 1, by omega⟩
    have n0 : ¬ kk = 0 := fun z => by have := (i_eq hkk z0).mp z; omega
    have tm1 := cm_s (by omega) hkk
    have vm := vp_t (N := 8) tm1 (by omega)
    have hr' := hrS k' (by omega)
    have hs' := hsa k' (by omega)
    have ew : (1 : Int32) - sw k' = 0 ∨ (1 : Int32) - sw k' = 1 := by
      rcases hw k' (by omega) with q | q <;> rw [q]
      · exact Or.inr (by decide)
      · exact Or.inl (by decide)
    rw [cl_t tm1, cl_t hr', hqs k' (by omega)]
    refine ⟨fun _ => ⟨vm, vp_t hr' (by omega), ?_⟩, fun z => absurd z n0⟩
    unfold wp_Model_workAt_j43_49
    rw [cl_t tm1, hrW k' (by omega)]
    refine ⟨fun _ => ⟨vm, vm, s_placeOf hsm hr' hs' h8 ew (fun _ => ?_) (fun z => absurd rfl z)⟩, fun z => absurd z n0⟩
    unfold wp_Model_workAt_j81_47
    rw [cl_t tm1, hrW k' (by omega)]
    refine ⟨fun _ => ⟨vm, vm, s_placeOf hsm hr' hs' h8 ew (fun z => absurd z (by decide)) (fun _ => ?_)⟩, fun z => absurd z n0⟩
    unfold wp_Model_workAt_j119_45
    rw [cl_t tm1]
    refine s_size ⟨fun _ => ⟨vm, ?_⟩, fun z => absurd z n0⟩
    exact tail x2 x3 x4 _ _ _ _ hx2 e3 e4 psQ_s ((gX_eq ..).symm.trans psX_s) ((gY_eq ..).symm.trans psX_s) clk_s
