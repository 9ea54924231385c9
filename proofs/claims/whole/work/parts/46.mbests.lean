/-! the reference's best as a whole -/
theorem s_mbest {mx my sx sy la lb fl : Int32} {nb ns : Nat} {bX0 bY0 bX1 bY1 sx0 sy0 sx1 sy1 : Nat → Int32} {tm heat bars seams qs mb me mr rS rW bR : Nat → Int32} {bc gap turn travel lift cool hx hy sc rc : Int32} {lu ld hu hd : Int64} {post : Int32 → Int32 → Int64 → Int64 → Int64 → Int64 → (Nat → Int32) → (Nat → Int32) → (Nat → Int32) → (Nat → Int32) → (Nat → Int32) → (Nat → Int32) → (Nat → Int32) → Prop} (hc : cellOK mx my sx sy la lb fl) (hb : barsOK nb bX0 bY0 bX1 bY1) (hbm : barsM nb bars bX0 bY0 bX1 bY1) (hbc : bc.toInt = (nb : Int)) (hs : seamsOK ns sx0 sy0 sx1 sy1) (hsm : seamsM ns seams sx0 sy0 sx1 sy1) (hg : gapOK gap) (hp : paceOK turn travel lift cool hx hy) (ht : seamsT ns seams sx0 sy0 sx1 sy1 tm heat) (hsc : sc.toInt = (ns : Int))
    (h4 : 6 < ns → post (-4) rc lu ld hu hd rS rW qs mb me mr bR)
    (h5 : ns ≤ 6 → ¬ (∀ s, s < ns → qtV mx my sx sy la lb fl nb bX0 bY0 bX1 bY1 sx0 sy0 sx1 sy1 s ≠ -6) → ∀ a b c d : Int64, post (-5) rc a b c d rS rW qs mb me mr bR)
    (h1 : ns ≤ 6 → (∀ s, s < ns → qtV mx my sx sy la lb fl nb bX0 bY0 bX1 bY1 sx0 sy0 sx1 sy1 s ≠ -6) → ∀ (r : Int32) (a b c d : Int64) (rS' rW' qs' mb' me' mr' bR' : Nat → Int32), r.toInt = (FD ns (LF (qtV mx my sx sy la lb fl nb bX0 bY0 bX1 bY1 sx0 sy0 sx1 sy1) (gX mx my sx sy la lb fl nb bX0 bY0 bX1 bY1 sx0 sy0 sx1 sy1) (gY mx my sx sy la lb fl nb bX0 bY0 bX1 bY1 sx0 sy0 sx1 sy1) (freeP nb bX0 bY0 bX1 bY1) tm (rsF heat cool) (nearP gap sx0 sy0 sx1 sy1) turn travel lift hx hy ns) ns 0 (fun _ => 0) (1000000, fun _ => 0)).1 → (∀ j, j < ns → rS' j = nI ((FD ns (LF (qtV mx my sx sy la lb fl nb bX0 bY0 bX1 bY1 sx0 sy0 sx1 sy1) (gX mx my sx sy la lb fl nb bX0 bY0 bX1 bY1 sx0 sy0 sx1 sy1) (gY mx my sx sy la lb fl nb bX0 bY0 bX1 bY1 sx0 sy0 sx1 sy1) (freeP nb bX0 bY0 bX1 bY1) tm (rsF heat cool) (nearP gap sx0 sy0 sx1 sy1) turn travel lift hx hy ns) ns 0 (fun _ => 0) (1000000, fun _ => 0)).2 j / 2) ∧ rW' j = nI ((FD ns (LF (qtV mx my sx sy la lb fl nb bX0 bY0 bX1 bY1 sx0 sy0 sx1 sy1) (gX mx my sx sy la lb fl nb bX0 bY0 bX1 bY1 sx0 sy0 sx1 sy1) (gY mx my sx sy la lb fl nb bX0 bY0 bX1 bY1 sx0 sy0 sx1 sy1) (freeP nb bX0 bY0 bX1 bY1) tm (rsF heat cool) (nearP gap sx0 sy0 sx1 sy1) turn travel lift hx hy ns) ns 0 (fun _ => 0) (1000000, fun _ => 0)).2 j % 2)) → post r (nI ns) a b c d rS' rW' qs' mb' me' mr' bR') : wp_Model_best mx my la lb fl gap turn travel lift cool hx hy bc sc rc lu ld hu hd sx sy bars seams rS rW qs mb me mr bR post := by
  have h8 := hs.1
  have esc := nI_of_t hsc
  subst esc
  have h0 : (0 : Int32) = nI 0 := rfl
  unfold wp_Model_best
  have h6 : (6 : Int32) = nI 6 := rfl
  rw [h6, leN (by omega) (by omega)]
  refine ⟨fun hN => ⟨ns + 1, ?_⟩, fun c => h4 (by omega)⟩
  -- behind the quarters
  have fin : (∀ s, s < ns → qtV mx my sx sy la lb fl nb bX0 bY0 bX1 bY1 sx0 sy0 sx1 sy1 s ≠ -6) → ∀ (a b c d : Int64), wp_Model_findQuarters mx my la lb fl bc (nI ns) (0 : Int32) a b c d sx sy bars seams rS qs (fun r_8 mo_lowUp_9 mo_lowDown_10 mo_highUp_11 mo_highDown_12 mo_quarters_13 => ((r_8 = 0 → (wp_Model_best_j66_75 mx my gap turn travel lift cool hx hy bc (nI ns) sx sy bars seams rS rW mb me mr bR post mo_lowUp_9 mo_lowDown_10 mo_highUp_11 mo_highDown_12 mo_quarters_13 (16 : Int32))) ∧ (¬ r_8 = 0 → (wp_Model_best_j66_75 mx my gap turn travel lift cool hx hy bc (nI ns) sx sy bars seams rS rW mb me mr bR post mo_lowUp_9 mo_lowDown_10 mo_highUp_11 mo_highDown_12 mo_quarters_13 (0 : Int32))))) := by
    intro hall a b c d
    have hT : tOK (fun a => a < ns) (qtV mx my sx sy la lb fl nb bX0 bY0 bX1 bY1 sx0 sy0 sx1 sy1) (gX mx my sx sy la lb fl nb bX0 bY0 bX1 bY1 sx0 sy0 sx1 sy1) (gY mx my sx sy la lb fl nb bX0 bY0 bX1 bY1 sx0 sy0 sx1 sy1) (freeP nb bX0 bY0 bX1 bY1) tm (rsF heat cool) (nearP gap sx0 sy0 sx1 sy1) turn travel lift hx hy := tOK_of (seams := seams) hc hs hp ht (fun a ha => ⟨ha, hall a ha⟩)
    obtain ⟨hf0, hfM, hvf⟩ := FD_fin hT hN
    refine s_findQuarters (n := 0) (sa := fun _ => 0) hc hb hbm hbc hs hsm hsc (by omega) rfl (fun j hj => absurd hj (by omega)) (fun j hj => absurd hj (by omega)) (fun _ a b c d q' hq' => ⟨fun z => absurd z (by decide), fun _ => ?_⟩) (fun z => absurd (fun j hj => absurd hj (by omega)) z)
    unfold wp_Model_best_j66_75
    refine ⟨cFn ns ns 0 (fun _ => 0) + 1, ?_⟩
    have v0 : vaP ns (fun _ => 0) 0 := ⟨fun j hj => absurd hj (by omega), fun i j h1 h2 => absurd h2 (by omega)⟩
    refine mb_node (tm := tm) (heat := heat) hc hb hbm hbc hs hsm hg hp ht hN hall hq' ns 0 0 (fun _ => 0) (1000000, fun _ => 0) 1 (by omega) v0 ⟨by omega, fun s hs' => ⟨fun q => absurd q (by simp), fun ⟨j, h1, _⟩ => absurd h1 (by omega)⟩⟩ (by show (1000000 : Int) ≤ 1000000; omega) ?_ _ _ _ _ _ _ _ _ _ _ (-1) ⟨fun j hj => absurd hj (by omega), Or.inl ⟨rfl, rfl⟩⟩
    intro mb' bR' me' d1 d2 d3 d4 mr' rS' rW' x2 x3 x4 x5 hR e4 _
    rw [e4 rfl]
    show wpB_Model_best_68 mx my gap turn travel lift cool hx hy bc (nI ns) sx sy bars seams post q' (wpL_Model_best_68 mx my gap turn travel lift cool hx hy bc (nI ns) sx sy bars seams post q' 0) mb' bR' me' d1 d2 d3 d4 mr' rS' rW' x2 x3 (-1) x5
    unfold wpB_Model_best_68
    refine ⟨fun _ => ⟨ns + 1, ?_⟩, fun z => absurd (by decide) z⟩
    rcases hR.2 with ⟨q1, _⟩ | ⟨q1, q2, q3, q4⟩
    · rw [q1] at hfM; exact absurd hfM (by omega)
    have h1' := h1 hN hall x2 d4 d3 d2 d1
    generalize FD ns (LF (qtV mx my sx sy la lb fl nb bX0 bY0 bX1 bY1 sx0 sy0 sx1 sy1) (gX mx my sx sy la lb fl nb bX0 bY0 bX1 bY1 sx0 sy0 sx1 sy1) (gY mx my sx sy la lb fl nb bX0 bY0 bX1 bY1 sx0 sy0 sx1 sy1) (freeP nb bX0 bY0 bX1 bY1) tm (rsF heat cool) (nearP gap sx0 sy0 sx1 sy1) turn travel lift hx hy ns) ns 0 (fun _ => 0) (1000000, fun _ => 0) = R at *
    have key : ∀ (m i : Nat) (rs rw : Nat → Int32), i + m = ns → (∀ j, j < i → rs j = nI (R.2 j / 2) ∧ rw j = nI (R.2 j % 2)) → wpL_Model_best_283 (nI ns) post q' mb' bR' me' d1 d2 d3 d4 mr' x2 (m + 1) rs rw (nI i) := by
      intro m
      induction m with
      | zero =>
        intro i rs rw hi hr
        show wpB_Model_best_283 (nI ns) post q' mb' bR' me' d1 d2 d3 d4 mr' x2 (wpL_Model_best_283 (nI ns) post q' mb' bR' me' d1 d2 d3 d4 mr' x2 0) rs rw (nI i)
        unfold wpB_Model_best_283
        rw [leN (by omega) (by omega)]
        exact ⟨fun _ => h1' rs rw q' mb' me' mr' bR' q3 (fun j hj => hr j (by omega)), fun z => absurd (by omega) z⟩
      | succ m ihm =>
        intro i rs rw hi hr
        show wpB_Model_best_283 (nI ns) post q' mb' bR' me' d1 d2 d3 d4 mr' x2 (wpL_Model_best_283 (nI ns) post q' mb' bR' me' d1 d2 d3 d4 mr' x2 (m + 1)) rs rw (nI i)
        unfold wpB_Model_best_283
        have fi := hvf.1 i (by omega)
        have v : vp_in (nI i) 8 := vpN (by omega) (by omega)
        rw [leN (by omega) (by omega), clN (by omega), q4 i (by omega), (half _ (show R.2 i < 16 by omega)).2, (half _ (show R.2 i < 16 by omega)).1]
        refine ⟨fun z => absurd z (by omega), fun _ => ⟨v, fun t34 e34 => ⟨v, fun g35 e35 => ⟨v, fun t36 e36 => ⟨v, fun g37 e37 y eyy => ?_⟩⟩⟩⟩⟩
        rw [nI_s eyy]
        refine ihm (i + 1) g35 g37 (by omega) (fun j hj => ?_)
        rw [e35, e37]
        by_cases d : j = i
        · subst d; rw [u_eq, u_eq, e34, e36]; exact ⟨rfl, rfl⟩
        · rw [u_ne d, u_ne d]; exact hr j (by omega)
    exact key ns 0 rS' rW' (by omega) (fun j hj => absurd hj (by omega))
  have key : ∀ (m i : Nat) (a b c d : Int64), i + m = ns → (∀ s, s < i → qtV mx my sx sy la lb fl nb bX0 bY0 bX1 bY1 sx0 sy0 sx1 sy1 s ≠ -6) → wpL_Model_best_14 mx my la lb fl gap turn travel lift cool hx hy bc (nI ns) rc sx sy bars seams rS rW qs mb me mr bR post (m + 1) a b c d (nI i) := by
    intro m
    induction m with
    | zero =>
      intro i a b c d hi hq
      show wpB_Model_best_14 mx my la lb fl gap turn travel lift cool hx hy bc (nI ns) rc sx sy bars seams rS rW qs mb me mr bR post (wpL_Model_best_14 mx my la lb fl gap turn travel lift cool hx hy bc (nI ns) rc sx sy bars seams rS rW qs mb me mr bR post 0) a b c d (nI i)
      unfold wpB_Model_best_14
      rw [leN (by omega) (by omega)]
      exact ⟨fun _ => fin (fun s hs' => hq s (by omega)) _ _ _ _, fun z => absurd (by omega) z⟩
    | succ m ihm =>
      intro i a b c d hi hq
      show wpB_Model_best_14 mx my la lb fl gap turn travel lift cool hx hy bc (nI ns) rc sx sy bars seams rS rW qs mb me mr bR post (wpL_Model_best_14 mx my la lb fl gap turn travel lift cool hx hy bc (nI ns) rc sx sy bars seams rS rW qs mb me mr bR post (m + 1)) a b c d (nI i)
      unfold wpB_Model_best_14
      rw [leN (by omega) (by omega)]
      refine ⟨fun z => absurd z (by omega), fun _ => s_mquarterOf hc hb hbm hbc hs hsm (show i < ns by omega) (nI_t (by omega)) (fun a' b' c' d' => ?_)⟩
      have ng : ¬ (0 ≤ qtV mx my sx sy la lb fl nb bX0 bY0 bX1 bY1 sx0 sy0 sx1 sy1 i) ↔ qtV mx my sx sy la lb fl nb bX0 bY0 bX1 bY1 sx0 sy0 sx1 sy1 i = -6 := by
        rw [i_le_not, Classical.not_not]; exact qt_neg ..
      refine ⟨fun z y eyy => ?_, fun z => h5 hN (fun hall => hall i (by omega) (ng.mp z)) _ _ _ _⟩
      rw [nI_s eyy]
      refine ihm (i + 1) _ _ _ _ (by omega) (fun s hs' => ?_)
      by_cases e : s = i
      · subst e; exact fun q => ng.mpr q z
      · exact hq s (by omega)
  exact key ns 0 _ _ _ _ (by omega) (fun s hs' => absurd hs' (by omega))
