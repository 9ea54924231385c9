/-! the class's best -/
theorem imin6 : ∀ n, n < 7 → imin (nI n) (6 : Int32) = nI n := by decide +kernel
theorem LF_lt {qa : Nat → Int32} {ex ey : Nat → Int32 → Int32} {fr : Int32 → Int32 → Int32 → Int32 → Prop} {tm rs : Nat → Int32} {nr : Nat → Nat → Prop} {turn travel lift hx hy : Int32} {N : Nat} (hT : tOK (fun a => a < N) qa ex ey fr tm rs nr turn travel lift hx hy) (hN : N ≤ 6) : ∀ q, vaP N q N → LF qa ex ey fr tm rs nr turn travel lift hx hy N q < 1000000 := by
  intro q hq
  unfold LF
  by_cases c : N = 0
  · rw [if_pos c]; omega
  · rw [if_neg c]
    have := E3_bd hT hN (va_le hq (show N - 1 + 1 ≤ N by omega)) (by omega)
    omega
theorem FD_fin {qa : Nat → Int32} {ex ey : Nat → Int32 → Int32} {fr : Int32 → Int32 → Int32 → Int32 → Prop} {tm rs : Nat → Int32} {nr : Nat → Nat → Prop} {turn travel lift hx hy : Int32} {N : Nat} (hT : tOK (fun a => a < N) qa ex ey fr tm rs nr turn travel lift hx hy) (hN : N ≤ 6) : 0 ≤ (FD N (LF qa ex ey fr tm rs nr turn travel lift hx hy N) N 0 (fun _ => 0) (1000000, fun _ => 0)).1 ∧ (FD N (LF qa ex ey fr tm rs nr turn travel lift hx hy N) N 0 (fun _ => 0) (1000000, fun _ => 0)).1 < 1000000 ∧ vaP N (FD N (LF qa ex ey fr tm rs nr turn travel lift hx hy N) N 0 (fun _ => 0) (1000000, fun _ => 0)).2 N := by
  have v0 : vaP N (fun _ => 0) 0 := ⟨fun j hj => absurd hj (by omega), fun i j h1 h2 => absurd h2 (by omega)⟩
  have h1 := FD_lt (LF_lt hT hN) N 0 (fun _ => 0) (1000000, fun _ => 0) (by omega) v0
  have h2 := FD_pres (N := N) (L := LF qa ex ey fr tm rs nr turn travel lift hx hy N) (P := fun s => 0 ≤ s.1 ∧ (s.1 < 1000000 → vaP N s.2 N)) (fun q st hq hs hl => ⟨?_, fun _ => hq⟩) N 0 (fun _ => 0) (1000000, fun _ => 0) (by omega) v0 ⟨by show (0 : Int) ≤ 1000000; omega, fun z => absurd z (by show ¬ (1000000 : Int) < 1000000; omega)⟩
  · exact ⟨h2.1, h1, h2.2 h1⟩
  · show 0 ≤ LF qa ex ey fr tm rs nr turn travel lift hx hy N q
    unfold LF
    by_cases c : N = 0
    · rw [if_pos c]; omega
    · rw [if_neg c]
      exact (E3_bd hT hN (va_le hq (show N - 1 + 1 ≤ N by omega)) (by omega)).1
theorem s_go {mx my sx sy la lb fl : Int32} {nb ns : Nat} {bX0 bY0 bX1 bY1 sx0 sy0 sx1 sy1 : Nat → Int32} {tm heat sq st sr nm lA lB co sp fo seams : Nat → Int32} {mv : Nat → Nat → Int32} {bc gap turn travel lift cool hx hy : Int32} {post : Int32 → Int32 → (Nat → Int32) → (Nat → Int32) → (Nat → Int32) → (Nat → Int32) → (Nat → Int32) → (Nat → Int32) → (Nat → Int32) → (Nat → Int32) → (Nat → Int32) → (Nat → Nat → Int32) → Prop} (hc : cellOK mx my sx sy la lb fl) (hb : barsOK nb bX0 bY0 bX1 bY1) (hbc : bc.toInt = (nb : Int)) (hs : seamsOK ns sx0 sy0 sx1 sy1) (hg : gapOK gap) (hp : paceOK turn travel lift cool hx hy) (ht : seamsT ns seams sx0 sy0 sx1 sy1 tm heat) (hN : ns ≤ 6) (hall : ∀ s, s < ns → qtV mx my sx sy la lb fl nb bX0 bY0 bX1 bY1 sx0 sy0 sx1 sy1 s ≠ -6)
    (h : ∀ (fe : Int32) (q t r m a b c s f : Nat → Int32) (v : Nat → Nat → Int32), fe.toInt = (FD ns (LF (qtV mx my sx sy la lb fl nb bX0 bY0 bX1 bY1 sx0 sy0 sx1 sy1) (gX mx my sx sy la lb fl nb bX0 bY0 bX1 bY1 sx0 sy0 sx1 sy1) (gY mx my sx sy la lb fl nb bX0 bY0 bX1 bY1 sx0 sy0 sx1 sy1) (freeP nb bX0 bY0 bX1 bY1) tm (rsF heat cool) (nearP gap sx0 sy0 sx1 sy1) turn travel lift hx hy ns) ns 0 (fun _ => 0) (1000000, fun _ => 0)).1 → (∀ j, j < ns → f j = nI ((FD ns (LF (qtV mx my sx sy la lb fl nb bX0 bY0 bX1 bY1 sx0 sy0 sx1 sy1) (gX mx my sx sy la lb fl nb bX0 bY0 bX1 bY1 sx0 sy0 sx1 sy1) (gY mx my sx sy la lb fl nb bX0 bY0 bX1 bY1 sx0 sy0 sx1 sy1) (freeP nb bX0 bY0 bX1 bY1) tm (rsF heat cool) (nearP gap sx0 sy0 sx1 sy1) turn travel lift hx hy ns) ns 0 (fun _ => 0) (1000000, fun _ => 0)).2 j)) → post (nI ns) fe q t r m a b c s f v) : wp_Search_go mx my sx sy la lb fl bc bX0 bY0 bX1 bY1 (nI ns) gap turn travel lift cool hx hy sq st sr nm lA lB co sp fo sx0 sy0 sx1 sy1 tm heat mv post := by
  have hT : tOK (fun a => a < ns) (qtV mx my sx sy la lb fl nb bX0 bY0 bX1 bY1 sx0 sy0 sx1 sy1) (gX mx my sx sy la lb fl nb bX0 bY0 bX1 bY1 sx0 sy0 sx1 sy1) (gY mx my sx sy la lb fl nb bX0 bY0 bX1 bY1 sx0 sy0 sx1 sy1) (freeP nb bX0 bY0 bX1 bY1) tm (rsF heat cool) (nearP gap sx0 sy0 sx1 sy1) turn travel lift hx hy := tOK_of (seams := seams) hc hs hp ht (fun a ha => ⟨ha, hall a ha⟩)
  unfold wp_Search_go
  intro f1 e1
  rw [imin6 ns (by omega)] at e1
  subst e1
  refine s_noteSeams hc hb hbc hs hg hp hN (fun q t r m f1 hnm => ?_)
  refine s_noteMoves (tm := tm) (heat := heat) hc hb hbc hs hg hp hN (fun s hs' => (f1 s hs').1) (fun mv' hmv => ?_)
  refine s_noteLeasts hT hN (fun s hs' => (f1 s hs').2.2) hnm hmv (fun la' lb' F1 F2 => ?_)
  have v0 : vaP ns (fun _ => 0) 0 := ⟨fun j hj => absurd hj (by omega), fun i j h1 h2 => absurd h2 (by omega)⟩
  have hfin := FD_fin hT hN
  refine s_extend hT hN (fun a b => near_sym) (fun s hs' => (f1 s hs').2.1) (fun s hs' => (f1 s hs').2.2) hnm hmv F1 F2 ns 0 0 7 (fun _ => 0) (1000000, fun _ => 0) 0 1000000 co sp fo _ (by omega) (by omega) v0 ⟨by omega, fun s hs' => ⟨fun q => absurd q (by simp), fun ⟨j, h1, _⟩ => absurd h1 (by omega)⟩⟩ rfl rfl (by show (0 : Int) < 1000000; omega) (fun z => absurd z (by show ¬ (1000000 : Int) < 1000000; omega)) (fun j hj => absurd hj (by omega)) (fun j hj => absurd hj (by omega)) (fun fe' co' sp' fo' g1 g2 g3 g4 => ?_)
  exact h fe' q t r m la' lb' co' sp' fo' mv' g1 (g2 hfin.2.1)
theorem s_allHave {mx my sx sy la lb fl : Int32} {nb ns : Nat} {bX0 bY0 bX1 bY1 sx0 sy0 sx1 sy1 : Nat → Int32} {bc : Int32} {post : Int32 → Prop} (hc : cellOK mx my sx sy la lb fl) (hb : barsOK nb bX0 bY0 bX1 bY1) (hbc : bc.toInt = (nb : Int)) (hs : seamsOK ns sx0 sy0 sx1 sy1) (h1 : (∀ s, s < ns → qtV mx my sx sy la lb fl nb bX0 bY0 bX1 bY1 sx0 sy0 sx1 sy1 s ≠ -6) → post 1) (h0 : ¬ (∀ s, s < ns → qtV mx my sx sy la lb fl nb bX0 bY0 bX1 bY1 sx0 sy0 sx1 sy1 s ≠ -6) → post 0) : wp_Part_allHaveQuarters mx my sx sy la lb fl bc bX0 bY0 bX1 bY1 (nI ns) sx0 sy0 sx1 sy1 post := by
  have h8 := hs.1
  unfold wp_Part_allHaveQuarters
  refine ⟨ns + 1, ?_⟩
  have key : ∀ (m i : Nat), i + m = ns → (∀ s, s < i → qtV mx my sx sy la lb fl nb bX0 bY0 bX1 bY1 sx0 sy0 sx1 sy1 s ≠ -6) → wpL_Part_allHaveQuarters_2 mx my sx sy la lb fl bc bX0 bY0 bX1 bY1 (nI ns) sx0 sy0 sx1 sy1 post (m + 1) (nI i) := by
    intro m
    induction m with
    | zero =>
      intro i hi hq
      show wpB_Part_allHaveQuarters_2 mx my sx sy la lb fl bc bX0 bY0 bX1 bY1 (nI ns) sx0 sy0 sx1 sy1 post (wpL_Part_allHaveQuarters_2 mx my sx sy la lb fl bc bX0 bY0 bX1 bY1 (nI ns) sx0 sy0 sx1 sy1 post 0) (nI i)
      unfold wpB_Part_allHaveQuarters_2
      rw [leN (by omega) (by omega)]
      exact ⟨fun _ => h1 (fun s hs' => hq s (by omega)), fun z => absurd (by omega) z⟩
    | succ m ihm =>
      intro i hi hq
      show wpB_Part_allHaveQuarters_2 mx my sx sy la lb fl bc bX0 bY0 bX1 bY1 (nI ns) sx0 sy0 sx1 sy1 post (wpL_Part_allHaveQuarters_2 mx my sx sy la lb fl bc bX0 bY0 bX1 bY1 (nI ns) sx0 sy0 sx1 sy1 post (m + 1)) (nI i)
      unfold wpB_Part_allHaveQuarters_2
      rw [leN (by omega) (by omega)]
      refine ⟨fun z => absurd z (by omega), fun _ => s_quarterOf hc hb hbc hs (show i < ns by omega) (nI_t (by omega)) ⟨fun c y ey => ?_, fun c => h0 (fun z => z i (by omega) c)⟩⟩
      rw [nI_s ey]
      refine ihm (i + 1) (by omega) (fun s hs' => ?_)
      by_cases d : s = i
      · subst d; exact c
      · exact hq s (by omega)
  exact key ns 0 (by omega) (fun s hs' => absurd hs' (by omega))
theorem s_best {mx my sx sy la lb fl : Int32} {nb ns : Nat} {bX0 bY0 bX1 bY1 sx0 sy0 sx1 sy1 : Nat → Int32} {tm heat sq st sr nm lA lB co sp fo seams ps pw : Nat → Int32} {mv : Nat → Nat → Int32} {bc gap turn travel lift cool hx hy sc rc cn fe : Int32} {post : Int32 → Int32 → (Nat → Int32) → (Nat → Int32) → Int32 → Int32 → (Nat → Int32) → (Nat → Int32) → (Nat → Int32) → (Nat → Int32) → (Nat → Int32) → (Nat → Int32) → (Nat → Int32) → (Nat → Int32) → (Nat → Int32) → (Nat → Nat → Int32) → Prop} (hc : cellOK mx my sx sy la lb fl) (hb : barsOK nb bX0 bY0 bX1 bY1) (hbc : bc.toInt = (nb : Int)) (hs : seamsOK ns sx0 sy0 sx1 sy1) (hg : gapOK gap) (hp : paceOK turn travel lift cool hx hy) (ht : seamsT ns seams sx0 sy0 sx1 sy1 tm heat) (hsc : sc.toInt = (ns : Int))
    (h4 : 6 < ns → post (-4) rc ps pw cn fe sq st sr nm lA lB co sp fo mv)
    (h5 : ns ≤ 6 → ¬ (∀ s, s < ns → qtV mx my sx sy la lb fl nb bX0 bY0 bX1 bY1 sx0 sy0 sx1 sy1 s ≠ -6) → post (-5) rc ps pw cn fe sq st sr nm lA lB co sp fo mv)
    (h1 : ns ≤ 6 → (∀ s, s < ns → qtV mx my sx sy la lb fl nb bX0 bY0 bX1 bY1 sx0 sy0 sx1 sy1 s ≠ -6) → ∀ (r : Int32) (ps' pw' : Nat → Int32) (cn' fe' : Int32) (q t r' m a b c s f : Nat → Int32) (v : Nat → Nat → Int32), r.toInt = (FD ns (LF (qtV mx my sx sy la lb fl nb bX0 bY0 bX1 bY1 sx0 sy0 sx1 sy1) (gX mx my sx sy la lb fl nb bX0 bY0 bX1 bY1 sx0 sy0 sx1 sy1) (gY mx my sx sy la lb fl nb bX0 bY0 bX1 bY1 sx0 sy0 sx1 sy1) (freeP nb bX0 bY0 bX1 bY1) tm (rsF heat cool) (nearP gap sx0 sy0 sx1 sy1) turn travel lift hx hy ns) ns 0 (fun _ => 0) (1000000, fun _ => 0)).1 → (∀ j, j < ns → ps' j = nI ((FD ns (LF (qtV mx my sx sy la lb fl nb bX0 bY0 bX1 bY1 sx0 sy0 sx1 sy1) (gX mx my sx sy la lb fl nb bX0 bY0 bX1 bY1 sx0 sy0 sx1 sy1) (gY mx my sx sy la lb fl nb bX0 bY0 bX1 bY1 sx0 sy0 sx1 sy1) (freeP nb bX0 bY0 bX1 bY1) tm (rsF heat cool) (nearP gap sx0 sy0 sx1 sy1) turn travel lift hx hy ns) ns 0 (fun _ => 0) (1000000, fun _ => 0)).2 j / 2) ∧ pw' j = nI ((FD ns (LF (qtV mx my sx sy la lb fl nb bX0 bY0 bX1 bY1 sx0 sy0 sx1 sy1) (gX mx my sx sy la lb fl nb bX0 bY0 bX1 bY1 sx0 sy0 sx1 sy1) (gY mx my sx sy la lb fl nb bX0 bY0 bX1 bY1 sx0 sy0 sx1 sy1) (freeP nb bX0 bY0 bX1 bY1) tm (rsF heat cool) (nearP gap sx0 sy0 sx1 sy1) turn travel lift hx hy ns) ns 0 (fun _ => 0) (1000000, fun _ => 0)).2 j % 2)) → post r (nI ns) ps' pw' cn' fe' q t r' m a b c s f v) : wp_SeamCell_best mx my sx sy la lb fl bc bX0 bY0 bX1 bY1 sc gap turn travel lift cool hx hy rc ps pw cn fe sq st sr nm lA lB co sp fo sx0 sy0 sx1 sy1 tm heat mv post := by
  have h8 := hs.1
  have esc := nI_of_t hsc
  subst esc
  unfold wp_SeamCell_best
  have h6 : (6 : Int32) = nI 6 := rfl
  rw [h6, leN (by omega) (by omega)]
  refine ⟨fun c => ?_, fun c => h4 (by omega)⟩
  refine s_allHave hc hb hbc hs (fun hall => ⟨fun _ => ?_, fun z => absurd z (by decide)⟩) (fun hall => ⟨fun z => absurd rfl z, fun _ => h5 c hall⟩)
  have hT : tOK (fun a => a < ns) (qtV mx my sx sy la lb fl nb bX0 bY0 bX1 bY1 sx0 sy0 sx1 sy1) (gX mx my sx sy la lb fl nb bX0 bY0 bX1 bY1 sx0 sy0 sx1 sy1) (gY mx my sx sy la lb fl nb bX0 bY0 bX1 bY1 sx0 sy0 sx1 sy1) (freeP nb bX0 bY0 bX1 bY1) tm (rsF heat cool) (nearP gap sx0 sy0 sx1 sy1) turn travel lift hx hy := tOK_of (seams := seams) hc hs hp ht (fun a ha => ⟨ha, hall a ha⟩)
  obtain ⟨-, -, hvf⟩ := FD_fin hT c
  refine s_go hc hb hbc hs hg hp ht c hall (fun fe' q t r m a b co' s f v g1 g2 => ⟨ns + 1, ?_⟩)
  generalize FD ns (LF (qtV mx my sx sy la lb fl nb bX0 bY0 bX1 bY1 sx0 sy0 sx1 sy1) (gX mx my sx sy la lb fl nb bX0 bY0 bX1 bY1 sx0 sy0 sx1 sy1) (gY mx my sx sy la lb fl nb bX0 bY0 bX1 bY1 sx0 sy0 sx1 sy1) (freeP nb bX0 bY0 bX1 bY1) tm (rsF heat cool) (nearP gap sx0 sy0 sx1 sy1) turn travel lift hx hy ns) ns 0 (fun _ => 0) (1000000, fun _ => 0) = R at *
  have key : ∀ (k i : Nat) (ps' pw' : Nat → Int32), i + k = ns → (∀ j, j < i → ps' j = nI (R.2 j / 2) ∧ pw' j = nI (R.2 j % 2)) → wpL_SeamCell_best_45 post (nI ns) fe' q t r m a b co' s f v (k + 1) (nI i) ps' pw' (nI i) := by
    intro k
    induction k with
    | zero =>
      intro i ps' pw' hi hr
      show wpB_SeamCell_best_45 post (nI ns) fe' q t r m a b co' s f v (wpL_SeamCell_best_45 post (nI ns) fe' q t r m a b co' s f v 0) (nI i) ps' pw' (nI i)
      unfold wpB_SeamCell_best_45
      rw [leN (by omega) (by omega)]
      refine ⟨fun _ => ?_, fun z => absurd (by omega) z⟩
      rw [show i = ns by omega]
      exact h1 c hall fe' ps' pw' _ _ _ _ _ _ _ _ _ _ _ _ g1 (fun j hj => hr j (by omega))
    | succ k ihk =>
      intro i ps' pw' hi hr
      show wpB_SeamCell_best_45 post (nI ns) fe' q t r m a b co' s f v (wpL_SeamCell_best_45 post (nI ns) fe' q t r m a b co' s f v (k + 1)) (nI i) ps' pw' (nI i)
      unfold wpB_SeamCell_best_45
      have fi := hvf.1 i (by omega)
      rw [leN (by omega) (by omega), clN (by omega), g2 i (by omega), (half _ (show R.2 i < 16 by omega)).2, (half _ (show R.2 i < 16 by omega)).1]
      have v6 : vp_in (nI i) 6 := vpN (by omega) (by omega)
      refine ⟨fun z => absurd z (by omega), fun _ => ⟨v6, v6, ?_⟩⟩
      unfold wp_Plan_append
      have h8' : (8 : Int32) = nI 8 := rfl
      rw [h8', ltN (by omega) (by omega), clN (by omega)]
      have v8 : vp_in (nI i) 8 := vpN (by omega) (by omega)
      refine ⟨fun _ => ⟨v8, fun g2' e2 => ⟨v8, fun g3 e3 f4 e4 y ey => ?_⟩⟩, fun z => absurd (by omega) z⟩
      rw [nI_s e4, nI_s ey]
      refine ihk (i + 1) g2' g3 (by omega) (fun j hj => ?_)
      rw [e2, e3]
      by_cases d : j = i
      · subst d; rw [u_eq, u_eq]; exact ⟨rfl, rfl⟩
      · rw [u_ne d, u_ne d]; exact hr j (by omega)
  exact key ns 0 ps pw (by omega) (fun j hj => absurd hj (by omega))
