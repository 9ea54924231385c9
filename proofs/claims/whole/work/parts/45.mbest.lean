/-! the reference's best -/
noncomputable def cLp (g : Nat → Nat) : Nat → Nat → Nat
  | 0, _ => 1
  | r + 1, n => 1 + g n + cLp g r (n + 1)
noncomputable def cFn (N : Nat) : Nat → Nat → (Nat → Nat) → Nat
  | 0, _, _ => 1
  | m + 1, k, p => cLp (fun n => @ite _ (usP p k (n / 2)) (Classical.propDecidable _) 0 (cFn N m (k + 1) (updN p k n))) (2 * N) 0
noncomputable def cGn (N m k : Nat) (p : Nat → Nat) (n : Nat) : Nat := @ite _ (usP p k (n / 2)) (Classical.propDecidable _) 0 (cFn N m (k + 1) (updN p k n))
theorem cFn_s {N m k : Nat} {p : Nat → Nat} : cFn N (m + 1) k p = cLp (cGn N m k p) (2 * N) 0 := rfl
/-- what the reference holds at depth k of its search -/
def RB (qa : Nat → Int32) (ex ey : Nat → Int32 → Int32) (fr : Int32 → Int32 → Int32 → Int32 → Prop) (tm rs : Nat → Int32) (nr : Nat → Nat → Prop) (turn travel lift hx hy : Int32) (N k : Nat) (p : Nat → Nat) (s : Int × (Nat → Nat)) (me rS rW bR : Nat → Int32) (x2 : Int32) : Prop := (∀ j, j < k → rS j = nI (p j / 2) ∧ rW j = nI (p j % 2) ∧ me j = E3 qa ex ey fr tm rs nr turn travel lift hx hy p j) ∧ ((s.1 = 1000000 ∧ x2 = -1) ∨ (s.1 < 1000000 ∧ 0 ≤ s.1 ∧ x2.toInt = s.1 ∧ ∀ j, j < N → bR j = nI (s.2 j)))
theorem s_keepRow {N : Nat} {p : Nat → Nat} {rS rW bR : Nat → Int32} {post : (Nat → Int32) → Prop} (hN : N ≤ 6) (hp : ∀ j, j < N → p j < 2 * N) (hr : ∀ j, j < N → rS j = nI (p j / 2) ∧ rW j = nI (p j % 2)) (h : ∀ b : Nat → Int32, (∀ j, j < N → b j = nI (p j)) → post b) : wp_Model_keepRow (nI N) rS rW bR post := by
  have tw : ∀ n, n < 12 → (2 : Int32) * nI (n / 2) + nI (n % 2) = nI n := by decide +kernel
  unfold wp_Model_keepRow
  refine ⟨N + 1, ?_⟩
  have key : ∀ (m j : Nat) (f : Nat → Int32), j + m = N → (∀ i, i < j → f i = nI (p i)) → wpL_Model_keepRow_2 (nI N) rS rW post (m + 1) f (nI j) := by
    intro m
    induction m with
    | zero =>
      intro j f hj hf
      show wpB_Model_keepRow_2 (nI N) rS rW post (wpL_Model_keepRow_2 (nI N) rS rW post 0) f (nI j)
      unfold wpB_Model_keepRow_2
      rw [leN (by omega) (by omega)]
      exact ⟨fun _ => h f (fun i hi => hf i (by omega)), fun z => absurd (by omega) z⟩
    | succ m ihm =>
      intro j f hj hf
      show wpB_Model_keepRow_2 (nI N) rS rW post (wpL_Model_keepRow_2 (nI N) rS rW post (m + 1)) f (nI j)
      unfold wpB_Model_keepRow_2
      have v : vp_in (nI j) 8 := vpN (by omega) (by omega)
      have pj := hp j (by omega)
      rw [leN (by omega) (by omega), clN (by omega), (hr j (by omega)).1, (hr j (by omega)).2, tw _ (by omega)]
      refine ⟨fun z => absurd z (by omega), fun _ => ⟨v, v, fun t et => ⟨v, fun g eg y eyy => ?_⟩⟩⟩
      rw [nI_s eyy]
      refine ihm (j + 1) g (by omega) (fun i hi => ?_)
      rw [eg]
      by_cases c : i = j
      · subst c; rw [u_eq, et]
      · rw [u_ne c]; exact hf i (by omega)
  exact key N 0 bR (by omega) (fun i hi => absurd hi (by omega))
section MBEST
variable {mx my sx sy la lb fl : Int32} {nb ns : Nat} {bX0 bY0 bX1 bY1 sx0 sy0 sx1 sy1 : Nat → Int32} {tm heat bars seams qs : Nat → Int32} {bc gap turn travel lift cool hx hy : Int32} {post : Int32 → Int32 → Int64 → Int64 → Int64 → Int64 → (Nat → Int32) → (Nat → Int32) → (Nat → Int32) → (Nat → Int32) → (Nat → Int32) → (Nat → Int32) → (Nat → Int32) → Prop}
/-- back to the place before, from j149 -/
theorem mb_back {k u : Nat} {p : Nat → Nat} {s : Int × (Nat → Nat)} {ih : (Nat → Int32) → (Nat → Int32) → (Nat → Int32) → Int64 → Int64 → Int64 → Int64 → (Nat → Int32) → (Nat → Int32) → (Nat → Int32) → Int32 → Int32 → Int32 → Int32 → Prop} (hN : ns ≤ 6) (hv : vaP ns p k) (hkN : k ≤ ns) (hmu : maP u p k)
    (hC : ∀ (mb bR me : Nat → Int32) (hd hu ld lu : Int64) (mr rS rW : Nat → Int32) (x2 x3 x4 x5 : Int32), RB (qtV mx my sx sy la lb fl nb bX0 bY0 bX1 bY1 sx0 sy0 sx1 sy1) (gX mx my sx sy la lb fl nb bX0 bY0 bX1 bY1 sx0 sy0 sx1 sy1) (gY mx my sx sy la lb fl nb bX0 bY0 bX1 bY1 sx0 sy0 sx1 sy1) (freeP nb bX0 bY0 bX1 bY1) tm (rsF heat cool) (nearP gap sx0 sy0 sx1 sy1) turn travel lift hx hy ns k p s me rS rW bR x2 → (k = 0 → x4 = -1) → (∀ k', k = k' + 1 → x4 = nI k' ∧ (∃ u', x3 = nI u' ∧ maP u' p k') ∧ x5 = nI (p k' + 1)) → ih mb bR me hd hu ld lu mr rS rW x2 x3 x4 x5) (mb bR me : Nat → Int32) (hd hu ld lu : Int64) (mr rS rW : Nat → Int32) (x2 x5 x4 : Int32) (hR : RB (qtV mx my sx sy la lb fl nb bX0 bY0 bX1 bY1 sx0 sy0 sx1 sy1) (gX mx my sx sy la lb fl nb bX0 bY0 bX1 bY1 sx0 sy0 sx1 sy1) (gY mx my sx sy la lb fl nb bX0 bY0 bX1 bY1 sx0 sy0 sx1 sy1) (freeP nb bX0 bY0 bX1 bY1) tm (rsF heat cool) (nearP gap sx0 sy0 sx1 sy1) turn travel lift hx hy ns k p s me rS rW bR x2) (e4 : x4 = nI k + (-1 : Int32)) :
    (x4 < 0 → ih mb bR me hd hu ld lu mr rS rW x2 (nI u) x4 x5) ∧ (¬ x4 < 0 → (vp_in x4 8 ∧ (∀ x3' : Int32, x3' = nI u &&& (((1 : Int32) <<< ((rS (x4.toNatClampNeg)) &&& 31)) ^^^ (-1 : Int32)) → (vp_in x4 8 ∧ (vp_in x4 8 ∧ (∀ x5' : Int32, x5' = (((2 : Int32) * (rS (x4.toNatClampNeg))) + (rW (x4.toNatClampNeg))) + (1 : Int32) → ih mb bR me hd hu ld lu mr rS rW x2 x3' x4 x5')))))) := by
  have tw : ∀ n, n < 12 → (2 : Int32) * nI (n / 2) + nI (n % 2) + (1 : Int32) = nI (n + 1) := by decide +kernel
  have m1 : ∀ n, n < 7 → nI (n + 1) + (-1 : Int32) = nI n := by decide +kernel
  rcases Nat.eq_zero_or_pos k with z | z
  · have e : x4 = -1 := by rw [e4, z]; rfl
    refine ⟨fun _ => hC _ _ _ _ _ _ _ _ _ _ _ _ _ _ hR (fun _ => e) (fun k' hk' => absurd hk' (by omega)), fun q => absurd (by rw [e]; decide) q⟩
  · obtain ⟨k', rfl⟩ : ∃ k', k = k' + 1 := ⟨k - 1, by omega⟩
    have e : x4 = nI k' := by rw [e4, m1 k' (by omega)]
    have h0 : (0 : Int32) = nI 0 := rfl
    have pk := hv.1 k' (by omega)
    subst e
    have hr := hR.1 k' (by omega)
    obtain ⟨u', eu, hu'⟩ := mk_clr hmu (show p k' / 2 < 6 by omega) (va_us hv)
    have v : vp_in (nI k') 8 := vpN (by omega) (by omega)
    rw [h0, ltN (by omega) (by omega), clN (by omega), hr.1, hr.2.1, tw _ (by omega), eu]
    refine ⟨fun q => absurd q (by omega), fun _ => ⟨v, fun x3' e3 => ⟨v, v, fun x5' e5 => ?_⟩⟩⟩
    refine hC _ _ _ _ _ _ _ _ _ _ _ _ _ _ hR (fun q => absurd q (by omega)) (fun k'' hk'' => ?_)
    obtain rfl : k'' = k' := by omega
    exact ⟨rfl, ⟨u', e3, hu'⟩, e5⟩
theorem mb_node (hc : cellOK mx my sx sy la lb fl) (hb : barsOK nb bX0 bY0 bX1 bY1) (hbm : barsM nb bars bX0 bY0 bX1 bY1) (hbc : bc.toInt = (nb : Int)) (hs : seamsOK ns sx0 sy0 sx1 sy1) (hsm : seamsM ns seams sx0 sy0 sx1 sy1) (hg : gapOK gap) (hp : paceOK turn travel lift cool hx hy) (ht : seamsT ns seams sx0 sy0 sx1 sy1 tm heat) (hN : ns ≤ 6) (hall : ∀ s, s < ns → qtV mx my sx sy la lb fl nb bX0 bY0 bX1 bY1 sx0 sy0 sx1 sy1 s ≠ -6) (hqs : ∀ j, j < ns → qs j = qtV mx my sx sy la lb fl nb bX0 bY0 bX1 bY1 sx0 sy0 sx1 sy1 j) :
    ∀ (m k u : Nat) (p : Nat → Nat) (s : Int × (Nat → Nat)) (c : Nat), k + m = ns → vaP ns p k → maP u p k → s.1 ≤ 1000000 →
    (∀ (mb bR me : Nat → Int32) (hd hu ld lu : Int64) (mr rS rW : Nat → Int32) (x2 x3 x4 x5 : Int32), RB (qtV mx my sx sy la lb fl nb bX0 bY0 bX1 bY1 sx0 sy0 sx1 sy1) (gX mx my sx sy la lb fl nb bX0 bY0 bX1 bY1 sx0 sy0 sx1 sy1) (gY mx my sx sy la lb fl nb bX0 bY0 bX1 bY1 sx0 sy0 sx1 sy1) (freeP nb bX0 bY0 bX1 bY1) tm (rsF heat cool) (nearP gap sx0 sy0 sx1 sy1) turn travel lift hx hy ns k p (FD ns (LF (qtV mx my sx sy la lb fl nb bX0 bY0 bX1 bY1 sx0 sy0 sx1 sy1) (gX mx my sx sy la lb fl nb bX0 bY0 bX1 bY1 sx0 sy0 sx1 sy1) (gY mx my sx sy la lb fl nb bX0 bY0 bX1 bY1 sx0 sy0 sx1 sy1) (freeP nb bX0 bY0 bX1 bY1) tm (rsF heat cool) (nearP gap sx0 sy0 sx1 sy1) turn travel lift hx hy ns) m k p s) me rS rW bR x2 → (k = 0 → x4 = -1) → (∀ k', k = k' + 1 → x4 = nI k' ∧ (∃ u', x3 = nI u' ∧ maP u' p k') ∧ x5 = nI (p k' + 1)) → wpL_Model_best_68 mx my gap turn travel lift cool hx hy bc (nI ns) sx sy bars seams post qs c mb bR me hd hu ld lu mr rS rW x2 x3 x4 x5) →
    ∀ (mb bR me : Nat → Int32) (hd hu ld lu : Int64) (mr rS rW : Nat → Int32) (x2 : Int32), RB (qtV mx my sx sy la lb fl nb bX0 bY0 bX1 bY1 sx0 sy0 sx1 sy1) (gX mx my sx sy la lb fl nb bX0 bY0 bX1 bY1 sx0 sy0 sx1 sy1) (gY mx my sx sy la lb fl nb bX0 bY0 bX1 bY1 sx0 sy0 sx1 sy1) (freeP nb bX0 bY0 bX1 bY1) tm (rsF heat cool) (nearP gap sx0 sy0 sx1 sy1) turn travel lift hx hy ns k p s me rS rW bR x2 → wpL_Model_best_68 mx my gap turn travel lift cool hx hy bc (nI ns) sx sy bars seams post qs (cFn ns m k p + c) mb bR me hd hu ld lu mr rS rW x2 (nI u) (nI k) (nI 0) := by
  have hT : tOK (fun a => a < ns) (qtV mx my sx sy la lb fl nb bX0 bY0 bX1 bY1 sx0 sy0 sx1 sy1) (gX mx my sx sy la lb fl nb bX0 bY0 bX1 bY1 sx0 sy0 sx1 sy1) (gY mx my sx sy la lb fl nb bX0 bY0 bX1 bY1 sx0 sy0 sx1 sy1) (freeP nb bX0 bY0 bX1 bY1) tm (rsF heat cool) (nearP gap sx0 sy0 sx1 sy1) turn travel lift hx hy := tOK_of (seams := seams) hc hs hp ht (fun a ha => ⟨ha, hall a ha⟩)
  have h0 : (0 : Int32) = nI 0 := rfl
  intro m
  induction m with
  | zero =>
    intro k u p s c hk hv hu hsM hC mb bR me hd hu' ld lu mr rS rW x2 hR
    have hkn : k = ns := by omega
    subst hkn
    have ec : cFn k 0 k p + c = c + 1 := by show 1 + c = c + 1; omega
    rw [ec]
    show wpB_Model_best_68 mx my gap turn travel lift cool hx hy bc (nI k) sx sy bars seams post qs (wpL_Model_best_68 mx my gap turn travel lift cool hx hy bc (nI k) sx sy bars seams post qs c) mb bR me hd hu' ld lu mr rS rW x2 (nI u) (nI k) (nI 0)
    have eF : FD k (LF (qtV mx my sx sy la lb fl nb bX0 bY0 bX1 bY1 sx0 sy0 sx1 sy1) (gX mx my sx sy la lb fl nb bX0 bY0 bX1 bY1 sx0 sy0 sx1 sy1) (gY mx my sx sy la lb fl nb bX0 bY0 bX1 bY1 sx0 sy0 sx1 sy1) (freeP nb bX0 bY0 bX1 bY1) tm (rsF heat cool) (nearP gap sx0 sy0 sx1 sy1) turn travel lift hx hy k) 0 k p s = if LF (qtV mx my sx sy la lb fl nb bX0 bY0 bX1 bY1 sx0 sy0 sx1 sy1) (gX mx my sx sy la lb fl nb bX0 bY0 bX1 bY1 sx0 sy0 sx1 sy1) (gY mx my sx sy la lb fl nb bX0 bY0 bX1 bY1 sx0 sy0 sx1 sy1) (freeP nb bX0 bY0 bX1 bY1) tm (rsF heat cool) (nearP gap sx0 sy0 sx1 sy1) turn travel lift hx hy k p < s.1 then (LF (qtV mx my sx sy la lb fl nb bX0 bY0 bX1 bY1 sx0 sy0 sx1 sy1) (gX mx my sx sy la lb fl nb bX0 bY0 bX1 bY1 sx0 sy0 sx1 sy1) (gY mx my sx sy la lb fl nb bX0 bY0 bX1 bY1 sx0 sy0 sx1 sy1) (freeP nb bX0 bY0 bX1 bY1) tm (rsF heat cool) (nearP gap sx0 sy0 sx1 sy1) turn travel lift hx hy k p, p) else s := rfl
    have hLp := LF_lt hT hN p hv
    have hLn : 0 ≤ LF (qtV mx my sx sy la lb fl nb bX0 bY0 bX1 bY1 sx0 sy0 sx1 sy1) (gX mx my sx sy la lb fl nb bX0 bY0 bX1 bY1 sx0 sy0 sx1 sy1) (gY mx my sx sy la lb fl nb bX0 bY0 bX1 bY1 sx0 sy0 sx1 sy1) (freeP nb bX0 bY0 bX1 bY1) tm (rsF heat cool) (nearP gap sx0 sy0 sx1 sy1) turn travel lift hx hy k p := by
      unfold LF
      by_cases z : k = 0
      · rw [if_pos z]; omega
      · rw [if_neg z]; exact (E3_bd hT hN (va_le hv (show k - 1 + 1 ≤ k by omega)) (by omega)).1
    -- behind the leaf
    have j149 : ∀ (w x2' : Int32) (bR' : Nat → Int32), RB (qtV mx my sx sy la lb fl nb bX0 bY0 bX1 bY1 sx0 sy0 sx1 sy1) (gX mx my sx sy la lb fl nb bX0 bY0 bX1 bY1 sx0 sy0 sx1 sy1) (gY mx my sx sy la lb fl nb bX0 bY0 bX1 bY1 sx0 sy0 sx1 sy1) (freeP nb bX0 bY0 bX1 bY1) tm (rsF heat cool) (nearP gap sx0 sy0 sx1 sy1) turn travel lift hx hy k k p (FD k (LF (qtV mx my sx sy la lb fl nb bX0 bY0 bX1 bY1 sx0 sy0 sx1 sy1) (gX mx my sx sy la lb fl nb bX0 bY0 bX1 bY1 sx0 sy0 sx1 sy1) (gY mx my sx sy la lb fl nb bX0 bY0 bX1 bY1 sx0 sy0 sx1 sy1) (freeP nb bX0 bY0 bX1 bY1) tm (rsF heat cool) (nearP gap sx0 sy0 sx1 sy1) turn travel lift hx hy k) 0 k p s) me rS rW bR' x2' → wp_Model_best_j149_66 mx my gap turn travel lift cool hx hy bc (nI k) sx sy bars seams qs mb me hd hu' ld lu mr rS rW (nI u) (nI k) (nI 0) (wpL_Model_best_68 mx my gap turn travel lift cool hx hy bc (nI k) sx sy bars seams post qs c) w x2' bR' := by
      intro w x2' bR' hR'
      unfold wp_Model_best_j149_66
      refine ⟨fun _ x4 e4 => mb_back hN hv (Nat.le_refl k) hu hC mb bR' me hd hu' ld lu mr rS rW x2' (nI 0) x4 hR' e4, fun z => absurd rfl z⟩
    have j130 : ∀ (w e : Int32), e.toInt = LF (qtV mx my sx sy la lb fl nb bX0 bY0 bX1 bY1 sx0 sy0 sx1 sy1) (gX mx my sx sy la lb fl nb bX0 bY0 bX1 bY1 sx0 sy0 sx1 sy1) (gY mx my sx sy la lb fl nb bX0 bY0 bX1 bY1 sx0 sy0 sx1 sy1) (freeP nb bX0 bY0 bX1 bY1) tm (rsF heat cool) (nearP gap sx0 sy0 sx1 sy1) turn travel lift hx hy k p → wp_Model_best_j130_72 mx my gap turn travel lift cool hx hy bc (nI k) sx sy bars seams qs mb bR me hd hu' ld lu mr rS rW x2 (nI u) (nI k) (nI 0) (wpL_Model_best_68 mx my gap turn travel lift cool hx hy bc (nI k) sx sy bars seams post qs c) w e := by
      intro w e he
      unfold wp_Model_best_j130_72
      have keep : LF (qtV mx my sx sy la lb fl nb bX0 bY0 bX1 bY1 sx0 sy0 sx1 sy1) (gX mx my sx sy la lb fl nb bX0 bY0 bX1 bY1 sx0 sy0 sx1 sy1) (gY mx my sx sy la lb fl nb bX0 bY0 bX1 bY1 sx0 sy0 sx1 sy1) (freeP nb bX0 bY0 bX1 bY1) tm (rsF heat cool) (nearP gap sx0 sy0 sx1 sy1) turn travel lift hx hy k p < s.1 → wp_Model_keepRow (nI k) rS rW bR (fun bR' => wp_Model_best_j149_66 mx my gap turn travel lift cool hx hy bc (nI k) sx sy bars seams qs mb me hd hu' ld lu mr rS rW (nI u) (nI k) (nI 0) (wpL_Model_best_68 mx my gap turn travel lift cool hx hy bc (nI k) sx sy bars seams post qs c) w e bR') := by
        intro hlt
        refine s_keepRow (p := p) hN hv.1 (fun j hj => ⟨(hR.1 j hj).1, (hR.1 j hj).2.1⟩) (fun b hb' => j149 w e b ⟨hR.1, Or.inr ?_⟩)
        rw [eF, if_pos hlt]
        exact ⟨hLp, hLn, he, hb'⟩
      have z0 : (0 : Int32).toInt = 0 := rfl
      rcases hR.2 with ⟨q1, q2⟩ | ⟨q1, q2, q3, q4⟩
      · refine ⟨fun _ => keep (by rw [q1]; exact hLp), fun z => absurd (by rw [q2]; decide) z⟩
      · rw [i_lt q3 z0, i_le q3 he]
        refine ⟨fun z => absurd z (by omega), fun _ => ⟨fun z => j149 w x2 bR ⟨hR.1, Or.inr ?_⟩, fun z => keep (by omega)⟩⟩
        rw [eF, if_neg (by omega)]
        exact ⟨q1, q2, q3, q4⟩
    have j101 : ∀ w : Int32, wp_Model_best_j101_73 mx my gap turn travel lift cool hx hy bc (nI k) sx sy bars seams qs mb bR me hd hu' ld lu mr rS rW x2 (nI u) (nI k) (nI 0) (wpL_Model_best_68 mx my gap turn travel lift cool hx hy bc (nI k) sx sy bars seams post qs c) w := by
      intro w
      unfold wp_Model_best_j101_73
      refine ⟨fun z => absurd rfl z, fun _ => ⟨fun z => ?_, fun z => j130 w 0 ?_⟩⟩
      · have k1 : 1 ≤ k := by
          rcases Nat.eq_zero_or_pos k with q | q
          · rw [q] at z; exact absurd rfl z
          · exact q
        rw [nI_p k1, clN (by omega)]
        refine ⟨vpN (by omega) (by omega), j130 w _ ?_⟩
        rw [(hR.1 (k - 1) (by omega)).2.2]
        unfold LF
        rw [if_neg (by omega)]
      · rw [h0, eqN (by omega) (by omega)] at z
        unfold LF
        rw [if_pos z]; rfl
    unfold wpB_Model_best_68
    rw [h0, ltN (by omega) (by omega), ← h0]
    exact ⟨fun z => absurd z (by omega), fun _ => ⟨fun _ => j101 0, fun _ => ⟨fun _ => j101 0, fun _ => j101 1⟩⟩⟩
  | succ m ihm =>
    intro k u0 p s0 c hk hv hu0 hsM0 hC
    have inner : ∀ (r n u : Nat) (s : Int × (Nat → Nat)), n + r = 2 * ns → maP u p k → s.1 ≤ 1000000 → foldS (chF ns (LF (qtV mx my sx sy la lb fl nb bX0 bY0 bX1 bY1 sx0 sy0 sx1 sy1) (gX mx my sx sy la lb fl nb bX0 bY0 bX1 bY1 sx0 sy0 sx1 sy1) (gY mx my sx sy la lb fl nb bX0 bY0 bX1 bY1 sx0 sy0 sx1 sy1) (freeP nb bX0 bY0 bX1 bY1) tm (rsF heat cool) (nearP gap sx0 sy0 sx1 sy1) turn travel lift hx hy ns) m k p) r n s = FD ns (LF (qtV mx my sx sy la lb fl nb bX0 bY0 bX1 bY1 sx0 sy0 sx1 sy1) (gX mx my sx sy la lb fl nb bX0 bY0 bX1 bY1 sx0 sy0 sx1 sy1) (gY mx my sx sy la lb fl nb bX0 bY0 bX1 bY1 sx0 sy0 sx1 sy1) (freeP nb bX0 bY0 bX1 bY1) tm (rsF heat cool) (nearP gap sx0 sy0 sx1 sy1) turn travel lift hx hy ns) (m + 1) k p s0 → ∀ (mb bR me : Nat → Int32) (hd hu ld lu : Int64) (mr rS rW : Nat → Int32) (x2 : Int32), RB (qtV mx my sx sy la lb fl nb bX0 bY0 bX1 bY1 sx0 sy0 sx1 sy1) (gX mx my sx sy la lb fl nb bX0 bY0 bX1 bY1 sx0 sy0 sx1 sy1) (gY mx my sx sy la lb fl nb bX0 bY0 bX1 bY1 sx0 sy0 sx1 sy1) (freeP nb bX0 bY0 bX1 bY1) tm (rsF heat cool) (nearP gap sx0 sy0 sx1 sy1) turn travel lift hx hy ns k p s me rS rW bR x2 → wpL_Model_best_68 mx my gap turn travel lift cool hx hy bc (nI ns) sx sy bars seams post qs (cLp (cGn ns m k p) r n + c) mb bR me hd hu ld lu mr rS rW x2 (nI u) (nI k) (nI n) := by
      intro r
      induction r with
      | zero =>
        intro n u s hn hu hsM hfold mb bR me hd hu' ld lu mr rS rW x2 hR
        have ec : cLp (cGn ns m k p) 0 n + c = c + 1 := by show 1 + c = c + 1; omega
        rw [ec]
        show wpB_Model_best_68 mx my gap turn travel lift cool hx hy bc (nI ns) sx sy bars seams post qs (wpL_Model_best_68 mx my gap turn travel lift cool hx hy bc (nI ns) sx sy bars seams post qs c) mb bR me hd hu' ld lu mr rS rW x2 (nI u) (nI k) (nI n)
        have e : s = FD ns (LF (qtV mx my sx sy la lb fl nb bX0 bY0 bX1 bY1 sx0 sy0 sx1 sy1) (gX mx my sx sy la lb fl nb bX0 bY0 bX1 bY1 sx0 sy0 sx1 sy1) (gY mx my sx sy la lb fl nb bX0 bY0 bX1 bY1 sx0 sy0 sx1 sy1) (freeP nb bX0 bY0 bX1 bY1) tm (rsF heat cool) (nearP gap sx0 sy0 sx1 sy1) turn travel lift hx hy ns) (m + 1) k p s0 := hfold
        rw [e] at hR
        unfold wpB_Model_best_68
        rw [h0, ltN (by omega) (by omega), ← h0, dbl ns (by omega), leN (by omega) (by omega)]
        refine ⟨fun z => absurd z (by omega), fun _ => ⟨fun _ => ?_, fun z => absurd (by omega) z⟩⟩
        unfold wp_Model_best_j101_73
        rw [eqN (by omega) (by omega)]
        refine ⟨fun _ => ?_, fun z => absurd z (by omega)⟩
        unfold wp_Model_best_j149_66
        rw [eqN (by omega) (by omega), dbl ns (by omega), ltN (by omega) (by omega)]
        refine ⟨fun z => absurd z (by omega), fun _ => ⟨fun z => absurd z (by omega), fun _ x4 e4 => ?_⟩⟩
        exact mb_back hN hv (by omega) hu hC mb bR me hd hu' ld lu mr rS rW x2 (nI n) x4 hR e4
      | succ r ihr =>
        intro n u s hn hu hsM hfold mb bR me hd hu' ld lu mr rS rW x2 hR
        have hfold' : foldS (chF ns (LF (qtV mx my sx sy la lb fl nb bX0 bY0 bX1 bY1 sx0 sy0 sx1 sy1) (gX mx my sx sy la lb fl nb bX0 bY0 bX1 bY1 sx0 sy0 sx1 sy1) (gY mx my sx sy la lb fl nb bX0 bY0 bX1 bY1 sx0 sy0 sx1 sy1) (freeP nb bX0 bY0 bX1 bY1) tm (rsF heat cool) (nearP gap sx0 sy0 sx1 sy1) turn travel lift hx hy ns) m k p) r (n + 1) (chF ns (LF (qtV mx my sx sy la lb fl nb bX0 bY0 bX1 bY1 sx0 sy0 sx1 sy1) (gX mx my sx sy la lb fl nb bX0 bY0 bX1 bY1 sx0 sy0 sx1 sy1) (gY mx my sx sy la lb fl nb bX0 bY0 bX1 bY1 sx0 sy0 sx1 sy1) (freeP nb bX0 bY0 bX1 bY1) tm (rsF heat cool) (nearP gap sx0 sy0 sx1 sy1) turn travel lift hx hy ns) m k p n s) = FD ns (LF (qtV mx my sx sy la lb fl nb bX0 bY0 bX1 bY1 sx0 sy0 sx1 sy1) (gX mx my sx sy la lb fl nb bX0 bY0 bX1 bY1 sx0 sy0 sx1 sy1) (gY mx my sx sy la lb fl nb bX0 bY0 bX1 bY1 sx0 sy0 sx1 sy1) (freeP nb bX0 bY0 bX1 bY1) tm (rsF heat cool) (nearP gap sx0 sy0 sx1 sy1) turn travel lift hx hy ns) (m + 1) k p s0 := hfold
        have h2 : nI n / (2 : Int32) = nI (n / 2) := (half n (by omega)).1
        have h2' : nI n - nI (n / 2) * (2 : Int32) = nI (n % 2) := by rw [← h2]; exact (half n (by omega)).2
        have gb := mk_get hu (show n / 2 < 6 by omega)
        rcases Classical.em (usP p k (n / 2)) with c1 | c1
        · rw [ch_u c1] at hfold'
          have ec : cLp (cGn ns m k p) (r + 1) n + c = (cLp (cGn ns m k p) r (n + 1) + c) + 1 := by
            show 1 + cGn ns m k p n + cLp (cGn ns m k p) r (n + 1) + c = _
            rw [show cGn ns m k p n = 0 from if_pos c1]; omega
          rw [ec]
          show wpB_Model_best_68 mx my gap turn travel lift cool hx hy bc (nI ns) sx sy bars seams post qs (wpL_Model_best_68 mx my gap turn travel lift cool hx hy bc (nI ns) sx sy bars seams post qs (cLp (cGn ns m k p) r (n + 1) + c)) mb bR me hd hu' ld lu mr rS rW x2 (nI u) (nI k) (nI n)
          unfold wpB_Model_best_68
          rw [h0, ltN (by omega) (by omega), ← h0, dbl ns (by omega), leN (by omega) (by omega), h2]
          refine ⟨fun z => absurd z (by omega), fun _ => ⟨fun z => absurd z (by omega), fun _ => ⟨fun z => absurd (gb.2.mpr c1) z, fun _ => ?_⟩⟩⟩
          unfold wp_Model_best_j101_73
          rw [eqN (by omega) (by omega)]
          refine ⟨fun _ => ?_, fun z => absurd z (by omega)⟩
          unfold wp_Model_best_j149_66
          rw [eqN (by omega) (by omega), dbl ns (by omega), ltN (by omega) (by omega)]
          refine ⟨fun z => absurd z (by omega), fun _ => ⟨fun _ => ⟨fun z => absurd z (by decide), fun _ y eyy => ?_⟩, fun z => absurd (by omega) z⟩⟩
          rw [nI_s eyy]
          exact ihr (n + 1) u s (by omega) hu hsM hfold' mb bR me hd hu' ld lu mr rS rW x2 hR
        · rw [ch_n c1] at hfold'
          have ec : cLp (cGn ns m k p) (r + 1) n + c = (cFn ns m (k + 1) (updN p k n) + (cLp (cGn ns m k p) r (n + 1) + c)) + 1 := by
            show 1 + cGn ns m k p n + cLp (cGn ns m k p) r (n + 1) + c = _
            rw [show cGn ns m k p n = cFn ns m (k + 1) (updN p k n) from if_neg c1]; omega
          rw [ec]
          show wpB_Model_best_68 mx my gap turn travel lift cool hx hy bc (nI ns) sx sy bars seams post qs (wpL_Model_best_68 mx my gap turn travel lift cool hx hy bc (nI ns) sx sy bars seams post qs (cFn ns m (k + 1) (updN p k n) + (cLp (cGn ns m k p) r (n + 1) + c))) mb bR me hd hu' ld lu mr rS rW x2 (nI u) (nI k) (nI n)
          obtain ⟨u2, eu, hu2⟩ := mk_set (n := n) hu (by omega)
          have hv' : vaP ns (updN p k n) (k + 1) := va_ext hv (by omega) c1
          have qk : updN p k n k = n := un_eq
          have qj : ∀ j, j < k → updN p k n j = p j := fun j hj => un_ne (by omega)
          have eqE : ∀ j, j < k → E3 (qtV mx my sx sy la lb fl nb bX0 bY0 bX1 bY1 sx0 sy0 sx1 sy1) (gX mx my sx sy la lb fl nb bX0 bY0 bX1 bY1 sx0 sy0 sx1 sy1) (gY mx my sx sy la lb fl nb bX0 bY0 bX1 bY1 sx0 sy0 sx1 sy1) (freeP nb bX0 bY0 bX1 bY1) tm (rsF heat cool) (nearP gap sx0 sy0 sx1 sy1) turn travel lift hx hy (updN p k n) j = E3 (qtV mx my sx sy la lb fl nb bX0 bY0 bX1 bY1 sx0 sy0 sx1 sy1) (gX mx my sx sy la lb fl nb bX0 bY0 bX1 bY1 sx0 sy0 sx1 sy1) (gY mx my sx sy la lb fl nb bX0 bY0 bX1 bY1 sx0 sy0 sx1 sy1) (freeP nb bX0 bY0 bX1 bY1) tm (rsF heat cool) (nearP gap sx0 sy0 sx1 sy1) turn travel lift hx hy p j := fun j hj => E3_congr j (fun i hi => qj i (by omega))
          unfold wpB_Model_best_68
          rw [h0, ltN (by omega) (by omega), ← h0, dbl ns (by omega), leN (by omega) (by omega), h2]
          refine ⟨fun z => absurd z (by omega), fun _ => ⟨fun z => absurd z (by omega), fun _ => ⟨fun _ => ?_, fun z => absurd (gb.2.mp z) c1⟩⟩⟩
          unfold wp_Model_best_j101_73
          rw [eqN (by omega) (by omega)]
          refine ⟨fun _ => ?_, fun z => absurd z (by omega)⟩
          unfold wp_Model_best_j149_66
          rw [eqN (by omega) (by omega), dbl ns (by omega), ltN (by omega) (by omega), h2, h2', eu, clN (k := k) (by omega)]
          have v : vp_in (nI k) 8 := vpN (by omega) (by omega)
          refine ⟨fun z => absurd z (by omega), fun _ => ⟨fun _ => ⟨fun _ t49 e49 => ⟨v, fun g50 e50 t51 e51 => ⟨v, fun g52 e52 x3 e3 => ?_⟩⟩, fun z => absurd rfl z⟩, fun z => absurd (by omega) z⟩⟩
          have rows : ∀ j, j < k + 1 → g50 j = nI (updN p k n j / 2) ∧ g52 j = nI (updN p k n j % 2) := by
            intro j hj
            rw [e50, e52]
            by_cases d : j = k
            · subst d; rw [u_eq, u_eq, qk, e49, e51]; exact ⟨rfl, rfl⟩
            · rw [u_ne d, u_ne d, qj j (by omega)]
              exact ⟨(hR.1 j (by omega)).1, (hR.1 j (by omega)).2.1⟩
          have w01 : ∀ n, nI (n % 2) = 0 ∨ nI (n % 2) = 1 := fun n => by
            rcases (show n % 2 = 0 ∨ n % 2 = 1 by omega) with z | z <;> rw [z]
            · exact Or.inl rfl
            · exact Or.inr rfl
          refine s_workAt (n := 0) (tm := tm) (heat := heat) (sa := sA (updN p k n)) (sw := sW (updN p k n)) hc hb hbm hbc hs hsm hg hp ht (show k < 8 by omega) (nI_t (by omega)) (fun j hj => ?_) (fun j hj => ?_) (fun j hj => (rows j (by omega)).2) (fun j hj => w01 _) (fun j hj => hall _ ?_) (fun j hj => hqs _ ?_) (fun j hj => ?_) (fun a b c' d x4 e4 => ?_)
          · rw [(rows j (by omega)).1]
            have := hv'.1 j (by omega)
            exact nI_t (by omega)
          · have := hv'.1 j (by omega)
            unfold sA; omega
          · have := hv'.1 j (by omega)
            unfold sA; omega
          · have := hv'.1 j (by omega)
            unfold sA; omega
          · rw [(hR.1 j hj).2.2, ← eqE j hj]; rfl
          · rw [nI_s e4, e3]
            refine ihm (k + 1) u2 (updN p k n) s (cLp (cGn ns m k p) r (n + 1) + c) (by omega) hv' hu2 hsM (fun mb bR me hd hu' ld lu mr rS rW x2 x3 x4 x5 hR2 _ hk2 => ?_) _ bR _ _ _ _ _ _ g50 g52 x2 ⟨fun j hj => ⟨(rows j hj).1, (rows j hj).2, ?_⟩, hR.2⟩
            · obtain ⟨f4, ⟨u3, f3, hu3⟩, f5⟩ := hk2 k rfl
              rw [f4, f3, f5, qk]
              have sM : (FD ns (LF (qtV mx my sx sy la lb fl nb bX0 bY0 bX1 bY1 sx0 sy0 sx1 sy1) (gX mx my sx sy la lb fl nb bX0 bY0 bX1 bY1 sx0 sy0 sx1 sy1) (gY mx my sx sy la lb fl nb bX0 bY0 bX1 bY1 sx0 sy0 sx1 sy1) (freeP nb bX0 bY0 bX1 bY1) tm (rsF heat cool) (nearP gap sx0 sy0 sx1 sy1) turn travel lift hx hy ns) m (k + 1) (updN p k n) s).1 ≤ 1000000 := by
                rcases hR2.2 with z | z
                · rw [z.1]; omega
                · have := z.1; omega
              refine ihr (n + 1) u3 _ (by omega) ⟨hu3.1, fun t ht' => by rw [hu3.2 t ht', us_congr (p := updN p k n) (q := p) qj]⟩ sM hfold' mb bR me hd hu' ld lu mr rS rW x2 ⟨fun j hj => ?_, hR2.2⟩
              have := hR2.1 j (by omega)
              rw [qj j hj, eqE j hj] at this
              exact this
            · by_cases d : j = k
              · subst d; rw [u_eq]; rfl
              · rw [u_ne d, (hR.1 j (by omega)).2.2, ← eqE j (by omega)]
    intro mb bR me hd hu' ld lu mr rS rW x2 hR
    rw [cFn_s]
    exact inner (2 * ns) 0 u0 s0 (by omega) hu0 hsM0 rfl mb bR me hd hu' ld lu mr rS rW x2 hR
end MBEST
