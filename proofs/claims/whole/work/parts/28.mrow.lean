/-! the reference's times of its row -/
theorem imax_le {a b : Int32} (h : a ≤ b) : imax a b = b := by
  unfold imax
  split
  · rfl
  · rename_i h2
    rw [Int32.le_iff_toInt_le] at h
    rw [Int32.lt_iff_toInt_lt] at h2
    exact Int32.toInt_inj.mp (by omega)
theorem imax_nle {a b : Int32} (h : ¬ a ≤ b) : imax a b = a := by
  unfold imax
  rw [if_neg]
  rw [Int32.le_iff_toInt_le] at h
  rw [Int32.lt_iff_toInt_lt]
  omega
theorem imax_assoc (a b c : Int32) : imax (imax a b) c = imax a (imax b c) := by
  apply Int32.toInt_inj.mp
  rw [imax_t (imax_t rfl rfl) rfl, imax_t rfl (imax_t rfl rfl)]
  (repeat' split) <;> omega
theorem imax_0 {a : Int32} (h : 0 ≤ a.toInt) : imax a 0 = a := by
  have : ¬ a < 0 := by
    rw [Int32.lt_iff_toInt_lt]
    show ¬ a.toInt < 0
    omega
  unfold imax
  rw [if_neg this]
theorem turn_eq : ∀ i, i < 4 → ∀ j, j < 4 → (iabs (nI j - nI i) ≤ 2 → iabs (nI j - nI i) = imin (iabs (nI i - nI j)) ((4 : Int32) - iabs (nI i - nI j))) ∧ (¬ iabs (nI j - nI i) ≤ 2 → (4 : Int32) - iabs (nI j - nI i) = imin (iabs (nI i - nI j)) ((4 : Int32) - iabs (nI i - nI j))) := by decide +kernel
theorem qt_cases (mx my sx sy la lb fl : Int32) (nb : Nat) (bX0 bY0 bX1 bY1 sx0 sy0 sx1 sy1 : Nat → Int32) (k : Nat) : qtV mx my sx sy la lb fl nb bX0 bY0 bX1 bY1 sx0 sy0 sx1 sy1 k = -6 ∨ ∃ i : Nat, i < 4 ∧ qtV mx my sx sy la lb fl nb bX0 bY0 bX1 bY1 sx0 sy0 sx1 sy1 k = nI i := by
  rcases qtG_cases (fun j => lackV mx my sx sy la lb fl nb bX0 bY0 bX1 bY1 sx0 sy0 sx1 sy1 k (nI j)) 4 0 with h | ⟨i, h1, h2, h3⟩
  · exact Or.inl h
  · exact Or.inr ⟨i, by omega, h3⟩
theorem qt_neg (mx my sx sy la lb fl : Int32) (nb : Nat) (bX0 bY0 bX1 bY1 sx0 sy0 sx1 sy1 : Nat → Int32) (k : Nat) : qtV mx my sx sy la lb fl nb bX0 bY0 bX1 bY1 sx0 sy0 sx1 sy1 k < 0 ↔ qtV mx my sx sy la lb fl nb bX0 bY0 bX1 bY1 sx0 sy0 sx1 sy1 k = -6 := by
  rcases qt_cases mx my sx sy la lb fl nb bX0 bY0 bX1 bY1 sx0 sy0 sx1 sy1 k with h | ⟨i, h1, h2⟩
  · rw [h]; exact ⟨fun _ => rfl, fun _ => by decide⟩
  · rw [h2]
    have z0 : (0 : Int32).toInt = 0 := rfl
    rw [i_lt (nI_t (show i < 2147483648 by omega)) z0]
    refine ⟨fun h => by omega, fun h => ?_⟩
    have := congrArg Int32.toInt h
    rw [nI_t (by omega)] at this
    have e6 : (-6 : Int32).toInt = -6 := rfl
    omega
theorem s_findQuarters {mx my sx sy la lb fl : Int32} {nb ns : Nat} {bX0 bY0 bX1 bY1 sx0 sy0 sx1 sy1 : Nat → Int32} {n : Nat} {bars seams rS qs : Nat → Int32} {bc sc rc : Int32} {lu ld hu hd : Int64} {sa : Nat → Nat} {post : Int32 → Int64 → Int64 → Int64 → Int64 → (Nat → Int32) → Prop} (hc : cellOK mx my sx sy la lb fl) (hb : barsOK nb bX0 bY0 bX1 bY1) (hbm : barsM nb bars bX0 bY0 bX1 bY1) (hbc : bc.toInt = (nb : Int)) (hs : seamsOK ns sx0 sy0 sx1 sy1) (hsm : seamsM ns seams sx0 sy0 sx1 sy1) (hsc : sc.toInt = (ns : Int)) (hn : n ≤ 8) (hrc : rc.toInt = (n : Int)) (hps : ∀ j, j < n → (rS j).toInt = (sa j : Int)) (hsa : ∀ j, j < n → sa j < ns)
    (h1 : (∀ j, j < n → qtV mx my sx sy la lb fl nb bX0 bY0 bX1 bY1 sx0 sy0 sx1 sy1 (sa j) ≠ -6) → ∀ (a b c d : Int64) (q : Nat → Int32), (∀ j, j < ns → q j = qtV mx my sx sy la lb fl nb bX0 bY0 bX1 bY1 sx0 sy0 sx1 sy1 j) → post 1 a b c d q) (h0 : ¬ (∀ j, j < n → qtV mx my sx sy la lb fl nb bX0 bY0 bX1 bY1 sx0 sy0 sx1 sy1 (sa j) ≠ -6) → ∀ (a b c d : Int64) (q : Nat → Int32), post 0 a b c d q) : wp_Model_findQuarters mx my la lb fl bc sc rc lu ld hu hd sx sy bars seams rS qs post := by
  have h8 := hs.1
  have second : ∀ (a b c d : Int64) (q : Nat → Int32), (∀ j, j < ns → q j = qtV mx my sx sy la lb fl nb bX0 bY0 bX1 bY1 sx0 sy0 sx1 sy1 j) → ∃ m : Nat, wpL_Model_findQuarters_31 rc rS post a b c d q m (1 : Int32) (0 : Int32) := by
    intro a b c d q hq
    refine ⟨n + 1, ?_⟩
    have key : ∀ (m k : Nat) (f kk : Int32), kk.toInt = (k : Int) → k + m = n → ((f = 1 ∧ ∀ j, j < k → qtV mx my sx sy la lb fl nb bX0 bY0 bX1 bY1 sx0 sy0 sx1 sy1 (sa j) ≠ -6) ∨ (f = 0 ∧ ¬ (∀ j, j < n → qtV mx my sx sy la lb fl nb bX0 bY0 bX1 bY1 sx0 sy0 sx1 sy1 (sa j) ≠ -6))) → wpL_Model_findQuarters_31 rc rS post a b c d q (m + 1) f kk := by
      intro m
      induction m with
      | zero =>
        intro k f kk hkk hk hf
        show wpB_Model_findQuarters_31 rc rS post a b c d q (wpL_Model_findQuarters_31 rc rS post a b c d q 0) f kk
        unfold wpB_Model_findQuarters_31
        rw [i_le hrc hkk]
        refine ⟨fun _ => ?_, fun z => absurd (by omega) z⟩
        rcases hf with ⟨rfl, hf⟩ | ⟨rfl, hf⟩
        · exact ⟨Or.inr rfl, h1 (fun j hj => hf j (by omega)) _ _ _ _ _ hq⟩
        · exact ⟨Or.inl rfl, h0 hf _ _ _ _ _⟩
      | succ m ih =>
        intro k f kk hkk hk hf
        show wpB_Model_findQuarters_31 rc rS post a b c d q (wpL_Model_findQuarters_31 rc rS post a b c d q (m + 1)) f kk
        unfold wpB_Model_findQuarters_31
        have hkn : k < n := by omega
        have hpk := hps k hkn
        have hsk := hsa k hkn
        rw [i_le hrc hkk, cl_t hkk, cl_t hpk, hq (sa k) hsk, qt_neg]
        refine ⟨fun z => absurd z (by omega), fun _ => ?_⟩
        have next : ∀ y : Int32, y = kk + (1 : Int32) → y.toInt = ((k + 1 : Nat) : Int) := fun y e => by rw [e]; exact inc_t hkk (by omega)
        rcases hf with ⟨rfl, hf⟩ | ⟨rfl, hf⟩
        · refine ⟨fun z => absurd z (by decide), fun _ => ⟨vp_t hkk (by omega), vp_t hpk (by omega), fun z y e => ih (k + 1) 0 y (next y e) (by omega) (Or.inr ⟨rfl, fun hall => hall k hkn z⟩), fun z y e => ih (k + 1) 1 y (next y e) (by omega) (Or.inl ⟨rfl, fun j hj => ?_⟩)⟩⟩
          rcases Nat.lt_or_ge j k with q' | q'
          · exact hf j q'
          · rw [show j = k by omega]; exact z
        · exact ⟨fun _ y e => ih (k + 1) 0 y (next y e) (by omega) (Or.inr ⟨rfl, hf⟩), fun z => absurd rfl z⟩
    exact key n 0 1 0 rfl (by omega) (Or.inl ⟨rfl, fun j hj => by omega⟩)
  unfold wp_Model_findQuarters
  refine ⟨ns + 1, ?_⟩
  have key : ∀ (m k : Nat) (a b c d : Int64) (q : Nat → Int32) (kk : Int32), kk.toInt = (k : Int) → k + m = ns → (∀ j, j < k → q j = qtV mx my sx sy la lb fl nb bX0 bY0 bX1 bY1 sx0 sy0 sx1 sy1 j) → wpL_Model_findQuarters_2 mx my la lb fl bc sc rc sx sy bars seams rS post (m + 1) a b c d q kk := by
    intro m
    induction m with
    | zero =>
      intro k a b c d q kk hkk hk hq
      show wpB_Model_findQuarters_2 mx my la lb fl bc sc rc sx sy bars seams rS post (wpL_Model_findQuarters_2 mx my la lb fl bc sc rc sx sy bars seams rS post 0) a b c d q kk
      unfold wpB_Model_findQuarters_2
      rw [i_le hsc hkk]
      exact ⟨fun _ => second a b c d q (fun j hj => hq j (by omega)), fun z => absurd (by omega) z⟩
    | succ m ih =>
      intro k a b c d q kk hkk hk hq
      show wpB_Model_findQuarters_2 mx my la lb fl bc sc rc sx sy bars seams rS post (wpL_Model_findQuarters_2 mx my la lb fl bc sc rc sx sy bars seams rS post (m + 1)) a b c d q kk
      unfold wpB_Model_findQuarters_2
      rw [i_le hsc hkk]
      refine ⟨fun z => absurd z (by omega), fun _ => s_mquarterOf hc hb hbm hbc hs hsm (by omega) hkk (fun a b c d => ⟨vp_t hkk (by omega), fun g eg y ey => ?_⟩)⟩
      rw [cl_t hkk] at eg
      refine ih (k + 1) _ _ _ _ g y (by rw [ey]; exact inc_t hkk (by omega)) (by omega) (fun j hj => ?_)
      rw [eg]
      rcases Nat.lt_or_ge j k with q' | q'
      · rw [u_ne (by omega)]; exact hq j q'
      · rw [show j = k by omega, u_eq]
  exact key ns 0 _ _ _ _ qs 0 rfl (by omega) (fun j hj => by omega)
/-- speed, heat and time of the seams, of both -/
def seamsT (ns : Nat) (seams sx0 sy0 sx1 sy1 tm heat : Nat → Int32) : Prop := ∀ k, k < ns → (1 ≤ (seams (6 * k + 4)).toInt ∧ (seams (6 * k + 4)).toInt ≤ 50) ∧ seams (6 * k + 5) = heat k ∧ (0 ≤ (heat k).toInt ∧ (heat k).toInt ≤ 1000) ∧ tm k = upF (lenF (sx0 k) (sy0 k) (sx1 k) (sy1 k)) (seams (6 * k + 4))
theorem tm_bd {ns : Nat} {seams sx0 sy0 sx1 sy1 tm heat : Nat → Int32} (h : seamsT ns seams sx0 sy0 sx1 sy1 tm heat) {k : Nat} (hk : k < ns) : 0 ≤ (tm k).toInt ∧ (tm k).toInt ≤ 400 := by
  obtain ⟨h1, h2, h3, h4⟩ := h k hk
  rw [h4]
  have hl : (lenF (sx0 k) (sy0 k) (sx1 k) (sy1 k)).toInt = (rtG (sq2 (sx0 k) (sy0 k) (sx1 k) (sy1 k)) 300 0 : Nat) := by
    have := rtG_le (sq2 (sx0 k) (sy0 k) (sx1 k) (sy1 k)) 300 0
    exact nI_t (by omega)
  have := rtG_le (sq2 (sx0 k) (sy0 k) (sx1 k) (sy1 k)) 300 0
  have := upF_bd (n := lenF (sx0 k) (sy0 k) (sx1 k) (sy1 k)) (d := seams (6 * k + 4)) (by omega) (by omega) h1.1 (by omega)
  omega
theorem rs_bd {heat : Nat → Int32} {cool : Int32} {a : Nat} (h : 0 ≤ (heat a).toInt ∧ (heat a).toInt ≤ 1000) (hc : 1 ≤ cool.toInt ∧ cool.toInt ≤ 100) : 0 ≤ (rsF heat cool a).toInt ∧ (rsF heat cool a).toInt ≤ 1000 := by
  unfold rsF
  obtain ⟨A, hA⟩ : ∃ A : Nat, (heat a).toInt = (A : Int) := ⟨(heat a).toInt.toNat, by omega⟩
  obtain ⟨B, hB⟩ : ∃ B : Nat, cool.toInt = (B : Int) := ⟨cool.toInt.toNat, by omega⟩
  rw [nI_of_t hA, nI_of_t hB, pk_div (by omega) (by omega) (by omega)]
  have hq : A / B ≤ A := Nat.div_le_self A B
  generalize A / B = Z at *
  rw [nI_t (by omega)]
  omega
theorem tOK_of {mx my sx sy la lb fl : Int32} {nb ns : Nat} {bX0 bY0 bX1 bY1 sx0 sy0 sx1 sy1 : Nat → Int32} {seams tm heat : Nat → Int32} {gap turn travel lift cool hx hy : Int32} {U : Nat → Prop} (hc : cellOK mx my sx sy la lb fl) (hs : seamsOK ns sx0 sy0 sx1 sy1) (hp : paceOK turn travel lift cool hx hy) (ht : seamsT ns seams sx0 sy0 sx1 sy1 tm heat) (hU : ∀ a, U a → a < ns ∧ qtV mx my sx sy la lb fl nb bX0 bY0 bX1 bY1 sx0 sy0 sx1 sy1 a ≠ -6) : tOK U (qtV mx my sx sy la lb fl nb bX0 bY0 bX1 bY1 sx0 sy0 sx1 sy1) (gX mx my sx sy la lb fl nb bX0 bY0 bX1 bY1 sx0 sy0 sx1 sy1) (gY mx my sx sy la lb fl nb bX0 bY0 bX1 bY1 sx0 sy0 sx1 sy1) (freeP nb bX0 bY0 bX1 bY1) tm (rsF heat cool) (nearP gap sx0 sy0 sx1 sy1) turn travel lift hx hy := by
  obtain ⟨p1, p2, p3, p4, p5, p6⟩ := hp
  refine ⟨fun a ha => ?_, p1, p2, p3, p5, p6⟩
  obtain ⟨u1, u2⟩ := hU a ha
  refine ⟨?_, fun w => e400 hc hs u1, tm_bd ht u1, rs_bd (ht a u1).2.2.1 p4⟩
  rcases qt_cases mx my sx sy la lb fl nb bX0 bY0 bX1 bY1 sx0 sy0 sx1 sy1 a with h | ⟨i, h1, h2⟩
  · exact absurd h u2
  · exact ⟨i, by omega, h2⟩
