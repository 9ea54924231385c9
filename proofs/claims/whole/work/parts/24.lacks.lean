/-! lacks and quarters -/
noncomputable def pif (P : Prop) (a b : Int32) : Int32 := @ite _ P (Classical.propDecidable P) a b
theorem pif_pos {P : Prop} {a b : Int32} (h : P) : pif P a b = a := by unfold pif; exact if_pos h
theorem pif_neg {P : Prop} {a b : Int32} (h : ¬ P) : pif P a b = b := by unfold pif; exact if_neg h
def cellOK (mx my sx sy la lb fl : Int32) : Prop := (-200 ≤ mx.toInt ∧ mx.toInt ≤ 200) ∧ (-200 ≤ my.toInt ∧ my.toInt ≤ 200) ∧ (-20 ≤ sx.toInt ∧ sx.toInt ≤ 20) ∧ (-20 ≤ sy.toInt ∧ sy.toInt ≤ 20) ∧ linkOK la lb ∧ (0 ≤ fl.toInt ∧ fl.toInt ≤ 1000)
def flP (fl x0 y0 x1 y1 : Int32) : Prop := ¬ fl * iabs (x1 - x0) < iabs (y1 - y0) * (100 : Int32)
theorem s_isFlat {fl x0 y0 x1 y1 : Int32} {post : Int32 → Prop} (k1 : flP fl x0 y0 x1 y1 → post 1) (k0 : ¬ flP fl x0 y0 x1 y1 → post 0) : wp_Cell_isFlat fl x0 y0 x1 y1 post := by
  unfold wp_Cell_isFlat
  exact ⟨fun c => k0 (fun h => h c), fun c => k1 c⟩
theorem s_size {x : Int32} {post : Int32 → Prop} (h : post (iabs x)) : wp_Model_size x post := by
  unfold wp_Model_size
  unfold iabs at h
  exact ⟨fun c => by rwa [if_pos c] at h, fun c => by rwa [if_neg c] at h⟩
def gW (mx my sx sy la lb fl : Int32) (nb : Nat) (bX0 bY0 bX1 bY1 sx0 sy0 sx1 sy1 : Nat → Int32) (k : Nat) (q : Int32) : Prop := witP la.toInt lb.toInt (eX sx0 sy0 sx1 sy1 mx sx k 0 q).toInt (eY sx0 sy0 sx1 sy1 my sy k 0 q).toInt (eX sx0 sy0 sx1 sy1 mx sx k 1 q).toInt (eY sx0 sy0 sx1 sy1 my sy k 1 q).toInt
def gF (mx my sx sy la lb fl : Int32) (nb : Nat) (bX0 bY0 bX1 bY1 sx0 sy0 sx1 sy1 : Nat → Int32) (k : Nat) (q : Int32) : Prop := freeP nb bX0 bY0 bX1 bY1 (eX sx0 sy0 sx1 sy1 mx sx k 0 q) (eY sx0 sy0 sx1 sy1 my sy k 0 q) (eX sx0 sy0 sx1 sy1 mx sx k 1 q) (eY sx0 sy0 sx1 sy1 my sy k 1 q)
def gL (mx my sx sy la lb fl : Int32) (nb : Nat) (bX0 bY0 bX1 bY1 sx0 sy0 sx1 sy1 : Nat → Int32) (k : Nat) (q : Int32) : Prop := flP fl (eX sx0 sy0 sx1 sy1 mx sx k 0 q) (eY sx0 sy0 sx1 sy1 my sy k 0 q) (eX sx0 sy0 sx1 sy1 mx sx k 1 q) (eY sx0 sy0 sx1 sy1 my sy k 1 q)
noncomputable def lackV (mx my sx sy la lb fl : Int32) (nb : Nat) (bX0 bY0 bX1 bY1 sx0 sy0 sx1 sy1 : Nat → Int32) (k : Nat) (q : Int32) : Int32 := (pif (gW mx my sx sy la lb fl nb bX0 bY0 bX1 bY1 sx0 sy0 sx1 sy1 k q) 0 1 + pif (gF mx my sx sy la lb fl nb bX0 bY0 bX1 bY1 sx0 sy0 sx1 sy1 k q) 0 2) + pif (gL mx my sx sy la lb fl nb bX0 bY0 bX1 bY1 sx0 sy0 sx1 sy1 k q) 0 4
theorem plX_bd {mx sx x y q : Int32} (h1 : -200 ≤ mx.toInt ∧ mx.toInt ≤ 200) (h2 : -20 ≤ sx.toInt ∧ sx.toInt ≤ 20) (h3 : -100 ≤ x.toInt ∧ x.toInt ≤ 100) (h4 : -100 ≤ y.toInt ∧ y.toInt ≤ 100) : -320 ≤ (plX mx sx x y q).toInt ∧ (plX mx sx x y q).toInt ≤ 320 := by
  have nx : (-x).toInt = -x.toInt := tN rfl (by omega)
  have ny : (-y).toInt = -y.toInt := tN rfl (by omega)
  unfold plX
  generalize hw : (if q = 0 then x else if q = 1 then -y else if q = 2 then -x else y) = w
  have bw : -100 ≤ w.toInt ∧ w.toInt ≤ 100 := by
    rw [← hw]
    split
    · omega
    · split
      · omega
      · split <;> omega
  rw [tA (tA (x := mx) (y := w) rfl rfl (by omega)) (y := sx) rfl (by omega)]
  omega
theorem plY_bd {my sy x y q : Int32} (h1 : -200 ≤ my.toInt ∧ my.toInt ≤ 200) (h2 : -20 ≤ sy.toInt ∧ sy.toInt ≤ 20) (h3 : -100 ≤ x.toInt ∧ x.toInt ≤ 100) (h4 : -100 ≤ y.toInt ∧ y.toInt ≤ 100) : -320 ≤ (plY my sy x y q).toInt ∧ (plY my sy x y q).toInt ≤ 320 := by
  have nx : (-x).toInt = -x.toInt := tN rfl (by omega)
  have ny : (-y).toInt = -y.toInt := tN rfl (by omega)
  unfold plY
  generalize hw : (if q = 0 then y else if q = 1 then x else if q = 2 then -y else -x) = w
  have bw : -100 ≤ w.toInt ∧ w.toInt ≤ 100 := by
    rw [← hw]
    split
    · omega
    · split
      · omega
      · split <;> omega
  rw [tA (tA (x := my) (y := w) rfl rfl (by omega)) (y := sy) rfl (by omega)]
  omega
theorem e_bd {mx my sx sy la lb fl : Int32} {ns : Nat} {sx0 sy0 sx1 sy1 : Nat → Int32} {k : Nat} {e q : Int32} (hc : cellOK mx my sx sy la lb fl) (hs : seamsOK ns sx0 sy0 sx1 sy1) (hk : k < ns) : (-320 ≤ (eX sx0 sy0 sx1 sy1 mx sx k e q).toInt ∧ (eX sx0 sy0 sx1 sy1 mx sx k e q).toInt ≤ 320) ∧ (-320 ≤ (eY sx0 sy0 sx1 sy1 my sy k e q).toInt ∧ (eY sx0 sy0 sx1 sy1 my sy k e q).toInt ≤ 320) := by
  obtain ⟨c1, c2, c3, c4, -, -⟩ := hc
  obtain ⟨s1, s2, s3, s4⟩ := hs.2 k hk
  unfold eX eY
  split
  · exact ⟨plX_bd c1 c3 s1 s2, plY_bd c2 c4 s1 s2⟩
  · exact ⟨plX_bd c1 c3 s3 s4, plY_bd c2 c4 s3 s4⟩
theorem e_pt {mx my sx sy la lb fl : Int32} {ns : Nat} {sx0 sy0 sx1 sy1 : Nat → Int32} {k : Nat} {e q : Int32} (hc : cellOK mx my sx sy la lb fl) (hs : seamsOK ns sx0 sy0 sx1 sy1) (hk : k < ns) : ptOK (eX sx0 sy0 sx1 sy1 mx sx k e q) (eY sx0 sy0 sx1 sy1 my sy k e q) := by
  have h := e_bd (e := e) (q := q) hc hs hk
  unfold ptOK
  omega
theorem s_lacksAt {mx my sx sy la lb fl : Int32} {nb ns : Nat} {bX0 bY0 bX1 bY1 sx0 sy0 sx1 sy1 : Nat → Int32} {bc s q : Int32} {k : Nat} {post : Int32 → Prop} (hc : cellOK mx my sx sy la lb fl) (hb : barsOK nb bX0 bY0 bX1 bY1) (hbc : bc.toInt = (nb : Int)) (hs : seamsOK ns sx0 sy0 sx1 sy1) (hk : k < ns) (hsk : s.toInt = (k : Int)) (h : post (lackV mx my sx sy la lb fl nb bX0 bY0 bX1 bY1 sx0 sy0 sx1 sy1 k q)) : wp_Part_lacksAt mx my sx sy la lb fl bc bX0 bY0 bX1 bY1 sx0 sy0 sx1 sy1 s q post := by
  have hk8 : k < 8 := by have := hs.1; omega
  unfold wp_Part_lacksAt
  refine s_endX hsk hk8 (s_endY hsk hk8 (s_endX hsk hk8 (s_endY hsk hk8 ?_)))
  have p0 := e_pt (e := 0) (q := q) hc hs hk
  have p1 := e_pt (e := 1) (q := q) hc hs hk
  unfold lackV at h
  refine s_isWithin hc.2.2.2.2.1 p0 p1 (fun w => ⟨fun _ => ?_, fun z => absurd z (by decide)⟩) (fun w => ⟨fun z => absurd rfl z, fun _ x7 e7 => ?_⟩)
  · rw [show pif (gW mx my sx sy la lb fl nb bX0 bY0 bX1 bY1 sx0 sy0 sx1 sy1 k q) 0 1 = 0 from pif_pos w] at h
    refine s_isFree hb hbc p0 p1 (fun f => ⟨fun _ => ?_, fun z => absurd z (by decide)⟩) (fun f => ⟨fun z => absurd rfl z, fun _ x8 e8 => ?_⟩)
    · rw [show pif (gF mx my sx sy la lb fl nb bX0 bY0 bX1 bY1 sx0 sy0 sx1 sy1 k q) 0 2 = 0 from pif_pos f] at h
      refine s_isFlat (fun g => ⟨fun _ => ?_, fun z => absurd z (by decide)⟩) (fun g => ⟨fun z => absurd rfl z, fun _ x9 e9 => ?_⟩)
      · rwa [show pif (gL mx my sx sy la lb fl nb bX0 bY0 bX1 bY1 sx0 sy0 sx1 sy1 k q) 0 4 = 0 from pif_pos g] at h
      · rw [show pif (gL mx my sx sy la lb fl nb bX0 bY0 bX1 bY1 sx0 sy0 sx1 sy1 k q) 0 4 = 4 from pif_neg g] at h; rw [e9]; exact h
    · rw [show pif (gF mx my sx sy la lb fl nb bX0 bY0 bX1 bY1 sx0 sy0 sx1 sy1 k q) 0 2 = 2 from pif_neg f] at h
      refine s_isFlat (fun g => ⟨fun _ => ?_, fun z => absurd z (by decide)⟩) (fun g => ⟨fun z => absurd rfl z, fun _ x9 e9 => ?_⟩)
      · rw [show pif (gL mx my sx sy la lb fl nb bX0 bY0 bX1 bY1 sx0 sy0 sx1 sy1 k q) 0 4 = 0 from pif_pos g] at h; rw [e8]; exact h
      · rw [show pif (gL mx my sx sy la lb fl nb bX0 bY0 bX1 bY1 sx0 sy0 sx1 sy1 k q) 0 4 = 4 from pif_neg g] at h; rw [e9, e8]; exact h
  · rw [show pif (gW mx my sx sy la lb fl nb bX0 bY0 bX1 bY1 sx0 sy0 sx1 sy1 k q) 0 1 = 1 from pif_neg w] at h
    refine s_isFree hb hbc p0 p1 (fun f => ⟨fun _ => ?_, fun z => absurd z (by decide)⟩) (fun f => ⟨fun z => absurd rfl z, fun _ x8 e8 => ?_⟩)
    · rw [show pif (gF mx my sx sy la lb fl nb bX0 bY0 bX1 bY1 sx0 sy0 sx1 sy1 k q) 0 2 = 0 from pif_pos f] at h
      refine s_isFlat (fun g => ⟨fun _ => ?_, fun z => absurd z (by decide)⟩) (fun g => ⟨fun z => absurd rfl z, fun _ x9 e9 => ?_⟩)
      · rw [show pif (gL mx my sx sy la lb fl nb bX0 bY0 bX1 bY1 sx0 sy0 sx1 sy1 k q) 0 4 = 0 from pif_pos g] at h; rw [e7]; exact h
      · rw [show pif (gL mx my sx sy la lb fl nb bX0 bY0 bX1 bY1 sx0 sy0 sx1 sy1 k q) 0 4 = 4 from pif_neg g] at h; rw [e9, e7]; exact h
    · rw [show pif (gF mx my sx sy la lb fl nb bX0 bY0 bX1 bY1 sx0 sy0 sx1 sy1 k q) 0 2 = 2 from pif_neg f] at h
      refine s_isFlat (fun g => ⟨fun _ => ?_, fun z => absurd z (by decide)⟩) (fun g => ⟨fun z => absurd rfl z, fun _ x9 e9 => ?_⟩)
      · rw [show pif (gL mx my sx sy la lb fl nb bX0 bY0 bX1 bY1 sx0 sy0 sx1 sy1 k q) 0 4 = 0 from pif_pos g] at h; rw [e8, e7]; exact h
      · rw [show pif (gL mx my sx sy la lb fl nb bX0 bY0 bX1 bY1 sx0 sy0 sx1 sy1 k q) 0 4 = 4 from pif_neg g] at h; rw [e9, e8, e7]; exact h
theorem s_lacking {mx my sx sy la lb fl : Int32} {nb ns : Nat} {bX0 bY0 bX1 bY1 sx0 sy0 sx1 sy1 : Nat → Int32} {bars seams : Nat → Int32} {bc s q : Int32} {lu ld hu hd : Int64} {k : Nat} {post : Int32 → Int64 → Int64 → Int64 → Int64 → Prop} (hc : cellOK mx my sx sy la lb fl) (hb : barsOK nb bX0 bY0 bX1 bY1) (hbm : barsM nb bars bX0 bY0 bX1 bY1) (hbc : bc.toInt = (nb : Int)) (hs : seamsOK ns sx0 sy0 sx1 sy1) (hsm : seamsM ns seams sx0 sy0 sx1 sy1) (hk : k < ns) (hsk : s.toInt = (k : Int)) (h : ∀ a b c d, post (lackV mx my sx sy la lb fl nb bX0 bY0 bX1 bY1 sx0 sy0 sx1 sy1 k q) a b c d) : wp_Model_lacking mx my la lb fl bc lu ld hu hd sx sy bars seams s q post := by
  have h8 := hs.1
  have hfl : ∀ (w v : Int32) (a b c d : Int64), w + v = pif (gW mx my sx sy la lb fl nb bX0 bY0 bX1 bY1 sx0 sy0 sx1 sy1 k q) 0 1 + pif (gF mx my sx sy la lb fl nb bX0 bY0 bX1 bY1 sx0 sy0 sx1 sy1 k q) 0 2 → wp_Model_lacking_j81_18 fl post (eX sx0 sy0 sx1 sy1 mx sx k 0 q) (eY sx0 sy0 sx1 sy1 my sy k 0 q) (eX sx0 sy0 sx1 sy1 mx sx k 1 q) (eY sx0 sy0 sx1 sy1 my sy k 1 q) w a b c d v := by
    intro w v a b c d hw
    unfold wp_Model_lacking_j81_18
    intro x7 e7
    refine s_size (s_size ⟨fun c' x8 e8 => ?_, fun c' x8 e8 => ?_⟩)
    · have := h a b c d
      unfold lackV at this
      rw [show pif (gL mx my sx sy la lb fl nb bX0 bY0 bX1 bY1 sx0 sy0 sx1 sy1 k q) 0 4 = 4 from pif_neg (fun g => g c'), ← hw, ← e7] at this
      rw [e8]; exact this
    · have := h a b c d
      unfold lackV at this
      rw [show pif (gL mx my sx sy la lb fl nb bX0 bY0 bX1 bY1 sx0 sy0 sx1 sy1 k q) 0 4 = 0 from pif_pos c', ← hw, ← e7] at this
      rw [e8]; exact this
  unfold wp_Model_lacking
  refine s_placeOf hsm hsk hk h8 (Or.inl rfl) (fun _ => ?_) (fun z => absurd rfl z)
  refine s_placeOf hsm hsk hk h8 (Or.inl rfl) (fun z => absurd z (by decide)) (fun _ => ?_)
  refine s_placeOf hsm hsk hk h8 (Or.inr rfl) (fun _ => ?_) (fun z => absurd rfl z)
  refine s_placeOf hsm hsk hk h8 (Or.inr rfl) (fun z => absurd z (by decide)) (fun _ => ?_)
  have p0 := e_pt (e := 0) (q := q) hc hs hk
  have p1 := e_pt (e := 1) (q := q) hc hs hk
  refine s_misWithin hc.2.2.2.2.1 p0 p1 (fun w => ⟨fun z => absurd z (by decide), fun _ => ?_⟩) (fun w => ⟨fun _ => ?_, fun z => absurd rfl z⟩)
  · unfold wp_Model_lacking_j58_19
    refine s_misFree hb hbm hbc p0 p1 (fun f a b c d => ⟨fun z => absurd z (by decide), fun _ => ?_⟩) (fun f a b c d => ⟨fun _ => ?_, fun z => absurd rfl z⟩)
    · exact hfl _ _ _ _ _ _ (by rw [show pif (gW mx my sx sy la lb fl nb bX0 bY0 bX1 bY1 sx0 sy0 sx1 sy1 k q) 0 1 = 0 from pif_pos w, show pif (gF mx my sx sy la lb fl nb bX0 bY0 bX1 bY1 sx0 sy0 sx1 sy1 k q) 0 2 = 0 from pif_pos f])
    · exact hfl _ _ _ _ _ _ (by rw [show pif (gW mx my sx sy la lb fl nb bX0 bY0 bX1 bY1 sx0 sy0 sx1 sy1 k q) 0 1 = 0 from pif_pos w, show pif (gF mx my sx sy la lb fl nb bX0 bY0 bX1 bY1 sx0 sy0 sx1 sy1 k q) 0 2 = 2 from pif_neg f])
  · unfold wp_Model_lacking_j58_19
    refine s_misFree hb hbm hbc p0 p1 (fun f a b c d => ⟨fun z => absurd z (by decide), fun _ => ?_⟩) (fun f a b c d => ⟨fun _ => ?_, fun z => absurd rfl z⟩)
    · exact hfl _ _ _ _ _ _ (by rw [show pif (gW mx my sx sy la lb fl nb bX0 bY0 bX1 bY1 sx0 sy0 sx1 sy1 k q) 0 1 = 1 from pif_neg w, show pif (gF mx my sx sy la lb fl nb bX0 bY0 bX1 bY1 sx0 sy0 sx1 sy1 k q) 0 2 = 0 from pif_pos f])
    · exact hfl _ _ _ _ _ _ (by rw [show pif (gW mx my sx sy la lb fl nb bX0 bY0 bX1 bY1 sx0 sy0 sx1 sy1 k q) 0 1 = 1 from pif_neg w, show pif (gF mx my sx sy la lb fl nb bX0 bY0 bX1 bY1 sx0 sy0 sx1 sy1 k q) 0 2 = 2 from pif_neg f])
/-- the first of j, j + 1 .. (n of them) where f is 0 -/
def qtG (f : Nat → Int32) : Nat → Nat → Int32
  | 0, _ => -6
  | n + 1, j => if f j = 0 then nI j else qtG f n (j + 1)
noncomputable def qtV (mx my sx sy la lb fl : Int32) (nb : Nat) (bX0 bY0 bX1 bY1 sx0 sy0 sx1 sy1 : Nat → Int32) (k : Nat) : Int32 := qtG (fun j => lackV mx my sx sy la lb fl nb bX0 bY0 bX1 bY1 sx0 sy0 sx1 sy1 k (nI j)) 4 0
theorem qtG_cases (f : Nat → Int32) : ∀ n j : Nat, qtG f n j = -6 ∨ ∃ i, j ≤ i ∧ i < j + n ∧ qtG f n j = nI i
  | 0, _ => Or.inl rfl
  | n + 1, j => by
    unfold qtG
    split
    · exact Or.inr ⟨j, by omega, by omega, rfl⟩
    · rcases qtG_cases f n (j + 1) with h | ⟨i, h1, h2, h3⟩
      · exact Or.inl h
      · exact Or.inr ⟨i, by omega, by omega, h3⟩
theorem s_quarterOf {mx my sx sy la lb fl : Int32} {nb ns : Nat} {bX0 bY0 bX1 bY1 sx0 sy0 sx1 sy1 : Nat → Int32} {bc s : Int32} {k : Nat} {post : Int32 → Prop} (hc : cellOK mx my sx sy la lb fl) (hb : barsOK nb bX0 bY0 bX1 bY1) (hbc : bc.toInt = (nb : Int)) (hs : seamsOK ns sx0 sy0 sx1 sy1) (hk : k < ns) (hsk : s.toInt = (k : Int)) (h : post (qtV mx my sx sy la lb fl nb bX0 bY0 bX1 bY1 sx0 sy0 sx1 sy1 k)) : wp_Part_quarterOf mx my sx sy la lb fl bc bX0 bY0 bX1 bY1 sx0 sy0 sx1 sy1 s post := by
  unfold wp_Part_quarterOf
  refine ⟨5, ?_⟩
  have key : ∀ (n j : Nat), j + n = 4 → post (qtG (fun j => lackV mx my sx sy la lb fl nb bX0 bY0 bX1 bY1 sx0 sy0 sx1 sy1 k (nI j)) n j) → wpL_Part_quarterOf_2 mx my sx sy la lb fl bc bX0 bY0 bX1 bY1 sx0 sy0 sx1 sy1 s post (n + 1) (nI j) := by
    intro n
    induction n with
    | zero =>
      intro j hj hp
      show wpB_Part_quarterOf_2 mx my sx sy la lb fl bc bX0 bY0 bX1 bY1 sx0 sy0 sx1 sy1 s post (wpL_Part_quarterOf_2 mx my sx sy la lb fl bc bX0 bY0 bX1 bY1 sx0 sy0 sx1 sy1 s post 0) (nI j)
      unfold wpB_Part_quarterOf_2
      rw [show j = 4 by omega]
      exact ⟨fun _ => hp, fun z => absurd (by decide) z⟩
    | succ n ih =>
      intro j hj hp
      show wpB_Part_quarterOf_2 mx my sx sy la lb fl bc bX0 bY0 bX1 bY1 sx0 sy0 sx1 sy1 s post (wpL_Part_quarterOf_2 mx my sx sy la lb fl bc bX0 bY0 bX1 bY1 sx0 sy0 sx1 sy1 s post (n + 1)) (nI j)
      unfold wpB_Part_quarterOf_2
      have h4 : (4 : Int32).toInt = 4 := rfl
      rw [i_le h4 (nI_t (show j < 2147483648 by omega))]
      refine ⟨fun z => absurd z (by omega), fun _ => s_lacksAt hc hb hbc hs hk hsk ?_⟩
      unfold qtG at hp
      refine ⟨fun z x5 e5 => ?_, fun z => ?_⟩
      · rw [if_neg z] at hp
        rw [e5, nI_1]
        exact ih (j + 1) (by omega) hp
      · rwa [if_pos z] at hp
  exact key 4 0 rfl h
theorem s_mquarterOf {mx my sx sy la lb fl : Int32} {nb ns : Nat} {bX0 bY0 bX1 bY1 sx0 sy0 sx1 sy1 : Nat → Int32} {bars seams : Nat → Int32} {bc s : Int32} {lu ld hu hd : Int64} {k : Nat} {post : Int32 → Int64 → Int64 → Int64 → Int64 → Prop} (hc : cellOK mx my sx sy la lb fl) (hb : barsOK nb bX0 bY0 bX1 bY1) (hbm : barsM nb bars bX0 bY0 bX1 bY1) (hbc : bc.toInt = (nb : Int)) (hs : seamsOK ns sx0 sy0 sx1 sy1) (hsm : seamsM ns seams sx0 sy0 sx1 sy1) (hk : k < ns) (hsk : s.toInt = (k : Int)) (h : ∀ a b c d, post (qtV mx my sx sy la lb fl nb bX0 bY0 bX1 bY1 sx0 sy0 sx1 sy1 k) a b c d) : wp_Model_quarterOf mx my la lb fl bc lu ld hu hd sx sy bars seams s post := by
  unfold wp_Model_quarterOf
  refine ⟨5, ?_⟩
  have key : ∀ (n j : Nat) (a b c d : Int64), j + n = 4 → (∀ a b c d, post (qtG (fun j => lackV mx my sx sy la lb fl nb bX0 bY0 bX1 bY1 sx0 sy0 sx1 sy1 k (nI j)) n j) a b c d) → wpL_Model_quarterOf_2 mx my la lb fl bc sx sy bars seams s post (n + 1) a b c d (nI j) := by
    intro n
    induction n with
    | zero =>
      intro j a b c d hj hp
      show wpB_Model_quarterOf_2 mx my la lb fl bc sx sy bars seams s post (wpL_Model_quarterOf_2 mx my la lb fl bc sx sy bars seams s post 0) a b c d (nI j)
      unfold wpB_Model_quarterOf_2
      rw [show j = 4 by omega]
      exact ⟨fun _ => hp _ _ _ _, fun z => absurd (by decide) z⟩
    | succ n ih =>
      intro j a b c d hj hp
      show wpB_Model_quarterOf_2 mx my la lb fl bc sx sy bars seams s post (wpL_Model_quarterOf_2 mx my la lb fl bc sx sy bars seams s post (n + 1)) a b c d (nI j)
      unfold wpB_Model_quarterOf_2
      have h4 : (4 : Int32).toInt = 4 := rfl
      rw [i_le h4 (nI_t (show j < 2147483648 by omega))]
      refine ⟨fun z => absurd z (by omega), fun _ => s_lacking hc hb hbm hbc hs hsm hk hsk (fun a b c d => ?_)⟩
      unfold qtG at hp
      refine ⟨fun z x5 e5 => ?_, fun z => ?_⟩
      · rw [if_neg z] at hp
        rw [e5, nI_1]
        exact ih (j + 1) _ _ _ _ (by omega) hp
      · rw [if_pos z] at hp; exact hp _ _ _ _
  exact key 4 0 _ _ _ _ rfl h
