/-! the reference's free, places, lacks and quarters, of both -/
def barsM (nb : Nat) (bars bX0 bY0 bX1 bY1 : Nat → Int32) : Prop := ∀ k, k < nb → bars (4 * k) = bX0 k ∧ bars (4 * k + 1) = bY0 k ∧ bars (4 * k + 2) = bX1 k ∧ bars (4 * k + 3) = bY1 k
theorem s_misFree {nb : Nat} {bc : Int32} {lu ld hu hd : Int64} {bars bX0 bY0 bX1 bY1 : Nat → Int32} {x0 y0 x1 y1 : Int32} {post : Int32 → Int64 → Int64 → Int64 → Int64 → Prop} (hb : barsOK nb bX0 bY0 bX1 bY1) (hm : barsM nb bars bX0 bY0 bX1 bY1) (hc : bc.toInt = (nb : Int)) (h0 : ptOK x0 y0) (h1 : ptOK x1 y1)
    (k1 : freeP nb bX0 bY0 bX1 bY1 x0 y0 x1 y1 → ∀ a b c d, post 1 a b c d) (k0 : ¬ freeP nb bX0 bY0 bX1 bY1 x0 y0 x1 y1 → ∀ a b c d, post 0 a b c d) : wp_Model_isFree bc lu ld hu hd bars x0 y0 x1 y1 post := by
  unfold wp_Model_isFree
  refine ⟨nb + 1, ?_⟩
  have key : ∀ (n j : Nat) (x f : Int32) (a b c d : Int64), x.toInt = (j : Int) → j ≤ nb → nb + 1 ≤ j + n → ((f = 1 ∧ ∀ k, k < j → ¬ entP (bX0 k).toInt (bY0 k).toInt (bX1 k).toInt (bY1 k).toInt x0.toInt y0.toInt x1.toInt y1.toInt) ∨ (f = 0 ∧ ¬ freeP nb bX0 bY0 bX1 bY1 x0 y0 x1 y1)) → wpL_Model_isFree_6 bc bars x0 y0 x1 y1 post n a b c d f x := by
    intro n
    induction n with
    | zero => intro j x f a b c d _ h2 h3; omega
    | succ n ih =>
      intro j x f a b c d hx hj hn hall
      show wpB_Model_isFree_6 bc bars x0 y0 x1 y1 post (wpL_Model_isFree_6 bc bars x0 y0 x1 y1 post n) a b c d f x
      unfold wpB_Model_isFree_6
      rw [i_le hc hx]
      rcases hall with ⟨rfl, hall⟩ | ⟨rfl, hnf⟩
      · refine ⟨fun c' => ⟨Or.inr rfl, k1 (fun k hk => hall k (by omega)) _ _ _ _⟩, fun c' => ⟨fun q => absurd q (by decide), fun _ => ?_⟩⟩
        have hjn : j < nb := by omega
        obtain ⟨r0, r1, r2, r3, r4, r5⟩ := hb.2 j hjn
        obtain ⟨m0, m1, m2, m3⟩ := hm j hjn
        have h4 := hb.1
        refine s_goesThrough hx (by omega) h0 h1 (by rw [m0]; exact r0) (by rw [m1]; exact r1) (by rw [m2]; exact r2) (by rw [m3]; exact r3) (by rw [m0, m2]; exact r4) (by rw [m1, m3]; exact r5) (fun hE a b c d => ?_) (fun hE a b c d => ?_)
        · rw [m0, m1, m2, m3] at hE
          exact ⟨fun _ x5 e5 => ih (j + 1) x5 0 _ _ _ _ (by rw [e5]; exact inc_t hx (by omega)) (by omega) (by omega) (Or.inr ⟨rfl, fun hf => hf j hjn hE⟩), fun q => absurd q (by decide)⟩
        · rw [m0, m1, m2, m3] at hE
          refine ⟨fun q => absurd rfl q, fun _ x5 e5 => ih (j + 1) x5 1 _ _ _ _ (by rw [e5]; exact inc_t hx (by omega)) (by omega) (by omega) (Or.inl ⟨rfl, fun k hk => ?_⟩)⟩
          rcases Nat.lt_or_ge k j with q | q
          · exact hall k q
          · rw [show k = j by omega]; exact hE
      · exact ⟨fun c' => ⟨Or.inl rfl, k0 hnf _ _ _ _⟩, fun c' => ⟨fun _ => ⟨Or.inl rfl, k0 hnf _ _ _ _⟩, fun q => absurd rfl q⟩⟩
  exact key (nb + 1) 0 0 1 _ _ _ _ rfl (by omega) (by omega) (Or.inl ⟨rfl, fun k hk => by omega⟩)
/-- a place in the cell -/
def plX (mx sx x y q : Int32) : Int32 := (mx + (if q = 0 then x else if q = 1 then -y else if q = 2 then -x else y)) + sx
def plY (my sy x y q : Int32) : Int32 := (my + (if q = 0 then y else if q = 1 then x else if q = 2 then -y else -x)) + sy
theorem s_xOf {mx sx x y q : Int32} {post : Int32 → Prop} (h : post (plX mx sx x y q)) : wp_Cell_xOf mx sx x y q post := by
  unfold wp_Cell_xOf
  unfold plX at h
  refine ⟨fun c => ⟨fun c1 => ⟨fun c2 => ?_, fun c2 x4 e4 => ?_⟩, fun c1 x4 e4 => ?_⟩, fun c => ?_⟩
  · rwa [if_neg c, if_neg c1, if_neg c2] at h
  · rw [if_neg c, if_neg c1, if_pos c2] at h; rw [e4]; exact h
  · rw [if_neg c, if_pos c1] at h; rw [e4]; exact h
  · rwa [if_pos c] at h
theorem s_yOf {my sy x y q : Int32} {post : Int32 → Prop} (h : post (plY my sy x y q)) : wp_Cell_yOf my sy x y q post := by
  unfold wp_Cell_yOf
  unfold plY at h
  refine ⟨fun c => ⟨fun c1 => ⟨fun c2 x4 e4 => ?_, fun c2 x4 e4 => ?_⟩, fun c1 => ?_⟩, fun c => ?_⟩
  · rw [if_neg c, if_neg c1, if_neg c2] at h; rw [e4]; exact h
  · rw [if_neg c, if_neg c1, if_pos c2] at h; rw [e4]; exact h
  · rwa [if_neg c, if_pos c1] at h
  · rwa [if_pos c] at h
def seamsOK (ns : Nat) (sx0 sy0 sx1 sy1 : Nat → Int32) : Prop := ns ≤ 8 ∧ ∀ k, k < ns → (-100 ≤ (sx0 k).toInt ∧ (sx0 k).toInt ≤ 100) ∧ (-100 ≤ (sy0 k).toInt ∧ (sy0 k).toInt ≤ 100) ∧ (-100 ≤ (sx1 k).toInt ∧ (sx1 k).toInt ≤ 100) ∧ (-100 ≤ (sy1 k).toInt ∧ (sy1 k).toInt ≤ 100)
def seamsM (ns : Nat) (seams sx0 sy0 sx1 sy1 : Nat → Int32) : Prop := ∀ k, k < ns → seams (6 * k) = sx0 k ∧ seams (6 * k + 1) = sy0 k ∧ seams (6 * k + 2) = sx1 k ∧ seams (6 * k + 3) = sy1 k
/-- the two ends: 0 the first one, else the last one -/
def eX (sx0 sy0 sx1 sy1 : Nat → Int32) (mx sx : Int32) (k : Nat) (e q : Int32) : Int32 := if e = 0 then plX mx sx (sx0 k) (sy0 k) q else plX mx sx (sx1 k) (sy1 k) q
def eY (sx0 sy0 sx1 sy1 : Nat → Int32) (my sy : Int32) (k : Nat) (e q : Int32) : Int32 := if e = 0 then plY my sy (sx0 k) (sy0 k) q else plY my sy (sx1 k) (sy1 k) q
theorem s_endX {sx0 sy0 sx1 sy1 : Nat → Int32} {mx sx s e q : Int32} {k : Nat} {post : Int32 → Prop} (hs : s.toInt = (k : Int)) (hk : k < 8) (h : post (eX sx0 sy0 sx1 sy1 mx sx k e q)) : wp_Part_endX mx sx sx0 sy0 sx1 sy1 s e q post := by
  unfold wp_Part_endX
  rw [cl_t hs]
  unfold eX at h
  refine ⟨vp_t hs hk, fun c => ?_, fun c => ?_⟩
  · rw [if_neg c] at h; exact s_xOf h
  · rw [if_pos c] at h; exact s_xOf h
theorem s_endY {sx0 sy0 sx1 sy1 : Nat → Int32} {my sy s e q : Int32} {k : Nat} {post : Int32 → Prop} (hs : s.toInt = (k : Int)) (hk : k < 8) (h : post (eY sx0 sy0 sx1 sy1 my sy k e q)) : wp_Part_endY my sy sx0 sy0 sx1 sy1 s e q post := by
  unfold wp_Part_endY
  rw [cl_t hs]
  unfold eY at h
  refine ⟨vp_t hs hk, fun c => ?_, fun c => ?_⟩
  · rw [if_neg c] at h; exact s_yOf h
  · rw [if_pos c] at h; exact s_yOf h
theorem s_placeOf {ns : Nat} {seams sx0 sy0 sx1 sy1 : Nat → Int32} {mx my sx sy s e q ax : Int32} {k : Nat} {post : Int32 → Prop} (hm : seamsM ns seams sx0 sy0 sx1 sy1) (hs : s.toInt = (k : Int)) (hk : k < ns) (hn : ns ≤ 8) (he : e = 0 ∨ e = 1)
    (h0 : ax = 0 → post (eX sx0 sy0 sx1 sy1 mx sx k e q)) (h1 : ¬ ax = 0 → post (eY sx0 sy0 sx1 sy1 my sy k e q)) : wp_Model_placeOf mx my sx sy seams s e q ax post := by
  unfold wp_Model_placeOf
  obtain ⟨m0, m1, m2, m3⟩ := hm k hk
  have c6 : (6 : Int32).toInt = 6 := rfl
  have c2 : (2 : Int32).toInt = 2 := rfl
  have c1 : (1 : Int32).toInt = 1 := rfl
  obtain ⟨z, hz, ez, vx, vy⟩ : ∃ z : Nat, e.toInt = (z : Int) ∧ z ≤ 1 ∧ seams (6 * k + 2 * z) = (if e = 0 then sx0 k else sx1 k) ∧ seams (6 * k + 2 * z + 1) = (if e = 0 then sy0 k else sy1 k) := by
    rcases he with rfl | rfl
    · exact ⟨0, rfl, by omega, by rw [if_pos rfl]; exact m0, by rw [if_pos rfl]; exact m1⟩
    · exact ⟨1, rfl, by omega, by rw [if_neg (by decide)]; exact m2, by rw [if_neg (by decide)]; exact m3⟩
  have i0 : ((6 : Int32) * s + (2 : Int32) * e).toInt = ((6 * k + 2 * z : Nat) : Int) := by rw [tA (tM c6 hs (by omega)) (tM c2 hz (by omega)) (by omega)]; omega
  have i1 : ((6 : Int32) * s + (2 : Int32) * e + (1 : Int32)).toInt = ((6 * k + 2 * z + 1 : Nat) : Int) := by rw [tA i0 c1 (by omega)]; omega
  rw [cl_t i0, cl_t i1, vx, vy]
  refine ⟨vp_t i0 (by omega), fun x5 e5 => ⟨vp_t i1 (by omega), fun x6 e6 => ?_⟩⟩
  have h0' : ax = 0 → post (plX mx sx x5 x6 q) := by
    intro c
    have := h0 c
    unfold eX at this
    rw [e5, e6]
    rcases he with rfl | rfl
    · exact this
    · exact this
  have h1' : ¬ ax = 0 → post (plY my sy x5 x6 q) := by
    intro c
    have := h1 c
    unfold eY at this
    rw [e5, e6]
    rcases he with rfl | rfl
    · exact this
    · exact this
  unfold plX at h0'
  unfold plY at h1'
  unfold wp_Model_placeOf_j65_8 wp_Model_placeOf_j100_5
  refine ⟨fun c => ⟨fun c1 => ⟨fun c2 => ?_, fun c2 => ?_⟩, fun c1 => ?_⟩, fun c => ?_⟩
  · rw [if_neg c, if_neg c1, if_neg c2] at h0' h1'
    exact ⟨fun _ => ⟨fun _ => ⟨fun _ => ⟨h1', h0'⟩, fun q => absurd q c2⟩, fun q => absurd q c1⟩, fun q => absurd q c⟩
  · rw [if_neg c, if_neg c1, if_pos c2] at h0' h1'
    exact ⟨fun _ => ⟨fun _ => ⟨fun q => absurd c2 q, fun _ => ⟨h1', h0'⟩⟩, fun q => absurd q c1⟩, fun q => absurd q c⟩
  · rw [if_neg c, if_pos c1] at h0' h1'
    exact ⟨fun _ => ⟨fun q => absurd c1 q, fun _ => ⟨h1', h0'⟩⟩, fun q => absurd q c⟩
  · rw [if_pos c] at h0' h1'
    exact ⟨fun q => absurd c q, fun _ => ⟨h1', h0'⟩⟩
