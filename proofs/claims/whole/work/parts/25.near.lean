/-! lengths, times, near -/
def rtG (N : Int) : Nat → Nat → Nat
  | 0, j => j
  | n + 1, j => if N ≤ (j : Int) * (j : Int) then j else rtG N n (j + 1)
theorem rtG_le (N : Int) : ∀ n j : Nat, rtG N n j ≤ j + n
  | 0, j => Nat.le_refl _
  | n + 1, j => by
    unfold rtG
    split
    · omega
    · have := rtG_le N n (j + 1); omega
theorem s_rootUp {x : Int32} {N : Int} {post : Int32 → Prop} (hx : x.toInt = N) (h : post (nI (rtG N 300 0))) : wp_SeamCell_rootUp x post := by
  unfold wp_SeamCell_rootUp
  refine ⟨301, ?_⟩
  have key : ∀ (n j : Nat), j + n = 300 → post (nI (rtG N n j)) → wpL_SeamCell_rootUp_2 x post (n + 1) (nI j) := by
    intro n
    induction n with
    | zero =>
      intro j hj hp
      show wpB_SeamCell_rootUp_2 x post (wpL_SeamCell_rootUp_2 x post 0) (nI j)
      unfold wpB_SeamCell_rootUp_2
      rw [show j = 300 by omega] at *
      exact ⟨fun _ => hp, fun z => absurd (by decide) z⟩
    | succ n ih =>
      intro j hj hp
      show wpB_SeamCell_rootUp_2 x post (wpL_SeamCell_rootUp_2 x post (n + 1)) (nI j)
      unfold wpB_SeamCell_rootUp_2
      have h4 : (300 : Int32).toInt = 300 := rfl
      have tj := nI_t (show j < 2147483648 by omega)
      rw [i_le h4 tj]
      refine ⟨fun z => absurd z (by omega), fun _ => s_square.mpr ?_⟩
      rw [i_le hx (tSq tj (by omega) (by omega))]
      unfold rtG at hp
      refine ⟨fun z => ?_, fun z x5 e5 => ?_⟩
      · rwa [if_pos z] at hp
      · rw [if_neg z] at hp
        rw [e5, nI_1]
        exact ih (j + 1) (by omega) hp
  exact key 300 0 rfl h
theorem s_mroot {r : Int64} {N : Int} {post : Int32 → Prop} (hr : r.toInt = N) (hN : N ≤ 90000) (h : post (nI (rtG N 300 0))) : ∃ n : Nat, wpL_Model_lengthOf_46 post r n (0 : Int32) := by
  refine ⟨301, ?_⟩
  have key : ∀ (n j : Nat), j + n = 300 → post (nI (rtG N n j)) → wpL_Model_lengthOf_46 post r (n + 1) (nI j) := by
    intro n
    induction n with
    | zero =>
      intro j hj hp
      show wpB_Model_lengthOf_46 post r (wpL_Model_lengthOf_46 post r 0) (nI j)
      unfold wpB_Model_lengthOf_46
      rw [show j = 300 by omega] at *
      rw [lc_ge, hr]
      exact ⟨fun _ => hp, fun z => absurd (show N ≤ ((nI 300).toInt64 * (nI 300).toInt64).toInt from hN) z⟩
    | succ n ih =>
      intro j hj hp
      show wpB_Model_lengthOf_46 post r (wpL_Model_lengthOf_46 post r (n + 1)) (nI j)
      unfold wpB_Model_lengthOf_46
      have tj := nI_t (show j < 2147483648 by omega)
      have bj := mul_bd (a := (j : Int)) (b := (j : Int)) 300 300 (by omega) (by omega) (by omega) (by omega)
      rw [lc_ge, hr, tML (tL tj) (tL tj) (by omega)]
      unfold rtG at hp
      refine ⟨fun z => ?_, fun z x5 e5 => ?_⟩
      · rwa [if_pos z] at hp
      · rw [if_neg z] at hp
        rw [e5, nI_1]
        exact ih (j + 1) (by omega) hp
  exact key 300 0 rfl h
def sq2 (x0 y0 x1 y1 : Int32) : Int := (x1.toInt - x0.toInt) * (x1.toInt - x0.toInt) + (y1.toInt - y0.toInt) * (y1.toInt - y0.toInt)
def lenF (x0 y0 x1 y1 : Int32) : Int32 := nI (rtG (sq2 x0 y0 x1 y1) 300 0)
def upF (n d : Int32) : Int32 := ((n + d) - (1 : Int32)) / d
def in100 (x : Int32) : Prop := -100 ≤ x.toInt ∧ x.toInt ≤ 100
theorem sq2_bd {x0 y0 x1 y1 : Int32} (h0 : in100 x0) (h1 : in100 y0) (h2 : in100 x1) (h3 : in100 y1) : 0 ≤ sq2 x0 y0 x1 y1 ∧ sq2 x0 y0 x1 y1 ≤ 80000 := by
  unfold in100 at *
  unfold sq2
  have p1 := mul_bd (a := x1.toInt - x0.toInt) (b := x1.toInt - x0.toInt) 200 200 (by omega) (by omega) (by omega) (by omega)
  have p2 := mul_bd (a := y1.toInt - y0.toInt) (b := y1.toInt - y0.toInt) 200 200 (by omega) (by omega) (by omega) (by omega)
  have p3 := sq_nn (x1.toInt - x0.toInt)
  have p4 := sq_nn (y1.toInt - y0.toInt)
  omega
theorem sq2_32 {x0 y0 x1 y1 : Int32} (h0 : in100 x0) (h1 : in100 y0) (h2 : in100 x1) (h3 : in100 y1) : ((x1 - x0) * (x1 - x0) + (y1 - y0) * (y1 - y0)).toInt = sq2 x0 y0 x1 y1 := by
  have hb := sq2_bd h0 h1 h2 h3
  unfold in100 at *
  unfold sq2 at *
  have tx : (x1 - x0).toInt = x1.toInt - x0.toInt := tS rfl rfl (by omega)
  have ty : (y1 - y0).toInt = y1.toInt - y0.toInt := tS rfl rfl (by omega)
  exact tA (tSq tx (by omega) (by omega)) (tSq ty (by omega) (by omega)) (by omega)
theorem sq2_64 {x0 y0 x1 y1 : Int32} (h0 : in100 x0) (h1 : in100 y0) (h2 : in100 x1) (h3 : in100 y1) : ((x1 - x0).toInt64 * (x1 - x0).toInt64 + (y1 - y0).toInt64 * (y1 - y0).toInt64).toInt = sq2 x0 y0 x1 y1 := by
  have hb := sq2_bd h0 h1 h2 h3
  unfold in100 at *
  unfold sq2 at *
  have tx : (x1 - x0).toInt64.toInt = x1.toInt - x0.toInt := tL (tS rfl rfl (by omega))
  have ty : (y1 - y0).toInt64.toInt = y1.toInt - y0.toInt := tL (tS rfl rfl (by omega))
  have p1 := mul_bd (a := x1.toInt - x0.toInt) (b := x1.toInt - x0.toInt) 200 200 (by omega) (by omega) (by omega) (by omega)
  have p2 := mul_bd (a := y1.toInt - y0.toInt) (b := y1.toInt - y0.toInt) 200 200 (by omega) (by omega) (by omega) (by omega)
  exact tAL (tML tx tx (by omega)) (tML ty ty (by omega)) (by omega)
theorem s_cutUp {n d : Int32} {post : Int32 → Prop} (hd : 1 ≤ d.toInt) (h : post (upF n d)) : wp_SeamCell_cutUp n d post := by
  unfold wp_SeamCell_cutUp
  have c1 : (1 : Int32).toInt = 1 := rfl
  have c0 : (0 : Int32).toInt = 0 := rfl
  rw [i_le c1 rfl, i_eq (x := d) rfl c0]
  exact ⟨fun _ => ⟨by omega, h⟩, fun z => absurd hd z⟩
theorem s_cutDown {n d : Int32} {post : Int32 → Prop} (hd : 1 ≤ d.toInt) (h : post (n / d)) : wp_SeamCell_cutDown n d post := by
  unfold wp_SeamCell_cutDown
  have c1 : (1 : Int32).toInt = 1 := rfl
  have c0 : (0 : Int32).toInt = 0 := rfl
  rw [i_le c1 rfl, i_eq (x := d) rfl c0]
  exact ⟨fun _ => ⟨by omega, h⟩, fun z => absurd hd z⟩
theorem s_up {n d : Int32} {post : Int32 → Prop} (hd : 1 ≤ d.toInt) (h : post (upF n d)) : wp_Model_up n d post := by
  unfold wp_Model_up
  have c0 : (0 : Int32).toInt = 0 := rfl
  rw [i_eq (x := d) rfl c0]
  exact ⟨by omega, h⟩
theorem s_draw {x0 y0 x1 y1 sp ht : Int32} {post : Int32 → Int32 → Int32 → Int32 → Int32 → Int32 → Int32 → Prop} (h0 : in100 x0) (h1 : in100 y0) (h2 : in100 x1) (h3 : in100 y1) (hs : 1 ≤ sp.toInt) (h : post x0 y0 x1 y1 (lenF x0 y0 x1 y1) (upF (lenF x0 y0 x1 y1) sp) ht) : wp_Seam_draw x0 y0 x1 y1 sp ht post := by
  unfold wp_Seam_draw
  simp only [s_square]
  exact s_rootUp (sq2_32 h0 h1 h2 h3) (s_cutUp hs h)
theorem in100_of {ns : Nat} {sx0 sy0 sx1 sy1 : Nat → Int32} (hs : seamsOK ns sx0 sy0 sx1 sy1) {k : Nat} (hk : k < ns) : in100 (sx0 k) ∧ in100 (sy0 k) ∧ in100 (sx1 k) ∧ in100 (sy1 k) := hs.2 k hk
theorem ix6 {s : Int32} {k : Nat} (hs : s.toInt = (k : Int)) (hk : k < 8) (c : Int32) (n : Nat) (hc : c.toInt = (n : Int)) (hn : n < 6) : ((6 : Int32) * s + c).toInt = ((6 * k + n : Nat) : Int) := by
  have c6 : (6 : Int32).toInt = 6 := rfl
  rw [tA (tM c6 hs (by omega)) hc (by omega)]; omega
theorem s_lengthOf {ns : Nat} {seams sx0 sy0 sx1 sy1 : Nat → Int32} {s : Int32} {k : Nat} {post : Int32 → Prop} (hs : seamsOK ns sx0 sy0 sx1 sy1) (hm : seamsM ns seams sx0 sy0 sx1 sy1) (hk : k < ns) (hsk : s.toInt = (k : Int)) (h : post (lenF (sx0 k) (sy0 k) (sx1 k) (sy1 k))) : wp_Model_lengthOf seams s post := by
  unfold wp_Model_lengthOf
  intro x2 e2
  have h8 := hs.1
  obtain ⟨m0, m1, m2, m3⟩ := hm k hk
  obtain ⟨a0, a1, a2, a3⟩ := in100_of hs hk
  have c6 : (6 : Int32).toInt = 6 := rfl
  have t0 : x2.toInt = ((6 * k : Nat) : Int) := by rw [e2, tM c6 hsk (by omega)]; omega
  have t1 := ix6 hsk (by omega) 1 1 rfl (by omega)
  have t2 := ix6 hsk (by omega) 2 2 rfl (by omega)
  have t3 := ix6 hsk (by omega) 3 3 rfl (by omega)
  rw [← e2] at t1 t2 t3
  rw [cl_t t0, cl_t t1, cl_t t2, cl_t t3, m0, m1, m2, m3, s_msquare]
  have hb := sq2_bd a0 a1 a2 a3
  exact ⟨vp_t t2 (by omega), vp_t t0 (by omega), vp_t t3 (by omega), vp_t t1 (by omega), s_mroot (sq2_64 a0 a1 a2 a3) (by omega) h⟩
theorem s_timeOf {ns : Nat} {seams sx0 sy0 sx1 sy1 : Nat → Int32} {s : Int32} {k : Nat} {post : Int32 → Prop} (hs : seamsOK ns sx0 sy0 sx1 sy1) (hm : seamsM ns seams sx0 sy0 sx1 sy1) (hk : k < ns) (hsk : s.toInt = (k : Int)) (hsp : 1 ≤ (seams (6 * k + 4)).toInt) (h : post (upF (lenF (sx0 k) (sy0 k) (sx1 k) (sy1 k)) (seams (6 * k + 4)))) : wp_Model_timeOf seams s post := by
  unfold wp_Model_timeOf
  have h8 := hs.1
  have t4 := ix6 hsk (by omega) 4 4 rfl (by omega)
  refine s_lengthOf hs hm hk hsk ⟨vp_t t4 (by omega), ?_⟩
  rw [cl_t t4]
  exact s_up hsp h
/-- an end of seam a is near to one of seam b -/
def exn (sx0 sx1 : Nat → Int32) (i k : Nat) : Int32 := if i = 0 then sx0 k else sx1 k
def clP (gap : Int32) (sx0 sy0 sx1 sy1 : Nat → Int32) (a b i j : Nat) : Prop := sq2 (exn sx0 sx1 j b) (exn sy0 sy1 j b) (exn sx0 sx1 i a) (exn sy0 sy1 i a) ≤ gap.toInt * gap.toInt
def nearP (gap : Int32) (sx0 sy0 sx1 sy1 : Nat → Int32) (a b : Nat) : Prop := clP gap sx0 sy0 sx1 sy1 a b 0 0 ∨ clP gap sx0 sy0 sx1 sy1 a b 0 1 ∨ clP gap sx0 sy0 sx1 sy1 a b 1 0 ∨ clP gap sx0 sy0 sx1 sy1 a b 1 1
theorem sq2_sym (x0 y0 x1 y1 : Int32) : sq2 x0 y0 x1 y1 = sq2 x1 y1 x0 y0 := by unfold sq2; grind
theorem cl_sym {gap : Int32} {sx0 sy0 sx1 sy1 : Nat → Int32} {a b i j : Nat} : clP gap sx0 sy0 sx1 sy1 a b i j ↔ clP gap sx0 sy0 sx1 sy1 b a j i := by unfold clP; rw [sq2_sym]
theorem near_imp {gap : Int32} {sx0 sy0 sx1 sy1 : Nat → Int32} {a b : Nat} (h : nearP gap sx0 sy0 sx1 sy1 a b) : nearP gap sx0 sy0 sx1 sy1 b a := by
  rcases h with h | h | h | h
  · exact Or.inl (cl_sym.mp h)
  · exact Or.inr (Or.inr (Or.inl (cl_sym.mp h)))
  · exact Or.inr (Or.inl (cl_sym.mp h))
  · exact Or.inr (Or.inr (Or.inr (cl_sym.mp h)))
theorem near_sym {gap : Int32} {sx0 sy0 sx1 sy1 : Nat → Int32} {a b : Nat} : nearP gap sx0 sy0 sx1 sy1 a b ↔ nearP gap sx0 sy0 sx1 sy1 b a := ⟨near_imp, near_imp⟩
def gapOK (gap : Int32) : Prop := 0 ≤ gap.toInt ∧ gap.toInt ≤ 200
theorem s_areClose {gap ax ay bx by' : Int32} {post : Int32 → Prop} (hg : gapOK gap) (h0 : in100 ax) (h1 : in100 ay) (h2 : in100 bx) (h3 : in100 by') (k1 : sq2 bx by' ax ay ≤ gap.toInt * gap.toInt → post 1) (k0 : ¬ sq2 bx by' ax ay ≤ gap.toInt * gap.toInt → post 0) : wp_Part_areClose gap ax ay bx by' post := by
  unfold wp_Part_areClose
  simp only [s_square]
  unfold gapOK at hg
  rw [i_lt (tSq (x := gap) rfl (by omega) (by omega)) (sq2_32 h2 h3 h0 h1)]
  exact ⟨fun c => k0 (by omega), fun c => k1 (by omega)⟩
theorem s_areNear {gap a b : Int32} {ns i j : Nat} {sx0 sy0 sx1 sy1 : Nat → Int32} {post : Int32 → Prop} (hg : gapOK gap) (hs : seamsOK ns sx0 sy0 sx1 sy1) (ha : a.toInt = (i : Int)) (hi : i < ns) (hb : b.toInt = (j : Int)) (hj : j < ns) (k1 : nearP gap sx0 sy0 sx1 sy1 i j → post 1) (k0 : ¬ nearP gap sx0 sy0 sx1 sy1 i j → post 0) : wp_Part_areNear gap sx0 sy0 sx1 sy1 a b post := by
  unfold wp_Part_areNear
  have h8 := hs.1
  rw [cl_t ha, cl_t hb]
  obtain ⟨a0, a1, a2, a3⟩ := in100_of hs hi
  obtain ⟨b0, b1, b2, b3⟩ := in100_of hs hj
  refine ⟨vp_t ha (by omega), vp_t hb (by omega), ?_⟩
  refine s_areClose hg a0 a1 b0 b1 (fun c => ⟨fun _ => k1 (Or.inl c), fun z => absurd z (by decide)⟩) (fun c1 => ⟨fun z => absurd rfl z, fun _ => ?_⟩)
  refine s_areClose hg a0 a1 b2 b3 (fun c => ⟨fun _ => k1 (Or.inr (Or.inl c)), fun z => absurd z (by decide)⟩) (fun c2 => ⟨fun z => absurd rfl z, fun _ => ?_⟩)
  refine s_areClose hg a2 a3 b0 b1 (fun c => ⟨fun _ => k1 (Or.inr (Or.inr (Or.inl c))), fun z => absurd z (by decide)⟩) (fun c3 => ⟨fun z => absurd rfl z, fun _ => ?_⟩)
  refine s_areClose hg a2 a3 b2 b3 (fun c => ⟨fun z => absurd z (by decide), fun _ => k1 (Or.inr (Or.inr (Or.inr c)))⟩) (fun c4 => ⟨fun _ => k0 ?_, fun z => absurd rfl z⟩)
  intro h
  rcases h with h | h | h | h
  · exact c1 h
  · exact c2 h
  · exact c3 h
  · exact c4 h
theorem ix62 {s e : Int32} {k z : Nat} (hs : s.toInt = (k : Int)) (hk : k < 8) (he : e.toInt = (z : Int)) (hz : z < 2) : ((6 : Int32) * s + (2 : Int32) * e).toInt = ((6 * k + 2 * z : Nat) : Int) ∧ ((6 : Int32) * s + (2 : Int32) * e + (1 : Int32)).toInt = ((6 * k + 2 * z + 1 : Nat) : Int) := by
  have c6 : (6 : Int32).toInt = 6 := rfl
  have c2 : (2 : Int32).toInt = 2 := rfl
  have c1 : (1 : Int32).toInt = 1 := rfl
  have i0 : ((6 : Int32) * s + (2 : Int32) * e).toInt = ((6 * k + 2 * z : Nat) : Int) := by rw [tA (tM c6 hs (by omega)) (tM c2 he (by omega)) (by omega)]; omega
  exact ⟨i0, by rw [tA i0 c1 (by omega)]; omega⟩
theorem m_at {ns : Nat} {seams sx0 sy0 sx1 sy1 : Nat → Int32} (hm : seamsM ns seams sx0 sy0 sx1 sy1) {k z : Nat} (hk : k < ns) (hz : z < 2) : seams (6 * k + 2 * z) = exn sx0 sx1 z k ∧ seams (6 * k + 2 * z + 1) = exn sy0 sy1 z k := by
  obtain ⟨m0, m1, m2, m3⟩ := hm k hk
  rcases (show z = 0 ∨ z = 1 by omega) with rfl | rfl
  · exact ⟨m0, m1⟩
  · exact ⟨m2, m3⟩
theorem exn_in {ns : Nat} {sx0 sy0 sx1 sy1 : Nat → Int32} (hs : seamsOK ns sx0 sy0 sx1 sy1) {k : Nat} (hk : k < ns) (z : Nat) : in100 (exn sx0 sx1 z k) ∧ in100 (exn sy0 sy1 z k) := by
  obtain ⟨a0, a1, a2, a3⟩ := in100_of hs hk
  unfold exn
  split
  · exact ⟨a0, a1⟩
  · exact ⟨a2, a3⟩
theorem s_mareNear {gap a b : Int32} {ns i j : Nat} {seams sx0 sy0 sx1 sy1 : Nat → Int32} {post : Int32 → Prop} (hg : gapOK gap) (hs : seamsOK ns sx0 sy0 sx1 sy1) (hm : seamsM ns seams sx0 sy0 sx1 sy1) (ha : a.toInt = (i : Int)) (hi : i < ns) (hb : b.toInt = (j : Int)) (hj : j < ns) (k1 : nearP gap sx0 sy0 sx1 sy1 i j → post 1) (k0 : ¬ nearP gap sx0 sy0 sx1 sy1 i j → post 0) : wp_Model_areNear gap seams a b post := by
  have h8 := hs.1
  have hgg : (gap * gap).toInt64.toInt = gap.toInt * gap.toInt := by
    unfold gapOK at hg
    exact tL (tSq rfl (by omega) (by omega))
  have c2 : (2 : Int32).toInt = 2 := rfl
  -- one round of the inner loop
  have step : ∀ (ih5 : Int32 → Int32 → Prop) (x4 f x : Int32) (z w : Nat) (P : Prop) (n : Nat), x4.toInt = (z : Int) → z < 2 → x.toInt = (w : Int) → w < 2 → ((f = 1 ∧ P) ∨ (f = 0 ∧ ¬ P)) →
      (∀ f' : Int32, ((f' = 1 ∧ (P ∨ clP gap sx0 sy0 sx1 sy1 i j z w)) ∨ (f' = 0 ∧ ¬ (P ∨ clP gap sx0 sy0 sx1 sy1 i j z w))) → wpL_Model_areNear_14 gap seams a b x4 ih5 n f' (x + (1 : Int32))) → wpL_Model_areNear_14 gap seams a b x4 ih5 (n + 1) f x := by
    intro ih5 x4 f x z w P n hx4 hz hx hw hf hk
    show wpB_Model_areNear_14 gap seams a b x4 ih5 (wpL_Model_areNear_14 gap seams a b x4 ih5 n) f x
    unfold wpB_Model_areNear_14
    rw [i_le c2 hx]
    refine ⟨fun q => absurd q (by omega), fun _ => ?_⟩
    obtain ⟨i0, i1⟩ := ix62 ha (by omega) hx4 hz
    obtain ⟨j0, j1⟩ := ix62 hb (by omega) hx hw
    obtain ⟨v0, v1⟩ := m_at hm hi hz
    obtain ⟨u0, u1⟩ := m_at hm hj hw
    rw [cl_t i0, cl_t i1, cl_t j0, cl_t j1, v0, v1, u0, u1]
    refine ⟨vp_t i0 (by omega), vp_t j0 (by omega), fun x6 e6 => ⟨vp_t i1 (by omega), vp_t j1 (by omega), fun x7 e7 => ?_⟩⟩
    obtain ⟨a0, a1⟩ := exn_in hs hi z
    obtain ⟨b0, b1⟩ := exn_in hs hj w
    rcases hf with ⟨rfl, hP⟩ | ⟨rfl, hP⟩
    · exact ⟨fun _ x5 e5 => by rw [e5]; exact hk 1 (Or.inl ⟨rfl, Or.inl hP⟩), fun q => absurd q (by decide)⟩
    · refine ⟨fun q => absurd rfl q, fun _ => ?_⟩
      rw [s_msquare, lc_gt, hgg, e6, e7, sq2_64 b0 b1 a0 a1]
      refine ⟨fun c x5 e5 => ?_, fun c x5 e5 => ?_⟩
      · rw [e5]
        refine hk 0 (Or.inr ⟨rfl, fun h => ?_⟩)
        rcases h with h | h
        · exact hP h
        · unfold clP at h; omega
      · rw [e5]
        refine hk 1 (Or.inl ⟨rfl, Or.inr ?_⟩)
        unfold clP; omega
  have last : ∀ (ih5 : Int32 → Int32 → Prop) (x4 f x : Int32) (n : Nat), x.toInt = 2 → ih5 f (x4 + (1 : Int32)) → wpL_Model_areNear_14 gap seams a b x4 ih5 (n + 1) f x := by
    intro ih5 x4 f x n hx hk
    show wpB_Model_areNear_14 gap seams a b x4 ih5 (wpL_Model_areNear_14 gap seams a b x4 ih5 n) f x
    unfold wpB_Model_areNear_14
    rw [i_le c2 hx]
    exact ⟨fun _ x5 e5 => by rw [e5]; exact hk, fun q => absurd (Int.le_refl 2) q⟩
  have inner : ∀ (ih5 : Int32 → Int32 → Prop) (x4 f : Int32) (z : Nat) (P : Prop), x4.toInt = (z : Int) → z < 2 → ((f = 1 ∧ P) ∨ (f = 0 ∧ ¬ P)) →
      (∀ f' : Int32, ((f' = 1 ∧ ((P ∨ clP gap sx0 sy0 sx1 sy1 i j z 0) ∨ clP gap sx0 sy0 sx1 sy1 i j z 1)) ∨ (f' = 0 ∧ ¬ ((P ∨ clP gap sx0 sy0 sx1 sy1 i j z 0) ∨ clP gap sx0 sy0 sx1 sy1 i j z 1))) → ih5 f' (x4 + (1 : Int32))) → ∃ n : Nat, wpL_Model_areNear_14 gap seams a b x4 ih5 n f (0 : Int32) := by
    intro ih5 x4 f z P hx4 hz hf hk
    exact ⟨3, step ih5 x4 f 0 z 0 P 2 hx4 hz rfl (by omega) hf (fun f1 h1 => step ih5 x4 f1 _ z 1 _ 1 hx4 hz rfl (by omega) h1 (fun f2 h2 => last ih5 x4 f2 _ 0 rfl (hk f2 h2)))⟩
  unfold wp_Model_areNear
  refine ⟨3, ?_⟩
  show wpB_Model_areNear_5 gap seams a b post (wpL_Model_areNear_5 gap seams a b post 2) 0 0
  unfold wpB_Model_areNear_5
  refine ⟨fun q => absurd q (by decide), fun _ => inner _ 0 0 0 False rfl (by omega) (Or.inr ⟨rfl, id⟩) (fun f1 h1 => ?_)⟩
  show wpB_Model_areNear_5 gap seams a b post (wpL_Model_areNear_5 gap seams a b post 1) f1 1
  unfold wpB_Model_areNear_5
  refine ⟨fun q => absurd q (by decide), fun _ => inner _ 1 f1 1 _ rfl (by omega) h1 (fun f2 h2 => ?_)⟩
  show wpB_Model_areNear_5 gap seams a b post (wpL_Model_areNear_5 gap seams a b post 0) f2 2
  unfold wpB_Model_areNear_5
  refine ⟨fun _ => ?_, fun q => absurd (by decide) q⟩
  rcases h2 with ⟨rfl, h⟩ | ⟨rfl, h⟩
  · refine ⟨Or.inr rfl, k1 ?_⟩
    unfold nearP
    rcases h with ((h | h) | h) | h
    · rcases h with h | h
      · exact h.elim
      · exact Or.inl h
    · exact Or.inr (Or.inl h)
    · exact Or.inr (Or.inr (Or.inl h))
    · exact Or.inr (Or.inr (Or.inr h))
  · refine ⟨Or.inl rfl, k0 (fun hn => h ?_)⟩
    unfold nearP at hn
    rcases hn with h | h | h | h
    · exact Or.inl (Or.inl (Or.inl (Or.inr h)))
    · exact Or.inl (Or.inl (Or.inr h))
    · exact Or.inl (Or.inr h)
    · exact Or.inr h
