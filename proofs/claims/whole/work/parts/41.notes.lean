/-! what the class's search notes ahead -/
def nmP (N : Nat) (nm : Nat → Int32) (nr : Nat → Nat → Prop) : Prop := ∀ s, s < N → ∃ u, u < 64 ∧ nm s = nI u ∧ ∀ t, t < N → (u.testBit t = true ↔ nr s t)
theorem nI_s {k : Nat} {x : Int32} (h : x = nI k + (1 : Int32)) : x = nI (k + 1) := by rw [h, nI_1]
theorem vpN {k N : Nat} (h : k < N) (hN : N ≤ 1000) : vp_in (nI k) N := vp_t (nI_t (by omega)) h
theorem clN {k : Nat} (h : k ≤ 1000) : (nI k).toNatClampNeg = k := cl_t (nI_t (by omega))
theorem leN {a b : Nat} (ha : a ≤ 1000) (hb : b ≤ 1000) : (nI a ≤ nI b ↔ a ≤ b) := by
  rw [i_le (nI_t (show a < 2147483648 by omega)) (nI_t (show b < 2147483648 by omega))]; omega
theorem ltN {a b : Nat} (ha : a ≤ 1000) (hb : b ≤ 1000) : (nI a < nI b ↔ a < b) := by
  rw [i_lt (nI_t (show a < 2147483648 by omega)) (nI_t (show b < 2147483648 by omega))]; omega
theorem eqN {a b : Nat} (ha : a ≤ 1000) (hb : b ≤ 1000) : (nI a = nI b ↔ a = b) := by
  rw [i_eq (nI_t (show a < 2147483648 by omega)) (nI_t (show b < 2147483648 by omega))]; omega
theorem dbl : ∀ n, n < 9 → (2 : Int32) * nI n = nI (2 * n) := by decide +kernel
theorem s_sNear {N s t : Nat} {nm : Nat → Int32} {nr : Nat → Nat → Prop} {post : Int32 → Prop} (hN : N ≤ 6) (hm : nmP N nm nr) (hs : s < N) (ht : t < N) (h1 : nr s t → post 1) (h0 : ¬ nr s t → post 0) : wp_Search_areNear nm (nI s) (nI t) post := by
  unfold wp_Search_areNear
  obtain ⟨u, u1, u2, u3⟩ := hm s hs
  rw [clN (by omega), u2, mk_bit u u1 t (by omega)]
  refine ⟨vpN (by omega) (by omega), fun c => h0 (fun q => ?_), fun c => h1 ((u3 t ht).mp ?_)⟩
  · rw [(u3 t ht).mpr q] at c; exact absurd c (by decide)
  · cases e : u.testBit t
    · rw [e] at c; exact absurd rfl c
    · rfl
theorem s_noteSeams {mx my sx sy la lb fl : Int32} {nb ns : Nat} {bX0 bY0 bX1 bY1 sx0 sy0 sx1 sy1 : Nat → Int32} {tm heat sq st sr nm : Nat → Int32} {bc gap turn travel lift cool hx hy : Int32} {post : (Nat → Int32) → (Nat → Int32) → (Nat → Int32) → (Nat → Int32) → Prop} (hc : cellOK mx my sx sy la lb fl) (hb : barsOK nb bX0 bY0 bX1 bY1) (hbc : bc.toInt = (nb : Int)) (hs : seamsOK ns sx0 sy0 sx1 sy1) (hg : gapOK gap) (hp : paceOK turn travel lift cool hx hy) (hN : ns ≤ 6)
    (h : ∀ q t r m : Nat → Int32, (∀ s, s < ns → q s = qtV mx my sx sy la lb fl nb bX0 bY0 bX1 bY1 sx0 sy0 sx1 sy1 s ∧ t s = tm s ∧ r s = rsF heat cool s) → nmP ns m (nearP gap sx0 sy0 sx1 sy1) → post q t r m) : wp_Search_noteSeams mx my sx sy la lb fl bc bX0 bY0 bX1 bY1 gap cool (nI ns) sq st sr nm sx0 sy0 sx1 sy1 tm heat post := by
  obtain ⟨p1, p2, p3, p4, p5, p6⟩ := hp
  unfold wp_Search_noteSeams
  refine ⟨ns + 1, ?_⟩
  have inner : ∀ (i : Nat) (ih : (Nat → Int32) → (Nat → Int32) → (Nat → Int32) → (Nat → Int32) → Int32 → Prop) (g8 g11 g14 nm0 : Nat → Int32) (x : Int32), i < ns → x = nI i → (∀ nm' : Nat → Int32, (∀ s, s ≠ i → nm' s = nm0 s) → (∃ u, u < 64 ∧ nm' i = nI u ∧ ∀ t, t < ns → (u.testBit t = true ↔ nearP gap sx0 sy0 sx1 sy1 i t)) → ih nm' g8 g14 g11 (nI (i + 1))) → ∀ (m j u : Nat) (nm' : Nat → Int32), j + m = ns → u < 64 → (∀ s, s ≠ i → nm' s = nm0 s) → nm' i = nI u → (∀ t, t < 6 → (u.testBit t = true ↔ (t < j ∧ nearP gap sx0 sy0 sx1 sy1 i t))) → wpL_Search_noteSeams_76 gap (nI ns) sx0 sy0 sx1 sy1 x ih g8 g11 g14 (m + 1) nm' (nI j) := by
    intro i ih g8 g11 g14 nm0 x hi hx hih m
    subst hx
    induction m with
    | zero =>
      intro j u nm' hj hu h1 h2 h3
      show wpB_Search_noteSeams_76 gap (nI ns) sx0 sy0 sx1 sy1 (nI i) ih g8 g11 g14 (wpL_Search_noteSeams_76 gap (nI ns) sx0 sy0 sx1 sy1 (nI i) ih g8 g11 g14 0) nm' (nI j)
      unfold wpB_Search_noteSeams_76
      rw [leN (by omega) (by omega)]
      refine ⟨fun _ y ey => ?_, fun z => absurd (by omega) z⟩
      rw [nI_s ey]
      refine hih nm' h1 ⟨u, hu, h2, fun t ht => ?_⟩
      rw [h3 t (by omega)]
      exact ⟨fun q => q.2, fun q => ⟨by omega, q⟩⟩
    | succ m ihm =>
      intro j u nm' hj hu h1 h2 h3
      show wpB_Search_noteSeams_76 gap (nI ns) sx0 sy0 sx1 sy1 (nI i) ih g8 g11 g14 (wpL_Search_noteSeams_76 gap (nI ns) sx0 sy0 sx1 sy1 (nI i) ih g8 g11 g14 (m + 1)) nm' (nI j)
      unfold wpB_Search_noteSeams_76
      rw [leN (by omega) (by omega), clN (by omega)]
      have v : vp_in (nI i) 6 := vpN (by omega) (by omega)
      refine ⟨fun z => absurd z (by omega), fun _ => s_areNear hg hs (nI_t (by omega)) hi (nI_t (by omega)) (show j < ns by omega) (fun c => ⟨fun z => absurd z (by decide), fun _ => ⟨v, fun t et => ⟨v, fun g eg y ey => ?_⟩⟩⟩) (fun c => ⟨fun _ y ey => ?_, fun z => absurd rfl z⟩)⟩
      · obtain ⟨o1, o2, o3⟩ := mk_or u hu j (by omega)
        rw [nI_s ey]
        refine ihm (j + 1) (u ||| (1 <<< j)) g (by omega) o2 (fun s q => by rw [eg, u_ne q]; exact h1 s q) (by rw [eg, u_eq, et, h2, o1]) (fun t ht => ?_)
        rw [o3 t ht]
        have := h3 t ht
        by_cases d : t = j
        · subst d
          simp
          exact c
        · have e : (t == j) = false := by simp [d]
          rw [e, Bool.or_false, this]
          exact ⟨fun q => ⟨by omega, q.2⟩, fun q => ⟨by omega, q.2⟩⟩
      · rw [nI_s ey]
        refine ihm (j + 1) u nm' (by omega) hu h1 h2 (fun t ht => ?_)
        rw [h3 t ht]
        refine ⟨fun q => ⟨by omega, q.2⟩, fun q => ⟨?_, q.2⟩⟩
        rcases (show t < j ∨ t = j by omega) with e | e
        · exact e
        · rw [e] at q; exact absurd q.2 c
  have key : ∀ (m i : Nat) (q t r nm' : Nat → Int32), i + m = ns → (∀ s, s < i → q s = qtV mx my sx sy la lb fl nb bX0 bY0 bX1 bY1 sx0 sy0 sx1 sy1 s ∧ t s = tm s ∧ r s = rsF heat cool s) → nmP i nm' (fun s t => t < ns → nearP gap sx0 sy0 sx1 sy1 s t) ∧ (∀ s, s < i → ∃ u, u < 64 ∧ nm' s = nI u ∧ ∀ t, t < ns → (u.testBit t = true ↔ nearP gap sx0 sy0 sx1 sy1 s t)) → wpL_Search_noteSeams_2 mx my sx sy la lb fl bc bX0 bY0 bX1 bY1 gap cool (nI ns) sx0 sy0 sx1 sy1 tm heat post (m + 1) nm' q r t (nI i) := by
    intro m
    induction m with
    | zero =>
      intro i q t r nm' hi h1 h2
      show wpB_Search_noteSeams_2 mx my sx sy la lb fl bc bX0 bY0 bX1 bY1 gap cool (nI ns) sx0 sy0 sx1 sy1 tm heat post (wpL_Search_noteSeams_2 mx my sx sy la lb fl bc bX0 bY0 bX1 bY1 gap cool (nI ns) sx0 sy0 sx1 sy1 tm heat post 0) nm' q r t (nI i)
      unfold wpB_Search_noteSeams_2
      rw [leN (by omega) (by omega)]
      exact ⟨fun _ => h q t r nm' (fun s hs' => h1 s (by omega)) (fun s hs' => h2.2 s (by omega)), fun z => absurd (by omega) z⟩
    | succ m ihm =>
      intro i q t r nm' hi h1 h2
      show wpB_Search_noteSeams_2 mx my sx sy la lb fl bc bX0 bY0 bX1 bY1 gap cool (nI ns) sx0 sy0 sx1 sy1 tm heat post (wpL_Search_noteSeams_2 mx my sx sy la lb fl bc bX0 bY0 bX1 bY1 gap cool (nI ns) sx0 sy0 sx1 sy1 tm heat post (m + 1)) nm' q r t (nI i)
      unfold wpB_Search_noteSeams_2
      rw [leN (by omega) (by omega), clN (by omega)]
      have v : vp_in (nI i) 6 := vpN (by omega) (by omega)
      have v8 : vp_in (nI i) 8 := vpN (by omega) (by omega)
      have hin : i < ns := by omega
      refine ⟨fun z => absurd z (by omega), fun _ => s_quarterOf hc hb hbc hs hin (nI_t (by omega)) ⟨v, fun g8 e8 => ⟨v8, fun t10 e10 => ⟨v, fun g11 e11 => ⟨v8, s_restTicks p4.1 ⟨v, fun g14 e14 => ⟨v, fun g15 e15 => ⟨ns + 1, ?_⟩⟩⟩⟩⟩⟩⟩⟩
      refine inner i _ g8 g11 g14 g15 _ hin rfl (fun nm2 f1 f2 => ?_) ns 0 0 g15 (by omega) (by omega) (fun s _ => rfl) (by rw [e15, u_eq]; rfl) (fun t ht => by simp)
      have fs : ∀ s, s < i + 1 → ∃ u, u < 64 ∧ nm2 s = nI u ∧ ∀ t, t < ns → (u.testBit t = true ↔ nearP gap sx0 sy0 sx1 sy1 s t) := by
        intro s hs'
        by_cases d : s = i
        · subst d; exact f2
        · rw [f1 s d, e15, u_ne d]; exact h2.2 s (by omega)
      refine ihm (i + 1) g8 g11 g14 nm2 (by omega) (fun s hs' => ?_) ⟨fun s hs' => ?_, fs⟩
      · by_cases d : s = i
        · subst d
          rw [e8, e11, e14, u_eq, u_eq, u_eq, e10]
          exact ⟨rfl, rfl, rfl⟩
        · rw [e8, e11, e14, u_ne d, u_ne d, u_ne d]; exact h1 s (by omega)
      · obtain ⟨u, u1, u2, u3⟩ := fs s hs'
        exact ⟨u, u1, u2, fun t ht => ⟨fun q _ => (u3 t (by omega)).mp q, fun q => (u3 t (by omega)).mpr (q (by omega))⟩⟩
  exact key ns 0 sq st sr nm (by omega) (fun s h' => absurd h' (by omega)) ⟨fun s h' => absurd h' (by omega), fun s h' => absurd h' (by omega)⟩
theorem u2_at {f : Nat → Nat → Int32} {i k : Nat} {x : Int32} : upd2 f i k x i k = x := by simp [upd2, upd]
theorem u2_ro {f : Nat → Nat → Int32} {i k a b : Nat} {x : Int32} (h : a ≠ i) : upd2 f i k x a b = f a b := by simp [upd2, h]
theorem u2_co {f : Nat → Nat → Int32} {i k b : Nat} {x : Int32} (h : b ≠ k) : upd2 f i k x i b = f i b := by simp [upd2, upd, h]
theorem s_noteMovesFrom {mx my sx sy la lb fl : Int32} {nb ns : Nat} {bX0 bY0 bX1 bY1 sx0 sy0 sx1 sy1 : Nat → Int32} {sq : Nat → Int32} {mv : Nat → Nat → Int32} {bc gap turn travel lift cool hx hy q x y : Int32} {a : Nat} {post : (Nat → Nat → Int32) → Prop} (hc : cellOK mx my sx sy la lb fl) (hb : barsOK nb bX0 bY0 bX1 bY1) (hbc : bc.toInt = (nb : Int)) (hs : seamsOK ns sx0 sy0 sx1 sy1) (hg : gapOK gap) (hp : paceOK turn travel lift cool hx hy) (hN : ns ≤ 6) (hsq : ∀ s, s < ns → sq s = qtV mx my sx sy la lb fl nb bX0 bY0 bX1 bY1 sx0 sy0 sx1 sy1 s) (ha : a < 13) (hxy : in400 x ∧ in400 y)
    (h : ∀ mv' : Nat → Nat → Int32, (∀ b, b < 2 * ns → mv' a b = turnF turn q (qtV mx my sx sy la lb fl nb bX0 bY0 bX1 bY1 sx0 sy0 sx1 sy1 (b / 2)) + goF (freeP nb bX0 bY0 bX1 bY1) travel lift x y (gX mx my sx sy la lb fl nb bX0 bY0 bX1 bY1 sx0 sy0 sx1 sy1 (b / 2) (nI (b % 2))) (gY mx my sx sy la lb fl nb bX0 bY0 bX1 bY1 sx0 sy0 sx1 sy1 (b / 2) (nI (b % 2)))) → (∀ a' b, a' ≠ a → mv' a' b = mv a' b) → post mv') : wp_Search_noteMovesFrom mx my sx sy bc bX0 bY0 bX1 bY1 turn travel lift (nI ns) sq sx0 sy0 sx1 sy1 mv (nI a) q x y post := by
  obtain ⟨p1, p2, p3, p4, p5, p6⟩ := hp
  unfold wp_Search_noteMovesFrom
  refine ⟨2 * ns + 1, ?_⟩
  have key : ∀ (m j : Nat) (mv' : Nat → Nat → Int32), j + m = 2 * ns → (∀ b, b < j → mv' a b = turnF turn q (qtV mx my sx sy la lb fl nb bX0 bY0 bX1 bY1 sx0 sy0 sx1 sy1 (b / 2)) + goF (freeP nb bX0 bY0 bX1 bY1) travel lift x y (gX mx my sx sy la lb fl nb bX0 bY0 bX1 bY1 sx0 sy0 sx1 sy1 (b / 2) (nI (b % 2))) (gY mx my sx sy la lb fl nb bX0 bY0 bX1 bY1 sx0 sy0 sx1 sy1 (b / 2) (nI (b % 2)))) → (∀ a' b, a' ≠ a → mv' a' b = mv a' b) → wpL_Search_noteMovesFrom_3 mx my sx sy bc bX0 bY0 bX1 bY1 turn travel lift (nI ns) sq sx0 sy0 sx1 sy1 (nI a) q x y post (m + 1) mv' (nI j) := by
    intro m
    induction m with
    | zero =>
      intro j mv' hj h1 h2
      show wpB_Search_noteMovesFrom_3 mx my sx sy bc bX0 bY0 bX1 bY1 turn travel lift (nI ns) sq sx0 sy0 sx1 sy1 (nI a) q x y post (wpL_Search_noteMovesFrom_3 mx my sx sy bc bX0 bY0 bX1 bY1 turn travel lift (nI ns) sq sx0 sy0 sx1 sy1 (nI a) q x y post 0) mv' (nI j)
      unfold wpB_Search_noteMovesFrom_3
      rw [dbl ns (by omega), leN (by omega) (by omega)]
      exact ⟨fun _ => h mv' (fun b hb' => h1 b (by omega)) h2, fun z => absurd (by omega) z⟩
    | succ m ihm =>
      intro j mv' hj h1 h2
      show wpB_Search_noteMovesFrom_3 mx my sx sy bc bX0 bY0 bX1 bY1 turn travel lift (nI ns) sq sx0 sy0 sx1 sy1 (nI a) q x y post (wpL_Search_noteMovesFrom_3 mx my sx sy bc bX0 bY0 bX1 bY1 turn travel lift (nI ns) sq sx0 sy0 sx1 sy1 (nI a) q x y post (m + 1)) mv' (nI j)
      unfold wpB_Search_noteMovesFrom_3
      rw [dbl ns (by omega), leN (by omega) (by omega), (half j (by omega)).2, (half j (by omega)).1]
      refine ⟨fun z => absurd z (by omega), fun _ x6 e6 x7 e7 => ?_⟩
      subst e6
      subst e7
      have hjn : j / 2 < ns := by omega
      have v : vp_in (nI (j / 2)) 6 := vpN (by omega) (by omega)
      rw [clN (by omega), hsq _ hjn, clN (k := a) (by omega), clN (k := j) (by omega)]
      have hin := e400 (e := nI (j % 2)) (q := qtV mx my sx sy la lb fl nb bX0 bY0 bX1 bY1 sx0 sy0 sx1 sy1 (j / 2)) hc hs hjn
      refine ⟨v, s_endX (nI_t (by omega)) (by omega) ⟨v, s_endY (nI_t (by omega)) (by omega) ⟨vpN (by omega) (by omega), v, s_turnTicks (s_goTicks hb hbc (pt400 hxy.1 hxy.2) (pt400 hin.1 hin.2) p2.1 (fun t11 e11 => ⟨vpN (by omega) (by omega), fun g12 e12 y13 e13 => ?_⟩))⟩⟩⟩
      rw [nI_s e13]
      refine ihm (j + 1) g12 (by omega) (fun b hb' => ?_) (fun a' b hne => by rw [e12, u2_ro hne]; exact h2 a' b hne)
      by_cases d : b = j
      · subst d
        rw [e12, u2_at, e11, gX_eq, gY_eq]
      · rw [e12, u2_co d]; exact h1 b (by omega)
  exact key (2 * ns) 0 mv (by omega) (fun b h' => absurd h' (by omega)) (fun _ _ _ => rfl)
theorem s_noteMoves {mx my sx sy la lb fl : Int32} {nb ns : Nat} {bX0 bY0 bX1 bY1 sx0 sy0 sx1 sy1 : Nat → Int32} {tm heat sq : Nat → Int32} {mv : Nat → Nat → Int32} {bc gap turn travel lift cool hx hy : Int32} {post : (Nat → Nat → Int32) → Prop} (hc : cellOK mx my sx sy la lb fl) (hb : barsOK nb bX0 bY0 bX1 bY1) (hbc : bc.toInt = (nb : Int)) (hs : seamsOK ns sx0 sy0 sx1 sy1) (hg : gapOK gap) (hp : paceOK turn travel lift cool hx hy) (hN : ns ≤ 6) (hsq : ∀ s, s < ns → sq s = qtV mx my sx sy la lb fl nb bX0 bY0 bX1 bY1 sx0 sy0 sx1 sy1 s)
    (h : ∀ mv' : Nat → Nat → Int32, (∀ a b, (a < 2 * ns ∨ a = 12) → b < 2 * ns → mv' a b = MVf (qtV mx my sx sy la lb fl nb bX0 bY0 bX1 bY1 sx0 sy0 sx1 sy1) (gX mx my sx sy la lb fl nb bX0 bY0 bX1 bY1 sx0 sy0 sx1 sy1) (gY mx my sx sy la lb fl nb bX0 bY0 bX1 bY1 sx0 sy0 sx1 sy1) (freeP nb bX0 bY0 bX1 bY1) tm (rsF heat cool) (nearP gap sx0 sy0 sx1 sy1) turn travel lift hx hy a b) → post mv') : wp_Search_noteMoves mx my sx sy bc bX0 bY0 bX1 bY1 turn travel lift hx hy (nI ns) sq sx0 sy0 sx1 sy1 mv post := by
  unfold wp_Search_noteMoves
  have h12 : (12 : Int32) = nI 12 := rfl
  rw [h12]
  refine s_noteMovesFrom hc hb hbc hs hg hp hN hsq (by omega) ⟨hp.2.2.2.2.1, hp.2.2.2.2.2⟩ (fun mv1 m1 m2 => ⟨2 * ns + 1, ?_⟩)
  have row12 : ∀ b, b < 2 * ns → mv1 12 b = MVf (qtV mx my sx sy la lb fl nb bX0 bY0 bX1 bY1 sx0 sy0 sx1 sy1) (gX mx my sx sy la lb fl nb bX0 bY0 bX1 bY1 sx0 sy0 sx1 sy1) (gY mx my sx sy la lb fl nb bX0 bY0 bX1 bY1 sx0 sy0 sx1 sy1) (freeP nb bX0 bY0 bX1 bY1) tm (rsF heat cool) (nearP gap sx0 sy0 sx1 sy1) turn travel lift hx hy 12 b := fun b hb' => by
    rw [m1 b hb']
    unfold MVf fqF fxF
    rw [if_pos rfl, if_pos rfl, if_pos rfl]
  have key : ∀ (m i : Nat) (mv' : Nat → Nat → Int32), i + m = 2 * ns → (∀ a b, (a < i ∨ a = 12) → b < 2 * ns → mv' a b = MVf (qtV mx my sx sy la lb fl nb bX0 bY0 bX1 bY1 sx0 sy0 sx1 sy1) (gX mx my sx sy la lb fl nb bX0 bY0 bX1 bY1 sx0 sy0 sx1 sy1) (gY mx my sx sy la lb fl nb bX0 bY0 bX1 bY1 sx0 sy0 sx1 sy1) (freeP nb bX0 bY0 bX1 bY1) tm (rsF heat cool) (nearP gap sx0 sy0 sx1 sy1) turn travel lift hx hy a b) → wpL_Search_noteMoves_23 mx my sx sy bc bX0 bY0 bX1 bY1 turn travel lift (nI ns) sq sx0 sy0 sx1 sy1 post (m + 1) mv' (nI i) := by
    intro m
    induction m with
    | zero =>
      intro i mv' hi h1
      show wpB_Search_noteMoves_23 mx my sx sy bc bX0 bY0 bX1 bY1 turn travel lift (nI ns) sq sx0 sy0 sx1 sy1 post (wpL_Search_noteMoves_23 mx my sx sy bc bX0 bY0 bX1 bY1 turn travel lift (nI ns) sq sx0 sy0 sx1 sy1 post 0) mv' (nI i)
      unfold wpB_Search_noteMoves_23
      rw [dbl ns (by omega), leN (by omega) (by omega)]
      exact ⟨fun _ => h mv' (fun a b ha hb' => h1 a b (by omega) hb'), fun z => absurd (by omega) z⟩
    | succ m ihm =>
      intro i mv' hi h1
      show wpB_Search_noteMoves_23 mx my sx sy bc bX0 bY0 bX1 bY1 turn travel lift (nI ns) sq sx0 sy0 sx1 sy1 post (wpL_Search_noteMoves_23 mx my sx sy bc bX0 bY0 bX1 bY1 turn travel lift (nI ns) sq sx0 sy0 sx1 sy1 post (m + 1)) mv' (nI i)
      unfold wpB_Search_noteMoves_23
      rw [dbl ns (by omega), leN (by omega) (by omega), (half i (by omega)).2, (half i (by omega)).1]
      refine ⟨fun z => absurd z (by omega), fun _ x2 e2 => ?_⟩
      subst e2
      have hin : i / 2 < ns := by omega
      refine ⟨vpN (by omega) (by omega), fun x3 e3 x4 e4 => ?_⟩
      rw [clN (by omega), hsq _ hin] at e3
      subst e3
      subst e4
      refine s_endX (nI_t (by omega)) (by omega) (s_endY (nI_t (by omega)) (by omega) ?_)
      refine s_noteMovesFrom hc hb hbc hs hg hp hN hsq (show i < 13 by omega) (e400 hc hs hin) (fun mv2 f1 f2 y ey => ?_)
      rw [nI_s ey]
      refine ihm (i + 1) mv2 (by omega) (fun a b ha hb' => ?_)
      by_cases d : a = i
      · subst d
        rw [f1 b hb']
        unfold MVf fqF fxF
        rw [if_neg (by omega), if_neg (by omega), if_neg (by omega), gX_eq mx my sx sy la lb fl nb bX0 bY0 bX1 bY1 sx0 sy0 sx1 sy1 (a / 2) ((1 : Int32) - nI (a % 2)), gY_eq mx my sx sy la lb fl nb bX0 bY0 bX1 bY1 sx0 sy0 sx1 sy1 (a / 2) ((1 : Int32) - nI (a % 2))]
      · rw [f2 a b d]; exact h1 a b (by omega) hb'
  exact key (2 * ns) 0 mv1 (by omega) (fun a b ha hb' => by
    rcases ha with q | q
    · omega
    · subst q; exact row12 b hb')
