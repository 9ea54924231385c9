/-! the class's search -/
section SEEK
variable {qa : Nat → Int32} {ex ey : Nat → Int32 → Int32} {fr : Int32 → Int32 → Int32 → Int32 → Prop} {tm rs : Nat → Int32} {nr : Nat → Nat → Prop} {turn travel lift hx hy : Int32} {N : Nat}
theorem s_noteLeasts {sr nm lA lB : Nat → Int32} {mv : Nat → Nat → Int32} {post : (Nat → Int32) → (Nat → Int32) → Prop} (hT : tOK (fun a => a < N) qa ex ey fr tm rs nr turn travel lift hx hy) (hN : N ≤ 6) (hsr : ∀ s, s < N → sr s = rs s) (hnm : nmP N nm nr) (hmv : ∀ a b, (a < 2 * N ∨ a = 12) → b < 2 * N → mv a b = MVf qa ex ey fr tm rs nr turn travel lift hx hy a b)
    (h : ∀ la lb : Nat → Int32, (∀ s, s < N → 0 ≤ (la s).toInt ∧ 0 ≤ (lb s).toInt) → (∀ a b, a < 2 * N → b < 2 * N → a / 2 ≠ b / 2 → (la (b / 2)).toInt ≤ (Bt3 qa ex ey fr tm rs nr turn travel lift hx hy a b).toInt ∧ (lb (a / 2)).toInt ≤ (Bt3 qa ex ey fr tm rs nr turn travel lift hx hy a b).toInt) → post la lb) : wp_Search_noteLeasts (nI N) sr nm lA lB mv post := by
  unfold wp_Search_noteLeasts
  refine ⟨N + 1, ?_⟩
  have cm : (1000000 : Int32).toInt = 1000000 := rfl
  have inner : ∀ (i : Nat) (ih : (Nat → Int32) → (Nat → Int32) → Int32 → Prop), i < 2 * N → (∀ la lb : Nat → Int32, (∀ s, s < N → 0 ≤ (la s).toInt ∧ 0 ≤ (lb s).toInt) → (∀ a b, a < i + 1 → b < 2 * N → a / 2 ≠ b / 2 → (la (b / 2)).toInt ≤ (Bt3 qa ex ey fr tm rs nr turn travel lift hx hy a b).toInt ∧ (lb (a / 2)).toInt ≤ (Bt3 qa ex ey fr tm rs nr turn travel lift hx hy a b).toInt) → ih la lb (nI (i + 1))) → ∀ (m j : Nat) (la lb : Nat → Int32), j + m = 2 * N → (∀ s, s < N → 0 ≤ (la s).toInt ∧ 0 ≤ (lb s).toInt) → (∀ a b, (a < i ∨ (a = i ∧ b < j)) → b < 2 * N → a / 2 ≠ b / 2 → (la (b / 2)).toInt ≤ (Bt3 qa ex ey fr tm rs nr turn travel lift hx hy a b).toInt ∧ (lb (a / 2)).toInt ≤ (Bt3 qa ex ey fr tm rs nr turn travel lift hx hy a b).toInt) → wpL_Search_noteLeasts_46 (nI N) sr nm mv (nI i) ih (m + 1) la lb (nI j) := by
    intro i ih hi hih m
    induction m with
    | zero =>
      intro j la lb hj h1 h2
      show wpB_Search_noteLeasts_46 (nI N) sr nm mv (nI i) ih (wpL_Search_noteLeasts_46 (nI N) sr nm mv (nI i) ih 0) la lb (nI j)
      unfold wpB_Search_noteLeasts_46
      rw [dbl N (by omega), leN (by omega) (by omega)]
      refine ⟨fun _ y eyy => ?_, fun z => absurd (by omega) z⟩
      rw [nI_s eyy]
      exact hih la lb h1 (fun a b ha hb hne => h2 a b (by omega) hb hne)
    | succ m ihm =>
      intro j la lb hj h1 h2
      show wpB_Search_noteLeasts_46 (nI N) sr nm mv (nI i) ih (wpL_Search_noteLeasts_46 (nI N) sr nm mv (nI i) ih (m + 1)) la lb (nI j)
      unfold wpB_Search_noteLeasts_46
      rw [dbl N (by omega), leN (by omega) (by omega), (half i (by omega)).1, (half j (by omega)).1]
      refine ⟨fun z => absurd z (by omega), fun _ x3 e3 x4 e4 => ?_⟩
      subst e3
      subst e4
      have hin : i / 2 < N := by omega
      have hjn : j / 2 < N := by omega
      have vi : vp_in (nI (i / 2)) 6 := vpN (by omega) (by omega)
      have vj : vp_in (nI (j / 2)) 6 := vpN (by omega) (by omega)
      rw [eqN (by omega) (by omega), clN (k := i) (by omega), clN (k := j) (by omega), clN (k := i / 2) (by omega), clN (k := j / 2) (by omega)]
      refine ⟨fun ne => ⟨vpN (by omega) (by omega), vpN (by omega) (by omega), fun x5 e5 => ?_⟩, fun e y eyy => ?_⟩
      · rw [hmv i j (Or.inl (by omega)) (by omega)] at e5
        have nx : ∀ (bt : Int32) (g22 g24 : Nat → Int32), bt = Bt3 qa ex ey fr tm rs nr turn travel lift hx hy i j → g22 = upd la (j / 2) (imin (la (j / 2)) bt) → g24 = upd lb (i / 2) (imin (lb (i / 2)) bt) → ∀ y : Int32, y = nI j + (1 : Int32) → wpL_Search_noteLeasts_46 (nI N) sr nm mv (nI i) ih (m + 1) g22 g24 y := by
          intro bt g22 g24 ebt e22 e24 y eyy
          have b0 := bt_bd hT hN (show i < 2 * N by omega) (show j < 2 * N by omega)
          rw [← ebt] at b0
          have ma := imin_t (x := la (j / 2)) (y := bt) rfl rfl
          have mb := imin_t (x := lb (i / 2)) (y := bt) rfl rfl
          have a1 := h1 (j / 2) hjn
          have a2 := h1 (i / 2) hin
          have la1 : ∀ s, (g22 s).toInt ≤ (la s).toInt := by
            intro s
            rw [e22]
            by_cases c : s = j / 2
            · subst c; rw [u_eq, ma]; split <;> omega
            · rw [u_ne c]; omega
          have lb1 : ∀ s, (g24 s).toInt ≤ (lb s).toInt := by
            intro s
            rw [e24]
            by_cases c : s = i / 2
            · subst c; rw [u_eq, mb]; split <;> omega
            · rw [u_ne c]; omega
          rw [nI_s eyy]
          refine ihm (j + 1) g22 g24 (by omega) (fun s hs => ?_) (fun a b hab hb hne => ?_)
          · have q := h1 s hs
            refine ⟨?_, ?_⟩
            · rw [e22]
              by_cases c : s = j / 2
              · subst c; rw [u_eq, ma]; split <;> omega
              · rw [u_ne c]; exact q.1
            · rw [e24]
              by_cases c : s = i / 2
              · subst c; rw [u_eq, mb]; split <;> omega
              · rw [u_ne c]; exact q.2
          · by_cases c : a = i ∧ b = j
            · obtain ⟨rfl, rfl⟩ := c
              rw [e22, e24, u_eq, u_eq, ma, mb, ← ebt]
              refine ⟨?_, ?_⟩ <;> split <;> omega
            · have q := h2 a b (by omega) hb hne
              have q1 := la1 (b / 2)
              have q2 := lb1 (a / 2)
              omega
        refine s_sNear hN hnm hin hjn (fun c => ⟨fun z => absurd z (by decide), fun _ => ⟨vi, fun x5' e5' => ⟨vj, fun t27 e27 => ⟨vj, fun g28 e28 => ⟨vi, fun t29 e29 => ⟨vi, fun g30 e30 y eyy => nx x5' g28 g30 ?_ (by rw [e28, e27]) (by rw [e30, e29]) y eyy⟩⟩⟩⟩⟩⟩) (fun c => ⟨fun _ => ⟨vj, fun t27 e27 => ⟨vj, fun g28 e28 => ⟨vi, fun t29 e29 => ⟨vi, fun g30 e30 y eyy => nx x5 g28 g30 ?_ (by rw [e28, e27]) (by rw [e30, e29]) y eyy⟩⟩⟩⟩, fun z => absurd rfl z⟩)
        · rw [e5', e5, hsr _ hin]
          unfold Bt3
          rw [pif_pos c]
        · rw [e5]
          unfold Bt3
          rw [pif_neg c]
      · rw [nI_s eyy]
        refine ihm (j + 1) la lb (by omega) h1 (fun a b hab hb hne => ?_)
        by_cases c : a = i ∧ b = j
        · obtain ⟨rfl, rfl⟩ := c
          exact absurd e hne
        · exact h2 a b (by omega) hb hne
  have outer : ∀ (m i : Nat) (la lb : Nat → Int32), i + m = 2 * N → (∀ s, s < N → 0 ≤ (la s).toInt ∧ 0 ≤ (lb s).toInt) → (∀ a b, a < i → b < 2 * N → a / 2 ≠ b / 2 → (la (b / 2)).toInt ≤ (Bt3 qa ex ey fr tm rs nr turn travel lift hx hy a b).toInt ∧ (lb (a / 2)).toInt ≤ (Bt3 qa ex ey fr tm rs nr turn travel lift hx hy a b).toInt) → wpL_Search_noteLeasts_34 (nI N) sr nm mv post (m + 1) la lb (nI i) := by
    intro m
    induction m with
    | zero =>
      intro i la lb hi h1 h2
      show wpB_Search_noteLeasts_34 (nI N) sr nm mv post (wpL_Search_noteLeasts_34 (nI N) sr nm mv post 0) la lb (nI i)
      unfold wpB_Search_noteLeasts_34
      rw [dbl N (by omega), leN (by omega) (by omega)]
      exact ⟨fun _ => h la lb h1 (fun a b ha hb hne => h2 a b (by omega) hb hne), fun z => absurd (by omega) z⟩
    | succ m ihm =>
      intro i la lb hi h1 h2
      show wpB_Search_noteLeasts_34 (nI N) sr nm mv post (wpL_Search_noteLeasts_34 (nI N) sr nm mv post (m + 1)) la lb (nI i)
      unfold wpB_Search_noteLeasts_34
      rw [dbl N (by omega), leN (by omega) (by omega)]
      refine ⟨fun z => absurd z (by omega), fun _ => ⟨2 * N + 1, inner i _ (by omega) (fun la' lb' f1 f2 => ihm (i + 1) la' lb' (by omega) f1 f2) (2 * N) 0 la lb (by omega) h1 (fun a b hab hb hne => h2 a b (by omega) hb hne)⟩⟩
  have first : ∀ (m i : Nat) (la lb : Nat → Int32), i + m = N → (∀ s, s < i → 0 ≤ (la s).toInt ∧ 0 ≤ (lb s).toInt) → wpL_Search_noteLeasts_2 (nI N) sr nm mv post (m + 1) la lb (nI i) := by
    intro m
    induction m with
    | zero =>
      intro i la lb hi h1
      show wpB_Search_noteLeasts_2 (nI N) sr nm mv post (wpL_Search_noteLeasts_2 (nI N) sr nm mv post 0) la lb (nI i)
      unfold wpB_Search_noteLeasts_2
      rw [leN (by omega) (by omega)]
      refine ⟨fun _ => ⟨2 * N + 1, outer (2 * N) 0 la lb (by omega) (fun s hs => h1 s (by omega)) (fun a b ha _ _ => absurd ha (by omega))⟩, fun z => absurd (by omega) z⟩
    | succ m ihm =>
      intro i la lb hi h1
      show wpB_Search_noteLeasts_2 (nI N) sr nm mv post (wpL_Search_noteLeasts_2 (nI N) sr nm mv post (m + 1)) la lb (nI i)
      unfold wpB_Search_noteLeasts_2
      rw [leN (by omega) (by omega), clN (by omega)]
      have v : vp_in (nI i) 6 := vpN (by omega) (by omega)
      refine ⟨fun z => absurd z (by omega), fun _ => ⟨v, fun g33 e33 => ⟨v, fun g34 e34 y eyy => ?_⟩⟩⟩
      rw [nI_s eyy]
      refine ihm (i + 1) g33 g34 (by omega) (fun s hs => ?_)
      rw [e33, e34]
      by_cases c : s = i
      · subst c; rw [u_eq, u_eq, cm]; omega
      · rw [u_ne c, u_ne c]; exact h1 s (by omega)
  exact first N 0 lA lB (by omega) (fun s hs => absurd hs (by omega))
theorem s_leastLeft {st lA lB : Nat → Int32} {p : Nat → Nat} {k u : Nat} {post : Int32 → Prop} (hT : tOK (fun a => a < N) qa ex ey fr tm rs nr turn travel lift hx hy) (hN : N ≤ 6) (htm : ∀ s, s < N → st s = tm s) (hF1 : ∀ s, s < N → 0 ≤ (lA s).toInt ∧ 0 ≤ (lB s).toInt) (hF2 : ∀ a b, a < 2 * N → b < 2 * N → a / 2 ≠ b / 2 → (lA (b / 2)).toInt ≤ (Bt3 qa ex ey fr tm rs nr turn travel lift hx hy a b).toInt ∧ (lB (a / 2)).toInt ≤ (Bt3 qa ex ey fr tm rs nr turn travel lift hx hy a b).toInt) (hv : vaP N p (k + 1)) (hu : maP u p (k + 1))
    (h : ∀ (r : Int32) (V : Int), r.toInt = V → 0 ≤ V → V ≤ 20000 → (V = 0 ∨ ((∃ s, s < N ∧ ¬ usP p (k + 1) s) ∧ V = (if US (fun s => (tm s).toInt + (lA s).toInt) p (k + 1) N < (lB (p k / 2)).toInt + US (fun s => (tm s).toInt + (lB s).toInt) p (k + 1) N - MX (fun s => (lB s).toInt) p (k + 1) N then (lB (p k / 2)).toInt + US (fun s => (tm s).toInt + (lB s).toInt) p (k + 1) N - MX (fun s => (lB s).toInt) p (k + 1) N else US (fun s => (tm s).toInt + (lA s).toInt) p (k + 1) N))) → post r) : wp_Search_leastLeft (nI N) st lA lB (nI (p k / 2)) (nI u) post := by
  unfold wp_Search_leastLeft
  have pk := hv.1 k (by omega)
  rw [clN (by omega)]
  refine ⟨fun ne => ⟨vpN (by omega) (by omega), fun x4 e4 => ⟨N + 1, ?_⟩⟩, fun e => h 0 0 rfl (by omega) (by omega) (Or.inl rfl)⟩
  obtain ⟨s0, s1, s2⟩ := mk_full hu (by omega) hv.1 ne
  have other : ∀ s, s < N → ∃ t, t < N ∧ t ≠ s := by
    intro s hs
    by_cases c : s = s0
    · exact ⟨p k / 2, by omega, fun e => s2 ⟨k, by omega, by omega⟩⟩
    · exact ⟨s0, s1, fun e => c e.symm⟩
  have bA : ∀ s, s < N → (lA s).toInt ≤ 1100 ∧ (lB s).toInt ≤ 1100 := by
    intro s hs
    obtain ⟨t, t1, t2⟩ := other s hs
    have q1 := (hF2 (2 * t) (2 * s) (by omega) (by omega) (by omega)).1
    have q2 := (hF2 (2 * s) (2 * t) (by omega) (by omega) (by omega)).2
    have q3 := bt_bd hT hN (show 2 * t < 2 * N by omega) (show 2 * s < 2 * N by omega)
    have q4 := bt_bd hT hN (show 2 * s < 2 * N by omega) (show 2 * t < 2 * N by omega)
    rw [show 2 * s / 2 = s by omega] at q1 q2
    omega
  have bT : ∀ s, s < N → 0 ≤ (tm s).toInt ∧ (tm s).toInt ≤ 400 := fun s hs => (hT.1 s hs).2.2.1
  have b1 : ∀ j, j ≤ N → 0 ≤ US (fun s => (tm s).toInt + (lA s).toInt) p (k + 1) j ∧ US (fun s => (tm s).toInt + (lA s).toInt) p (k + 1) j ≤ 1500 * (j : Int) := fun j hj => ⟨US_nn j (fun s hs => by have := bT s (by omega); have := hF1 s (by omega); omega), US_bd (by omega) j (fun s hs => by have := bT s (by omega); have := bA s (by omega); omega)⟩
  have b2 : ∀ j, j ≤ N → 0 ≤ US (fun s => (tm s).toInt + (lB s).toInt) p (k + 1) j ∧ US (fun s => (tm s).toInt + (lB s).toInt) p (k + 1) j ≤ 1500 * (j : Int) := fun j hj => ⟨US_nn j (fun s hs => by have := bT s (by omega); have := hF1 s (by omega); omega), US_bd (by omega) j (fun s hs => by have := bT s (by omega); have := bA s (by omega); omega)⟩
  have b3 : ∀ j, j ≤ N → 0 ≤ MX (fun s => (lB s).toInt) p (k + 1) j ∧ MX (fun s => (lB s).toInt) p (k + 1) j ≤ 1100 := fun j hj => MX_bd (by omega) j (fun s hs => (bA s (by omega)).2)
  have b4 := bA (p k / 2) (by omega)
  have b5 := hF1 (p k / 2) (by omega)
  have key : ∀ (m j : Nat) (x3 x4 x5 : Int32), j + m = N → x3.toInt = US (fun s => (tm s).toInt + (lA s).toInt) p (k + 1) j → x4.toInt = (lB (p k / 2)).toInt + US (fun s => (tm s).toInt + (lB s).toInt) p (k + 1) j → x5.toInt = MX (fun s => (lB s).toInt) p (k + 1) j → wpL_Search_leastLeft_30 (nI N) st lA lB (nI u) post (m + 1) x3 x4 x5 (nI j) := by
    intro m
    induction m with
    | zero =>
      intro j x3 x4 x5 hj h3 h4 h5
      show wpB_Search_leastLeft_30 (nI N) st lA lB (nI u) post (wpL_Search_leastLeft_30 (nI N) st lA lB (nI u) post 0) x3 x4 x5 (nI j)
      unfold wpB_Search_leastLeft_30
      rw [leN (by omega) (by omega)]
      refine ⟨fun _ => ?_, fun z => absurd (by omega) z⟩
      rw [show j = N by omega] at h3 h4 h5
      have q1 := b1 N (Nat.le_refl N)
      have q2 := b2 N (Nat.le_refl N)
      have q3 := b3 N (Nat.le_refl N)
      have tt := imax_t h3 (tS h4 h5 (by omega))
      refine h _ _ tt (by split <;> omega) (by split <;> omega) (Or.inr ⟨⟨s0, s1, s2⟩, rfl⟩)
    | succ m ihm =>
      intro j x3 x4 x5 hj h3 h4 h5
      show wpB_Search_leastLeft_30 (nI N) st lA lB (nI u) post (wpL_Search_leastLeft_30 (nI N) st lA lB (nI u) post (m + 1)) x3 x4 x5 (nI j)
      unfold wpB_Search_leastLeft_30
      have v : vp_in (nI j) 6 := vpN (by omega) (by omega)
      rw [leN (by omega) (by omega), (mk_get hu (show j < 6 by omega)).1, clN (by omega), htm j (by omega)]
      have q1 := b1 j (by omega)
      have q2 := b2 j (by omega)
      have q3 := b3 j (by omega)
      have q4 := bA j (by omega)
      have q5 := bT j (by omega)
      have q6 := hF1 j (by omega)
      refine ⟨fun z => absurd z (by omega), fun _ => ⟨fun c => ⟨v, v, fun x3' e3 => ⟨v, v, fun x4' e4 => ⟨v, fun x5' e5 y eyy => ?_⟩⟩⟩, fun c y eyy => ?_⟩⟩
      · rw [nI_s eyy]
        refine ihm (j + 1) x3' x4' x5' (by omega) ?_ ?_ ?_
        · rw [US_n c, e3, tA h3 (tA rfl rfl (by omega)) (by omega)]
        · rw [US_n c, e4, tA h4 (tA rfl rfl (by omega)) (by omega)]; omega
        · rw [MX_n c, e5, imax_t h5 rfl]
      · rw [nI_s eyy]
        have c' := Classical.not_not.mp c
        refine ihm (j + 1) x3 x4 x5 (by omega) ?_ ?_ ?_
        · rw [US_u c']; exact h3
        · rw [US_u c']; exact h4
        · rw [MX_u c']; exact h5
  refine key N 0 0 x4 0 (by omega) rfl ?_ rfl
  rw [e4]
  show _ = _ + (0 : Int)
  omega
theorem s_scooled {nm co sp : Nat → Int32} {q : Nat → Nat} {k : Nat} {post : Int32 → Prop} (hN : N ≤ 6) (hsym : ∀ a b, nr a b ↔ nr b a) (hnm : nmP N nm nr) (hk : k < N) (hq : ∀ j, j ≤ k → q j < 2 * N) (hsp : ∀ j, j < k → sp j = nI (q j)) (hco : ∀ j, j < k → co (q j / 2) = E3 qa ex ey fr tm rs nr turn travel lift hx hy q j + rs (q j / 2))
    (h : post (coolF rs nr (sA q) (E3 qa ex ey fr tm rs nr turn travel lift hx hy q) k k)) : wp_Search_cooledFor nm co sp (nI (q k / 2)) (nI k) post := by
  unfold wp_Search_cooledFor
  refine ⟨k + 1, ?_⟩
  have qk := hq k (Nat.le_refl k)
  have key : ∀ (m j : Nat), j + m = k → wpL_Search_cooledFor_5 nm co sp (nI (q k / 2)) (nI k) post (m + 1) (coolF rs nr (sA q) (E3 qa ex ey fr tm rs nr turn travel lift hx hy q) k j) (nI j) := by
    intro m
    induction m with
    | zero =>
      intro j hj
      show wpB_Search_cooledFor_5 nm co sp (nI (q k / 2)) (nI k) post (wpL_Search_cooledFor_5 nm co sp (nI (q k / 2)) (nI k) post 0) _ (nI j)
      unfold wpB_Search_cooledFor_5
      rw [leN (by omega) (by omega)]
      refine ⟨fun _ => ?_, fun z => absurd (by omega) z⟩
      rw [show j = k by omega]; exact h
    | succ m ihm =>
      intro j hj
      show wpB_Search_cooledFor_5 nm co sp (nI (q k / 2)) (nI k) post (wpL_Search_cooledFor_5 nm co sp (nI (q k / 2)) (nI k) post (m + 1)) _ (nI j)
      unfold wpB_Search_cooledFor_5
      have qj := hq j (by omega)
      rw [leN (by omega) (by omega), clN (by omega), hsp j (by omega), (half (q j) (by omega)).1]
      refine ⟨fun z => absurd z (by omega), fun _ => ⟨vpN (by omega) (by omega), fun x5 e5 => ?_⟩⟩
      subst e5
      rw [clN (by omega), hco j (by omega)]
      have nx := ihm (j + 1) (by omega)
      refine s_sNear hN hnm (by omega) (by omega) (fun c => ⟨fun z => absurd z (by decide), fun _ => ⟨vpN (by omega) (by omega), fun x3 e3 y eyy => ?_⟩⟩) (fun c => ⟨fun _ y eyy => ?_, fun z => absurd rfl z⟩)
      · rw [nI_s eyy, e3]
        have e : coolF rs nr (sA q) (E3 qa ex ey fr tm rs nr turn travel lift hx hy q) k (j + 1) = imax (coolF rs nr (sA q) (E3 qa ex ey fr tm rs nr turn travel lift hx hy q) k j) (E3 qa ex ey fr tm rs nr turn travel lift hx hy q j + rs (sA q j)) := pif_pos ((hsym _ _).mp c)
        rw [e] at nx
        exact nx
      · rw [nI_s eyy]
        have e : coolF rs nr (sA q) (E3 qa ex ey fr tm rs nr turn travel lift hx hy q) k (j + 1) = coolF rs nr (sA q) (E3 qa ex ey fr tm rs nr turn travel lift hx hy q) k j := pif_neg (fun z => c ((hsym _ _).mp z))
        rw [e] at nx
        exact nx
  exact key k 0 (by omega)
theorem s_keep {sp fo : Nat → Int32} {p : Nat → Nat} {cl : Int32} {post : Int32 → (Nat → Int32) → Prop} (hN : N ≤ 6) (hsp : ∀ j, j < N → sp j = nI (p j)) (h : ∀ fo' : Nat → Int32, (∀ j, j < N → fo' j = nI (p j)) → post cl fo') : wp_Search_keep (nI N) sp fo cl post := by
  unfold wp_Search_keep
  refine ⟨N + 1, ?_⟩
  have key : ∀ (m j : Nat) (f : Nat → Int32), j + m = N → (∀ i, i < j → f i = nI (p i)) → wpL_Search_keep_7 (nI N) sp cl post (m + 1) f (nI j) := by
    intro m
    induction m with
    | zero =>
      intro j f hj hf
      show wpB_Search_keep_7 (nI N) sp cl post (wpL_Search_keep_7 (nI N) sp cl post 0) f (nI j)
      unfold wpB_Search_keep_7
      rw [leN (by omega) (by omega)]
      exact ⟨fun _ => h f (fun i hi => hf i (by omega)), fun z => absurd (by omega) z⟩
    | succ m ihm =>
      intro j f hj hf
      show wpB_Search_keep_7 (nI N) sp cl post (wpL_Search_keep_7 (nI N) sp cl post (m + 1)) f (nI j)
      unfold wpB_Search_keep_7
      have v : vp_in (nI j) 6 := vpN (by omega) (by omega)
      rw [leN (by omega) (by omega), clN (by omega), hsp j (by omega)]
      refine ⟨fun z => absurd z (by omega), fun _ => ⟨v, fun t et => ⟨v, fun g eg y eyy => ?_⟩⟩⟩
      rw [nI_s eyy]
      refine ihm (j + 1) g (by omega) (fun i hi => ?_)
      rw [eg]
      by_cases c : i = j
      · subst c; rw [u_eq, et]
      · rw [u_ne c]; exact hf i (by omega)
  exact key N 0 fo (by omega) (fun i hi => absurd hi (by omega))
end SEEK
