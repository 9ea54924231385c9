/-! the class's times of its row -/
noncomputable def gX (mx my sx sy la lb fl : Int32) (nb : Nat) (bX0 bY0 bX1 bY1 sx0 sy0 sx1 sy1 : Nat → Int32) (a : Nat) (e : Int32) : Int32 := eX sx0 sy0 sx1 sy1 mx sx a e (qtV mx my sx sy la lb fl nb bX0 bY0 bX1 bY1 sx0 sy0 sx1 sy1 a)
noncomputable def gY (mx my sx sy la lb fl : Int32) (nb : Nat) (bX0 bY0 bX1 bY1 sx0 sy0 sx1 sy1 : Nat → Int32) (a : Nat) (e : Int32) : Int32 := eY sx0 sy0 sx1 sy1 my sy a e (qtV mx my sx sy la lb fl nb bX0 bY0 bX1 bY1 sx0 sy0 sx1 sy1 a)
def rsF (heat : Nat → Int32) (cool : Int32) (a : Nat) : Int32 := heat a / cool
theorem s_turnTicks {turn p q : Int32} {post : Int32 → Prop} (h : post (turnF turn p q)) : wp_Pace_turnTicks turn p q post := by
  unfold wp_Pace_turnTicks
  intro x3 e3
  rw [e3]; exact h
theorem s_goTicks {nb : Nat} {bc travel lift x0 y0 x1 y1 : Int32} {bX0 bY0 bX1 bY1 : Nat → Int32} {post : Int32 → Prop} (hb : barsOK nb bX0 bY0 bX1 bY1) (hbc : bc.toInt = (nb : Int)) (h0 : ptOK x0 y0) (h1 : ptOK x1 y1) (ht : 1 ≤ travel.toInt) (h : post (goF (freeP nb bX0 bY0 bX1 bY1) travel lift x0 y0 x1 y1)) : wp_Pace_goTicks bc bX0 bY0 bX1 bY1 travel lift x0 y0 x1 y1 post := by
  unfold wp_Pace_goTicks
  unfold goF at h
  refine s_cutUp ht (s_isFree hb hbc h0 h1 (fun f => ⟨fun z => absurd z (by decide), fun _ => ?_⟩) (fun f => ⟨fun _ => ?_, fun z => absurd rfl z⟩))
  · rw [pif_pos f, Int32.add_zero] at h; exact h
  · rw [pif_neg f] at h; exact h
theorem s_restTicks {cool ht : Int32} {post : Int32 → Prop} (hc : 1 ≤ cool.toInt) (h : post (ht / cool)) : wp_Pace_restTicks cool ht post := by
  unfold wp_Pace_restTicks
  exact s_cutDown hc h
theorem pt400 {x y : Int32} (h1 : in400 x) (h2 : in400 y) : ptOK x y := by unfold in400 at *; unfold ptOK; omega
theorem s_cooledFor {ns n : Nat} {sx0 sy0 sx1 sy1 heat ps pe : Nat → Int32} {gap cool kk : Int32} {sa : Nat → Nat} {k : Nat} {post : Int32 → Prop} (hs : seamsOK ns sx0 sy0 sx1 sy1) (hg : gapOK gap) (hcl : 1 ≤ cool.toInt) (hn : n ≤ 8) (hps : ∀ j, j < n → (ps j).toInt = (sa j : Int)) (hsa : ∀ j, j < n → sa j < ns) (hk : k < n) (hkk : kk.toInt = (k : Int))
    (h : post (coolF (rsF heat cool) (nearP gap sx0 sy0 sx1 sy1) sa pe k k)) : wp_Plan_cooledFor gap cool ps pe sx0 sy0 sx1 sy1 heat kk post := by
  have h8 := hs.1
  unfold wp_Plan_cooledFor
  refine ⟨k + 1, ?_⟩
  have key : ∀ (m j : Nat) (x : Int32), x.toInt = (j : Int) → j + m = k → wpL_Plan_cooledFor_4 gap cool ps pe sx0 sy0 sx1 sy1 heat kk post (m + 1) (coolF (rsF heat cool) (nearP gap sx0 sy0 sx1 sy1) sa pe k j) x := by
    intro m
    induction m with
    | zero =>
      intro j x hx hj
      show wpB_Plan_cooledFor_4 gap cool ps pe sx0 sy0 sx1 sy1 heat kk post (wpL_Plan_cooledFor_4 gap cool ps pe sx0 sy0 sx1 sy1 heat kk post 0) _ x
      unfold wpB_Plan_cooledFor_4
      rw [i_le hkk hx]
      refine ⟨fun _ => ?_, fun z => absurd (by omega) z⟩
      rw [show j = k by omega]; exact h
    | succ m ih =>
      intro j x hx hj
      show wpB_Plan_cooledFor_4 gap cool ps pe sx0 sy0 sx1 sy1 heat kk post (wpL_Plan_cooledFor_4 gap cool ps pe sx0 sy0 sx1 sy1 heat kk post (m + 1)) _ x
      unfold wpB_Plan_cooledFor_4
      rw [i_le hkk hx]
      refine ⟨fun z => absurd z (by omega), fun _ => ⟨vp_t hx (by omega), vp_t hkk (by omega), ?_⟩⟩
      have hps1 := hps j (by omega)
      have hps2 := hps k hk
      rw [cl_t hx, cl_t hkk]
      have next : ∀ y : Int32, y = x + (1 : Int32) → y.toInt = ((j + 1 : Nat) : Int) := fun y e => by rw [e]; exact inc_t hx (by omega)
      refine s_areNear hg hs hps1 (hsa j (by omega)) hps2 (hsa k hk) (fun hn' => ⟨fun z => absurd z (by decide), fun _ => ⟨vp_t hx (by omega), vp_t hps1 (by have := hsa j (by omega); omega), s_restTicks hcl ⟨vp_t hx (by omega), fun x2 e2 x3 e3 => ?_⟩⟩⟩) (fun hn' => ⟨fun _ x3 e3 => ?_, fun z => absurd rfl z⟩)
      · have := ih (j + 1) x3 (next x3 e3) (by omega)
        rw [show coolF (rsF heat cool) (nearP gap sx0 sy0 sx1 sy1) sa pe k (j + 1) = imax (coolF (rsF heat cool) (nearP gap sx0 sy0 sx1 sy1) sa pe k j) (pe j + rsF heat cool (sa j)) from pif_pos hn'] at this
        rw [e2, cl_t hps1]; exact this
      · have := ih (j + 1) x3 (next x3 e3) (by omega)
        rw [show coolF (rsF heat cool) (nearP gap sx0 sy0 sx1 sy1) sa pe k (j + 1) = coolF (rsF heat cool) (nearP gap sx0 sy0 sx1 sy1) sa pe k j from pif_neg hn'] at this
        exact this
  exact key k 0 0 rfl (by omega)
def paceOK (turn travel lift cool hx hy : Int32) : Prop := (0 ≤ turn.toInt ∧ turn.toInt ≤ 100) ∧ (1 ≤ travel.toInt ∧ travel.toInt ≤ 100) ∧ (0 ≤ lift.toInt ∧ lift.toInt ≤ 50) ∧ (1 ≤ cool.toInt ∧ cool.toInt ≤ 100) ∧ in400 hx ∧ in400 hy
theorem e400 {mx my sx sy la lb fl : Int32} {ns : Nat} {sx0 sy0 sx1 sy1 : Nat → Int32} {k : Nat} {e q : Int32} (hc : cellOK mx my sx sy la lb fl) (hs : seamsOK ns sx0 sy0 sx1 sy1) (hk : k < ns) : in400 (eX sx0 sy0 sx1 sy1 mx sx k e q) ∧ in400 (eY sx0 sy0 sx1 sy1 my sy k e q) := by
  have := e_bd (e := e) (q := q) hc hs hk
  unfold in400
  omega
theorem psQ_s {qa : Nat → Int32} {sa : Nat → Nat} {k : Nat} : qa (sa k) = psQ qa sa (k + 1) := by unfold psQ; rw [if_neg (by omega), Nat.add_sub_cancel]
theorem psX_s {ex : Nat → Int32 → Int32} {h : Int32} {sa : Nat → Nat} {sw : Nat → Int32} {k : Nat} : ex (sa k) ((1 : Int32) - sw k) = psX ex h sa sw (k + 1) := by unfold psX; rw [if_neg (by omega), Nat.add_sub_cancel]
theorem clk_s {en : Nat → Int32} {k : Nat} : en k = clk en (k + 1) := by unfold clk; rw [if_neg (by omega), Nat.add_sub_cancel]
theorem psQ_0 {qa : Nat → Int32} {sa : Nat → Nat} : (0 : Int32) = psQ qa sa 0 := rfl
theorem psX_0 {ex : Nat → Int32 → Int32} {h : Int32} {sa : Nat → Nat} {sw : Nat → Int32} : h = psX ex h sa sw 0 := rfl
theorem clk_0 {en : Nat → Int32} : (0 : Int32) = clk en 0 := rfl
theorem RST_eq {qa : Nat → Int32} {ex ey : Nat → Int32 → Int32} {fr : Int32 → Int32 → Int32 → Int32 → Prop} {tm rs : Nat → Int32} {nr : Nat → Nat → Prop} {turn travel lift hx hy : Int32} {sa : Nat → Nat} {sw : Nat → Int32} {k : Nat} : RST qa ex ey fr tm rs nr turn travel lift hx hy sa sw k = BEG qa ex ey fr tm rs nr turn travel lift hx hy sa sw k - thK qa ex ey fr tm rs nr turn travel lift hx hy sa sw (eA qa ex ey fr tm rs nr turn travel lift hx hy sa sw k) k := rfl
theorem thK_eq {qa : Nat → Int32} {ex ey : Nat → Int32 → Int32} {fr : Int32 → Int32 → Int32 → Int32 → Prop} {tm rs : Nat → Int32} {nr : Nat → Nat → Prop} {turn travel lift hx hy : Int32} {sa : Nat → Nat} {sw en : Nat → Int32} {k : Nat} : thK qa ex ey fr tm rs nr turn travel lift hx hy sa sw en k = (clk en k + turnF turn (psQ qa sa k) (qa (sa k))) + goF fr travel lift (psX ex hx sa sw k) (psX ey hy sa sw k) (ex (sa k) (sw k)) (ey (sa k) (sw k)) := rfl
theorem gX_eq (mx my sx sy la lb fl : Int32) (nb : Nat) (bX0 bY0 bX1 bY1 sx0 sy0 sx1 sy1 : Nat → Int32) (a : Nat) (e : Int32) : gX mx my sx sy la lb fl nb bX0 bY0 bX1 bY1 sx0 sy0 sx1 sy1 a e = eX sx0 sy0 sx1 sy1 mx sx a e (qtV mx my sx sy la lb fl nb bX0 bY0 bX1 bY1 sx0 sy0 sx1 sy1 a) := rfl
theorem gY_eq (mx my sx sy la lb fl : Int32) (nb : Nat) (bX0 bY0 bX1 bY1 sx0 sy0 sx1 sy1 : Nat → Int32) (a : Nat) (e : Int32) : gY mx my sx sy la lb fl nb bX0 bY0 bX1 bY1 sx0 sy0 sx1 sy1 a e = eY sx0 sy0 sx1 sy1 my sy a e (qtV mx my sx sy la lb fl nb bX0 bY0 bX1 bY1 sx0 sy0 sx1 sy1 a) := rfl
theorem s_reckon {mx my sx sy la lb fl : Int32} {nb ns : Nat} {bX0 bY0 bX1 bY1 sx0 sy0 sx1 sy1 : Nat → Int32} {n : Nat} {tm heat ps pw pb pe pr : Nat → Int32} {bc gap turn travel lift cool hx hy rc : Int32} {sa : Nat → Nat} {post : Int32 → (Nat → Int32) → (Nat → Int32) → (Nat → Int32) → Prop} (hc : cellOK mx my sx sy la lb fl) (hb : barsOK nb bX0 bY0 bX1 bY1) (hbc : bc.toInt = (nb : Int)) (hs : seamsOK ns sx0 sy0 sx1 sy1) (hg : gapOK gap) (hp : paceOK turn travel lift cool hx hy) (hn : n ≤ 8) (hrc : rc.toInt = (n : Int)) (hps : ∀ j, j < n → (ps j).toInt = (sa j : Int)) (hsa : ∀ j, j < n → sa j < ns)
    (h1 : (∀ j, j < n → qtV mx my sx sy la lb fl nb bX0 bY0 bX1 bY1 sx0 sy0 sx1 sy1 (sa j) ≠ -6) → ∀ b e r : Nat → Int32, (∀ j, j < n → b j = BEG (qtV mx my sx sy la lb fl nb bX0 bY0 bX1 bY1 sx0 sy0 sx1 sy1) (gX mx my sx sy la lb fl nb bX0 bY0 bX1 bY1 sx0 sy0 sx1 sy1) (gY mx my sx sy la lb fl nb bX0 bY0 bX1 bY1 sx0 sy0 sx1 sy1) (freeP nb bX0 bY0 bX1 bY1) tm (rsF heat cool) (nearP gap sx0 sy0 sx1 sy1) turn travel lift hx hy sa pw j ∧ e j = END (qtV mx my sx sy la lb fl nb bX0 bY0 bX1 bY1 sx0 sy0 sx1 sy1) (gX mx my sx sy la lb fl nb bX0 bY0 bX1 bY1 sx0 sy0 sx1 sy1) (gY mx my sx sy la lb fl nb bX0 bY0 bX1 bY1 sx0 sy0 sx1 sy1) (freeP nb bX0 bY0 bX1 bY1) tm (rsF heat cool) (nearP gap sx0 sy0 sx1 sy1) turn travel lift hx hy sa pw j ∧ r j = RST (qtV mx my sx sy la lb fl nb bX0 bY0 bX1 bY1 sx0 sy0 sx1 sy1) (gX mx my sx sy la lb fl nb bX0 bY0 bX1 bY1 sx0 sy0 sx1 sy1) (gY mx my sx sy la lb fl nb bX0 bY0 bX1 bY1 sx0 sy0 sx1 sy1) (freeP nb bX0 bY0 bX1 bY1) tm (rsF heat cool) (nearP gap sx0 sy0 sx1 sy1) turn travel lift hx hy sa pw j) → post 1 b e r) (h0 : ¬ (∀ j, j < n → qtV mx my sx sy la lb fl nb bX0 bY0 bX1 bY1 sx0 sy0 sx1 sy1 (sa j) ≠ -6) → ∀ b e r : Nat → Int32, post 0 b e r) : wp_Plan_reckon mx my sx sy la lb fl bc bX0 bY0 bX1 bY1 gap turn travel lift cool hx hy rc ps pw pb pe pr sx0 sy0 sx1 sy1 tm heat post := by
  have h8 := hs.1
  obtain ⟨p1, p2, p3, p4, p5, p6⟩ := hp
  unfold wp_Plan_reckon
  refine ⟨n + 1, ?_⟩
  have key : ∀ (m k : Nat) (b e r : Nat → Int32) (c q x y kk : Int32), kk.toInt = (k : Int) → k + m = n → (∀ j, j < k → qtV mx my sx sy la lb fl nb bX0 bY0 bX1 bY1 sx0 sy0 sx1 sy1 (sa j) ≠ -6) → (∀ j, j < k → b j = BEG (qtV mx my sx sy la lb fl nb bX0 bY0 bX1 bY1 sx0 sy0 sx1 sy1) (gX mx my sx sy la lb fl nb bX0 bY0 bX1 bY1 sx0 sy0 sx1 sy1) (gY mx my sx sy la lb fl nb bX0 bY0 bX1 bY1 sx0 sy0 sx1 sy1) (freeP nb bX0 bY0 bX1 bY1) tm (rsF heat cool) (nearP gap sx0 sy0 sx1 sy1) turn travel lift hx hy sa pw j ∧ e j = END (qtV mx my sx sy la lb fl nb bX0 bY0 bX1 bY1 sx0 sy0 sx1 sy1) (gX mx my sx sy la lb fl nb bX0 bY0 bX1 bY1 sx0 sy0 sx1 sy1) (gY mx my sx sy la lb fl nb bX0 bY0 bX1 bY1 sx0 sy0 sx1 sy1) (freeP nb bX0 bY0 bX1 bY1) tm (rsF heat cool) (nearP gap sx0 sy0 sx1 sy1) turn travel lift hx hy sa pw j ∧ r j = RST (qtV mx my sx sy la lb fl nb bX0 bY0 bX1 bY1 sx0 sy0 sx1 sy1) (gX mx my sx sy la lb fl nb bX0 bY0 bX1 bY1 sx0 sy0 sx1 sy1) (gY mx my sx sy la lb fl nb bX0 bY0 bX1 bY1 sx0 sy0 sx1 sy1) (freeP nb bX0 bY0 bX1 bY1) tm (rsF heat cool) (nearP gap sx0 sy0 sx1 sy1) turn travel lift hx hy sa pw j) → c = clk e k → q = psQ (qtV mx my sx sy la lb fl nb bX0 bY0 bX1 bY1 sx0 sy0 sx1 sy1) sa k → x = psX (gX mx my sx sy la lb fl nb bX0 bY0 bX1 bY1 sx0 sy0 sx1 sy1) hx sa pw k → y = psX (gY mx my sx sy la lb fl nb bX0 bY0 bX1 bY1 sx0 sy0 sx1 sy1) hy sa pw k → wpL_Plan_reckon_24 mx my sx sy la lb fl bc bX0 bY0 bX1 bY1 gap turn travel lift cool rc ps pw sx0 sy0 sx1 sy1 tm heat post (m + 1) b e r c q x y kk := by
    intro m
    induction m with
    | zero =>
      intro k b e r c q x y kk hkk hk hq hbe ec eq ex' ey'
      show wpB_Plan_reckon_24 mx my sx sy la lb fl bc bX0 bY0 bX1 bY1 gap turn travel lift cool rc ps pw sx0 sy0 sx1 sy1 tm heat post (wpL_Plan_reckon_24 mx my sx sy la lb fl bc bX0 bY0 bX1 bY1 gap turn travel lift cool rc ps pw sx0 sy0 sx1 sy1 tm heat post 0) b e r c q x y kk
      unfold wpB_Plan_reckon_24
      rw [i_le hrc hkk]
      refine ⟨fun _ => h1 (fun j hj => hq j (by omega)) b e r (fun j hj => hbe j (by omega)), fun z => absurd (by omega) z⟩
    | succ m ih =>
      intro k b e r c q x y kk hkk hk hq hbe ec eq ex' ey'
      show wpB_Plan_reckon_24 mx my sx sy la lb fl bc bX0 bY0 bX1 bY1 gap turn travel lift cool rc ps pw sx0 sy0 sx1 sy1 tm heat post (wpL_Plan_reckon_24 mx my sx sy la lb fl bc bX0 bY0 bX1 bY1 gap turn travel lift cool rc ps pw sx0 sy0 sx1 sy1 tm heat post (m + 1)) b e r c q x y kk
      unfold wpB_Plan_reckon_24
      have hkn : k < n := by omega
      have v := vp_t (N := 8) hkk (by omega)
      have hsk := hsa k hkn
      have hpk := hps k hkn
      have vs := vp_t (N := 8) hpk (by omega)
      rw [i_le hrc hkk, cl_t hkk, cl_t hpk]
      refine ⟨fun z => absurd z (by omega), fun _ => ⟨v, s_quarterOf hc hb hbc hs hsk hpk ⟨fun z => ?_, fun z => h0 (fun hall => hall k hkn z) _ _ _⟩⟩⟩
      refine ⟨v, v, s_endX hpk (by omega) ⟨v, v, s_endY hpk (by omega) (s_turnTicks ?_)⟩⟩
      have hin := e400 (e := pw k) (q := qtV mx my sx sy la lb fl nb bX0 bY0 bX1 bY1 sx0 sy0 sx1 sy1 (sa k)) hc hs hsk
      have hxy : in400 x ∧ in400 y := by
        rw [ex', ey']
        unfold psX
        split
        · exact ⟨p5, p6⟩
        · exact e400 hc hs (hsa _ (by omega))
      refine s_goTicks hb hbc (pt400 hxy.1 hxy.2) (pt400 hin.1 hin.2) p2.1 ?_
      intro x9 e9
      have et : x9 = thK (qtV mx my sx sy la lb fl nb bX0 bY0 bX1 bY1 sx0 sy0 sx1 sy1) (gX mx my sx sy la lb fl nb bX0 bY0 bX1 bY1 sx0 sy0 sx1 sy1) (gY mx my sx sy la lb fl nb bX0 bY0 bX1 bY1 sx0 sy0 sx1 sy1) (freeP nb bX0 bY0 bX1 bY1) tm (rsF heat cool) (nearP gap sx0 sy0 sx1 sy1) turn travel lift hx hy sa pw e k := by
        rw [e9, ec, eq, ex', ey', thK_eq, gX_eq, gY_eq]
      refine s_cooledFor hs hg p4.1 hn hps hsa hkn hkk ?_
      intro t18 e18
      have hbg : t18 = BEG (qtV mx my sx sy la lb fl nb bX0 bY0 bX1 bY1 sx0 sy0 sx1 sy1) (gX mx my sx sy la lb fl nb bX0 bY0 bX1 bY1 sx0 sy0 sx1 sy1) (gY mx my sx sy la lb fl nb bX0 bY0 bX1 bY1 sx0 sy0 sx1 sy1) (freeP nb bX0 bY0 bX1 bY1) tm (rsF heat cool) (nearP gap sx0 sy0 sx1 sy1) turn travel lift hx hy sa pw k := by
        rw [e18, et]
        exact beg_due (fun j hj => (hbe j hj).2.1)
      refine ⟨v, fun g19 e19 => ⟨v, fun t20 e20 => ⟨v, fun g21 e21 => ⟨v, v, vs, fun t23 e23 => ⟨v, fun g24 e24 => ⟨v, fun x1 ex1 => ⟨v, v, s_endX hpk (by omega) ⟨v, v, s_endY hpk (by omega) (fun x5 e5 => ?_)⟩⟩⟩⟩⟩⟩⟩⟩
      have g19k : g19 k = BEG (qtV mx my sx sy la lb fl nb bX0 bY0 bX1 bY1 sx0 sy0 sx1 sy1) (gX mx my sx sy la lb fl nb bX0 bY0 bX1 bY1 sx0 sy0 sx1 sy1) (gY mx my sx sy la lb fl nb bX0 bY0 bX1 bY1 sx0 sy0 sx1 sy1) (freeP nb bX0 bY0 bX1 bY1) tm (rsF heat cool) (nearP gap sx0 sy0 sx1 sy1) turn travel lift hx hy sa pw k := by rw [e19, u_eq, hbg]
      have t23e : t23 = END (qtV mx my sx sy la lb fl nb bX0 bY0 bX1 bY1 sx0 sy0 sx1 sy1) (gX mx my sx sy la lb fl nb bX0 bY0 bX1 bY1 sx0 sy0 sx1 sy1) (gY mx my sx sy la lb fl nb bX0 bY0 bX1 bY1 sx0 sy0 sx1 sy1) (freeP nb bX0 bY0 bX1 bY1) tm (rsF heat cool) (nearP gap sx0 sy0 sx1 sy1) turn travel lift hx hy sa pw k := by rw [e23, g19k, END_eq]
      refine ih (k + 1) g19 g24 g21 x1 _ _ _ x5 (by rw [e5]; exact inc_t hkk (by omega)) (by omega) (fun j hj => ?_) (fun j hj => ?_) ?_ psQ_s ((gX_eq ..).symm.trans psX_s) ((gY_eq ..).symm.trans psX_s)
      · rcases Nat.lt_or_ge j k with q' | q'
        · exact hq j q'
        · rw [show j = k by omega]; exact z
      · rcases Nat.lt_or_ge j k with q' | q'
        · rw [e19, e24, e21, u_ne (by omega), u_ne (by omega), u_ne (by omega)]
          exact hbe j q'
        · rw [show j = k by omega, e21, e24, u_eq, u_eq]
          refine ⟨g19k, t23e, ?_⟩
          rw [e20, g19k, et, th_due (fun j hj => (hbe j hj).2.1), RST_eq]
      · rw [ex1]; exact clk_s
  exact key n 0 pb pe pr 0 0 hx hy 0 rfl (by omega) (fun j hj => by omega) (fun j hj => by omega) clk_0 psQ_0 psX_0 psX_0
