/-! the reference's loop, and a run as a whole -/
section RUN3
variable {n1 n2 : Nat} {k1 z1 b1 k2 z2 b2 acts am : Nat → Int32}
theorem s_mrunL {ra : Nat → Int32} {post : Int32 → Int32 → (Nat → Int32) → (Nat → Int32) → (Nat → Int32) → (Nat → Int32) → Prop} {P : Nat → Nat → Int32 → Nat → Nat → Int32 → Prop → Nat → Prop} (hA1 : actsOK n1 k1 z1 b1) (hA2 : actsOK n2 k2 z2 b2) (hm1 : actsM n1 0 acts k1 z1) (hm2 : actsM n2 1 acts k2 z2) (hc1 : (am 0).toInt = (n1 : Int)) (hc2 : (am 1).toInt = (n2 : Int))
    (hP : ∀ (d1 l1 : Nat) (w1 : Int32) (d2 l2 : Nat) (w2 : Int32) (lk : Prop) (t : Nat), P d1 l1 w1 d2 l2 w2 lk t → ∀ (x1 x2 : Int32) (dn lf wt g : Nat → Int32), (x2 = 0 ↔ ¬ lk) → x1.toInt = (t : Int) → (dn 0).toInt = (mD d1 l1 : Int) → (lf 0).toInt = (l1 : Int) → wt 0 = w1 → (dn 1).toInt = (mD d2 l2 : Int) → (lf 1).toInt = (l2 : Int) → wt 1 = w2 →
      g 0 = x1 → g 1 = dn 0 → g 2 = dn 1 → g 3 = wt 0 → g 4 = wt 1 → ((x2 = 0 → post 1 1 dn lf wt g) ∧ (¬ x2 = 0 → post 0 1 dn lf wt g))) :
    ∀ (m d1 l1 : Nat) (w1 : Int32) (d2 l2 : Nat) (w2 : Int32) (lk : Prop) (t : Nat), AI n1 k1 d1 l1 → AI n2 k2 d2 l2 → t + m ≤ 9000 → RN n1 k1 z1 n2 k2 z2 P m d1 l1 w1 d2 l2 w2 lk t →
    ∀ (x1 x2 : Int32) (dn lf wt : Nat → Int32), (x2 = 0 ↔ ¬ lk) → x1.toInt = (t : Int) → (dn 0).toInt = (mD d1 l1 : Int) → (lf 0).toInt = (l1 : Int) → wt 0 = w1 → (dn 1).toInt = (mD d2 l2 : Int) → (lf 1).toInt = (l2 : Int) → wt 1 = w2 → wpL_Model_run_38 acts am ra post m dn lf wt x1 x2 := by
  have q0 : (0 : Int32).toNatClampNeg = 0 := rfl
  have q1 : (1 : Int32).toNatClampNeg = 1 := rfl
  have q2 : (2 : Int32).toNatClampNeg = 2 := rfl
  have q3 : (3 : Int32).toNatClampNeg = 3 := rfl
  have q4 : (4 : Int32).toNatClampNeg = 4 := rfl
  have t0 : (0 : Int32).toInt = ((0 : Nat) : Int) := rfl
  have t1 : (1 : Int32).toInt = ((1 : Nat) : Int) := rfl
  intro m
  induction m with
  | zero => intro d1 l1 w1 d2 l2 w2 lk t _ _ _ h; exact absurd h (fun q => q)
  | succ m ih =>
    intro d1 l1 w1 d2 l2 w2 lk t h1 h2 ht hR x1 x2 dn lf wt hx2 hx1 hd1 hl1 hw1 hd2 hl2 hw2
    show wpB_Model_run_38 acts am ra post (wpL_Model_run_38 acts am ra post m) dn lf wt x1 x2
    have ihm := ih
    clear ih
    obtain ⟨hRe, hRs⟩ := hR
    have fin : (lk ∨ (ovP n1 d1 l1 ∧ ovP n2 d2 l2)) → ∀ g : Nat → Int32, g 0 = x1 → g 1 = dn 0 → g 2 = dn 1 → g 3 = wt 0 → g 4 = wt 1 → ((x2 = 0 → post 1 1 dn lf wt g) ∧ (¬ x2 = 0 → post 0 1 dn lf wt g)) := fun c g e0 e1 e2 e3 e4 => hP _ _ _ _ _ _ _ _ (hRe c) x1 x2 dn lf wt g hx2 hx1 hd1 hl1 hw1 hd2 hl2 hw2 e0 e1 e2 e3 e4
    have a1 := AI_t (zo := zn k2 z2 d2) hA1 h1
    have a2 := AI_t (zo := zn k1 z1 (tkD n1 k1 z1 (zn k2 z2 d2) d1 l1)) hA2 h2
    unfold wpB_Model_run_38
    rw [q0, q1, q2, q3, q4]
    refine ⟨fun q g12 e12 t13 e13 g14 e14 t15 e15 g16 e16 t17 e17 g18 e18 t19 e19 g20 e20 => fin (Or.inl (nzP hx2 q)) g20 ?_ ?_ ?_ ?_ ?_, fun x20 => ?_⟩
    · simp [e20, e18, e16, e14, e12, upd]
    · simp [e20, e18, e16, e14, e12, e13, upd]
    · simp [e20, e18, e16, e14, e12, e15, upd]
    · simp [e20, e18, e16, e14, e12, e17, upd]
    · simp [e20, e18, e16, e14, e12, e19, upd]
    have nlk : ¬ lk := hx2.mp x20
    have nx := fun hov => ihm _ _ _ _ _ _ _ _ a1 a2 (by omega) (hRs nlk hov)
    have ee : ∀ x : Int32, x = x1 + (1 : Int32) → x.toInt = ((t + 1 : Nat) : Int) := fun x e => by rw [e]; exact inc_t hx1 (by omega)
    have wv : ∀ (r w : Int32) (Q : Prop), (r = 0 ↔ ¬ Q) → (r = 0 → w + (0 : Int32) = wU Q w) ∧ (¬ r = 0 → w + (1 : Int32) = wU Q w) := fun r w Q hr => ⟨fun z => by rw [wU_0 (hr.mp z), Int32.add_zero], fun z => by rw [wU_1 (nzP hr z)]⟩
    have go : ∀ {POST : Int32 → Int32 → Int32 → Int32 → (Nat → Int32) → (Nat → Int32) → Prop}, (∀ (r24 r25 r26 r29 : Int32) (dn' lf' : Nat → Int32), (r24 = 0 ↔ ¬ ovP n1 d1 l1) → (r25 = 0 ↔ ¬ ovP n2 d2 l2) → (r26 = 0 ↔ ¬ tkW n1 k1 z1 (zn k2 z2 d2) d1 l1) → (r29 = 0 ↔ ¬ tkW n2 k2 z2 (zn k1 z1 (tkD n1 k1 z1 (zn k2 z2 d2) d1 l1)) d2 l2) →
        (dn' 0).toInt = (mD (tkD n1 k1 z1 (zn k2 z2 d2) d1 l1) (tkL n1 k1 z1 (zn k2 z2 d2) d1 l1) : Int) → (lf' 0).toInt = (tkL n1 k1 z1 (zn k2 z2 d2) d1 l1 : Int) → (dn' 1).toInt = (mD (tkD n2 k2 z2 (zn k1 z1 (tkD n1 k1 z1 (zn k2 z2 d2) d1 l1)) d2 l2) (tkL n2 k2 z2 (zn k1 z1 (tkD n1 k1 z1 (zn k2 z2 d2) d1 l1)) d2 l2) : Int) → (lf' 1).toInt = (tkL n2 k2 z2 (zn k1 z1 (tkD n1 k1 z1 (zn k2 z2 d2) d1 l1)) d2 l2 : Int) → POST r24 r25 r26 r29 dn' lf') →
        wp_Model_isOver am dn lf (0 : Int32) (fun r_24 => wp_Model_isOver am dn lf (1 : Int32) (fun r_25 => wp_Model_goes acts am dn lf (0 : Int32) (fun r_26 dn1 lf1 => wp_Model_goes acts am dn1 lf1 (1 : Int32) (fun r_29 dn2 lf2 => POST r_24 r_25 r_26 r_29 dn2 lf2)))) := by
      intro POST hh
      refine s_misOver h1 hc1 t0 (by omega) hd1 hl1 (fun r24 h24 => s_misOver h2 hc2 t1 (by omega) hd2 hl2 (fun r25 h25 => ?_))
      refine s_mgoes (zo := zn k2 z2 d2) hA1 h1 hm1 hm2 hA2.1 hc1 t0 (by omega) hd1 hl1 hd2 (mD_le h2) (zn_mD h2) (fun r26 dn1 lf1 h26 ed el td tl => ?_)
      refine s_mgoes (zo := zn k1 z1 (tkD n1 k1 z1 (zn k2 z2 d2) d1 l1)) hA2 h2 hm2 hm1 hA1.1 hc2 t1 (by omega) (by rw [show dn1 1 = dn 1 from ed]; exact hd2) (by rw [show lf1 1 = lf 1 from el]; exact hl2) td (mD_le a1) (zn_mD a1) (fun r29 dn2 lf2 h29 ed' el' td' tl' => ?_)
      exact hh r24 r25 r26 r29 dn2 lf2 h24 h25 h26 h29 (by rw [show dn2 0 = dn1 0 from ed']; exact td) (by rw [show lf2 0 = lf1 0 from el']; exact tl) td' tl'
    refine s_misOver h1 hc1 t0 (by omega) hd1 hl1 (fun r22 h22 => ⟨fun q => ?_, fun q => s_misOver h2 hc2 t1 (by omega) hd2 hl2 (fun r55 h55 => ⟨fun p g12 e12 t13 e13 g14 e14 t15 e15 g16 e16 t17 e17 g18 e18 t19 e19 g20 e20 => fin (Or.inr ⟨nzP h22 q, nzP h55 p⟩) g20 ?_ ?_ ?_ ?_ ?_, fun p => ?_⟩)⟩)
    · have nx' := nx (fun v => h22.mp q v.1)
      refine go (fun r24 r25 r26 r29 dn' lf' h24 h25 h26 h29 td1 tl1 td2 tl2 => ?_)
      have y1 := fun lk' x1' wt' e e1 e2 => nx' x1' 1 dn' lf' wt' ⟨fun z => absurd z (by decide), fun z => absurd lk' z⟩ e td1 tl1 e1 td2 tl2 e2
      have y0 := fun lk' x1' wt' e e1 e2 => nx' x1' 0 dn' lf' wt' ⟨fun _ => lk', fun _ => rfl⟩ e td1 tl1 e1 td2 tl2 e2
      have j121 : ∀ (g : Nat → Int32) (w : Int32), g 0 = wU (tkW n1 k1 z1 (zn k2 z2 d2) d1 l1) w1 → g 1 + w = wU (tkW n2 k2 z2 (zn k1 z1 (tkD n1 k1 z1 (zn k2 z2 d2) d1 l1)) d2 l2) w2 → wp_Model_run_j121_52 x1 (wpL_Model_run_38 acts am ra post m) r24 r25 r26 r29 dn' lf' g w := by
        intro g w hg0 hg1
        unfold wp_Model_run_j121_52
        rw [q1]
        intro t36 e36 g37 e37 x38 e38
        have e := ee x38 e38
        have g0 : g37 0 = wU (tkW n1 k1 z1 (zn k2 z2 d2) d1 l1) w1 := by rw [e37, u_ne (by omega)]; exact hg0
        have g1 : g37 1 = wU (tkW n2 k2 z2 (zn k1 z1 (tkD n1 k1 z1 (zn k2 z2 d2) d1 l1)) d2 l2) w2 := by rw [e37, u_eq, e36]; exact hg1
        have Y1 := fun lk' => y1 lk' x38 g37 e g0 g1
        have Y0 := fun lk' => y0 lk' x38 g37 e g0 g1
        refine ⟨fun a => ⟨fun _ => ⟨fun b => Y0 (fun v => v.1.elim (h26.mp a) (fun o => v.2.elim (h29.mp b) (fun o2 => h22.mp q o))), fun b => ⟨fun c => Y0 (fun v => v.1.elim (h26.mp a) (h24.mp c)), fun c => Y1 ⟨Or.inr (nzP h24 c), Or.inl (nzP h29 b)⟩⟩⟩, fun a' => absurd a a'⟩,
          fun a => ⟨fun b => Y1 ⟨Or.inl (nzP h26 a), Or.inl (nzP h29 b)⟩, fun b => ⟨fun a' => absurd a' a, fun _ => ⟨fun c => Y1 ⟨Or.inl (nzP h26 a), Or.inr (nzP h25 c)⟩, fun c => ⟨fun _ => Y0 (fun v => v.2.elim (h29.mp b) (h25.mp c)), fun b' => absurd b b'⟩⟩⟩⟩⟩
      have j102 : ∀ w : Int32, w1 + w = wU (tkW n1 k1 z1 (zn k2 z2 d2) d1 l1) w1 → wp_Model_run_j102_53 wt x1 (wpL_Model_run_38 acts am ra post m) r24 r25 r26 r29 dn' lf' w := by
        intro w hw
        unfold wp_Model_run_j102_53
        rw [q0]
        intro t33 e33 g34 e34
        have g0 : g34 0 = wU (tkW n1 k1 z1 (zn k2 z2 d2) d1 l1) w1 := by rw [e34, u_eq, e33, hw1]; exact hw
        have g1 : g34 1 = w2 := by rw [e34, u_ne (by omega)]; exact hw2
        exact ⟨fun b => j121 g34 0 g0 (by rw [g1]; exact (wv _ _ _ h29).1 b), fun b => j121 g34 1 g0 (by rw [g1]; exact (wv _ _ _ h29).2 b)⟩
      exact ⟨fun a => j102 0 ((wv _ _ _ h26).1 a), fun a => j102 1 ((wv _ _ _ h26).2 a)⟩
    · simp [e20, e18, e16, e14, e12, upd]
    · simp [e20, e18, e16, e14, e12, e13, upd]
    · simp [e20, e18, e16, e14, e12, e15, upd]
    · simp [e20, e18, e16, e14, e12, e17, upd]
    · simp [e20, e18, e16, e14, e12, e19, upd]
    · have nx' := nx (fun v => h55.mp p v.2)
      refine go (fun r24 r25 r26 r29 dn' lf' h24 h25 h26 h29 td1 tl1 td2 tl2 => ?_)
      have y1 := fun lk' x1' wt' e e1 e2 => nx' x1' 1 dn' lf' wt' ⟨fun z => absurd z (by decide), fun z => absurd lk' z⟩ e td1 tl1 e1 td2 tl2 e2
      have y0 := fun lk' x1' wt' e e1 e2 => nx' x1' 0 dn' lf' wt' ⟨fun _ => lk', fun _ => rfl⟩ e td1 tl1 e1 td2 tl2 e2
      have j121 : ∀ (g : Nat → Int32) (w : Int32), g 0 = wU (tkW n1 k1 z1 (zn k2 z2 d2) d1 l1) w1 → g 1 + w = wU (tkW n2 k2 z2 (zn k1 z1 (tkD n1 k1 z1 (zn k2 z2 d2) d1 l1)) d2 l2) w2 → wp_Model_run_j121_95 x1 (wpL_Model_run_38 acts am ra post m) r24 r25 r26 r29 dn' lf' g w := by
        intro g w hg0 hg1
        unfold wp_Model_run_j121_95
        rw [q1]
        intro t36 e36 g37 e37 x38 e38
        have e := ee x38 e38
        have g0 : g37 0 = wU (tkW n1 k1 z1 (zn k2 z2 d2) d1 l1) w1 := by rw [e37, u_ne (by omega)]; exact hg0
        have g1 : g37 1 = wU (tkW n2 k2 z2 (zn k1 z1 (tkD n1 k1 z1 (zn k2 z2 d2) d1 l1)) d2 l2) w2 := by rw [e37, u_eq, e36]; exact hg1
        have Y1 := fun lk' => y1 lk' x38 g37 e g0 g1
        have Y0 := fun lk' => y0 lk' x38 g37 e g0 g1
        refine ⟨fun a => ⟨fun _ => ⟨fun b => Y0 (fun v => v.1.elim (h26.mp a) (fun o => v.2.elim (h29.mp b) (fun o2 => h55.mp p o2))), fun b => ⟨fun c => Y0 (fun v => v.1.elim (h26.mp a) (h24.mp c)), fun c => Y1 ⟨Or.inr (nzP h24 c), Or.inl (nzP h29 b)⟩⟩⟩, fun a' => absurd a a'⟩,
          fun a => ⟨fun b => Y1 ⟨Or.inl (nzP h26 a), Or.inl (nzP h29 b)⟩, fun b => ⟨fun a' => absurd a' a, fun _ => ⟨fun c => Y1 ⟨Or.inl (nzP h26 a), Or.inr (nzP h25 c)⟩, fun c => ⟨fun _ => Y0 (fun v => v.2.elim (h29.mp b) (h25.mp c)), fun b' => absurd b b'⟩⟩⟩⟩⟩
      have j102 : ∀ w : Int32, w1 + w = wU (tkW n1 k1 z1 (zn k2 z2 d2) d1 l1) w1 → wp_Model_run_j102_96 wt x1 (wpL_Model_run_38 acts am ra post m) r24 r25 r26 r29 dn' lf' w := by
        intro w hw
        unfold wp_Model_run_j102_96
        rw [q0]
        intro t33 e33 g34 e34
        have g0 : g34 0 = wU (tkW n1 k1 z1 (zn k2 z2 d2) d1 l1) w1 := by rw [e34, u_eq, e33, hw1]; exact hw
        have g1 : g34 1 = w2 := by rw [e34, u_ne (by omega)]; exact hw2
        exact ⟨fun b => j121 g34 0 g0 (by rw [g1]; exact (wv _ _ _ h29).1 b), fun b => j121 g34 1 g0 (by rw [g1]; exact (wv _ _ _ h29).2 b)⟩
      exact ⟨fun a => j102 0 ((wv _ _ _ h26).1 a), fun a => j102 1 ((wv _ _ _ h26).2 a)⟩
/-- a run of both: the same answer, the same five numbers -/
theorem j_run {c1 c2 : Int32} {la ra dn lf wt : Nat → Int32} (hA1 : actsOK n1 k1 z1 b1) (hA2 : actsOK n2 k2 z2 b2) (hm1 : actsM n1 0 acts k1 z1) (hm2 : actsM n2 1 acts k2 z2) (hc1 : c1.toInt = (n1 : Int)) (hc2 : c2.toInt = (n2 : Int)) (hM1 : (am 0).toInt = (n1 : Int)) (hM2 : (am 1).toInt = (n2 : Int))
    {post : Int32 → Int32 → (Nat → Int32) → Int32 → Int32 → Int32 → Int32 → Int32 → Int32 → Prop} {post' : Int32 → Int32 → Int32 → (Nat → Int32) → Int32 → Int32 → Int32 → Int32 → Int32 → Int32 → Int32 → (Nat → Int32) → (Nat → Int32) → (Nat → Int32) → (Nat → Int32) → Prop}
    (hp : ∀ r hr la a b c d e f, wp_Model_run acts am dn lf wt ra (fun r' hr' dn' lf' wt' ra' => post' r r' hr la a b c d e f hr' dn' lf' wt' ra') → post r hr la a b c d e f)
    (h : ∀ (r : Int32) (la' ra' : Nat → Int32) (a b c d e f : Int32) (dn' lf' wt' : Nat → Int32), (∀ k, k < 5 → la' k = ra' k) → post' r r 1 la' a b c d e f 1 dn' lf' wt' ra') : wp_SeamCell_run la c1 k1 z1 b1 c2 k2 z2 b2 post := by
  have z0 : (0 : Int32).toInt = ((0 : Nat) : Int) := rfl
  have i1 : AI n1 k1 0 0 := ⟨by omega, by omega, fun q => absurd q (by omega)⟩
  have i2 : AI n2 k2 0 0 := ⟨by omega, by omega, fun q => absurd q (by omega)⟩
  have u1 := hA1.1
  have u2 := hA2.1
  obtain ⟨D1, W1, D2, W2, LK, T, HR⟩ := RN_ex hA1 hA2 1640 0 0 0 0 0 0 False 0 i1 i2 (fun q => q.elim) (fun _ => by omega) (by omega)
  unfold wp_SeamCell_run wp_Crew_work wp_Acts_begin
  refine ⟨1640, s_workL hA1 hA2 hc1 hc2 (fun d1 l1 w1 d2 l2 w2 lk t hP x1 x2 dn1 wl1 dn2 wl2 hx1 hx2 hd1 hl1 hd2 hl2 => ?_) 1640 0 0 0 0 0 0 False 0 i1 i2 (by omega) HR 0 0 0 0 0 0 ⟨fun _ q => q, fun _ => rfl⟩ rfl rfl rfl rfl rfl⟩
  obtain ⟨p1, p2, p3, p4, p5, p6, p7, p8⟩ := hP
  unfold wp_Crew_work_j129_17 wp_Crew_note
  intro g1 e1 g2 e2 g3 e3 g4 e4 g5 e5
  have f0 : g5 0 = x2 := by simp [e5, e4, e3, e2, e1, upd]
  have f1 : g5 1 = dn1 := by simp [e5, e4, e3, e2, e1, upd]
  have f2 : g5 2 = dn2 := by simp [e5, e4, e3, e2, e1, upd]
  have f3 : g5 3 = w1 := by simp [e5, e4, e3, e2, e1, upd]
  have f4 : g5 4 = w2 := by simp [e5, e4, e3, e2, e1, upd]
  have mm : ∀ r : Int32, (r = 0 ∨ r = 1) → (r = 0 ↔ LK) → post r 1 g5 dn1 wl1 w1 dn2 wl2 w2 := by
    intro r r01 hr
    refine hp _ _ _ _ _ _ _ _ _ ?_
    suffices H : ∀ PO : Int32 → Int32 → (Nat → Int32) → (Nat → Int32) → (Nat → Int32) → (Nat → Int32) → Prop, (∀ dn' lf' wt' ra' : Nat → Int32, (∀ k, k < 5 → g5 k = ra' k) → PO r 1 dn' lf' wt' ra') → wp_Model_run acts am dn lf wt ra PO from H _ (fun dn' lf' wt' ra' all => h r g5 ra' _ _ _ _ _ _ dn' lf' wt' all)
    intro PO hPO
    unfold wp_Model_run
    refine ⟨3, ?_⟩
    show wpB_Model_run_2 acts am ra PO (wpB_Model_run_2 acts am ra PO (wpB_Model_run_2 acts am ra PO (wpL_Model_run_2 acts am ra PO 0))) dn lf wt 0
    unfold wpB_Model_run_2
    have c2 : (2 : Int32).toInt = 2 := rfl
    refine ⟨fun q => absurd q (by decide), fun _ => ⟨vp_t (n := 0) rfl (by omega), fun ga ea => ⟨vp_t (n := 0) rfl (by omega), fun gb eb => ⟨vp_t (n := 0) rfl (by omega), fun gc ec y1 ey1 => ?_⟩⟩⟩⟩
    have ty1 : y1.toInt = ((1 : Nat) : Int) := by rw [ey1]; rfl
    refine ⟨fun q => absurd ((i_le c2 ty1).mp q) (by omega), fun _ => ⟨vp_t ty1 (by omega), fun ga' ea' => ⟨vp_t ty1 (by omega), fun gb' eb' => ⟨vp_t ty1 (by omega), fun gc' ec' y2 ey2 => ?_⟩⟩⟩⟩
    have ty2 : y2.toInt = ((2 : Nat) : Int) := by rw [ey2]; exact inc_t ty1 (by omega)
    refine ⟨fun _ => ⟨1640, ?_⟩, fun q => absurd ((i_le c2 ty2).mpr (by omega)) q⟩
    rw [cl_t ty1] at ea' eb' ec'
    have q0 : (0 : Int32).toNatClampNeg = 0 := rfl
    rw [q0] at ea eb ec
    refine s_mrunL hA1 hA2 hm1 hm2 hM1 hM2 (fun d1' l1' w1' d2' l2' w2' lk' t' hP' x1' x2' dn' lf' wt' g hx2' hx1' hd1' hl1' hw1' hd2' hl2' hw2' e0 e1' e2' e3' e4' => ?_) 1640 0 0 0 0 0 0 False 0 i1 i2 (by omega) HR 0 0 ga' gb' gc' ⟨fun _ q => q, fun _ => rfl⟩ rfl ?_ ?_ ?_ ?_ ?_ ?_
    · obtain ⟨s1, s2, s3, s4, s5, s6, s7, s8⟩ := hP'
      have all : ∀ k, k < 5 → g5 k = g k := by
        intro k hk
        rcases (show k = 0 ∨ k = 1 ∨ k = 2 ∨ k = 3 ∨ k = 4 by omega) with e | e | e | e | e
        · rw [e, f0, e0]; exact Int32.toInt_inj.mp (by rw [hx2, hx1', p8, s8])
        · rw [e, f1, e1']; exact Int32.toInt_inj.mp (by rw [hd1, hd1', p3, s3, s1, mD_0])
        · rw [e, f2, e2']; exact Int32.toInt_inj.mp (by rw [hd2, hd2', p5, s5, s2, mD_0])
        · rw [e, f3, e3', p4, hw1', s4]
        · rw [e, f4, e4', p6, hw2', s6]
      refine ⟨fun c => ?_, fun c => ?_⟩
      · have nl : ¬ LK := fun v => hx2'.mp c (s7.mpr v)
        have r1 : r = 1 := r01.elim (fun v => absurd (hr.mp v) nl) id
        have := hPO dn' lf' wt' g all; rw [r1] at this; exact this
      · have yl : LK := s7.mp (nzP hx2' c)
        have := hPO dn' lf' wt' g all; rw [hr.mpr yl] at this; exact this
    · rw [ea', u_ne (by omega), ea, u_eq]; rfl
    · rw [eb', u_ne (by omega), eb, u_eq]; rfl
    · rw [ec', u_ne (by omega), ec, u_eq]
    · rw [ea', u_eq]; rfl
    · rw [eb', u_eq]; rfl
    · rw [ec', u_eq]
  refine ⟨fun q => ⟨fun _ => mm 0 (Or.inl rfl) ⟨fun _ => p7.mp (nzP hx1 q), fun _ => rfl⟩, fun z => absurd rfl z⟩, fun q => ⟨fun z => absurd z (by decide), fun _ => mm 1 (Or.inr rfl) ⟨fun z => absurd z (by decide), fun v => absurd (p7.mpr v) (hx1.mp q)⟩⟩⟩
end RUN3
