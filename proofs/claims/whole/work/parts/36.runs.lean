/-! the runs of class and reference -/
def RN (n1 : Nat) (k1 z1 : Nat → Int32) (n2 : Nat) (k2 z2 : Nat → Int32) (post : Nat → Nat → Int32 → Nat → Nat → Int32 → Prop → Nat → Prop) : Nat → Nat → Nat → Int32 → Nat → Nat → Int32 → Prop → Nat → Prop
  | 0, _, _, _, _, _, _, _, _ => False
  | m + 1, d1, l1, w1, d2, l2, w2, lk, t => (lk ∨ (ovP n1 d1 l1 ∧ ovP n2 d2 l2) → post d1 l1 w1 d2 l2 w2 lk t) ∧
    (¬ lk → ¬ (ovP n1 d1 l1 ∧ ovP n2 d2 l2) → RN n1 k1 z1 n2 k2 z2 post m (tkD n1 k1 z1 (zn k2 z2 d2) d1 l1) (tkL n1 k1 z1 (zn k2 z2 d2) d1 l1) (wU (tkW n1 k1 z1 (zn k2 z2 d2) d1 l1) w1)
      (tkD n2 k2 z2 (zn k1 z1 (tkD n1 k1 z1 (zn k2 z2 d2) d1 l1)) d2 l2) (tkL n2 k2 z2 (zn k1 z1 (tkD n1 k1 z1 (zn k2 z2 d2) d1 l1)) d2 l2) (wU (tkW n2 k2 z2 (zn k1 z1 (tkD n1 k1 z1 (zn k2 z2 d2) d1 l1)) d2 l2) w2)
      ((tkW n1 k1 z1 (zn k2 z2 d2) d1 l1 ∨ ovP n1 d1 l1) ∧ (tkW n2 k2 z2 (zn k1 z1 (tkD n1 k1 z1 (zn k2 z2 d2) d1 l1)) d2 l2 ∨ ovP n2 d2 l2)) (t + 1))
section RUN2
variable {n1 n2 : Nat} {k1 z1 b1 k2 z2 b2 : Nat → Int32}
theorem RN_ex (hA1 : actsOK n1 k1 z1 b1) (hA2 : actsOK n2 k2 z2 b2) : ∀ (m d1 l1 : Nat) (w1 : Int32) (d2 l2 : Nat) (w2 : Int32) (lk : Prop) (t : Nat), AI n1 k1 d1 l1 → AI n2 k2 d2 l2 → (lk → l1 = 0 ∧ l2 = 0) → (¬ lk → 51 * (n1 - d1) + l1 + (51 * (n2 - d2) + l2) + 2 ≤ m) → 1 ≤ m →
    ∃ (D1 : Nat) (W1 : Int32) (D2 : Nat) (W2 : Int32) (LK : Prop) (T : Nat), RN n1 k1 z1 n2 k2 z2 (fun d1 l1 w1 d2 l2 w2 lk t => l1 = 0 ∧ l2 = 0 ∧ d1 = D1 ∧ w1 = W1 ∧ d2 = D2 ∧ w2 = W2 ∧ (lk ↔ LK) ∧ t = T) m d1 l1 w1 d2 l2 w2 lk t := by
  intro m
  induction m with
  | zero => intro d1 l1 w1 d2 l2 w2 lk t _ _ _ _ h; omega
  | succ m ih =>
    intro d1 l1 w1 d2 l2 w2 lk t h1 h2 hl hm _
    rcases Classical.em (lk ∨ (ovP n1 d1 l1 ∧ ovP n2 d2 l2)) with c | c
    · refine ⟨d1, w1, d2, w2, lk, t, fun _ => ⟨?_, ?_, rfl, rfl, rfl, rfl, Iff.rfl, rfl⟩, fun q1 q2 => absurd c (fun v => v.elim q1 q2)⟩
      · rcases c with q | q
        · exact (hl q).1
        · exact q.1.2
      · rcases c with q | q
        · exact (hl q).2
        · exact q.2.2
    · have nlk : ¬ lk := fun v => c (Or.inl v)
      have nov : ¬ (ovP n1 d1 l1 ∧ ovP n2 d2 l2) := fun v => c (Or.inr v)
      have hm' := hm nlk
      have a1 := AI_t (zo := zn k2 z2 d2) hA1 h1
      have a2 := AI_t (zo := zn k1 z1 (tkD n1 k1 z1 (zn k2 z2 d2) d1 l1)) hA2 h2
      have e1 := tk_le (zo := zn k2 z2 d2) hA1 h1
      have e2 := tk_le (zo := zn k1 z1 (tkD n1 k1 z1 (zn k2 z2 d2) d1 l1)) hA2 h2
      have dec : ¬ ((tkW n1 k1 z1 (zn k2 z2 d2) d1 l1 ∨ ovP n1 d1 l1) ∧ (tkW n2 k2 z2 (zn k1 z1 (tkD n1 k1 z1 (zn k2 z2 d2) d1 l1)) d2 l2 ∨ ovP n2 d2 l2)) → 51 * (n1 - tkD n1 k1 z1 (zn k2 z2 d2) d1 l1) + tkL n1 k1 z1 (zn k2 z2 d2) d1 l1 + (51 * (n2 - tkD n2 k2 z2 (zn k1 z1 (tkD n1 k1 z1 (zn k2 z2 d2) d1 l1)) d2 l2) + tkL n2 k2 z2 (zn k1 z1 (tkD n1 k1 z1 (zn k2 z2 d2) d1 l1)) d2 l2) + 2 ≤ m := by
        intro v
        rcases Classical.em (tkW n1 k1 z1 (zn k2 z2 d2) d1 l1 ∨ ovP n1 d1 l1) with u | u
        · have u2 : ¬ (tkW n2 k2 z2 (zn k1 z1 (tkD n1 k1 z1 (zn k2 z2 d2) d1 l1)) d2 l2 ∨ ovP n2 d2 l2) := fun x => v ⟨u, x⟩
          have := tk_lt (zo := zn k1 z1 (tkD n1 k1 z1 (zn k2 z2 d2) d1 l1)) hA2 h2 (fun x => u2 (Or.inl x)) (fun x => u2 (Or.inr x))
          omega
        · have := tk_lt (zo := zn k2 z2 d2) hA1 h1 (fun x => u (Or.inl x)) (fun x => u (Or.inr x))
          omega
      obtain ⟨D1, W1, D2, W2, LK, T, H⟩ := ih _ _ (wU (tkW n1 k1 z1 (zn k2 z2 d2) d1 l1) w1) _ _ (wU (tkW n2 k2 z2 (zn k1 z1 (tkD n1 k1 z1 (zn k2 z2 d2) d1 l1)) d2 l2) w2) ((tkW n1 k1 z1 (zn k2 z2 d2) d1 l1 ∨ ovP n1 d1 l1) ∧ (tkW n2 k2 z2 (zn k1 z1 (tkD n1 k1 z1 (zn k2 z2 d2) d1 l1)) d2 l2 ∨ ovP n2 d2 l2)) (t + 1) a1 a2 (fun v => ⟨tk_z v.1 h1.1, tk_z v.2 h2.1⟩) dec (by omega)
      exact ⟨D1, W1, D2, W2, LK, T, fun q => absurd q c, fun _ _ => H⟩
theorem s_workL {c1 c2 : Int32} {la : Nat → Int32} {post : Int32 → Int32 → (Nat → Int32) → Int32 → Int32 → Int32 → Int32 → Int32 → Int32 → Prop} {P : Nat → Nat → Int32 → Nat → Nat → Int32 → Prop → Nat → Prop} (hA1 : actsOK n1 k1 z1 b1) (hA2 : actsOK n2 k2 z2 b2) (hc1 : c1.toInt = (n1 : Int)) (hc2 : c2.toInt = (n2 : Int))
    (hP : ∀ (d1 l1 : Nat) (w1 : Int32) (d2 l2 : Nat) (w2 : Int32) (lk : Prop) (t : Nat), P d1 l1 w1 d2 l2 w2 lk t → ∀ x1 x2 dn1 wl1 dn2 wl2 : Int32, (x1 = 0 ↔ ¬ lk) → x2.toInt = (t : Int) → dn1.toInt = (d1 : Int) → wl1.toInt = (l1 : Int) → dn2.toInt = (d2 : Int) → wl2.toInt = (l2 : Int) → wp_Crew_work_j129_17 la post dn1 w1 wl1 dn2 w2 wl2 x1 x2) :
    ∀ (m d1 l1 : Nat) (w1 : Int32) (d2 l2 : Nat) (w2 : Int32) (lk : Prop) (t : Nat), AI n1 k1 d1 l1 → AI n2 k2 d2 l2 → t + m ≤ 9000 → RN n1 k1 z1 n2 k2 z2 P m d1 l1 w1 d2 l2 w2 lk t →
    ∀ x1 x2 dn1 wl1 dn2 wl2 : Int32, (x1 = 0 ↔ ¬ lk) → x2.toInt = (t : Int) → dn1.toInt = (d1 : Int) → wl1.toInt = (l1 : Int) → dn2.toInt = (d2 : Int) → wl2.toInt = (l2 : Int) → wpL_Crew_work_18 la c1 k1 z1 b1 c2 k2 z2 b2 post m dn1 w1 wl1 dn2 w2 wl2 x1 x2 := by
  intro m
  induction m with
  | zero => intro d1 l1 w1 d2 l2 w2 lk t _ _ _ h; exact absurd h (fun q => q)
  | succ m ih =>
    intro d1 l1 w1 d2 l2 w2 lk t h1 h2 ht hR x1 x2 dn1 wl1 dn2 wl2 hx1 hx2 hd1 hl1 hd2 hl2
    show wpB_Crew_work_18 la c1 k1 z1 b1 c2 k2 z2 b2 post (wpL_Crew_work_18 la c1 k1 z1 b1 c2 k2 z2 b2 post m) dn1 w1 wl1 dn2 w2 wl2 x1 x2
    have ihm := ih
    clear ih
    unfold wpB_Crew_work_18
    have cM : (10000 : Int32).toInt = 10000 := rfl
    rw [i_le cM hx2]
    obtain ⟨hRe, hRs⟩ := hR
    refine ⟨fun q => absurd q (by omega), fun _ => ⟨fun q => hP _ _ _ _ _ _ _ _ (hRe (Or.inl (nzP hx1 q))) x1 x2 dn1 wl1 dn2 wl2 hx1 hx2 hd1 hl1 hd2 hl2, fun x10 => ?_⟩⟩
    have nlk : ¬ lk := hx1.mp x10
    have a1 := AI_t (zo := zn k2 z2 d2) hA1 h1
    have a2 := AI_t (zo := zn k1 z1 (tkD n1 k1 z1 (zn k2 z2 d2) d1 l1)) hA2 h2
    have nx := fun hov => ihm _ _ _ _ _ _ _ _ a1 a2 (by omega) (hRs nlk hov)
    refine s_isThrough hc1 hd1 hl1 h1.1 (fun r20 h20 => ⟨fun q => ?_, fun q => s_isThrough hc2 hd2 hl2 h2.1 (fun r47 h47 => ⟨fun p => hP _ _ _ _ _ _ _ _ (hRe (Or.inr ⟨nzP h20 q, nzP h47 p⟩)) x1 x2 dn1 wl1 dn2 wl2 hx1 hx2 hd1 hl1 hd2 hl2, fun p => ?_⟩)⟩)
    · have nx' := nx (fun v => h20.mp q v.1)
      refine s_isThrough hc1 hd1 hl1 h1.1 (fun r22 h22 => s_isThrough hc2 hd2 hl2 h2.1 (fun r23 h23 => s_zonesNow hA2 hd2 h2.1 (s_tick hA1 h1 hc1 hd1 hl1 (fun r25 d1' l1' h25 hd1' hl1' => s_zonesNow hA1 hd1' a1.1 (s_tick hA2 h2 hc2 hd2 hl2 (fun r30 d2' l2' h30 hd2' hl2' => ?_))))))
      have y1 := fun lk' x2' e => nx' 1 x2' d1' l1' d2' l2' ⟨fun z => absurd z (by decide), fun z => absurd lk' z⟩ e hd1' hl1' hd2' hl2'
      have y0 := fun lk' x2' e => nx' 0 x2' d1' l1' d2' l2' ⟨fun _ => lk', fun _ => rfl⟩ e hd1' hl1' hd2' hl2'
      have ee : ∀ x : Int32, x = x2 + (1 : Int32) → x.toInt = ((t + 1 : Nat) : Int) := fun x e => by rw [e]; exact inc_t hx2 (by omega)
      refine ⟨fun a => ⟨fun b x e => y1 ⟨Or.inl (nzP h25 a), Or.inl (nzP h30 b)⟩ x (ee x e), fun b => ⟨fun c x e => y0 (fun v => v.2.elim (h30.mp b) (h23.mp c)) x (ee x e), fun c x e => y1 ⟨Or.inl (nzP h25 a), Or.inr (nzP h23 c)⟩ x (ee x e)⟩⟩,
        fun a => ⟨fun c x e => y0 (fun v => v.1.elim (h25.mp a) (h22.mp c)) x (ee x e), fun c => ⟨fun b x e => y1 ⟨Or.inr (nzP h22 c), Or.inl (nzP h30 b)⟩ x (ee x e), fun b => ⟨fun c' x e => y0 (fun v => v.2.elim (h30.mp b) (h23.mp c')) x (ee x e), fun c' x e => y1 ⟨Or.inr (nzP h22 c), Or.inr (nzP h23 c')⟩ x (ee x e)⟩⟩⟩⟩
    · have nx' := nx (fun v => h47.mp p v.2)
      refine s_isThrough hc1 hd1 hl1 h1.1 (fun r22 h22 => s_isThrough hc2 hd2 hl2 h2.1 (fun r23 h23 => s_zonesNow hA2 hd2 h2.1 (s_tick hA1 h1 hc1 hd1 hl1 (fun r25 d1' l1' h25 hd1' hl1' => s_zonesNow hA1 hd1' a1.1 (s_tick hA2 h2 hc2 hd2 hl2 (fun r30 d2' l2' h30 hd2' hl2' => ?_))))))
      have y1 := fun lk' x2' e => nx' 1 x2' d1' l1' d2' l2' ⟨fun z => absurd z (by decide), fun z => absurd lk' z⟩ e hd1' hl1' hd2' hl2'
      have y0 := fun lk' x2' e => nx' 0 x2' d1' l1' d2' l2' ⟨fun _ => lk', fun _ => rfl⟩ e hd1' hl1' hd2' hl2'
      have ee : ∀ x : Int32, x = x2 + (1 : Int32) → x.toInt = ((t + 1 : Nat) : Int) := fun x e => by rw [e]; exact inc_t hx2 (by omega)
      refine ⟨fun a => ⟨fun b x e => y1 ⟨Or.inl (nzP h25 a), Or.inl (nzP h30 b)⟩ x (ee x e), fun b => ⟨fun c x e => y0 (fun v => v.2.elim (h30.mp b) (h23.mp c)) x (ee x e), fun c x e => y1 ⟨Or.inl (nzP h25 a), Or.inr (nzP h23 c)⟩ x (ee x e)⟩⟩,
        fun a => ⟨fun c x e => y0 (fun v => v.1.elim (h25.mp a) (h22.mp c)) x (ee x e), fun c => ⟨fun b x e => y1 ⟨Or.inr (nzP h22 c), Or.inl (nzP h30 b)⟩ x (ee x e), fun b => ⟨fun c' x e => y0 (fun v => v.2.elim (h30.mp b) (h23.mp c')) x (ee x e), fun c' x e => y1 ⟨Or.inr (nzP h22 c), Or.inr (nzP h23 c')⟩ x (ee x e)⟩⟩⟩⟩
end RUN2
