/-! locks: how many, and the one with a number -/
noncomputable def lkRow (P : Nat → Nat → Prop) (t : Int32) (i : Nat) : Nat → Nat → Nat → Int32 ⊕ Nat
  | 0, _, c => .inr c
  | m + 1, j, c => @ite _ (P i j) (Classical.propDecidable _) (if nI c = t then .inl ((100 : Int32) * nI i + nI j) else lkRow P t i m (j + 1) (c + 1)) (lkRow P t i m (j + 1) c)
noncomputable def lkAll (P : Nat → Nat → Prop) (t : Int32) (w : Nat) : Nat → Nat → Nat → Int32 ⊕ Nat
  | 0, _, c => .inr c
  | m + 1, i, c => match lkRow P t i w 0 c with
    | .inl v => .inl v
    | .inr c' => lkAll P t w m (i + 1) c'
theorem lkRow_y {P : Nat → Nat → Prop} {t : Int32} {i m j c : Nat} (h : P i j) (ht : nI c = t) : lkRow P t i (m + 1) j c = .inl ((100 : Int32) * nI i + nI j) := by
  unfold lkRow; rw [if_pos h, if_pos ht]
theorem lkRow_s {P : Nat → Nat → Prop} {t : Int32} {i m j c : Nat} (h : P i j) (ht : ¬ nI c = t) : lkRow P t i (m + 1) j c = lkRow P t i m (j + 1) (c + 1) := by
  rw [lkRow]; rw [if_pos h, if_neg ht]
theorem lkRow_n {P : Nat → Nat → Prop} {t : Int32} {i m j c : Nat} (h : ¬ P i j) : lkRow P t i (m + 1) j c = lkRow P t i m (j + 1) c := by
  rw [lkRow]; rw [if_neg h]
theorem lkRow_neg {P : Nat → Nat → Prop} {t : Int32} {i B : Nat} (ht : t.toInt < 0) (hB : B ≤ 1000) : ∀ m j, j + m ≤ 1000 → lkRow P t i m j (B + cR P i j) = .inr (B + cR P i (j + m))
  | 0, j, _ => rfl
  | m + 1, j, hj => by
    have ih := lkRow_neg (P := P) (i := i) ht hB m (j + 1) (by omega)
    have e : j + 1 + m = j + (m + 1) := by omega
    rw [e] at ih
    rcases Classical.em (P i j) with h | h
    · have hc := cR_le P i j
      have hn : ¬ nI (B + cR P i j) = t := fun q => by
        have := nI_t (n := B + cR P i j) (by omega)
        rw [q] at this
        omega
      rw [lkRow_s h hn]
      unfold cR at ih
      rw [bN_1 h, ← Nat.add_assoc] at ih
      exact ih
    · rw [lkRow_n h]
      unfold cR at ih
      rw [bN_0 h] at ih
      exact ih
theorem lkAll_neg {P : Nat → Nat → Prop} {t : Int32} {w : Nat} (ht : t.toInt < 0) (hw : w ≤ 17) : ∀ m i, i + m ≤ 17 → lkAll P t w m i (cA P w i) = .inr (cA P w (i + m))
  | 0, i, _ => rfl
  | m + 1, i, hi => by
    have hb := cA_bd (P := P) (w := w) (i := i) hw (by omega)
    have h := lkRow_neg (P := P) (i := i) (B := cA P w i) ht (by omega) w 0 (by omega)
    rw [Nat.zero_add] at h
    have e0 : cA P w i + cR P i 0 = cA P w i := rfl
    rw [e0] at h
    unfold lkAll
    rw [h]
    have ih := lkAll_neg (P := P) ht hw m (i + 1) (by omega)
    have e : i + 1 + m = i + (m + 1) := by omega
    rw [e] at ih
    exact ih
theorem cR_mono (P : Nat → Nat → Prop) (i : Nat) : ∀ m j, cR P i j ≤ cR P i (j + m)
  | 0, j => Nat.le_refl _
  | m + 1, j => by
    have h := cR_mono P i m j
    show _ ≤ cR P i (j + m) + bN (P i (j + m))
    omega
theorem cA_mono (P : Nat → Nat → Prop) (w : Nat) : ∀ m i, cA P w i ≤ cA P w (i + m)
  | 0, i => Nat.le_refl _
  | m + 1, i => by
    have h := cA_mono P w m i
    show _ ≤ cA P w (i + m) + cR P (i + m) w
    omega
theorem cA_pos {P : Nat → Nat → Prop} {w n : Nat} (h : P 0 0) : 1 ≤ cA P (w + 1) (n + 1) := by
  have h1 := cA_mono P (w + 1) n 1
  have h2 := cR_mono P 0 w 1
  have e1 : cA P (w + 1) 1 = 0 + cR P 0 (w + 1) := rfl
  have e2 : cR P 0 1 = 0 + bN (P 0 0) := rfl
  rw [bN_1 h] at e2
  rw [Nat.add_comm 1 n] at h1
  rw [Nat.add_comm 1 w] at h2
  omega
def lkP (n1 n2 : Nat) (g1 g2 : Nat → Nat → Prop) (i j : Nat) : Prop := RC g1 g2 i j ∧ ¬ (i = n1 ∧ j = n2) ∧ ¬ g1 i j ∧ ¬ g2 i j
section LCK
variable {n1 n2 : Nat} {k1 z1 b1 k2 z2 b2 : Nat → Int32} {c1 c2 : Int32}
theorem s_isLock {R : Nat → Int32} {p q : Int32} {i j : Nat} {post : Int32 → Prop} (hA1 : actsOK n1 k1 z1 b1) (hA2 : actsOK n2 k2 z2 b2) (hc1 : c1.toInt = (n1 : Int)) (hc2 : c2.toInt = (n2 : Int)) (hR : ∀ i j, i ≤ n1 → j ≤ n2 → (R (17 * i + j) = 0 ↔ ¬ RC (gA n1 k1 z1 k2 z2) (fun i j => gA n2 k2 z2 k1 z1 j i) i j)) (hp : p.toInt = (i : Int)) (hi : i ≤ n1) (hq : q.toInt = (j : Int)) (hj : j ≤ n2)
    (h1 : lkP n1 n2 (gA n1 k1 z1 k2 z2) (fun i j => gA n2 k2 z2 k1 z1 j i) i j → post 1) (h0 : ¬ lkP n1 n2 (gA n1 k1 z1 k2 z2) (fun i j => gA n2 k2 z2 k1 z1 j i) i j → post 0) : wp_Crew_isLock R c1 k1 z1 b1 c2 k2 z2 b2 p q post := by
  have hn1 := hA1.1
  have hn2 := hA2.1
  have tail : ∀ w : Int32, (¬ w = 0 ↔ (i = n1 ∧ j = n2)) → wp_Crew_isLock_j27_7 R c1 k1 z1 b1 c2 k2 z2 b2 p q post w := by
    intro w hw
    unfold wp_Crew_isLock_j27_7
    obtain ⟨t0, -⟩ := ix17 hp (by omega) hq (by omega)
    rw [cl_t t0, hR i j hi hj, hw]
    refine ⟨vp_t t0 (by omega), fun c => h0 (fun u => c u.1), fun c => ⟨fun d => h0 (fun u => u.2.1 d), fun d => ?_⟩⟩
    refine s_firstGoes hc1 hn1 hA2 hp hq hj (fun g => ⟨fun _ => h0 (fun u => u.2.2.1 g), fun z => absurd z (by decide)⟩) (fun g => ⟨fun z => absurd rfl z, fun _ => ?_⟩)
    refine s_secondGoes hc2 hn2 hA1 hp hq hi (fun g' => ⟨fun _ => h0 (fun u => u.2.2.2 g'), fun z => absurd z (by decide)⟩) (fun g' => ⟨fun z => absurd rfl z, fun _ => h1 ⟨Classical.not_not.mp c, fun u => hw.mpr u d, g, g'⟩⟩)
  unfold wp_Crew_isLock
  rw [i_eq hp hc1, i_eq hq hc2]
  exact ⟨fun c => tail 0 ⟨fun z => absurd rfl z, fun u => absurd (by omega) c⟩, fun c => ⟨fun d => tail 0 ⟨fun z => absurd rfl z, fun u => absurd (by omega) d⟩, fun d => tail 1 ⟨fun _ => ⟨by omega, by omega⟩, fun _ => by decide⟩⟩⟩
theorem s_countLocks {R : Nat → Int32} {post : Int32 → (Nat → Int32) → Prop} (hA1 : actsOK n1 k1 z1 b1) (hA2 : actsOK n2 k2 z2 b2) (hc1 : c1.toInt = (n1 : Int)) (hc2 : c2.toInt = (n2 : Int))
    (h : ∀ R' : Nat → Int32, post (nI (cA (lkP n1 n2 (gA n1 k1 z1 k2 z2) (fun i j => gA n2 k2 z2 k1 z1 j i)) (n2 + 1) (n1 + 1))) R') : wp_Crew_countLocks R c1 k1 z1 b1 c2 k2 z2 b2 post := by
  have hn1 := hA1.1
  have hn2 := hA2.1
  unfold wp_Crew_countLocks
  refine s_weave hA1 hA2 hc1 hc2 (fun R' hR => ?_)
  generalize hP : lkP n1 n2 (gA n1 k1 z1 k2 z2) (fun i j => gA n2 k2 z2 k1 z1 j i) = P at *
  refine ⟨n1 + 2, ?_⟩
  have inner : ∀ (ih8 : Int32 → Int32 → Prop) (i : Nat) (x2 : Int32), x2.toInt = (i : Int) → i ≤ n1 → ih8 (nI (cA P (n2 + 1) (i + 1))) (x2 + (1 : Int32)) → ∀ (m j : Nat) (x3 : Int32), x3.toInt = (j : Int) → j + m = n2 + 1 → wpL_Crew_countLocks_21 c1 k1 z1 b1 c2 k2 z2 b2 R' x2 ih8 (m + 1) (nI (cA P (n2 + 1) i + cR P i j)) x3 := by
    intro ih8 i x2 hx2 hi hk m
    induction m with
    | zero =>
      intro j x3 hx3 hj
      show wpB_Crew_countLocks_21 c1 k1 z1 b1 c2 k2 z2 b2 R' x2 ih8 (wpL_Crew_countLocks_21 c1 k1 z1 b1 c2 k2 z2 b2 R' x2 ih8 0) _ x3
      unfold wpB_Crew_countLocks_21
      rw [i_lt hc2 hx3]
      refine ⟨fun _ x e => ?_, fun z => absurd (by omega) z⟩
      rw [e, show j = n2 + 1 by omega]
      exact hk
    | succ m ih =>
      intro j x3 hx3 hj
      show wpB_Crew_countLocks_21 c1 k1 z1 b1 c2 k2 z2 b2 R' x2 ih8 (wpL_Crew_countLocks_21 c1 k1 z1 b1 c2 k2 z2 b2 R' x2 ih8 (m + 1)) _ x3
      unfold wpB_Crew_countLocks_21
      rw [i_lt hc2 hx3]
      have nx : ∀ y : Int32, y = x3 + (1 : Int32) → wpL_Crew_countLocks_21 c1 k1 z1 b1 c2 k2 z2 b2 R' x2 ih8 (m + 1) (nI (cA P (n2 + 1) i + cR P i (j + 1))) y := fun y e => ih (j + 1) y (by rw [e]; exact inc_t hx3 (by omega)) (by omega)
      refine ⟨fun z => absurd z (by omega), fun _ => s_isLock hA1 hA2 hc1 hc2 hR hx2 hi hx3 (by omega) (fun c => ⟨fun z => absurd z (by decide), fun _ x ex y e => ?_⟩) (fun c => ⟨fun _ y e => ?_, fun z => absurd rfl z⟩)⟩
      · rw [hP] at c
        have := nx y e
        unfold cR at this
        rw [bN_1 c, ← Nat.add_assoc, ← nI_1] at this
        rw [ex]; exact this
      · rw [hP] at c
        have := nx y e
        unfold cR at this
        rw [bN_0 c] at this
        exact this
  have outer : ∀ (m i : Nat) (x2 : Int32), x2.toInt = (i : Int) → i + m = n1 + 1 → wpL_Crew_countLocks_8 c1 k1 z1 b1 c2 k2 z2 b2 post R' (m + 1) (nI (cA P (n2 + 1) i)) x2 := by
    intro m
    induction m with
    | zero =>
      intro i x2 hx2 hi
      show wpB_Crew_countLocks_8 c1 k1 z1 b1 c2 k2 z2 b2 post R' (wpL_Crew_countLocks_8 c1 k1 z1 b1 c2 k2 z2 b2 post R' 0) _ x2
      unfold wpB_Crew_countLocks_8
      rw [i_lt hc1 hx2]
      refine ⟨fun _ => ?_, fun q => absurd (by omega) q⟩
      rw [show i = n1 + 1 by omega]; exact h R'
    | succ m ih =>
      intro i x2 hx2 hi
      show wpB_Crew_countLocks_8 c1 k1 z1 b1 c2 k2 z2 b2 post R' (wpL_Crew_countLocks_8 c1 k1 z1 b1 c2 k2 z2 b2 post R' (m + 1)) _ x2
      unfold wpB_Crew_countLocks_8
      rw [i_lt hc1 hx2]
      exact ⟨fun q => absurd q (by omega), fun _ => ⟨n2 + 2, inner _ i x2 hx2 (by omega) (ih (i + 1) _ (inc_t hx2 (by omega)) (by omega)) (n2 + 1) 0 0 rfl (by omega)⟩⟩
  exact outer (n1 + 1) 0 0 rfl (by omega)
theorem s_findLock {R : Nat → Int32} {t : Int32} {post : Int32 → (Nat → Int32) → Prop} (hA1 : actsOK n1 k1 z1 b1) (hA2 : actsOK n2 k2 z2 b2) (hc1 : c1.toInt = (n1 : Int)) (hc2 : c2.toInt = (n2 : Int))
    (hl : ∀ (R' : Nat → Int32) (v : Int32), lkAll (lkP n1 n2 (gA n1 k1 z1 k2 z2) (fun i j => gA n2 k2 z2 k1 z1 j i)) t (n2 + 1) (n1 + 1) 0 0 = .inl v → post v R') (hr : ∀ (R' : Nat → Int32) (c : Nat), lkAll (lkP n1 n2 (gA n1 k1 z1 k2 z2) (fun i j => gA n2 k2 z2 k1 z1 j i)) t (n2 + 1) (n1 + 1) 0 0 = .inr c → post (-6) R') : wp_Crew_findLock R c1 k1 z1 b1 c2 k2 z2 b2 t post := by
  have hn1 := hA1.1
  have hn2 := hA2.1
  unfold wp_Crew_findLock
  refine s_weave hA1 hA2 hc1 hc2 (fun R' hR => ?_)
  generalize hP : lkP n1 n2 (gA n1 k1 z1 k2 z2) (fun i j => gA n2 k2 z2 k1 z1 j i) = P at *
  refine ⟨n1 + 2, ?_⟩
  have inner : ∀ (ih8 : Int32 → Int32 → Prop) (i : Nat) (x3 : Int32), x3.toInt = (i : Int) → i ≤ n1 → ∀ (m j c : Nat) (x4 : Int32), x4.toInt = (j : Int) → j + m = n2 + 1 → (∀ v, lkRow P t i m j c = .inl v → post v R') → (∀ c', lkRow P t i m j c = .inr c' → ih8 (nI c') (x3 + (1 : Int32))) → wpL_Crew_findLock_22 c1 k1 z1 b1 c2 k2 z2 b2 t post R' x3 ih8 (m + 1) (nI c) x4 := by
    intro ih8 i x3 hx3 hi m
    induction m with
    | zero =>
      intro j c x4 hx4 hj h1 h2
      show wpB_Crew_findLock_22 c1 k1 z1 b1 c2 k2 z2 b2 t post R' x3 ih8 (wpL_Crew_findLock_22 c1 k1 z1 b1 c2 k2 z2 b2 t post R' x3 ih8 0) _ x4
      unfold wpB_Crew_findLock_22
      rw [i_lt hc2 hx4]
      refine ⟨fun _ x e => ?_, fun z => absurd (by omega) z⟩
      rw [e]
      exact h2 c rfl
    | succ m ih =>
      intro j c x4 hx4 hj h1 h2
      show wpB_Crew_findLock_22 c1 k1 z1 b1 c2 k2 z2 b2 t post R' x3 ih8 (wpL_Crew_findLock_22 c1 k1 z1 b1 c2 k2 z2 b2 t post R' x3 ih8 (m + 1)) _ x4
      unfold wpB_Crew_findLock_22
      rw [i_lt hc2 hx4]
      refine ⟨fun z => absurd z (by omega), fun _ => s_isLock hA1 hA2 hc1 hc2 hR hx3 hi hx4 (by omega) (fun k => ⟨fun _ => ⟨fun d x ex y e => ?_, fun d => ?_⟩, fun z => absurd z (by decide)⟩) (fun k => ⟨fun z => absurd rfl z, fun _ y e => ?_⟩)⟩
      · rw [hP] at k
        rw [lkRow_s k d] at h1 h2
        rw [ex, nI_1]
        exact ih (j + 1) (c + 1) y (by rw [e]; exact inc_t hx4 (by omega)) (by omega) h1 h2
      · rw [hP] at k
        rw [lkRow_y k d] at h1
        have := h1 _ rfl
        rw [nI_of_t hx3, nI_of_t hx4]; exact this
      · rw [hP] at k
        rw [lkRow_n k] at h1 h2
        exact ih (j + 1) c y (by rw [e]; exact inc_t hx4 (by omega)) (by omega) h1 h2
  have outer : ∀ (m i c : Nat) (x3 : Int32), x3.toInt = (i : Int) → i + m = n1 + 1 → (∀ v, lkAll P t (n2 + 1) m i c = .inl v → post v R') → (∀ c', lkAll P t (n2 + 1) m i c = .inr c' → post (-6) R') → wpL_Crew_findLock_8 c1 k1 z1 b1 c2 k2 z2 b2 t post R' (m + 1) (nI c) x3 := by
    intro m
    induction m with
    | zero =>
      intro i c x3 hx3 hi h1 h2
      show wpB_Crew_findLock_8 c1 k1 z1 b1 c2 k2 z2 b2 t post R' (wpL_Crew_findLock_8 c1 k1 z1 b1 c2 k2 z2 b2 t post R' 0) _ x3
      unfold wpB_Crew_findLock_8
      rw [i_lt hc1 hx3]
      exact ⟨fun _ => h2 c rfl, fun q => absurd (by omega) q⟩
    | succ m ih =>
      intro i c x3 hx3 hi h1 h2
      show wpB_Crew_findLock_8 c1 k1 z1 b1 c2 k2 z2 b2 t post R' (wpL_Crew_findLock_8 c1 k1 z1 b1 c2 k2 z2 b2 t post R' (m + 1)) _ x3
      unfold wpB_Crew_findLock_8
      rw [i_lt hc1 hx3]
      unfold lkAll at h1 h2
      refine ⟨fun q => absurd q (by omega), fun _ => ⟨n2 + 2, inner _ i x3 hx3 (by omega) (n2 + 1) 0 c 0 rfl (by omega) (fun v hv => ?_) (fun c' hc' => ?_)⟩⟩
      · rw [hv] at h1
        exact h1 v rfl
      · rw [hc'] at h1 h2
        exact ih (i + 1) c' _ (inc_t hx3 (by omega)) (by omega) h1 h2
  exact outer (n1 + 1) 0 0 0 rfl (by omega) (hl R') (hr R')
end LCK
section MLCK
variable {n1 n2 : Nat} {k1 z1 k2 z2 acts am : Nat → Int32}
theorem s_mlock {R : Nat → Int32} {t : Int32} {post : Int32 → (Nat → Int32) → Prop} (hn1 : n1 ≤ 16) (hn2 : n2 ≤ 16) (hm1 : actsM n1 0 acts k1 z1) (hm2 : actsM n2 1 acts k2 z2) (ha1 : (am 0).toInt = (n1 : Int)) (ha2 : (am 1).toInt = (n2 : Int))
    (hl : ∀ (R' : Nat → Int32) (v : Int32), lkAll (lkP n1 n2 (gA n1 k1 z1 k2 z2) (fun i j => gA n2 k2 z2 k1 z1 j i)) t (n2 + 1) (n1 + 1) 0 0 = .inl v → post v R') (hr : ∀ (R' : Nat → Int32) (c : Nat), lkAll (lkP n1 n2 (gA n1 k1 z1 k2 z2) (fun i j => gA n2 k2 z2 k1 z1 j i)) t (n2 + 1) (n1 + 1) 0 0 = .inr c → (¬ t = -1 → post (-6) R') ∧ (t = -1 → post (nI c) R')) : wp_Model_lock acts am R t post := by
  have e1 : (1 : Int32).toNatClampNeg = 1 := rfl
  have e0 : (0 : Int32).toNatClampNeg = 0 := rfl
  have z0 : (0 : Int32).toInt = 0 := rfl
  unfold wp_Model_lock
  refine s_findWeb hn1 hn2 hm1 hm2 ha1 ha2 (fun R' hR => ?_)
  have hpos := cA_pos (P := RC (gA n1 k1 z1 k2 z2) (fun i j => gA n2 k2 z2 k1 z1 j i)) (w := n2) (n := n1) (RC_00 _ _)
  have hbd := cA_bd (P := RC (gA n1 k1 z1 k2 z2) (fun i j => gA n2 k2 z2 k1 z1 j i)) (w := n2 + 1) (i := n1 + 1) (by omega) (by omega)
  generalize cA (RC (gA n1 k1 z1 k2 z2) (fun i j => gA n2 k2 z2 k1 z1 j i)) (n2 + 1) (n1 + 1) = N at *
  have tN := nI_t (n := N) (by omega)
  generalize hP : lkP n1 n2 (gA n1 k1 z1 k2 z2) (fun i j => gA n2 k2 z2 k1 z1 j i) = P at *
  refine ⟨n1 + 2, ?_⟩
  have inner : ∀ (ih10 : Int32 → Int32 → Prop) (i : Nat) (x4 : Int32), x4.toInt = (i : Int) → i ≤ n1 → ∀ (m j c : Nat) (x5 : Int32), x5.toInt = (j : Int) → j + m = n2 + 1 → (∀ v, lkRow P t i m j c = .inl v → post v R') → (∀ c', lkRow P t i m j c = .inr c' → ih10 (nI c') (x4 + (1 : Int32))) → wpL_Model_lock_28 acts am t post R' x4 ih10 (m + 1) (nI c) x5 := by
    intro ih10 i x4 hx4 hi m
    induction m with
    | zero =>
      intro j c x5 hx5 hj h1 h2
      show wpB_Model_lock_28 acts am t post R' x4 ih10 (wpL_Model_lock_28 acts am t post R' x4 ih10 0) _ x5
      unfold wpB_Model_lock_28
      rw [e1, i_lt ha2 hx5]
      refine ⟨fun _ x e => ?_, fun z => absurd (by omega) z⟩
      rw [e]
      exact h2 c rfl
    | succ m ih =>
      intro j c x5 hx5 hj h1 h2
      show wpB_Model_lock_28 acts am t post R' x4 ih10 (wpL_Model_lock_28 acts am t post R' x4 ih10 (m + 1)) _ x5
      have hj2 : j ≤ n2 := by omega
      have no : ¬ P i j → ∀ y : Int32, y = x5 + (1 : Int32) → wpL_Model_lock_28 acts am t post R' x4 ih10 (m + 1) (nI c) y := by
        intro k y e
        rw [lkRow_n k] at h1 h2
        exact ih (j + 1) c y (by rw [e]; exact inc_t hx5 (by omega)) (by omega) h1 h2
      have tail : ∀ w : Int32, (¬ w = 0 ↔ (i = n1 ∧ j = n2)) → wp_Model_lock_j66_26 acts am t post R' x4 (nI c) x5 (wpL_Model_lock_28 acts am t post R' x4 ih10 (m + 1)) w := by
        intro w hw
        unfold wp_Model_lock_j66_26
        obtain ⟨-, t0⟩ := ix17 hx4 (by omega) hx5 (by omega)
        rw [cl_t t0, hR i j hi hj2, hw]
        refine ⟨vp_t t0 (by omega), fun d => no (fun u => ?_), fun d => ⟨fun f => no (fun u => ?_), fun f => ?_⟩⟩
        · rw [← hP] at u; exact d u.1
        · rw [← hP] at u; exact u.2.1 f
        refine s_canDo hm1 hm2 ha1 rfl (by omega) hx4 hn1 hx5 hj2 hn2 (fun d1 d2 => ⟨fun _ => no (fun u => ?_), fun z => absurd z (by decide)⟩) (fun d1 => ⟨fun z => absurd rfl z, fun _ => ?_⟩)
        · rw [← hP] at u; exact u.2.2.1 ⟨d1, d2⟩
        refine s_canDo (ar := 1) hm2 hm1 ha2 rfl (by omega) hx5 hn2 hx4 hi hn1 (fun d3 d4 => ⟨fun _ => no (fun u => ?_), fun z => absurd z (by decide)⟩) (fun d3 => ⟨fun z => absurd rfl z, fun _ => ⟨fun k x ex y e => ?_, fun k => ?_⟩⟩)
        · rw [← hP] at u; exact u.2.2.2 ⟨d3, d4⟩
        · have hp : P i j := by rw [← hP]; exact ⟨Classical.not_not.mp d, fun u => hw.mpr u f, d1, d3⟩
          rw [lkRow_s hp k] at h1 h2
          rw [ex, nI_1]
          exact ih (j + 1) (c + 1) y (by rw [e]; exact inc_t hx5 (by omega)) (by omega) h1 h2
        · have hp : P i j := by rw [← hP]; exact ⟨Classical.not_not.mp d, fun u => hw.mpr u f, d1, d3⟩
          rw [lkRow_y hp k] at h1
          have := h1 _ rfl
          rw [nI_of_t hx4, nI_of_t hx5]; exact this
      unfold wpB_Model_lock_28
      rw [e1, e0, i_lt ha2 hx5, i_eq hx4 ha1, i_eq hx5 ha2]
      exact ⟨fun z => absurd z (by omega), fun _ => ⟨fun d => tail 0 ⟨fun z => absurd rfl z, fun u => absurd (by omega) d⟩, fun d => ⟨fun f => tail 0 ⟨fun z => absurd rfl z, fun u => absurd (by omega) f⟩, fun f => tail 1 ⟨fun _ => ⟨by omega, by omega⟩, fun _ => by decide⟩⟩⟩⟩
  have outer : ∀ (m i c : Nat) (x4 : Int32), x4.toInt = (i : Int) → i + m = n1 + 1 → (∀ v, lkAll P t (n2 + 1) m i c = .inl v → post v R') → (∀ c', lkAll P t (n2 + 1) m i c = .inr c' → (¬ t = -1 → post (-6) R') ∧ (t = -1 → post (nI c') R')) → wpL_Model_lock_10 acts am t post (nI N) R' (m + 1) (nI c) x4 := by
    intro m
    induction m with
    | zero =>
      intro i c x4 hx4 hi h1 h2
      show wpB_Model_lock_10 acts am t post (nI N) R' (wpL_Model_lock_10 acts am t post (nI N) R' 0) _ x4
      unfold wpB_Model_lock_10
      rw [e0, i_lt ha1 hx4]
      exact ⟨fun _ => h2 c rfl, fun q => absurd (by omega) q⟩
    | succ m ih =>
      intro i c x4 hx4 hi h1 h2
      show wpB_Model_lock_10 acts am t post (nI N) R' (wpL_Model_lock_10 acts am t post (nI N) R' (m + 1)) _ x4
      unfold wpB_Model_lock_10
      rw [e0, i_lt ha1 hx4, i_le tN z0]
      unfold lkAll at h1 h2
      refine ⟨fun q => absurd q (by omega), fun _ => ⟨fun q => absurd q (by omega), fun _ => ⟨n2 + 2, inner _ i x4 hx4 (by omega) (n2 + 1) 0 c 0 rfl (by omega) (fun v hv => ?_) (fun c' hc' => ?_)⟩⟩⟩
      · rw [hv] at h1
        exact h1 v rfl
      · rw [hc'] at h1 h2
        exact ih (i + 1) c' _ (inc_t hx4 (by omega)) (by omega) h1 h2
  exact outer (n1 + 1) 0 0 0 rfl (by omega) (hl R') (hr R')
end MLCK
