/-! what is asked about seams, and the row -/
theorem s_has {sc p : Int32} {post : Int32 → Prop} (k0 : ¬ (0 ≤ p.toInt ∧ p.toInt < sc.toInt) → post 0) (k1 : 0 ≤ p.toInt ∧ p.toInt < sc.toInt → post 1) : wp_Part_has sc p post := by
  unfold wp_Part_has
  have c0 : (0 : Int32).toInt = 0 := rfl
  rw [i_lt rfl c0, i_le rfl rfl]
  exact ⟨fun c => k0 (by omega), fun c => ⟨fun d => k0 (by omega), fun d => k1 (by omega)⟩⟩
theorem s_isSeam {sc p : Int32} {post : Int32 → Prop} (hs : 0 ≤ sc.toInt) (k0 : ¬ (0 ≤ p.toInt ∧ p.toInt < sc.toInt) → post 0) (k1 : 0 ≤ p.toInt ∧ p.toInt < sc.toInt → post 1) : wp_Model_isSeam sc p post := by
  unfold wp_Model_isSeam
  have c0 : (0 : Int64).toInt = 0 := rfl
  have := fb_rng sc
  rw [s_in, c0, Int32.toInt_toInt64, Int32.toInt_toInt64, tS (rfl : sc.toInt = sc.toInt) q_1 (by omega)]
  by_cases c : 0 ≤ p.toInt ∧ p.toInt ≤ sc.toInt - 1
  · rw [if_pos c]; exact ⟨Or.inr rfl, k1 (by omega)⟩
  · rw [if_neg c]; exact ⟨Or.inl rfl, k0 (by omega)⟩
theorem ph_zn {sc p : Int32} {A B : Prop} (k0 : ¬ (0 ≤ p.toInt ∧ p.toInt < sc.toInt) → A) (k1 : 0 ≤ p.toInt ∧ p.toInt < sc.toInt → B) : wp_Part_has sc p (fun r => (r = 0 → A) ∧ (¬ r = 0 → B)) := s_has (fun n => ⟨fun _ => k0 n, fun q => absurd rfl q⟩) (fun y => ⟨fun q => absurd q (by decide), fun _ => k1 y⟩)
theorem ph_nz {sc p : Int32} {A B : Prop} (k1 : 0 ≤ p.toInt ∧ p.toInt < sc.toInt → B) (k0 : ¬ (0 ≤ p.toInt ∧ p.toInt < sc.toInt) → A) : wp_Part_has sc p (fun r => (¬ r = 0 → B) ∧ (r = 0 → A)) := s_has (fun n => ⟨fun q => absurd rfl q, fun _ => k0 n⟩) (fun y => ⟨fun _ => k1 y, fun q => absurd q (by decide)⟩)
theorem ms_zn {sc p : Int32} {A B : Prop} (hs : 0 ≤ sc.toInt) (k0 : ¬ (0 ≤ p.toInt ∧ p.toInt < sc.toInt) → A) (k1 : 0 ≤ p.toInt ∧ p.toInt < sc.toInt → B) : wp_Model_isSeam sc p (fun r => (r = 0 → A) ∧ (¬ r = 0 → B)) := s_isSeam hs (fun n => ⟨fun _ => k0 n, fun q => absurd rfl q⟩) (fun y => ⟨fun q => absurd q (by decide), fun _ => k1 y⟩)
theorem ms_nz {sc p : Int32} {A B : Prop} (hs : 0 ≤ sc.toInt) (k1 : 0 ≤ p.toInt ∧ p.toInt < sc.toInt → B) (k0 : ¬ (0 ≤ p.toInt ∧ p.toInt < sc.toInt) → A) : wp_Model_isSeam sc p (fun r => (¬ r = 0 → B) ∧ (r = 0 → A)) := s_isSeam hs (fun n => ⟨fun q => absurd rfl q, fun _ => k0 n⟩) (fun y => ⟨fun _ => k1 y, fun q => absurd q (by decide)⟩)
theorem ex_nat {x : Int32} {s : Int} {n : Nat} (hs : s = (n : Int)) (h : 0 ≤ x.toInt ∧ x.toInt < s) : ∃ k : Nat, x.toInt = (k : Int) ∧ k < n := ⟨x.toInt.toNat, by omega, by omega⟩
theorem j_near {sc gap p1 p2 : Int32} {sx0 sy0 sx1 sy1 len tm heat seams : Nat → Int32} {v1 v2 K : Prop} (hv1 : v1) (hv2 : v2) (hk : K) (hg : gapOK gap) (hG : gSe sc sx0 sy0 sx1 sy1 len tm heat seams) : wp_SeamCell_near sc gap sx0 sy0 sx1 sy1 p1 p2 (fun o0 => v1 ∧ v2 ∧ wp_Model_near gap sc seams p1 p2 (fun q0 => (o0 = q0 → K) ∧ (¬ o0 = q0 → False))) := by
  obtain ⟨ns, hsc, hS, hM, -, -⟩ := hG
  have hs0 : 0 ≤ sc.toInt := by omega
  unfold wp_SeamCell_near
  refine ph_zn (fun n => ⟨hv1, hv2, ?_⟩) (fun y1 => ph_nz (fun y2 => ?_) (fun n => ⟨hv1, hv2, ?_⟩))
  · unfold wp_Model_near
    exact ms_zn hs0 (fun _ => eqK hk) (fun y => absurd y n)
  · obtain ⟨i, hi, li⟩ := ex_nat hsc y1
    obtain ⟨j, hj, lj⟩ := ex_nat hsc y2
    refine s_areNear hg hS hi li hj lj (fun c => ⟨fun q => absurd q (by decide), fun _ => ⟨hv1, hv2, ?_⟩⟩) (fun c => ⟨fun _ => ⟨hv1, hv2, ?_⟩, fun q => absurd rfl q⟩) <;> unfold wp_Model_near
    · exact ms_zn hs0 (fun n => absurd y1 n) (fun _ => ms_nz hs0 (fun _ => s_mareNear hg hS hM hi li hj lj (fun _ => ⟨fun q => absurd q (by decide), fun _ => eqK hk⟩) (fun d => absurd c d)) (fun n => absurd y2 n))
    · exact ms_zn hs0 (fun n => absurd y1 n) (fun _ => ms_nz hs0 (fun _ => s_mareNear hg hS hM hi li hj lj (fun d => absurd d c) (fun _ => ⟨fun _ => eqK hk, fun q => absurd rfl q⟩)) (fun n => absurd y2 n))
  · unfold wp_Model_near
    exact ms_zn hs0 (fun n => absurd y1 n) (fun _ => ms_nz hs0 (fun y => absurd y n) (fun _ => eqK hk))
theorem s_isFar {x y : Int32} {post : Int32 → Prop} (k0 : ptOK x y → post 0) (k1 : ¬ ptOK x y → post 1) : wp_Model_isFar x y post := by
  unfold wp_Model_isFar
  exact mi_zn (a := -1000) (b := 1000) rfl rfl (fun n => k1 (fun q => n q.1)) (fun y1 => mi_nz (a := -1000) (b := 1000) rfl rfl (fun y2 => k0 ⟨y1, y2⟩) (fun n => k1 (fun q => n q.2)))
theorem j_free {bc p1 p2 p3 p4 : Int32} {bX0 bY0 bX1 bY1 bars : Nat → Int32} {lu ld hu hd : Int64} {v1 v2 v3 v4 : Prop} {K : Int64 → Int64 → Int64 → Int64 → Prop} (hv1 : v1) (hv2 : v2) (hv3 : v3) (hv4 : v4) (hG : gBa bc bX0 bY0 bX1 bY1 bars) (h : ∀ a b c d : Int64, K a b c d) : wp_SeamCell_free bc bX0 bY0 bX1 bY1 p1 p2 p3 p4 (fun o0 => v1 ∧ v2 ∧ v3 ∧ v4 ∧ wp_Model_free bc lu ld hu hd bars p1 p2 p3 p4 (fun q0 q1 q2 q3 q4 => (o0 = q0 → K q1 q2 q3 q4) ∧ (¬ o0 = q0 → False))) := by
  obtain ⟨nb, hbc, hOK, hM⟩ := hG
  unfold wp_SeamCell_free
  refine s_are (a := -1000) (b := 1000) rfl rfl (fun n => ⟨fun q => absurd rfl q, fun _ => ⟨hv1, hv2, hv3, hv4, ?_⟩⟩) (fun y => ⟨fun _ => ?_, fun q => absurd q (by decide)⟩)
  · unfold wp_Model_free
    exact s_isFar (fun f1 => ⟨fun q => absurd rfl q, fun _ => s_isFar (fun f2 => absurd ⟨f1.1, f1.2, f2.1, f2.2⟩ n) (fun _ => ⟨fun q => absurd q (by decide), fun _ => eqK (h _ _ _ _)⟩)⟩) (fun _ => ⟨fun _ => eqK (h _ _ _ _), fun q => absurd q (by decide)⟩)
  · have f1 : ptOK p1 p2 := ⟨y.1, y.2.1⟩
    have f2 : ptOK p3 p4 := ⟨y.2.2.1, y.2.2.2⟩
    refine s_isFree hOK hbc f1 f2 (fun c => ⟨fun q => absurd q (by decide), fun _ => ⟨hv1, hv2, hv3, hv4, ?_⟩⟩) (fun c => ⟨fun _ => ⟨hv1, hv2, hv3, hv4, ?_⟩, fun q => absurd rfl q⟩) <;> unfold wp_Model_free
    · exact s_isFar (fun _ => ⟨fun q => absurd rfl q, fun _ => s_isFar (fun _ => ⟨fun _ => s_misFree hOK hM hbc f1 f2 (fun _ a b c d => ⟨fun q => absurd q (by decide), fun _ => eqK (h _ _ _ _)⟩) (fun d => absurd c d), fun q => absurd rfl q⟩) (fun n => absurd f2 n)⟩) (fun n => absurd f1 n)
    · exact s_isFar (fun _ => ⟨fun q => absurd rfl q, fun _ => s_isFar (fun _ => ⟨fun _ => s_misFree hOK hM hbc f1 f2 (fun d => absurd d c) (fun _ a b c d => ⟨fun _ => eqK (h _ _ _ _), fun q => absurd rfl q⟩), fun q => absurd rfl q⟩) (fun n => absurd f2 n)⟩) (fun n => absurd f1 n)
theorem j_lacks {mx my sx sy la lb fl : Int32} {bX0 bY0 bX1 bY1 sx0 sy0 sx1 sy1 len tm heat bars seams : Nat → Int32} {bc sc : Int32} {lu ld hu hd : Int64} {p1 p2 : Int32} {v1 v2 : Prop} {K : Int64 → Int64 → Int64 → Int64 → Prop} (hv1 : v1) (hv2 : v2) (hc : cellOK mx my sx sy la lb fl) (hB : gBa bc bX0 bY0 bX1 bY1 bars) (hG : gSe sc sx0 sy0 sx1 sy1 len tm heat seams) (h : ∀ a b c d : Int64, K a b c d) : wp_SeamCell_lacks mx my sx sy la lb fl bc bX0 bY0 bX1 bY1 sc sx0 sy0 sx1 sy1 p1 p2 (fun o0 => v1 ∧ v2 ∧ wp_Model_lacks mx my la lb fl bc sc lu ld hu hd sx sy bars seams p1 p2 (fun q0 q1 q2 q3 q4 => (o0 = q0 → K q1 q2 q3 q4) ∧ (¬ o0 = q0 → False))) := by
  obtain ⟨ns, hsc, hS, hM, -, -⟩ := hG
  obtain ⟨nb, hbc, hOK, hbM⟩ := hB
  have hs0 : 0 ≤ sc.toInt := by omega
  unfold wp_SeamCell_lacks
  refine ph_nz (fun y1 => ft_nz (a := 0) (b := 3) rfl rfl (fun y2 => ?_) (fun n => ⟨hv1, hv2, ?_⟩)) (fun n => ⟨hv1, hv2, ?_⟩)
  · obtain ⟨k, hk, lk⟩ := ex_nat hsc y1
    refine s_lacksAt hc hOK hbc hS lk hk ⟨hv1, hv2, ?_⟩
    unfold wp_Model_lacks
    exact ms_nz hs0 (fun _ => mi_zn (a := 0) (b := 3) rfl rfl (fun n => absurd y2 n) (fun _ => s_lacking hc hOK hbM hbc hS hM lk hk (fun a b c d => eqK (h _ _ _ _)))) (fun n => absurd y1 n)
  · unfold wp_Model_lacks
    exact ms_nz hs0 (fun _ => mi_zn (a := 0) (b := 3) rfl rfl (fun _ => eqK (h _ _ _ _)) (fun y => absurd y n)) (fun n => absurd y1 n)
  · unfold wp_Model_lacks
    exact ms_nz hs0 (fun y => absurd y n) (fun _ => eqK (h _ _ _ _))
theorem j_about {mx my sx sy la lb fl : Int32} {bX0 bY0 bX1 bY1 sx0 sy0 sx1 sy1 len tm heat bars seams : Nat → Int32} {bc sc : Int32} {lu ld hu hd : Int64} {p1 p2 : Int32} {v1 v2 : Prop} {K : Int64 → Int64 → Int64 → Int64 → Prop} (hv1 : v1) (hv2 : v2) (hc : cellOK mx my sx sy la lb fl) (hB : gBa bc bX0 bY0 bX1 bY1 bars) (hG : gSe sc sx0 sy0 sx1 sy1 len tm heat seams) (h : ∀ a b c d : Int64, K a b c d) : wp_SeamCell_about mx my sx sy la lb fl bc bX0 bY0 bX1 bY1 sc sx0 sy0 sx1 sy1 len tm heat p1 p2 (fun o0 => v1 ∧ v2 ∧ wp_Model_about mx my la lb fl bc sc lu ld hu hd sx sy bars seams p1 p2 (fun q0 q1 q2 q3 q4 => (o0 = q0 → K q1 q2 q3 q4) ∧ (¬ o0 = q0 → False))) := by
  obtain ⟨ns, hsc, hS, hM, hT, hL⟩ := hG
  obtain ⟨nb, hbc, hOK, hbM⟩ := hB
  have h8 := hS.1
  have hs0 : 0 ≤ sc.toInt := by omega
  unfold wp_SeamCell_about
  refine ph_nz (fun y1 => ?_) (fun n => ⟨hv1, hv2, ?_⟩)
  · obtain ⟨k, hk, lk⟩ := ex_nat hsc y1
    have hv := vp_t (N := 8) hk (by omega)
    obtain ⟨w, hw0, hw1⟩ : ∃ w : Int32, (qtV mx my sx sy la lb fl nb bX0 bY0 bX1 bY1 sx0 sy0 sx1 sy1 k = -6 → w = 0) ∧ (¬ qtV mx my sx sy la lb fl nb bX0 bY0 bX1 bY1 sx0 sy0 sx1 sy1 k = -6 → w = qtV mx my sx sy la lb fl nb bX0 bY0 bX1 bY1 sx0 sy0 sx1 sy1 k) := by
      by_cases c : qtV mx my sx sy la lb fl nb bX0 bY0 bX1 bY1 sx0 sy0 sx1 sy1 k = -6
      · exact ⟨0, fun _ => rfl, fun d => absurd c d⟩
      · exact ⟨_, fun d => absurd d c, fun _ => rfl⟩
    have m : ∀ o0 : Int32, ((p2.toInt < 0 ∨ 7 < p2.toInt) → o0 = -1002) → (p2 = 0 → o0 = len k) → (p2 = 1 → o0 = tm k) → (p2 = 2 → o0 = heat k) → (p2 = 3 → o0 = qtV mx my sx sy la lb fl nb bX0 bY0 bX1 bY1 sx0 sy0 sx1 sy1 k) → (p2 = 4 → o0 = eX sx0 sy0 sx1 sy1 mx sx k 0 w) → (p2 = 5 → o0 = eY sx0 sy0 sx1 sy1 my sy k 0 w) → (p2 = 6 → o0 = eX sx0 sy0 sx1 sy1 mx sx k 1 w) → (p2 = 7 → o0 = eY sx0 sy0 sx1 sy1 my sy k 1 w) → v1 ∧ v2 ∧ wp_Model_about mx my la lb fl bc sc lu ld hu hd sx sy bars seams p1 p2 (fun q0 q1 q2 q3 q4 => (o0 = q0 → K q1 q2 q3 q4) ∧ (¬ o0 = q0 → False)) := by
      intro o0 r0 r1 r2 r3 r4 r5 r6 r7 r8
      refine ⟨hv1, hv2, ?_⟩
      have tail : ∀ a b c d : Int64, wp_Model_about_j27_15 mx my sx sy seams p1 p2 (fun q0 q1 q2 q3 q4 => (o0 = q0 → K q1 q2 q3 q4) ∧ (¬ o0 = q0 → False)) (qtV mx my sx sy la lb fl nb bX0 bY0 bX1 bY1 sx0 sy0 sx1 sy1 k) a b c d w := by
        intro a b c d
        unfold wp_Model_about_j27_15
        have i5 := ix6 hk (by omega) (5 : Int32) 5 rfl (by omega)
        obtain ⟨t1, t2, t3, t4⟩ := hT k lk
        refine ⟨fun q => eqK' (r0 q) (h _ _ _ _), fun q => s_lengthOf hS hM lk hk (eqK' ((r1 q).trans (hL k lk)) (h _ _ _ _)), fun q => s_timeOf hS hM lk hk t1.1 (eqK' ((r2 q).trans t4) (h _ _ _ _)), fun q => ⟨vp_t i5 (by omega), eqK' ?_ (h _ _ _ _)⟩, fun q => eqK' (r4 q) (h _ _ _ _), fun q => ?_, fun q => ?_, fun q => ?_, fun q => ?_⟩
        · rw [cl_t i5, r3 q, t2]
        · exact s_placeOf hM hk lk h8 (Or.inl rfl) (fun _ => eqK' (r5 q) (h _ _ _ _)) (fun z => absurd rfl z)
        · exact s_placeOf hM hk lk h8 (Or.inl rfl) (fun z => absurd z (by decide)) (fun _ => eqK' (r6 q) (h _ _ _ _))
        · exact s_placeOf hM hk lk h8 (Or.inr rfl) (fun _ => eqK' (r7 q) (h _ _ _ _)) (fun z => absurd rfl z)
        · exact s_placeOf hM hk lk h8 (Or.inr rfl) (fun z => absurd z (by decide)) (fun _ => eqK' (r8 q) (h _ _ _ _))
      unfold wp_Model_about
      refine ms_nz hs0 (fun _ => s_mquarterOf hc hOK hbM hbc hS hM lk hk (fun a b c d => ⟨fun q => ?_, fun q => ?_⟩)) (fun n => absurd y1 n)
      · rw [i_le_not, qt_neg] at q
        have := tail a b c d
        rw [hw1 q] at this
        exact this
      · rw [i_le_not, Classical.not_not, qt_neg] at q
        have := tail a b c d
        rw [hw0 q] at this
        exact this
    refine ft_nz (a := 0) (b := 7) rfl rfl (fun y2 => ?_) (fun n => ?_)
    · have rg : (p2.toInt < 0 ∨ 7 < p2.toInt) → False := fun q => by omega
      refine ⟨fun a => ⟨fun b => ⟨fun c => ?_, fun c => ⟨hv, ?_⟩⟩, fun b => ⟨hv, ?_⟩⟩, fun a => ⟨hv, ?_⟩⟩
      · refine s_quarterOf hc hOK hbc hS lk hk ⟨fun d => ?_, fun d => ?_⟩
        · have jn : wp_SeamCell_about_j109_15 mx my sx sy sx0 sy0 sx1 sy1 p1 p2 (fun o0 => v1 ∧ v2 ∧ wp_Model_about mx my la lb fl bc sc lu ld hu hd sx sy bars seams p1 p2 (fun q0 q1 q2 q3 q4 => (o0 = q0 → K q1 q2 q3 q4) ∧ (¬ o0 = q0 → False))) w := by
            have k8 : k < 8 := by omega
            have c0 : (0 : Int32).toInt = 0 := rfl
            have c1 : (1 : Int32).toInt = 1 := rfl
            have c2 : (2 : Int32).toInt = 2 := rfl
            have c3 : (3 : Int32).toInt = 3 := rfl
            have c4 : (4 : Int32).toInt = 4 := rfl
            have c5 : (5 : Int32).toInt = 5 := rfl
            have c6 : (6 : Int32).toInt = 6 := rfl
            have c7 : (7 : Int32).toInt = 7 := rfl
            have four : p2 = 4 ∨ p2 = 5 ∨ p2 = 6 ∨ p2 = 7 := by
              rw [i_eq rfl c0] at a; rw [i_eq rfl c1] at b; rw [i_eq rfl c2] at c; rw [i_eq rfl c3] at d
              rw [i_eq rfl c4, i_eq rfl c5, i_eq rfl c6, i_eq rfl c7]
              omega
            unfold wp_SeamCell_about_j109_15 wp_SeamCell_about_j122_14
            rcases four with e | e | e | e
            · have mm := m (eX sx0 sy0 sx1 sy1 mx sx k 0 w) (fun q => (rg q).elim) (fun q => absurd q a) (fun q => absurd q b) (fun q => absurd q c) (fun q => absurd q d) (fun _ => rfl) (fun q => absurd (e.symm.trans q) (by decide)) (fun q => absurd (e.symm.trans q) (by decide)) (fun q => absurd (e.symm.trans q) (by decide))
              refine ⟨fun q => absurd q (by rw [e]; decide), fun _ => ⟨fun q => absurd (by rw [e]; decide) q, fun _ => s_endX hk k8 mm⟩⟩
            · have mm := m (eY sx0 sy0 sx1 sy1 my sy k 0 w) (fun q => (rg q).elim) (fun q => absurd q a) (fun q => absurd q b) (fun q => absurd q c) (fun q => absurd q d) (fun q => absurd (e.symm.trans q) (by decide)) (fun _ => rfl) (fun q => absurd (e.symm.trans q) (by decide)) (fun q => absurd (e.symm.trans q) (by decide))
              refine ⟨fun q => absurd q (by rw [e]; decide), fun _ => ⟨fun _ => s_endY hk k8 mm, fun q => absurd q (by rw [e]; decide)⟩⟩
            · have mm := m (eX sx0 sy0 sx1 sy1 mx sx k 1 w) (fun q => (rg q).elim) (fun q => absurd q a) (fun q => absurd q b) (fun q => absurd q c) (fun q => absurd q d) (fun q => absurd (e.symm.trans q) (by decide)) (fun q => absurd (e.symm.trans q) (by decide)) (fun _ => rfl) (fun q => absurd (e.symm.trans q) (by decide))
              refine ⟨fun _ => ⟨fun q => absurd (by rw [e]; decide) q, fun _ => s_endX hk k8 mm⟩, fun q => absurd (by rw [e]; decide) q⟩
            · have mm := m (eY sx0 sy0 sx1 sy1 my sy k 1 w) (fun q => (rg q).elim) (fun q => absurd q a) (fun q => absurd q b) (fun q => absurd q c) (fun q => absurd q d) (fun q => absurd (e.symm.trans q) (by decide)) (fun q => absurd (e.symm.trans q) (by decide)) (fun q => absurd (e.symm.trans q) (by decide)) (fun _ => rfl)
              refine ⟨fun _ => ⟨fun _ => s_endY hk k8 mm, fun q => absurd q (by rw [e]; decide)⟩, fun q => absurd (by rw [e]; decide) q⟩
          refine ⟨fun e => ?_, fun e => ?_⟩
          · rw [← hw1 e]; exact jn
          · rw [hw0 e] at jn; exact jn
        · exact m _ (fun q => (rg q).elim) (fun q => absurd q a) (fun q => absurd q b) (fun q => absurd q c) (fun _ => rfl) (fun q => absurd (d.symm.trans q) (by decide)) (fun q => absurd (d.symm.trans q) (by decide)) (fun q => absurd (d.symm.trans q) (by decide)) (fun q => absurd (d.symm.trans q) (by decide))
      · rw [cl_t hk]
        exact m _ (fun q => (rg q).elim) (fun q => absurd q a) (fun q => absurd q b) (fun _ => rfl) (fun q => absurd (c.symm.trans q) (by decide)) (fun q => absurd (c.symm.trans q) (by decide)) (fun q => absurd (c.symm.trans q) (by decide)) (fun q => absurd (c.symm.trans q) (by decide)) (fun q => absurd (c.symm.trans q) (by decide))
      · rw [cl_t hk]
        exact m _ (fun q => (rg q).elim) (fun q => absurd q a) (fun _ => rfl) (fun q => absurd (b.symm.trans q) (by decide)) (fun q => absurd (b.symm.trans q) (by decide)) (fun q => absurd (b.symm.trans q) (by decide)) (fun q => absurd (b.symm.trans q) (by decide)) (fun q => absurd (b.symm.trans q) (by decide)) (fun q => absurd (b.symm.trans q) (by decide))
      · rw [cl_t hk]
        exact m _ (fun q => (rg q).elim) (fun _ => rfl) (fun q => absurd (a.symm.trans q) (by decide)) (fun q => absurd (a.symm.trans q) (by decide)) (fun q => absurd (a.symm.trans q) (by decide)) (fun q => absurd (a.symm.trans q) (by decide)) (fun q => absurd (a.symm.trans q) (by decide)) (fun q => absurd (a.symm.trans q) (by decide)) (fun q => absurd (a.symm.trans q) (by decide))
    · have nn : ∀ x : Int32, 0 ≤ x.toInt ∧ x.toInt ≤ 7 → p2 = x → False := fun x hx e => n (by rw [e]; exact hx)
      exact m _ (fun _ => rfl) (fun q => (nn _ (by decide) q).elim) (fun q => (nn _ (by decide) q).elim) (fun q => (nn _ (by decide) q).elim) (fun q => (nn _ (by decide) q).elim) (fun q => (nn _ (by decide) q).elim) (fun q => (nn _ (by decide) q).elim) (fun q => (nn _ (by decide) q).elim) (fun q => (nn _ (by decide) q).elim)
  · unfold wp_Model_about
    exact ms_nz hs0 (fun y => absurd y n) (fun _ => eqK (h _ _ _ _))
