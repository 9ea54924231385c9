/-! the public pairs: the class's answer is the reference's; K gets what is kept -/
theorem eqK {a : Int32} {K : Prop} (h : K) : (a = a → K) ∧ (¬ a = a → False) := ⟨fun _ => h, fun q => q rfl⟩
theorem eqK' {a b : Int32} {K : Prop} (e : a = b) (h : K) : (a = b → K) ∧ (¬ a = b → False) := ⟨fun _ => h, fun q => q e⟩
theorem q_1 : (1 : Int32).toInt = 1 := rfl
theorem q_2 : (2 : Int32).toInt = 2 := rfl
theorem q_3 : (3 : Int32).toInt = 3 := rfl
theorem q_4 : (4 : Int32).toInt = 4 := rfl
theorem q_5 : (5 : Int32).toInt = 5 := rfl
theorem q_6 : (6 : Int32).toInt = 6 := rfl
theorem q_7 : (7 : Int32).toInt = 7 := rfl
theorem q_8 : (8 : Int32).toInt = 8 := rfl
theorem ql_1 : (1 : Int64).toInt = 1 := rfl
theorem b_zn {c : Prop} [Decidable c] {A B : Prop} (k0 : ¬ c → A) (k1 : c → B) : ((if c then (1 : Int32) else 0) = 0 → A) ∧ (¬ (if c then (1 : Int32) else 0) = 0 → B) := ⟨fun h => k0 (b01_z.mp h), fun h => k1 (b01_n.mp h)⟩
theorem b_nz {c : Prop} [Decidable c] {A B : Prop} (k1 : c → B) (k0 : ¬ c → A) : (¬ (if c then (1 : Int32) else 0) = 0 → B) ∧ ((if c then (1 : Int32) else 0) = 0 → A) := ⟨fun h => k1 (b01_n.mp h), fun h => k0 (b01_z.mp h)⟩
theorem ft_zn {x lo hi : Int32} {A B : Prop} {a b : Int} (hl : lo.toInt = a) (hh : hi.toInt = b) (k0 : ¬ (a ≤ x.toInt ∧ x.toInt ≤ b) → A) (k1 : a ≤ x.toInt ∧ x.toInt ≤ b → B) : wp_SeamCell_isFromTo x lo hi (fun r => (r = 0 → A) ∧ (¬ r = 0 → B)) := by
  subst hl; subst hh; exact s_isFromTo.mpr (b_zn k0 k1)
theorem ft_nz {x lo hi : Int32} {A B : Prop} {a b : Int} (hl : lo.toInt = a) (hh : hi.toInt = b) (k1 : a ≤ x.toInt ∧ x.toInt ≤ b → B) (k0 : ¬ (a ≤ x.toInt ∧ x.toInt ≤ b) → A) : wp_SeamCell_isFromTo x lo hi (fun r => (¬ r = 0 → B) ∧ (r = 0 → A)) := by
  subst hl; subst hh; exact s_isFromTo.mpr (b_nz k1 k0)
theorem mi_zn {x : Int32} {lo hi : Int64} {A B : Prop} {a b : Int} (hl : lo.toInt = a) (hh : hi.toInt = b) (k0 : ¬ (a ≤ x.toInt ∧ x.toInt ≤ b) → A) (k1 : a ≤ x.toInt ∧ x.toInt ≤ b → B) : wp_Model_in x.toInt64 lo hi (fun r => (r = 0 → A) ∧ (¬ r = 0 → B)) := by
  subst hl; subst hh
  rw [← Int32.toInt_toInt64 x] at k0 k1
  exact s_in.mpr (b_zn k0 k1)
theorem mi_nz {x : Int32} {lo hi : Int64} {A B : Prop} {a b : Int} (hl : lo.toInt = a) (hh : hi.toInt = b) (k1 : a ≤ x.toInt ∧ x.toInt ≤ b → B) (k0 : ¬ (a ≤ x.toInt ∧ x.toInt ≤ b) → A) : wp_Model_in x.toInt64 lo hi (fun r => (¬ r = 0 → B) ∧ (r = 0 → A)) := by
  subst hl; subst hh
  rw [← Int32.toInt_toInt64 x] at k0 k1
  exact s_in.mpr (b_nz k1 k0)
theorem j_table {mx my p1 p2 : Int32} {v1 v2 : Prop} {K : Int32 → Int32 → Int32 → Int32 → Prop} (hv1 : v1) (hv2 : v2) (h0 : K mx my mx my) (h1 : -200 ≤ p1.toInt ∧ p1.toInt ≤ 200 → -200 ≤ p2.toInt ∧ p2.toInt ≤ 200 → K p1 p2 p1 p2) : wp_SeamCell_table mx my p1 p2 (fun o0 o1 o2 => v1 ∧ v2 ∧ wp_Model_table mx my p1 p2 (fun q0 q1 q2 => (o0 = q0 → K o1 o2 q1 q2) ∧ (¬ o0 = q0 → False))) := by
  unfold wp_SeamCell_table
  refine ft_zn (a := -200) (b := 200) rfl rfl (fun n1 => ⟨hv1, hv2, ?_⟩) (fun y1 => ft_nz (a := -200) (b := 200) rfl rfl (fun y2 => ⟨hv1, hv2, ?_⟩) (fun n2 => ⟨hv1, hv2, ?_⟩)) <;> unfold wp_Model_table
  · exact mi_zn (a := -200) (b := 200) rfl rfl (fun _ => eqK h0) (fun y => absurd y n1)
  · exact mi_zn (a := -200) (b := 200) rfl rfl (fun n => absurd y1 n) (fun _ => mi_nz (a := -200) (b := 200) rfl rfl (fun _ => eqK (h1 y1 y2)) (fun n => absurd y2 n))
  · exact mi_zn (a := -200) (b := 200) rfl rfl (fun n => absurd y1 n) (fun _ => mi_nz (a := -200) (b := 200) rfl rfl (fun y => absurd y n2) (fun _ => eqK h0))
theorem j_arm {la lb p1 p2 : Int32} {v1 v2 : Prop} {K : Int32 → Int32 → Int32 → Int32 → Prop} (hv1 : v1) (hv2 : v2) (h0 : K la lb la lb) (h1 : 10 ≤ p1.toInt ∧ p1.toInt ≤ 300 → 10 ≤ p2.toInt ∧ p2.toInt ≤ 300 → K p1 p2 p1 p2) : wp_SeamCell_arm la lb p1 p2 (fun o0 o1 o2 => v1 ∧ v2 ∧ wp_Model_arm la lb p1 p2 (fun q0 q1 q2 => (o0 = q0 → K o1 o2 q1 q2) ∧ (¬ o0 = q0 → False))) := by
  unfold wp_SeamCell_arm
  refine ft_zn (a := 10) (b := 300) rfl rfl (fun n1 => ⟨hv1, hv2, ?_⟩) (fun y1 => ft_nz (a := 10) (b := 300) rfl rfl (fun y2 => ⟨hv1, hv2, ?_⟩) (fun n2 => ⟨hv1, hv2, ?_⟩)) <;> unfold wp_Model_arm
  · exact mi_zn (a := 10) (b := 300) rfl rfl (fun _ => eqK h0) (fun y => absurd y n1)
  · exact mi_zn (a := 10) (b := 300) rfl rfl (fun n => absurd y1 n) (fun _ => mi_nz (a := 10) (b := 300) rfl rfl (fun _ => eqK (h1 y1 y2)) (fun n => absurd y2 n))
  · exact mi_zn (a := 10) (b := 300) rfl rfl (fun n => absurd y1 n) (fun _ => mi_nz (a := 10) (b := 300) rfl rfl (fun y => absurd y n2) (fun _ => eqK h0))
theorem j_rules {fl gap p1 p2 : Int32} {v1 v2 : Prop} {K : Int32 → Int32 → Int32 → Int32 → Prop} (hv1 : v1) (hv2 : v2) (h0 : K fl gap fl gap) (h1 : 0 ≤ p1.toInt ∧ p1.toInt ≤ 1000 → 0 ≤ p2.toInt ∧ p2.toInt ≤ 200 → K p1 p2 p1 p2) : wp_SeamCell_rules fl gap p1 p2 (fun o0 o1 o2 => v1 ∧ v2 ∧ wp_Model_rules fl gap p1 p2 (fun q0 q1 q2 => (o0 = q0 → K o1 o2 q1 q2) ∧ (¬ o0 = q0 → False))) := by
  unfold wp_SeamCell_rules
  refine ft_zn (a := 0) (b := 1000) rfl rfl (fun n1 => ⟨hv1, hv2, ?_⟩) (fun y1 => ft_nz (a := 0) (b := 200) rfl rfl (fun y2 => ⟨hv1, hv2, ?_⟩) (fun n2 => ⟨hv1, hv2, ?_⟩)) <;> unfold wp_Model_rules
  · exact mi_zn (a := 0) (b := 1000) rfl rfl (fun _ => eqK h0) (fun y => absurd y n1)
  · exact mi_zn (a := 0) (b := 1000) rfl rfl (fun n => absurd y1 n) (fun _ => mi_nz (a := 0) (b := 200) rfl rfl (fun _ => eqK (h1 y1 y2)) (fun n => absurd y2 n))
  · exact mi_zn (a := 0) (b := 1000) rfl rfl (fun n => absurd y1 n) (fun _ => mi_nz (a := 0) (b := 200) rfl rfl (fun y => absurd y n2) (fun _ => eqK h0))
theorem j_home {hx hy p1 p2 : Int32} {v1 v2 : Prop} {K : Int32 → Int32 → Int32 → Int32 → Prop} (hv1 : v1) (hv2 : v2) (h0 : K hx hy hx hy) (h1 : -400 ≤ p1.toInt ∧ p1.toInt ≤ 400 → -400 ≤ p2.toInt ∧ p2.toInt ≤ 400 → K p1 p2 p1 p2) : wp_SeamCell_home hx hy p1 p2 (fun o0 o1 o2 => v1 ∧ v2 ∧ wp_Model_home hx hy p1 p2 (fun q0 q1 q2 => (o0 = q0 → K o1 o2 q1 q2) ∧ (¬ o0 = q0 → False))) := by
  unfold wp_SeamCell_home
  refine ft_zn (a := -400) (b := 400) rfl rfl (fun n1 => ⟨hv1, hv2, ?_⟩) (fun y1 => ft_nz (a := -400) (b := 400) rfl rfl (fun y2 => ⟨hv1, hv2, ?_⟩) (fun n2 => ⟨hv1, hv2, ?_⟩)) <;> unfold wp_Model_home
  · exact mi_zn (a := -400) (b := 400) rfl rfl (fun _ => eqK h0) (fun y => absurd y n1)
  · exact mi_zn (a := -400) (b := 400) rfl rfl (fun n => absurd y1 n) (fun _ => mi_nz (a := -400) (b := 400) rfl rfl (fun _ => eqK (h1 y1 y2)) (fun n => absurd y2 n))
  · exact mi_zn (a := -400) (b := 400) rfl rfl (fun n => absurd y1 n) (fun _ => mi_nz (a := -400) (b := 400) rfl rfl (fun y => absurd y n2) (fun _ => eqK h0))
theorem j_times {turn travel lift cool p1 p2 p3 p4 : Int32} {v1 v2 v3 v4 : Prop} {K : Int32 → Int32 → Int32 → Int32 → Int32 → Int32 → Int32 → Int32 → Prop} (hv1 : v1) (hv2 : v2) (hv3 : v3) (hv4 : v4) (h0 : K turn travel lift cool turn travel lift cool) (h1 : 0 ≤ p1.toInt ∧ p1.toInt ≤ 100 → 1 ≤ p2.toInt ∧ p2.toInt ≤ 100 → 0 ≤ p3.toInt ∧ p3.toInt ≤ 50 → 1 ≤ p4.toInt ∧ p4.toInt ≤ 100 → K p1 p2 p3 p4 p1 p2 p3 p4) : wp_SeamCell_times turn travel lift cool p1 p2 p3 p4 (fun o0 o1 o2 o3 o4 => v1 ∧ v2 ∧ v3 ∧ v4 ∧ wp_Model_times turn travel lift cool p1 p2 p3 p4 (fun q0 q1 q2 q3 q4 => (o0 = q0 → K o1 o2 o3 o4 q1 q2 q3 q4) ∧ (¬ o0 = q0 → False))) := by
  have m : ∀ o0 o1 o2 o3 o4 : Int32, ((0 ≤ p1.toInt ∧ p1.toInt ≤ 100) ∧ (1 ≤ p2.toInt ∧ p2.toInt ≤ 100) ∧ (0 ≤ p3.toInt ∧ p3.toInt ≤ 50) ∧ (1 ≤ p4.toInt ∧ p4.toInt ≤ 100) ∧ o0 = 1 ∧ o1 = p1 ∧ o2 = p2 ∧ o3 = p3 ∧ o4 = p4) ∨ (¬ ((0 ≤ p1.toInt ∧ p1.toInt ≤ 100) ∧ (1 ≤ p2.toInt ∧ p2.toInt ≤ 100) ∧ (0 ≤ p3.toInt ∧ p3.toInt ≤ 50) ∧ (1 ≤ p4.toInt ∧ p4.toInt ≤ 100)) ∧ o0 = -2 ∧ o1 = turn ∧ o2 = travel ∧ o3 = lift ∧ o4 = cool) → v1 ∧ v2 ∧ v3 ∧ v4 ∧ wp_Model_times turn travel lift cool p1 p2 p3 p4 (fun q0 q1 q2 q3 q4 => (o0 = q0 → K o1 o2 o3 o4 q1 q2 q3 q4) ∧ (¬ o0 = q0 → False)) := by
    intro o0 o1 o2 o3 o4 h
    refine ⟨hv1, hv2, hv3, hv4, ?_⟩
    unfold wp_Model_times
    rcases h with ⟨y1, y2, y3, y4, rfl, rfl, rfl, rfl, rfl⟩ | ⟨n, rfl, rfl, rfl, rfl, rfl⟩
    · exact mi_zn (a := 0) (b := 100) rfl rfl (fun n => absurd y1 n) (fun _ => mi_zn (a := 1) (b := 100) rfl rfl (fun n => absurd y2 n) (fun _ => mi_zn (a := 0) (b := 50) rfl rfl (fun n => absurd y3 n) (fun _ => mi_nz (a := 1) (b := 100) rfl rfl (fun _ => eqK (h1 y1 y2 y3 y4)) (fun n => absurd y4 n))))
    · exact mi_zn (a := 0) (b := 100) rfl rfl (fun _ => eqK h0) (fun y1 => mi_zn (a := 1) (b := 100) rfl rfl (fun _ => eqK h0) (fun y2 => mi_zn (a := 0) (b := 50) rfl rfl (fun _ => eqK h0) (fun y3 => mi_nz (a := 1) (b := 100) rfl rfl (fun y4 => absurd ⟨y1, y2, y3, y4⟩ n) (fun _ => eqK h0))))
  unfold wp_SeamCell_times
  refine ft_zn (a := 0) (b := 100) rfl rfl (fun n => m _ _ _ _ _ (Or.inr ⟨fun q => n q.1, rfl, rfl, rfl, rfl, rfl⟩)) (fun y1 => ft_nz (a := 1) (b := 100) rfl rfl (fun y2 => ?_) (fun n => m _ _ _ _ _ (Or.inr ⟨fun q => n q.2.1, rfl, rfl, rfl, rfl, rfl⟩)))
  exact ft_zn (a := 0) (b := 50) rfl rfl (fun n => m _ _ _ _ _ (Or.inr ⟨fun q => n q.2.2.1, rfl, rfl, rfl, rfl, rfl⟩)) (fun y3 => ft_nz (a := 1) (b := 100) rfl rfl (fun y4 => m _ _ _ _ _ (Or.inl ⟨y1, y2, y3, y4, rfl, rfl, rfl, rfl, rfl⟩)) (fun n => m _ _ _ _ _ (Or.inr ⟨fun q => n q.2.2.2, rfl, rfl, rfl, rfl, rfl⟩)))
theorem j_ran {hr p1 : Int32} {lat ran : Nat → Int32} {v1 : Prop} {K : Prop} (hv1 : v1) (hk : K) (hR : ∀ k, k < 5 → lat k = ran k) : wp_SeamCell_ran hr lat p1 (fun o0 => v1 ∧ wp_Model_ran hr ran p1 (fun q0 => (o0 = q0 → K) ∧ (¬ o0 = q0 → False))) := by
  unfold wp_SeamCell_ran
  refine ft_nz (a := 0) (b := 4) rfl rfl (fun y => ?_) (fun n => ⟨hv1, ?_⟩)
  · obtain ⟨z, hz⟩ : ∃ z : Nat, p1.toInt = (z : Int) := ⟨p1.toInt.toNat, by omega⟩
    have hv := vp_t (N := 5) hz (by omega)
    refine ⟨fun h => ⟨hv, hv1, ?_⟩, fun h => ⟨hv1, ?_⟩⟩ <;> unfold wp_Model_ran
    · refine mi_nz (a := 0) (b := 4) rfl rfl (fun _ => ⟨fun q => absurd q h, fun _ => ⟨hv, eqK' ?_ hk⟩⟩) (fun n => absurd y n)
      rw [cl_t hz]; exact hR z (by omega)
    · exact mi_nz (a := 0) (b := 4) rfl rfl (fun _ => ⟨fun _ => eqK hk, fun q => absurd h q⟩) (fun n => absurd y n)
  · unfold wp_Model_ran
    exact mi_nz (a := 0) (b := 4) rfl rfl (fun y => absurd y n) (fun _ => eqK hk)
theorem j_shifted {sx sy p1 : Int32} {v1 : Prop} {K : Prop} (hv1 : v1) (hk : K) : wp_SeamCell_shifted sx sy p1 (fun o0 => v1 ∧ wp_Model_shifted sx sy p1 (fun q0 => (o0 = q0 → K) ∧ (¬ o0 = q0 → False))) := by
  have c0 : (0 : Int32).toInt = 0 := rfl
  have c1 : (1 : Int32).toInt = 1 := rfl
  unfold wp_SeamCell_shifted
  refine ft_nz (a := 0) (b := 1) rfl rfl (fun y => ⟨fun h => ⟨hv1, ?_⟩, fun h => ⟨hv1, ?_⟩⟩) (fun n => ⟨hv1, ?_⟩) <;> unfold wp_Model_shifted
  · refine ⟨fun _ => ⟨fun h1 => ?_, fun _ => eqK hk⟩, fun h0 => absurd h0 h⟩
    have := mt (i_eq (x := p1) rfl c0).mpr h
    have := mt (i_eq (x := p1) rfl c1).mpr h1
    omega
  · exact ⟨fun h0 => absurd h h0, fun _ => eqK hk⟩
  · refine ⟨fun _ => ⟨fun _ => eqK hk, fun h1 => ?_⟩, fun h0 => ?_⟩
    · subst h1; exact absurd (by decide) n
    · subst h0; exact absurd (by decide) n
theorem j_shut {p1 p2 : Int32} {tl th lows highs : Nat → Int32} {v1 v2 : Prop} {K : Prop} (hv1 : v1) (hv2 : v2) (hk : K) (hR : ∀ k, k < 2 → lows k = tl k ∧ highs k = th k) : wp_SeamCell_shut tl th p1 p2 (fun o0 => v1 ∧ v2 ∧ wp_Model_shut lows highs p1 p2 (fun q0 => (o0 = q0 → K) ∧ (¬ o0 = q0 → False))) := by
  unfold wp_SeamCell_shut
  refine ft_zn (a := 0) (b := 1) rfl rfl (fun n => ⟨hv1, hv2, ?_⟩) (fun y => ft_nz (a := 0) (b := 1) rfl rfl (fun y2 => ?_) (fun n => ⟨hv1, hv2, ?_⟩))
  · unfold wp_Model_shut
    exact mi_zn (a := 0) (b := 1) rfl rfl (fun _ => eqK hk) (fun y => absurd y n)
  · obtain ⟨z, hz⟩ : ∃ z : Nat, p1.toInt = (z : Int) := ⟨p1.toInt.toNat, by omega⟩
    have hv := vp_t (N := 2) hz (by omega)
    have ez := cl_t hz
    obtain ⟨e1, e2⟩ := hR z (by omega)
    refine ⟨fun h => ⟨hv, hv1, hv2, ?_⟩, fun h => ⟨hv, hv1, hv2, ?_⟩⟩ <;> unfold wp_Model_shut
    · exact mi_zn (a := 0) (b := 1) rfl rfl (fun n => absurd y n) (fun _ => mi_nz (a := 0) (b := 1) rfl rfl (fun _ => ⟨fun _ => ⟨hv, eqK' (by rw [ez, e2]) hk⟩, fun q => absurd q h⟩) (fun n => absurd y2 n))
    · exact mi_zn (a := 0) (b := 1) rfl rfl (fun n => absurd y n) (fun _ => mi_nz (a := 0) (b := 1) rfl rfl (fun _ => ⟨fun q => absurd h q, fun _ => ⟨hv, eqK' (by rw [ez, e1]) hk⟩⟩) (fun n => absurd y2 n))
  · unfold wp_Model_shut
    exact mi_zn (a := 0) (b := 1) rfl rfl (fun n => absurd y n) (fun _ => mi_nz (a := 0) (b := 1) rfl rfl (fun y => absurd y n) (fun _ => eqK hk))
theorem j_told {bc sc rc tc c1 c2 p1 : Int32} {am : Nat → Int32} {v1 : Prop} {K : Prop} (hv1 : v1) (hk : K) (h1 : am 0 = c1) (h2 : am 1 = c2) : wp_SeamCell_told bc sc rc tc c1 c2 p1 (fun o0 => v1 ∧ wp_Model_told bc sc rc tc am p1 (fun q0 => (o0 = q0 → K) ∧ (¬ o0 = q0 → False))) := by
  have m : ∀ o0 : Int32, ((p1.toInt < 0 ∨ 5 < p1.toInt) → o0 = -2) → (p1 = 0 → o0 = sc) → (p1 = 1 → o0 = bc) → (p1 = 2 → o0 = tc) → (p1 = 3 → o0 = c1) → (p1 = 4 → o0 = c2) → (p1 = 5 → o0 = rc) → v1 ∧ wp_Model_told bc sc rc tc am p1 (fun q0 => (o0 = q0 → K) ∧ (¬ o0 = q0 → False)) := by
    intro o0 g a b c d e f
    unfold wp_Model_told
    exact ⟨hv1, fun q => eqK' (g q) hk, fun q => eqK' (a q) hk, fun q => eqK' (b q) hk, fun q => eqK' (c q) hk, fun q => eqK' ((d q).trans h1.symm) hk, fun q => eqK' ((e q).trans h2.symm) hk, fun q => eqK' (f q) hk⟩
  unfold wp_SeamCell_told
  refine ft_nz (a := 0) (b := 5) rfl rfl (fun y => ⟨fun a => ⟨fun b => ⟨fun c => ⟨fun d => ⟨fun e => ?_, fun e => ?_⟩, fun d => ?_⟩, fun c => ?_⟩, fun b => ?_⟩, fun a => ?_⟩) (fun n => ?_)
  · exact m _ (fun q => by omega) (fun q => absurd q a) (fun q => absurd q b) (fun q => absurd q c) (fun q => absurd q d) (fun q => absurd q e) (fun _ => rfl)
  · exact m _ (fun q => by omega) (fun q => absurd q a) (fun q => absurd q b) (fun q => absurd q c) (fun q => absurd q d) (fun _ => rfl) (fun q => absurd (e.symm.trans q) (by decide))
  · exact m _ (fun q => by omega) (fun q => absurd q a) (fun q => absurd q b) (fun q => absurd q c) (fun _ => rfl) (fun q => absurd (d.symm.trans q) (by decide)) (fun q => absurd (d.symm.trans q) (by decide))
  · exact m _ (fun q => by omega) (fun q => absurd q a) (fun q => absurd q b) (fun _ => rfl) (fun q => absurd (c.symm.trans q) (by decide)) (fun q => absurd (c.symm.trans q) (by decide)) (fun q => absurd (c.symm.trans q) (by decide))
  · exact m _ (fun q => by omega) (fun q => absurd q a) (fun _ => rfl) (fun q => absurd (b.symm.trans q) (by decide)) (fun q => absurd (b.symm.trans q) (by decide)) (fun q => absurd (b.symm.trans q) (by decide)) (fun q => absurd (b.symm.trans q) (by decide))
  · exact m _ (fun q => by omega) (fun _ => rfl) (fun q => absurd (a.symm.trans q) (by decide)) (fun q => absurd (a.symm.trans q) (by decide)) (fun q => absurd (a.symm.trans q) (by decide)) (fun q => absurd (a.symm.trans q) (by decide)) (fun q => absurd (a.symm.trans q) (by decide))
  · have nn : ∀ x : Int32, 0 ≤ x.toInt ∧ x.toInt ≤ 5 → p1 = x → False := fun x hx e => n (by rw [e]; exact hx)
    exact m _ (fun _ => rfl) (fun q => (nn _ (by decide) q).elim) (fun q => (nn _ (by decide) q).elim) (fun q => (nn _ (by decide) q).elim) (fun q => (nn _ (by decide) q).elim) (fun q => (nn _ (by decide) q).elim) (fun q => (nn _ (by decide) q).elim)
