/-! counts over the pairs -/
noncomputable def bN (P : Prop) : Nat := @ite _ P (Classical.propDecidable P) 1 0
theorem bN_1 {P : Prop} (h : P) : bN P = 1 := if_pos h
theorem bN_0 {P : Prop} (h : ¬ P) : bN P = 0 := if_neg h
theorem bN_le (P : Prop) : bN P ≤ 1 := by
  rcases Classical.em P with h | h
  · rw [bN_1 h]; exact Nat.le_refl 1
  · rw [bN_0 h]; omega
noncomputable def cR (P : Nat → Nat → Prop) (i : Nat) : Nat → Nat
  | 0 => 0
  | j + 1 => cR P i j + bN (P i j)
noncomputable def cA (P : Nat → Nat → Prop) (w : Nat) : Nat → Nat
  | 0 => 0
  | i + 1 => cA P w i + cR P i w
theorem cR_le (P : Nat → Nat → Prop) (i : Nat) : ∀ j, cR P i j ≤ j
  | 0 => Nat.le_refl 0
  | j + 1 => by
    unfold cR
    have := cR_le P i j
    have := bN_le (P i j)
    omega
theorem cA_le (P : Nat → Nat → Prop) (w : Nat) : ∀ i, cA P w i ≤ i * w
  | 0 => by rw [Nat.zero_mul]; exact Nat.le_refl 0
  | i + 1 => by
    unfold cA
    rw [Nat.succ_mul]
    have := cA_le P w i
    have := cR_le P i w
    omega
theorem cA_bd {P : Nat → Nat → Prop} {w i : Nat} (hw : w ≤ 17) (hi : i ≤ 17) : cA P w i ≤ 289 := by
  have h1 := cA_le P w i
  have h2 : i * w ≤ 17 * 17 := Nat.mul_le_mul hi hw
  omega
section CNT
variable {n1 n2 : Nat} {k1 z1 b1 k2 z2 b2 : Nat → Int32} {c1 c2 : Int32}
theorem s_countPairs {R : Nat → Int32} {post : Int32 → (Nat → Int32) → Prop} (hA1 : actsOK n1 k1 z1 b1) (hA2 : actsOK n2 k2 z2 b2) (hc1 : c1.toInt = (n1 : Int)) (hc2 : c2.toInt = (n2 : Int))
    (h : ∀ R' : Nat → Int32, post (nI (cA (RC (gA n1 k1 z1 k2 z2) (fun i j => gA n2 k2 z2 k1 z1 j i)) (n2 + 1) (n1 + 1))) R') : wp_Crew_countPairs R c1 k1 z1 b1 c2 k2 z2 b2 post := by
  have hn1 := hA1.1
  have hn2 := hA2.1
  unfold wp_Crew_countPairs
  refine s_weave hA1 hA2 hc1 hc2 (fun R' hR => ?_)
  generalize RC (gA n1 k1 z1 k2 z2) (fun i j => gA n2 k2 z2 k1 z1 j i) = P at *
  refine ⟨n1 + 2, ?_⟩
  have inner : ∀ (ih8 : Int32 → Int32 → Prop) (i : Nat) (x2 : Int32), x2.toInt = (i : Int) → i ≤ n1 → ih8 (nI (cA P (n2 + 1) (i + 1))) (x2 + (1 : Int32)) → ∀ (m j : Nat) (x3 : Int32), x3.toInt = (j : Int) → j + m = n2 + 1 → wpL_Crew_countPairs_21 c2 R' x2 ih8 (m + 1) (nI (cA P (n2 + 1) i + cR P i j)) x3 := by
    intro ih8 i x2 hx2 hi hk m
    induction m with
    | zero =>
      intro j x3 hx3 hj
      show wpB_Crew_countPairs_21 c2 R' x2 ih8 (wpL_Crew_countPairs_21 c2 R' x2 ih8 0) _ x3
      unfold wpB_Crew_countPairs_21
      rw [i_lt hc2 hx3]
      refine ⟨fun _ x e => ?_, fun z => absurd (by omega) z⟩
      rw [e, show j = n2 + 1 by omega]
      exact hk
    | succ m ih =>
      intro j x3 hx3 hj
      show wpB_Crew_countPairs_21 c2 R' x2 ih8 (wpL_Crew_countPairs_21 c2 R' x2 ih8 (m + 1)) _ x3
      unfold wpB_Crew_countPairs_21
      obtain ⟨t0, -⟩ := ix17 hx2 (by omega) hx3 (by omega)
      rw [i_lt hc2 hx3, cl_t t0, hR i j hi (by omega)]
      have nx : ∀ y : Int32, y = x3 + (1 : Int32) → wpL_Crew_countPairs_21 c2 R' x2 ih8 (m + 1) (nI (cA P (n2 + 1) i + cR P i (j + 1))) y := fun y e => ih (j + 1) y (by rw [e]; exact inc_t hx3 (by omega)) (by omega)
      refine ⟨fun z => absurd z (by omega), fun _ => ⟨vp_t t0 (by omega), fun c y e => ?_, fun c x ex y e => ?_⟩⟩
      · have := nx y e
        unfold cR at this
        rw [bN_0 c] at this
        exact this
      · have := nx y e
        unfold cR at this
        rw [bN_1 (Classical.not_not.mp c), ← Nat.add_assoc, ← nI_1] at this
        rw [ex]; exact this
  have outer : ∀ (m i : Nat) (x2 : Int32), x2.toInt = (i : Int) → i + m = n1 + 1 → wpL_Crew_countPairs_8 c1 c2 post R' (m + 1) (nI (cA P (n2 + 1) i)) x2 := by
    intro m
    induction m with
    | zero =>
      intro i x2 hx2 hi
      show wpB_Crew_countPairs_8 c1 c2 post R' (wpL_Crew_countPairs_8 c1 c2 post R' 0) _ x2
      unfold wpB_Crew_countPairs_8
      rw [i_lt hc1 hx2]
      refine ⟨fun _ => ?_, fun q => absurd (by omega) q⟩
      rw [show i = n1 + 1 by omega]; exact h R'
    | succ m ih =>
      intro i x2 hx2 hi
      show wpB_Crew_countPairs_8 c1 c2 post R' (wpL_Crew_countPairs_8 c1 c2 post R' (m + 1)) _ x2
      unfold wpB_Crew_countPairs_8
      rw [i_lt hc1 hx2]
      exact ⟨fun q => absurd q (by omega), fun _ => ⟨n2 + 2, inner _ i x2 hx2 (by omega) (ih (i + 1) _ (inc_t hx2 (by omega)) (by omega)) (n2 + 1) 0 0 rfl (by omega)⟩⟩
  exact outer (n1 + 1) 0 0 rfl (by omega)
end CNT
/-! the reference's web -/
def mkP (g1 g2 : Nat → Nat → Prop) (n2 i j a b : Nat) : Prop := (a = 0 ∧ b = 0) ∨ (0 < a ∧ bef n2 i j (a - 1) b ∧ RC g1 g2 (a - 1) b ∧ g1 (a - 1) b) ∨ (0 < b ∧ bef n2 i j a (b - 1) ∧ RC g1 g2 a (b - 1) ∧ g2 a (b - 1))
theorem mk_now {g1 g2 : Nat → Nat → Prop} {n2 i j : Nat} (hj : j ≤ n2) : mkP g1 g2 n2 i j i j ↔ RC g1 g2 i j := by
  rw [RC_iff]
  unfold mkP bef
  constructor
  · intro h
    rcases h with h | ⟨h1, -, h3⟩ | ⟨h1, -, h3⟩
    · exact Or.inl h
    · exact Or.inr (Or.inl ⟨h1, h3⟩)
    · exact Or.inr (Or.inr ⟨h1, h3⟩)
  · intro h
    rcases h with h | ⟨h1, h3⟩ | ⟨h1, h3⟩
    · exact Or.inl h
    · exact Or.inr (Or.inl ⟨h1, ⟨hj, Or.inl (by omega)⟩, h3⟩)
    · exact Or.inr (Or.inr ⟨h1, ⟨by omega, Or.inr ⟨rfl, by omega⟩⟩, h3⟩)
theorem bef_s {n2 i j a b : Nat} (hj : j ≤ n2) : bef n2 i (j + 1) a b ↔ (bef n2 i j a b ∨ (a = i ∧ b = j)) := by
  unfold bef; omega
theorem mk_next {g1 g2 : Nat → Nat → Prop} {n2 i j a b : Nat} (hj : j ≤ n2) : mkP g1 g2 n2 i (j + 1) a b ↔ (mkP g1 g2 n2 i j a b ∨ (RC g1 g2 i j ∧ g1 i j ∧ a = i + 1 ∧ b = j) ∨ (RC g1 g2 i j ∧ g2 i j ∧ a = i ∧ b = j + 1)) := by
  unfold mkP
  rw [bef_s hj, bef_s hj]
  constructor
  · intro h
    rcases h with h | ⟨h1, h2, h3, h4⟩ | ⟨h1, h2, h3, h4⟩
    · exact Or.inl (Or.inl h)
    · rcases h2 with h2 | ⟨e1, e2⟩
      · exact Or.inl (Or.inr (Or.inl ⟨h1, h2, h3, h4⟩))
      · rw [e1, e2] at h3 h4
        exact Or.inr (Or.inl ⟨h3, h4, by omega, e2⟩)
    · rcases h2 with h2 | ⟨e1, e2⟩
      · exact Or.inl (Or.inr (Or.inr ⟨h1, h2, h3, h4⟩))
      · rw [e2, e1] at h3 h4
        exact Or.inr (Or.inr ⟨h3, h4, e1, by omega⟩)
  · intro h
    rcases h with (h | ⟨h1, h2, h3, h4⟩ | ⟨h1, h2, h3, h4⟩) | ⟨h3, h4, rfl, rfl⟩ | ⟨h3, h4, rfl, rfl⟩
    · exact Or.inl h
    · exact Or.inr (Or.inl ⟨h1, Or.inl h2, h3, h4⟩)
    · exact Or.inr (Or.inr ⟨h1, Or.inl h2, h3, h4⟩)
    · exact Or.inr (Or.inl ⟨by omega, Or.inr ⟨by omega, rfl⟩, h3, h4⟩)
    · exact Or.inr (Or.inr ⟨by omega, Or.inr ⟨rfl, by omega⟩, h3, h4⟩)
theorem mk_row {g1 g2 : Nat → Nat → Prop} {n2 i a b : Nat} : mkP g1 g2 n2 i (n2 + 1) a b ↔ mkP g1 g2 n2 (i + 1) 0 a b := by
  have e : ∀ a b, bef n2 i (n2 + 1) a b ↔ bef n2 (i + 1) 0 a b := fun a b => by unfold bef; omega
  unfold mkP
  rw [e, e]
section MWEB
variable {n1 n2 : Nat} {k1 z1 k2 z2 acts am : Nat → Int32}
theorem s_findWeb {R : Nat → Int32} {post : Int32 → (Nat → Int32) → Prop} (hn1 : n1 ≤ 16) (hn2 : n2 ≤ 16) (hm1 : actsM n1 0 acts k1 z1) (hm2 : actsM n2 1 acts k2 z2) (ha1 : (am 0).toInt = (n1 : Int)) (ha2 : (am 1).toInt = (n2 : Int))
    (h : ∀ R' : Nat → Int32, (∀ i j, i ≤ n1 → j ≤ n2 → (R' (17 * i + j) = 0 ↔ ¬ RC (gA n1 k1 z1 k2 z2) (fun i j => gA n2 k2 z2 k1 z1 j i) i j)) → post (nI (cA (RC (gA n1 k1 z1 k2 z2) (fun i j => gA n2 k2 z2 k1 z1 j i)) (n2 + 1) (n1 + 1))) R') : wp_Model_findWeb acts am R post := by
  generalize hG1 : gA n1 k1 z1 k2 z2 = g1 at *
  generalize hG2 : (fun i j => gA n2 k2 z2 k1 z1 j i) = g2 at *
  have q1 : ∀ i j, g1 i j → i < n1 := fun i j hg => by rw [← hG1] at hg; exact hg.1
  have q2 : ∀ i j, g2 i j → j < n2 := fun i j hg => by rw [← hG2] at hg; exact hg.1
  have e1 : (1 : Int32).toNatClampNeg = 1 := rfl
  have e0 : (0 : Int32).toNatClampNeg = 0 := rfl
  have o1 : (1 : Int32).toInt = 1 := rfl
  have c17 : (17 : Int32).toInt = 17 := rfl
  have inner : ∀ (ih33 : (Nat → Int32) → Int32 → Int32 → Prop) (i : Nat) (x2 : Int32), x2.toInt = (i : Int) → i ≤ n1 → (∀ R' : Nat → Int32, (∀ a b, a < 17 → b < 17 → (R' (17 * a + b) = 0 ↔ ¬ mkP g1 g2 n2 (i + 1) 0 a b)) → ih33 R' (nI (cA (RC g1 g2) (n2 + 1) (i + 1))) (x2 + (1 : Int32))) →
      ∀ (m j : Nat) (R' : Nat → Int32) (x3 : Int32), x3.toInt = (j : Int) → j + m = n2 + 1 → (∀ a b, a < 17 → b < 17 → (R' (17 * a + b) = 0 ↔ ¬ mkP g1 g2 n2 i j a b)) → wpL_Model_findWeb_45 acts am x2 ih33 (m + 1) R' (nI (cA (RC g1 g2) (n2 + 1) i + cR (RC g1 g2) i j)) x3 := by
    intro ih33 i x2 hx2 hi hk m
    induction m with
    | zero =>
      intro j R' x3 hx3 hj hR
      show wpB_Model_findWeb_45 acts am x2 ih33 (wpL_Model_findWeb_45 acts am x2 ih33 0) R' _ x3
      unfold wpB_Model_findWeb_45
      rw [e1, i_lt ha2 hx3]
      refine ⟨fun _ x e => ?_, fun z => absurd (by omega) z⟩
      rw [e]
      have ej : j = n2 + 1 := by omega
      subst ej
      exact hk R' (fun a b ha hb => by rw [← mk_row]; exact hR a b ha hb)
    | succ m ih =>
      intro j R' x3 hx3 hj hR
      show wpB_Model_findWeb_45 acts am x2 ih33 (wpL_Model_findWeb_45 acts am x2 ih33 (m + 1)) R' _ x3
      unfold wpB_Model_findWeb_45
      have hj2 : j ≤ n2 := by omega
      obtain ⟨-, t0⟩ := ix17 hx2 (by omega) hx3 (by omega)
      have hme := hR i j (by omega) (by omega)
      rw [mk_now hj2] at hme
      rw [e1, i_lt ha2 hx3, cl_t t0, hme]
      have nx : ∀ (g : Nat → Int32) (y : Int32), (∀ a b, a < 17 → b < 17 → (g (17 * a + b) = 0 ↔ ¬ mkP g1 g2 n2 i (j + 1) a b)) → y = x3 + (1 : Int32) → wpL_Model_findWeb_45 acts am x2 ih33 (m + 1) g (nI (cA (RC g1 g2) (n2 + 1) i + cR (RC g1 g2) i (j + 1))) y := fun g y hg e => ih (j + 1) g y (by rw [e]; exact inc_t hx3 (by omega)) (by omega) hg
      refine ⟨fun z => absurd z (by omega), fun _ => ⟨vp_t t0 (by omega), fun c y e => ?_, fun c x ex => ?_⟩⟩
      · have := nx R' y (fun a b ha hb => by
          rw [hR a b ha hb, mk_next hj2]
          exact ⟨fun u v => v.elim u (fun v => v.elim (fun v => c v.1) (fun v => c v.1)), fun u v => u (Or.inl v)⟩) e
        unfold cR at this
        rw [bN_0 c] at this
        exact this
      · have hrc : RC g1 g2 i j := Classical.not_not.mp c
        have nx2 : ∀ (g : Nat → Int32) (y : Int32), (∀ a b, a < 17 → b < 17 → (g (17 * a + b) = 0 ↔ ¬ mkP g1 g2 n2 i (j + 1) a b)) → y = x3 + (1 : Int32) → wpL_Model_findWeb_45 acts am x2 ih33 (m + 1) g x y := by
          intro g y hg e
          have := nx g y hg e
          unfold cR at this
          rw [bN_1 hrc, ← Nat.add_assoc, ← nI_1] at this
          rw [ex]; exact this
        have tr : ((17 : Int32) * x2 + x3 + (1 : Int32)).toInt = ((17 * i + j + 1 : Nat) : Int) := by rw [tA t0 o1 (by omega)]; omega
        have td : ((17 : Int32) * (x2 + (1 : Int32)) + x3).toInt = ((17 * (i + 1) + j : Nat) : Int) := (ix17 (inc_t hx2 (by omega)) (by omega) hx3 (by omega)).2
        rw [cl_t tr, cl_t td, nb1]
        -- the marks, by whether each arm can go on
        have mk : ∀ (g : Nat → Int32), (∀ a b, a < 17 → b < 17 → (g (17 * a + b) = 0 ↔ (R' (17 * a + b) = 0 ∧ ¬ (g1 i j ∧ a = i + 1 ∧ b = j) ∧ ¬ (g2 i j ∧ a = i ∧ b = j + 1)))) → ∀ a b, a < 17 → b < 17 → (g (17 * a + b) = 0 ↔ ¬ mkP g1 g2 n2 i (j + 1) a b) := by
          intro g hg a b ha hb
          rw [hg a b ha hb, hR a b ha hb, mk_next hj2]
          constructor
          · intro ⟨u1, u2, u3⟩ v
            rcases v with v | v | v
            · exact u1 v
            · exact u2 v.2
            · exact u3 v.2
          · intro u
            exact ⟨fun v => u (Or.inl v), fun v => u (Or.inr (Or.inl ⟨hrc, v⟩)), fun v => u (Or.inr (Or.inr ⟨hrc, v⟩))⟩
        refine s_canDo hm1 hm2 ha1 rfl (by omega) hx2 hn1 hx3 hj2 hn2 (fun d1 d2 => ⟨fun z => absurd z (by decide), fun _ => ?_⟩) (fun d => ⟨fun _ => ?_, fun z => absurd rfl z⟩)
        · have G1 : g1 i j := by rw [← hG1]; exact ⟨d1, d2⟩
          refine ⟨vp_t td (by omega), fun g24 e24 => ?_⟩
          refine s_canDo (ar := 1) hm2 hm1 ha2 rfl (by omega) hx3 hn2 hx2 hi hn1 (fun d3 d4 => ⟨fun z => absurd z (by decide), fun _ => ⟨vp_t tr (by omega), fun g e y ey => ?_⟩⟩) (fun d3 => ⟨fun _ y ey => ?_, fun z => absurd rfl z⟩)
          · have G2 : g2 i j := by rw [← hG2]; exact ⟨d3, d4⟩
            refine nx2 g y (mk g (fun a b ha hb => ?_)) ey
            rw [e, e24]
            by_cases u : 17 * a + b = 17 * i + j + 1
            · rw [u, u_eq]
              have := q2 i j G2
              exact ⟨fun q => absurd q (by decide), fun q => absurd ⟨G2, by omega, by omega⟩ q.2.2⟩
            · rw [u_ne u]
              by_cases v : 17 * a + b = 17 * (i + 1) + j
              · rw [v, u_eq]
                exact ⟨fun q => absurd q (by decide), fun q => absurd ⟨G1, by omega, by omega⟩ q.2.1⟩
              · rw [u_ne v]
                exact ⟨fun q => ⟨q, fun w => v (by rw [w.2.1, w.2.2]), fun w => u (by rw [w.2.1, w.2.2]; omega)⟩, fun q => q.1⟩
          · have G2 : ¬ g2 i j := by rw [← hG2]; exact d3
            refine nx2 g24 y (mk g24 (fun a b ha hb => ?_)) ey
            rw [e24]
            by_cases v : 17 * a + b = 17 * (i + 1) + j
            · rw [v, u_eq]
              exact ⟨fun q => absurd q (by decide), fun q => absurd ⟨G1, by omega, by omega⟩ q.2.1⟩
            · rw [u_ne v]
              exact ⟨fun q => ⟨q, fun w => v (by rw [w.2.1, w.2.2]), fun w => G2 w.1⟩, fun q => q.1⟩
        · have G1 : ¬ g1 i j := by rw [← hG1]; exact d
          refine s_canDo (ar := 1) hm2 hm1 ha2 rfl (by omega) hx3 hn2 hx2 hi hn1 (fun d3 d4 => ⟨fun z => absurd z (by decide), fun _ => ⟨vp_t tr (by omega), fun g e y ey => ?_⟩⟩) (fun d3 => ⟨fun _ y ey => ?_, fun z => absurd rfl z⟩)
          · have G2 : g2 i j := by rw [← hG2]; exact ⟨d3, d4⟩
            refine nx2 g y (mk g (fun a b ha hb => ?_)) ey
            rw [e]
            by_cases u : 17 * a + b = 17 * i + j + 1
            · rw [u, u_eq]
              have := q2 i j G2
              exact ⟨fun q => absurd q (by decide), fun q => absurd ⟨G2, by omega, by omega⟩ q.2.2⟩
            · rw [u_ne u]
              exact ⟨fun q => ⟨q, fun w => G1 w.1, fun w => u (by rw [w.2.1, w.2.2]; omega)⟩, fun q => q.1⟩
          · have G2 : ¬ g2 i j := by rw [← hG2]; exact d3
            refine nx2 R' y (mk R' (fun a b ha hb => ?_)) ey
            exact ⟨fun q => ⟨q, fun w => G1 w.1, fun w => G2 w.1⟩, fun q => q.1⟩
  have outer : ∀ (m i : Nat) (R' : Nat → Int32) (x2 : Int32), x2.toInt = (i : Int) → i + m = n1 + 1 → (∀ a b, a < 17 → b < 17 → (R' (17 * a + b) = 0 ↔ ¬ mkP g1 g2 n2 i 0 a b)) → wpL_Model_findWeb_33 acts am post (m + 1) R' (nI (cA (RC g1 g2) (n2 + 1) i)) x2 := by
    intro m
    induction m with
    | zero =>
      intro i R' x2 hx2 hi hR
      show wpB_Model_findWeb_33 acts am post (wpL_Model_findWeb_33 acts am post 0) R' _ x2
      unfold wpB_Model_findWeb_33
      rw [e0, i_lt ha1 hx2]
      refine ⟨fun _ => ?_, fun q => absurd (by omega) q⟩
      have ei : i = n1 + 1 := by omega
      subst ei
      refine h R' (fun a b ha hb => ?_)
      rw [hR a b (by omega) (by omega), RC_iff]
      unfold mkP bef
      refine not_congr ⟨fun u => ?_, fun u => ?_⟩
      · rcases u with u | ⟨u1, -, u3⟩ | ⟨u1, -, u3⟩
        · exact Or.inl u
        · exact Or.inr (Or.inl ⟨u1, u3⟩)
        · exact Or.inr (Or.inr ⟨u1, u3⟩)
      · rcases u with u | ⟨u1, u3⟩ | ⟨u1, u3⟩
        · exact Or.inl u
        · exact Or.inr (Or.inl ⟨u1, ⟨hb, Or.inl (by omega)⟩, u3⟩)
        · exact Or.inr (Or.inr ⟨u1, ⟨by omega, Or.inl (by omega)⟩, u3⟩)
    | succ m ih =>
      intro i R' x2 hx2 hi hR
      show wpB_Model_findWeb_33 acts am post (wpL_Model_findWeb_33 acts am post (m + 1)) R' _ x2
      unfold wpB_Model_findWeb_33
      rw [e0, i_lt ha1 hx2]
      exact ⟨fun q => absurd q (by omega), fun _ => ⟨n2 + 2, inner _ i x2 hx2 (by omega) (fun R2 h2 => ih (i + 1) R2 _ (inc_t hx2 (by omega)) (by omega) h2) (n2 + 1) 0 R' 0 rfl (by omega) hR⟩⟩
  unfold wp_Model_findWeb
  refine ⟨290, ?_⟩
  have clr : ∀ (m k : Nat) (R' : Nat → Int32) (x : Int32), x.toInt = (k : Int) → k + m = 289 → (∀ a, a < k → R' a = 0) → wpL_Model_findWeb_2 acts am post (m + 1) R' x := by
    intro m
    have c289 : (289 : Int32).toInt = 289 := rfl
    induction m with
    | zero =>
      intro k R' x hx hk hR
      show wpB_Model_findWeb_2 acts am post (wpL_Model_findWeb_2 acts am post 0) R' x
      unfold wpB_Model_findWeb_2
      rw [i_le c289 hx]
      refine ⟨fun _ g e => ⟨n1 + 2, outer (n1 + 1) 0 g 0 rfl (by omega) (fun a b ha hb => ?_)⟩, fun q => absurd (by omega) q⟩
      rw [e, e0, nb1]
      by_cases u : 17 * a + b = 0
      · rw [u, u_eq]
        exact ⟨fun q => absurd q (by decide), fun q => absurd (Or.inl ⟨by omega, by omega⟩) q⟩
      · rw [u_ne u]
        refine ⟨fun _ v => ?_, fun _ => hR _ (by omega)⟩
        unfold mkP bef at v
        rcases v with v | ⟨-, v, -⟩ | ⟨-, v, -⟩ <;> omega
    | succ m ih =>
      intro k R' x hx hk hR
      show wpB_Model_findWeb_2 acts am post (wpL_Model_findWeb_2 acts am post (m + 1)) R' x
      unfold wpB_Model_findWeb_2
      rw [i_le c289 hx, cl_t hx, nb0]
      refine ⟨fun q => absurd q (by omega), fun _ => ⟨vp_t hx (by omega), fun g e y ey => ih (k + 1) g y (by rw [ey]; exact inc_t hx (by omega)) (by omega) (fun a ha => ?_)⟩⟩
      rw [e]
      rcases Nat.lt_or_ge a k with q | q
      · rw [u_ne (by omega)]; exact hR a q
      · rw [show a = k by omega, u_eq]
  exact clr 289 0 R 0 rfl (by omega) (fun a ha => by omega)
end MWEB
