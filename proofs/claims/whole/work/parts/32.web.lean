/-! the web: which pairs can be come to -/
def RC0 (b : Nat → Prop) : Nat → Prop
  | 0 => True
  | j + 1 => RC0 b j ∧ b j
def RCrow (prev a b : Nat → Prop) : Nat → Prop
  | 0 => prev 0 ∧ a 0
  | j + 1 => (prev (j + 1) ∧ a (j + 1)) ∨ (RCrow prev a b j ∧ b j)
def RC (g1 g2 : Nat → Nat → Prop) : Nat → Nat → Prop
  | 0 => RC0 (g2 0)
  | i + 1 => RCrow (RC g1 g2 i) (g1 i) (g2 (i + 1))
theorem RC_iff (g1 g2 : Nat → Nat → Prop) : ∀ i j : Nat, RC g1 g2 i j ↔ ((i = 0 ∧ j = 0) ∨ (0 < i ∧ RC g1 g2 (i - 1) j ∧ g1 (i - 1) j) ∨ (0 < j ∧ RC g1 g2 i (j - 1) ∧ g2 i (j - 1)))
  | 0, 0 => by
    show True ↔ _
    exact ⟨fun _ => Or.inl ⟨rfl, rfl⟩, fun _ => trivial⟩
  | 0, j + 1 => by
    show (RC0 (g2 0) j ∧ g2 0 j) ↔ _
    refine ⟨fun h => Or.inr (Or.inr ⟨by omega, h⟩), fun h => ?_⟩
    rcases h with ⟨_, h⟩ | ⟨h, _⟩ | ⟨_, h⟩
    · omega
    · omega
    · exact h
  | i + 1, 0 => by
    show (RC g1 g2 i 0 ∧ g1 i 0) ↔ _
    refine ⟨fun h => Or.inr (Or.inl ⟨by omega, h⟩), fun h => ?_⟩
    rcases h with ⟨h, _⟩ | ⟨_, h⟩ | ⟨h, _⟩
    · omega
    · exact h
    · omega
  | i + 1, j + 1 => by
    show ((RC g1 g2 i (j + 1) ∧ g1 i (j + 1)) ∨ (RCrow (RC g1 g2 i) (g1 i) (g2 (i + 1)) j ∧ g2 (i + 1) j)) ↔ _
    refine ⟨fun h => h.elim (fun h => Or.inr (Or.inl ⟨by omega, h⟩)) (fun h => Or.inr (Or.inr ⟨by omega, h⟩)), fun h => ?_⟩
    rcases h with ⟨h, _⟩ | ⟨_, h⟩ | ⟨_, h⟩
    · omega
    · exact Or.inl h
    · exact Or.inr h
theorem RC_00 (g1 g2 : Nat → Nat → Prop) : RC g1 g2 0 0 := trivial
def gA (n : Nat) (kd sz kd' sz' : Nat → Int32) (i j : Nat) : Prop := i < n ∧ ¬ wtP kd sz (zn kd' sz' j) i
/-- before (i, j), rows of n2 + 1 -/
def bef (n2 i j a b : Nat) : Prop := b ≤ n2 ∧ (a < i ∨ (a = i ∧ b < j))
theorem ix17 {p q : Int32} {i j : Nat} (hp : p.toInt = (i : Int)) (hi : i < 18) (hq : q.toInt = (j : Int)) (hj : j < 18) : (p * (17 : Int32) + q).toInt = ((17 * i + j : Nat) : Int) ∧ ((17 : Int32) * p + q).toInt = ((17 * i + j : Nat) : Int) := by
  have c : (17 : Int32).toInt = 17 := rfl
  constructor
  · rw [tA (tM hp c (by omega)) hq (by omega)]; omega
  · rw [tA (tM c hp (by omega)) hq (by omega)]; omega
theorem nb1 : vp_nar .boolean (1 : Int32) = 1 := rfl
theorem nb0 : vp_nar .boolean (0 : Int32) = 0 := rfl
theorem s_firstGoes {n n' i j : Nat} {kd sz kd' sz' zb' : Nat → Int32} {cnt p q : Int32} {post : Int32 → Prop} (hc : cnt.toInt = (n : Int)) (hn : n ≤ 16) (hA' : actsOK n' kd' sz' zb') (hp : p.toInt = (i : Int)) (hq : q.toInt = (j : Int)) (hj : j ≤ n') (h1 : gA n kd sz kd' sz' i j → post 1) (h0 : ¬ gA n kd sz kd' sz' i j → post 0) : wp_Crew_firstGoes cnt kd sz zb' p q post := by
  unfold wp_Crew_firstGoes
  have := hA'.1
  rw [cl_t hq, hA'.2.2 j hj]
  exact ⟨vp_t hq (by omega), s_goes hc hn hp (fun a b => ⟨Or.inr rfl, h1 ⟨a, b⟩⟩) (fun a => ⟨Or.inl rfl, h0 a⟩)⟩
theorem s_secondGoes {n n' i j : Nat} {kd sz kd' sz' zb' : Nat → Int32} {cnt p q : Int32} {post : Int32 → Prop} (hc : cnt.toInt = (n : Int)) (hn : n ≤ 16) (hA' : actsOK n' kd' sz' zb') (hp : p.toInt = (i : Int)) (hq : q.toInt = (j : Int)) (hi : i ≤ n') (h1 : gA n kd sz kd' sz' j i → post 1) (h0 : ¬ gA n kd sz kd' sz' j i → post 0) : wp_Crew_secondGoes zb' cnt kd sz p q post := by
  unfold wp_Crew_secondGoes
  have := hA'.1
  rw [cl_t hp, hA'.2.2 i hi]
  exact ⟨vp_t hp (by omega), s_goes hc hn hq (fun a b => ⟨Or.inr rfl, h1 ⟨a, b⟩⟩) (fun a => ⟨Or.inl rfl, h0 a⟩)⟩
section WEB
variable {n1 n2 : Nat} {k1 z1 b1 k2 z2 b2 : Nat → Int32} {c1 c2 : Int32}
theorem s_weave {R : Nat → Int32} {post : (Nat → Int32) → Prop} (hA1 : actsOK n1 k1 z1 b1) (hA2 : actsOK n2 k2 z2 b2) (hc1 : c1.toInt = (n1 : Int)) (hc2 : c2.toInt = (n2 : Int))
    (h : ∀ R' : Nat → Int32, (∀ i j, i ≤ n1 → j ≤ n2 → (R' (17 * i + j) = 0 ↔ ¬ RC (gA n1 k1 z1 k2 z2) (fun i j => gA n2 k2 z2 k1 z1 j i) i j)) → post R') : wp_Crew_weave R c1 k1 z1 b1 c2 k2 z2 b2 post := by
  have hn1 := hA1.1
  have hn2 := hA2.1
  have z0 : (0 : Int32).toInt = 0 := rfl
  have o1 : (1 : Int32).toInt = 1 := rfl
  generalize hG1 : gA n1 k1 z1 k2 z2 = g1 at *
  generalize hG2 : (fun i j => gA n2 k2 z2 k1 z1 j i) = g2 at *
  unfold wp_Crew_weave
  refine ⟨n1 + 2, ?_⟩
  have inner : ∀ (ih2 : (Nat → Int32) → Int32 → Prop) (i : Nat) (x1 : Int32), x1.toInt = (i : Int) → i ≤ n1 → (∀ R' : Nat → Int32, (∀ a b, bef n2 (i + 1) 0 a b → (R' (17 * a + b) = 0 ↔ ¬ RC g1 g2 a b)) → ih2 R' (x1 + (1 : Int32))) →
      ∀ (m j : Nat) (R' : Nat → Int32) (x2 : Int32), x2.toInt = (j : Int) → j + m = n2 + 1 → (∀ a b, bef n2 i j a b → (R' (17 * a + b) = 0 ↔ ¬ RC g1 g2 a b)) → wpL_Crew_weave_15 c1 k1 z1 b1 c2 k2 z2 b2 x1 ih2 (m + 1) R' x2 := by
    intro ih2 i x1 hx1 hi hk m
    induction m with
    | zero =>
      intro j R' x2 hx2 hj hR
      show wpB_Crew_weave_15 c1 k1 z1 b1 c2 k2 z2 b2 x1 ih2 (wpL_Crew_weave_15 c1 k1 z1 b1 c2 k2 z2 b2 x1 ih2 0) R' x2
      unfold wpB_Crew_weave_15
      rw [i_lt hc2 hx2]
      refine ⟨fun _ x e => ?_, fun z => absurd (by omega) z⟩
      rw [e]
      exact hk R' (fun a b hab => hR a b ⟨hab.1, by have h1 := hab.1; have := hab.2; omega⟩)
    | succ m ih =>
      intro j R' x2 hx2 hj hR
      show wpB_Crew_weave_15 c1 k1 z1 b1 c2 k2 z2 b2 x1 ih2 (wpL_Crew_weave_15 c1 k1 z1 b1 c2 k2 z2 b2 x1 ih2 (m + 1)) R' x2
      unfold wpB_Crew_weave_15
      have hj2 : j ≤ n2 := by omega
      obtain ⟨t0, -⟩ := ix17 hx1 (by omega) hx2 (by omega)
      -- what is written, and on
      have wr : ∀ (v : Int32) (g : Nat → Int32) (y : Int32), g = upd R' ((x1 * (17 : Int32) + x2).toNatClampNeg) v → (v = 0 ↔ ¬ RC g1 g2 i j) → y = x2 + (1 : Int32) → wpL_Crew_weave_15 c1 k1 z1 b1 c2 k2 z2 b2 x1 ih2 (m + 1) g y := by
        intro v g y eg hv ey
        rw [cl_t t0] at eg
        refine ih (j + 1) g y (by rw [ey]; exact inc_t hx2 (by omega)) (by omega) (fun a b hab => ?_)
        rw [eg]
        by_cases e : 17 * a + b = 17 * i + j
        · have hb := hab.1
          have ea : a = i := by omega
          have eb : b = j := by omega
          subst ea; subst eb
          rw [u_eq]; exact hv
        · rw [u_ne e]
          refine hR a b ⟨hab.1, ?_⟩
          have hb := hab.1
          rcases hab.2 with q | ⟨q1, q2⟩
          · exact Or.inl q
          · exact Or.inr ⟨q1, by rcases Nat.lt_or_ge b j with q | q; exact q; exact absurd (by subst q1; omega) e⟩
      have v289 : vp_in (x1 * (17 : Int32) + x2) 289 := vp_t t0 (by omega)
      -- the last of the three
      have j99 : ∀ w8 w9 : Int32, (¬ w8 = 0 ↔ (0 < i ∧ RC g1 g2 (i - 1) j ∧ g1 (i - 1) j)) → (¬ w9 = 0 ↔ (0 < j ∧ RC g1 g2 i (j - 1) ∧ g2 i (j - 1))) → wp_Crew_weave_j99_29 x1 R' x2 (wpL_Crew_weave_15 c1 k1 z1 b1 c2 k2 z2 b2 x1 ih2 (m + 1)) w8 w9 := by
        intro w8 w9 h8 h9
        have rc := RC_iff g1 g2 i j
        unfold wp_Crew_weave_j99_29
        rw [i_eq hx1 z0, i_eq hx2 z0, nb1, nb0]
        have y1 : RC g1 g2 i j → ((1 : Int32) = 0 ↔ ¬ RC g1 g2 i j) := fun hr => ⟨fun q => absurd q (by decide), fun q => absurd hr q⟩
        have y0 : ¬ RC g1 g2 i j → ((0 : Int32) = 0 ↔ ¬ RC g1 g2 i j) := fun hr => ⟨fun _ => hr, fun _ => rfl⟩
        have yes : RC g1 g2 i j → (vp_in (x1 * (17 : Int32) + x2) 289 ∧ ∀ g : Nat → Int32, g = upd R' ((x1 * (17 : Int32) + x2).toNatClampNeg) (1 : Int32) → ∀ y : Int32, y = x2 + (1 : Int32) → wpL_Crew_weave_15 c1 k1 z1 b1 c2 k2 z2 b2 x1 ih2 (m + 1) g y) := fun hr => ⟨v289, fun g eg y ey => wr 1 g y eg (y1 hr) ey⟩
        have no : ¬ RC g1 g2 i j → (vp_in (x1 * (17 : Int32) + x2) 289 ∧ ∀ g : Nat → Int32, g = upd R' ((x1 * (17 : Int32) + x2).toNatClampNeg) (0 : Int32) → ∀ y : Int32, y = x2 + (1 : Int32) → wpL_Crew_weave_15 c1 k1 z1 b1 c2 k2 z2 b2 x1 ih2 (m + 1) g y) := fun hr => ⟨v289, fun g eg y ey => wr 0 g y eg (y0 hr) ey⟩
        refine ⟨fun a => ⟨fun b => yes (rc.mpr (Or.inr (Or.inl (h8.mp b)))), fun b => ⟨fun d => no (fun hr => ?_), fun d => yes (rc.mpr (Or.inr (Or.inr (h9.mp d))))⟩⟩, fun a => ⟨fun b => yes (rc.mpr (Or.inl ⟨by omega, by omega⟩)), fun b => ⟨fun d => yes (rc.mpr (Or.inr (Or.inl (h8.mp d)))), fun d => ⟨fun f => no (fun hr => ?_), fun f => yes (rc.mpr (Or.inr (Or.inr (h9.mp f))))⟩⟩⟩⟩
        · rcases rc.mp hr with q | q | q
          · omega
          · exact h8.mpr q b
          · exact h9.mpr q d
        · rcases rc.mp hr with q | q | q
          · omega
          · exact h8.mpr q d
          · exact h9.mpr q f
      have j62 : ∀ w8 : Int32, (¬ w8 = 0 ↔ (0 < i ∧ RC g1 g2 (i - 1) j ∧ g1 (i - 1) j)) → wp_Crew_weave_j62_33 b1 c2 k2 z2 x1 R' x2 (wpL_Crew_weave_15 c1 k1 z1 b1 c2 k2 z2 b2 x1 ih2 (m + 1)) w8 := by
        intro w8 h8
        unfold wp_Crew_weave_j62_33
        rw [i_le hx2 z0]
        refine ⟨fun a => j99 w8 0 h8 ⟨fun q => absurd rfl q, fun q => by omega⟩, fun a => ?_⟩
        have tm : (x1 * (17 : Int32) + x2 - (1 : Int32)).toInt = ((17 * i + (j - 1) : Nat) : Int) := by rw [tS t0 o1 (by omega)]; omega
        have tj : (x2 - (1 : Int32)).toInt = ((j - 1 : Nat) : Int) := by rw [tS hx2 o1 (by omega)]; omega
        have hb := hR i (j - 1) ⟨by omega, Or.inr ⟨rfl, by omega⟩⟩
        rw [cl_t tm, hb]
        refine ⟨vp_t tm (by omega), fun b => j99 w8 0 h8 ⟨fun q => absurd rfl q, fun q => absurd q.2.1 b⟩, fun b => ?_⟩
        refine s_secondGoes hc2 hn2 hA1 hx1 tj hi (fun c => ⟨fun q => absurd q (by decide), fun _ => j99 w8 1 h8 ⟨fun _ => ⟨by omega, Classical.not_not.mp b, by rw [← hG2]; exact c⟩, fun _ => by decide⟩⟩) (fun c => ⟨fun _ => j99 w8 0 h8 ⟨fun q => absurd rfl q, fun q => absurd (by rw [← hG2] at q; exact q.2.2) c⟩, fun q => absurd rfl q⟩)
      rw [i_lt hc2 hx2, i_le hx1 z0]
      refine ⟨fun q => absurd q (by omega), fun _ => ⟨fun a => j62 0 ⟨fun q => absurd rfl q, fun q => by omega⟩, fun a => ?_⟩⟩
      have ti : (x1 - (1 : Int32)).toInt = ((i - 1 : Nat) : Int) := by rw [tS hx1 o1 (by omega)]; omega
      obtain ⟨tm, -⟩ := ix17 ti (by omega) hx2 (by omega)
      have hb := hR (i - 1) j ⟨hj2, Or.inl (by omega)⟩
      rw [cl_t tm, hb]
      refine ⟨vp_t tm (by omega), fun b => j62 0 ⟨fun q => absurd rfl q, fun q => absurd q.2.1 b⟩, fun b => ?_⟩
      refine s_firstGoes hc1 hn1 hA2 ti hx2 hj2 (fun c => ⟨fun q => absurd q (by decide), fun _ => j62 1 ⟨fun _ => ⟨by omega, Classical.not_not.mp b, by rw [← hG1]; exact c⟩, fun _ => by decide⟩⟩) (fun c => ⟨fun _ => j62 0 ⟨fun q => absurd rfl q, fun q => absurd (by rw [← hG1] at q; exact q.2.2) c⟩, fun q => absurd rfl q⟩)
  have outer : ∀ (m i : Nat) (R' : Nat → Int32) (x1 : Int32), x1.toInt = (i : Int) → i + m = n1 + 1 → (∀ a b, bef n2 i 0 a b → (R' (17 * a + b) = 0 ↔ ¬ RC g1 g2 a b)) → wpL_Crew_weave_2 c1 k1 z1 b1 c2 k2 z2 b2 post (m + 1) R' x1 := by
    intro m
    induction m with
    | zero =>
      intro i R' x1 hx1 hi hR
      show wpB_Crew_weave_2 c1 k1 z1 b1 c2 k2 z2 b2 post (wpL_Crew_weave_2 c1 k1 z1 b1 c2 k2 z2 b2 post 0) R' x1
      unfold wpB_Crew_weave_2
      rw [i_lt hc1 hx1]
      exact ⟨fun _ => h R' (fun a b ha hb => hR a b ⟨hb, Or.inl (by omega)⟩), fun q => absurd (by omega) q⟩
    | succ m ih =>
      intro i R' x1 hx1 hi hR
      show wpB_Crew_weave_2 c1 k1 z1 b1 c2 k2 z2 b2 post (wpL_Crew_weave_2 c1 k1 z1 b1 c2 k2 z2 b2 post (m + 1)) R' x1
      unfold wpB_Crew_weave_2
      rw [i_lt hc1 hx1]
      exact ⟨fun q => absurd q (by omega), fun _ => ⟨n2 + 2, inner _ i x1 hx1 (by omega) (fun R2 h2 => ih (i + 1) R2 _ (inc_t hx1 (by omega)) (by omega) h2) (n2 + 1) 0 R' 0 rfl (by omega) hR⟩⟩
  exact outer (n1 + 1) 0 R 0 rfl (by omega) (fun a b hab => by have := hab.2; omega)
end WEB
