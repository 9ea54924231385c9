/-! the arms' acts -/
def okA (k z : Int32) : Prop := (k = 0 ∧ 1 ≤ z.toInt ∧ z.toInt ≤ 50) ∨ ((k = 1 ∨ k = 2) ∧ 0 ≤ z.toInt ∧ z.toInt ≤ 4)
def badA (kd sz : Nat → Int32) (n : Nat) (k z : Int32) : Prop := (k = 1 ∧ bitT (zn kd sz n) z = 1) ∨ (k = 2 ∧ ¬ bitT (zn kd sz n) z = 1)
theorem s_mapp {acts am : Nat → Int32} {p1 p2 p3 : Int32} {ar n : Nat} {post : Int32 → (Nat → Int32) → (Nat → Int32) → Prop} (hp : p1.toInt = (ar : Int)) (ha : ar < 2) (hn : (am ar).toInt = (n : Int)) (h16 : n ≤ 16) (h4 : ¬ n < 16 → post (-4) acts am) (h1 : n < 16 → ∀ acts' : Nat → Int32, (∀ i, i ≠ 32 * ar + 2 * n → i ≠ 32 * ar + 2 * n + 1 → acts' i = acts i) → acts' (32 * ar + 2 * n) = p2 → acts' (32 * ar + 2 * n + 1) = p3 → post (am ar + (1 : Int32)) acts' (upd am ar (am ar + (1 : Int32)))) : (vp_in p1 2 ∧ ((¬ (am (p1.toNatClampNeg)) = (16 : Int32) → (vp_in p1 2 ∧ (vp_in (((32 : Int32) * p1) + ((2 : Int32) * (am (p1.toNatClampNeg)))) 64 ∧ (∀ g_14 : Nat → Int32, g_14 = upd acts ((((32 : Int32) * p1) + ((2 : Int32) * (am (p1.toNatClampNeg)))).toNatClampNeg) p2 → (vp_in p1 2 ∧ (vp_in ((((32 : Int32) * p1) + ((2 : Int32) * (am (p1.toNatClampNeg)))) + (1 : Int32)) 64 ∧ (∀ g_15 : Nat → Int32, g_15 = upd g_14 (((((32 : Int32) * p1) + ((2 : Int32) * (am (p1.toNatClampNeg)))) + (1 : Int32)).toNatClampNeg) p3 → (vp_in p1 2 ∧ (∀ t_16 : Int32, t_16 = (am (p1.toNatClampNeg)) + (1 : Int32) → (vp_in p1 2 ∧ (∀ g_17 : Nat → Int32, g_17 = upd am (p1.toNatClampNeg) t_16 → (vp_in p1 2 ∧ (post (g_17 (p1.toNatClampNeg)) g_15 g_17))))))))))))) ∧ ((am (p1.toNatClampNeg)) = (16 : Int32) → (post (-4 : Int32) acts am)))) := by
  have hv := vp_t (N := 2) hp ha
  have c16 : (16 : Int32).toInt = 16 := rfl
  rw [cl_t hp, i_eq hn c16]
  refine ⟨hv, fun c => ?_, fun c => h4 (by omega)⟩
  obtain ⟨i0, i1⟩ := ix32 hp ha hn (by omega)
  rw [cl_t i0, cl_t i1]
  refine ⟨hv, vp_t i0 (by omega), fun g e1 => ⟨hv, vp_t i1 (by omega), fun g' e2 => ⟨hv, fun t et => ⟨hv, fun g'' e3 => ⟨hv, ?_⟩⟩⟩⟩⟩
  subst e1; subst e2; subst et; subst e3
  have := h1 (by omega) (upd (upd acts (32 * ar + 2 * n) p2) (32 * ar + 2 * n + 1) p3) (fun i a b => by rw [u_ne b, u_ne a]) (by rw [u_ne (by omega), u_eq]) (by rw [u_eq])
  rw [u_eq]
  exact this
theorem s_mact {acts am kd sz : Nat → Int32} {p1 p2 p3 : Int32} {ar n : Nat} {post : Int32 → (Nat → Int32) → (Nat → Int32) → Prop} (hp : p1.toInt = (ar : Int)) (ha : ar < 2) (hn : (am ar).toInt = (n : Int)) (h16 : n ≤ 16) (hM : actsM n ar acts kd sz) (h2 : ¬ okA p2 p3 → post (-2) acts am) (h3 : okA p2 p3 → badA kd sz n p2 p3 → post (-3) acts am) (h4 : okA p2 p3 → ¬ badA kd sz n p2 p3 → ¬ n < 16 → post (-4) acts am)
    (h1 : okA p2 p3 → ¬ badA kd sz n p2 p3 → n < 16 → ∀ acts' : Nat → Int32, (∀ i, i ≠ 32 * ar + 2 * n → i ≠ 32 * ar + 2 * n + 1 → acts' i = acts i) → acts' (32 * ar + 2 * n) = p2 → acts' (32 * ar + 2 * n + 1) = p3 → post (am ar + (1 : Int32)) acts' (upd am ar (am ar + (1 : Int32)))) : wp_Model_act acts am p1 p2 p3 post := by
  have c0 : (0 : Int32).toInt = 0 := rfl
  have c1 : (1 : Int32).toInt = 1 := rfl
  have c2 : (2 : Int32).toInt = 2 := rfl
  have app : okA p2 p3 → ¬ badA kd sz n p2 p3 → (vp_in p1 2 ∧ ((¬ (am (p1.toNatClampNeg)) = (16 : Int32) → (vp_in p1 2 ∧ (vp_in (((32 : Int32) * p1) + ((2 : Int32) * (am (p1.toNatClampNeg)))) 64 ∧ (∀ g_14 : Nat → Int32, g_14 = upd acts ((((32 : Int32) * p1) + ((2 : Int32) * (am (p1.toNatClampNeg)))).toNatClampNeg) p2 → (vp_in p1 2 ∧ (vp_in ((((32 : Int32) * p1) + ((2 : Int32) * (am (p1.toNatClampNeg)))) + (1 : Int32)) 64 ∧ (∀ g_15 : Nat → Int32, g_15 = upd g_14 (((((32 : Int32) * p1) + ((2 : Int32) * (am (p1.toNatClampNeg)))) + (1 : Int32)).toNatClampNeg) p3 → (vp_in p1 2 ∧ (∀ t_16 : Int32, t_16 = (am (p1.toNatClampNeg)) + (1 : Int32) → (vp_in p1 2 ∧ (∀ g_17 : Nat → Int32, g_17 = upd am (p1.toNatClampNeg) t_16 → (vp_in p1 2 ∧ (post (g_17 (p1.toNatClampNeg)) g_15 g_17))))))))))))) ∧ ((am (p1.toNatClampNeg)) = (16 : Int32) → (post (-4 : Int32) acts am)))) := fun a b => s_mapp hp ha hn h16 (h4 a b) (h1 a b)
  have t81 : ∀ w : Int32, (¬ w = 0 ↔ bitT (zn kd sz n) p3 = 1) → okA p2 p3 → wp_Model_act_j81_36 acts am p1 p2 p3 post w := by
    intro w hw ok
    unfold wp_Model_act_j81_36
    refine ⟨fun a1 => ⟨fun a2 => app ok ?_, fun a2 => ⟨fun w1 => app ok ?_, fun w0 => h3 ok (Or.inr ⟨a2, fun b => hw.mpr b w0⟩)⟩⟩, fun a1 => ⟨fun w1 => h3 ok (Or.inl ⟨a1, hw.mp w1⟩), fun w0 => ⟨fun a2 => app ok ?_, fun a2 => absurd (a1.symm.trans a2) (by decide)⟩⟩⟩
    · rintro (b | b)
      · exact a1 b.1
      · exact a2 b.1
    · rintro (b | b)
      · exact a1 b.1
      · exact b.2 (hw.mp w1)
    · rintro (b | b)
      · exact hw.mpr b.2 w0
      · exact a2 b.1
  have t48 : ∀ (w5 w6 : Int64) (a b : Int), w5.toInt = a → w6.toInt = b → ((a ≤ p3.toInt ∧ p3.toInt ≤ b) ↔ okA p2 p3) → wp_Model_act_j48_37 acts am p1 p2 p3 post w5 w6 := by
    intro w5 w6 a b e5 e6 hw
    unfold wp_Model_act_j48_37
    rw [cl_t hp]
    refine mi_nz e5 e6 (fun y => ⟨vp_t hp ha, s_zonesOf hM hp ha hn (Nat.le_refl n) h16 ⟨fun b => t81 0 ?_ (hw.mp y), fun b => t81 1 ?_ (hw.mp y)⟩⟩) (fun n => h2 (fun ok => n (hw.mpr ok)))
    · exact ⟨fun q => absurd rfl q, fun q => absurd q b⟩
    · exact ⟨fun _ => b, fun _ => by decide⟩
  unfold wp_Model_act
  refine mi_nz (a := 0) (b := 1) rfl rfl (fun _ => mi_zn (a := 0) (b := 2) rfl rfl (fun n2 => h2 ?_) (fun y2 => ⟨fun k0 => ?_, fun k0 => ?_⟩)) (fun n1 => absurd (by omega) n1)
  · rintro (b | ⟨b | b, -⟩)
    · exact n2 (by rw [b.1]; decide)
    · exact n2 (by rw [b]; decide)
    · exact n2 (by rw [b]; decide)
  · unfold wp_Model_act_j35_38
    refine ⟨fun _ => t48 _ _ 0 4 rfl rfl ⟨fun y => Or.inr ⟨?_, y⟩, ?_⟩, fun q => absurd q k0⟩
    · rw [i_eq rfl c0] at k0
      rw [i_eq rfl c1, i_eq rfl c2]
      omega
    · rintro (b | b)
      · exact absurd b.1 k0
      · exact b.2
  · unfold wp_Model_act_j35_38
    refine ⟨fun q => absurd k0 q, fun _ => t48 _ _ 1 50 rfl rfl ⟨fun y => Or.inl ⟨k0, y⟩, ?_⟩⟩
    rintro (b | ⟨b | b, -⟩)
    · exact b.2
    · exact absurd (k0.symm.trans b) (by decide)
    · exact absurd (k0.symm.trans b) (by decide)
def gAc (c1 : Int32) (k1 z1 b1 : Nat → Int32) (c2 : Int32) (k2 z2 b2 acts am : Nat → Int32) : Prop := ∃ n1 n2 : Nat, c1.toInt = (n1 : Int) ∧ c2.toInt = (n2 : Int) ∧ am 0 = c1 ∧ am 1 = c2 ∧ actsOK n1 k1 z1 b1 ∧ actsOK n2 k2 z2 b2 ∧ actsM n1 0 acts k1 z1 ∧ actsM n2 1 acts k2 z2
theorem gAc_0 {k1 z1 b1 k2 z2 b2 acts am : Nat → Int32} (h1 : b1 0 = 0) (h2 : b2 0 = 0) (h3 : am 0 = 0) (h4 : am 1 = 0) : gAc 0 k1 z1 b1 0 k2 z2 b2 acts am :=
  ⟨0, 0, rfl, rfl, h3, h4, ⟨by omega, fun k hk => absurd hk (by omega), fun k hk => by rw [show k = 0 by omega]; exact h1⟩, ⟨by omega, fun k hk => absurd hk (by omega), fun k hk => by rw [show k = 0 by omega]; exact h2⟩, fun k hk => absurd hk (by omega), fun k hk => absurd hk (by omega)⟩
theorem gAc_z {c1 c2 : Int32} {k1 z1 b1 k2 z2 b2 acts am am' : Nat → Int32} (h : gAc c1 k1 z1 b1 c2 k2 z2 b2 acts am) (h3 : am' 0 = 0) (h4 : am' 1 = 0) : gAc 0 k1 z1 b1 0 k2 z2 b2 acts am' := by
  obtain ⟨n1, n2, -, -, -, -, a1, a2, -, -⟩ := h
  exact gAc_0 (a1.2.2 0 (by omega)) (a2.2.2 0 (by omega)) h3 h4
theorem actsM_add {n ar : Nat} {acts acts' kd sz : Nat → Int32} {k z : Int32} (hM : actsM n ar acts kd sz) (a0 : ∀ i, i ≠ 32 * ar + 2 * n → i ≠ 32 * ar + 2 * n + 1 → acts' i = acts i) (a1 : acts' (32 * ar + 2 * n) = k) (a2 : acts' (32 * ar + 2 * n + 1) = z) : actsM (n + 1) ar acts' (upd kd n k) (upd sz n z) := by
  intro i hi
  by_cases e : i = n
  · rw [e, u_eq, u_eq]; exact ⟨a1, a2⟩
  · rw [u_ne e, u_ne e, a0 _ (by omega) (by omega), a0 _ (by omega) (by omega)]; exact hM i (by omega)
theorem actsM_keep {n m ar br : Nat} {acts acts' kd sz : Nat → Int32} (hM : actsM n br acts kd sz) (hn : n ≤ 16) (hm : m < 16) (hd : ar ≠ br) (a0 : ∀ i, i ≠ 32 * ar + 2 * m → i ≠ 32 * ar + 2 * m + 1 → acts' i = acts i) : actsM n br acts' kd sz := by
  intro i hi
  rw [a0 _ (by omega) (by omega), a0 _ (by omega) (by omega)]
  exact hM i hi
theorem j_act {c1 c2 p1 p2 p3 : Int32} {k1 z1 b1 k2 z2 b2 acts am : Nat → Int32} {v1 v2 v3 : Prop} {K : Int32 → (Nat → Int32) → (Nat → Int32) → (Nat → Int32) → Int32 → (Nat → Int32) → (Nat → Int32) → (Nat → Int32) → (Nat → Int32) → (Nat → Int32) → Prop} (hv1 : v1) (hv2 : v2) (hv3 : v3) (hG : gAc c1 k1 z1 b1 c2 k2 z2 b2 acts am) (h : ∀ (c1' : Int32) (k1' z1' b1' : Nat → Int32) (c2' : Int32) (k2' z2' b2' acts' am' : Nat → Int32), gAc c1' k1' z1' b1' c2' k2' z2' b2' acts' am' → K c1' k1' z1' b1' c2' k2' z2' b2' acts' am') : wp_SeamCell_act c1 k1 z1 b1 c2 k2 z2 b2 p1 p2 p3 (fun o0 o1 o2 o3 o4 o5 o6 o7 o8 => v1 ∧ v2 ∧ v3 ∧ wp_Model_act acts am p1 p2 p3 (fun q0 q1 q2 => (o0 = q0 → K o1 o2 o3 o4 o5 o6 o7 o8 q1 q2) ∧ (¬ o0 = q0 → False))) := by
  have h0 := h _ _ _ _ _ _ _ _ _ _ hG
  obtain ⟨n1, n2, hc1, hc2, hm1, hm2, hA1, hA2, hM1, hM2⟩ := hG
  have hN1 : (am 0).toInt = (n1 : Int) := by rw [hm1]; exact hc1
  have hN2 : (am 1).toInt = (n2 : Int) := by rw [hm2]; exact hc2
  have u1 := hA1.1
  have u2 := hA2.1
  have c16 : (16 : Int32).toInt = 16 := rfl
  have o1 : (1 : Int32).toInt = 1 := rfl
  have c0 : (0 : Int32).toInt = 0 := rfl
  have t2 : (2 : Int32).toInt = 2 := rfl
  -- two: an act that is none
  have two : 0 ≤ p1.toInt ∧ p1.toInt ≤ 1 → ¬ okA p2 p3 → v1 ∧ v2 ∧ v3 ∧ wp_Model_act acts am p1 p2 p3 (fun q0 q1 q2 => ((-2 : Int32) = q0 → K c1 k1 z1 b1 c2 k2 z2 b2 q1 q2) ∧ (¬ (-2 : Int32) = q0 → False)) := by
    intro y1 nok
    refine ⟨hv1, hv2, hv3, ?_⟩
    rcases (show p1.toInt = 0 ∨ p1.toInt = 1 by omega) with e | e
    · exact s_mact (ar := 0) e (by omega) hN1 u1 hM1 (fun _ => eqK h0) (fun q => absurd q nok) (fun q => absurd q nok) (fun q => absurd q nok)
    · exact s_mact (ar := 1) e (by omega) hN2 u2 hM2 (fun _ => eqK h0) (fun q => absurd q nok) (fun q => absurd q nok) (fun q => absurd q nok)
  unfold wp_SeamCell_act
  refine ft_nz (a := 0) (b := 1) rfl rfl (fun y1 => ft_nz (a := 0) (b := 2) rfl rfl (fun y2 => ⟨fun k0 => ft_nz (a := 0) (b := 4) rfl rfl (fun y3 => ?_) (fun n3 => two y1 ?_), fun k0 => ft_nz (a := 1) (b := 50) rfl rfl (fun y3 => ?_) (fun n3 => two y1 ?_)⟩) (fun n2 => two y1 ?_)) (fun no1 => ⟨hv1, hv2, hv3, ?_⟩)
  · have ok : okA p2 p3 := by
      refine Or.inr ⟨?_, y3⟩
      rw [i_eq rfl c0] at k0
      rw [i_eq rfl o1, i_eq rfl t2]
      omega
    refine ⟨fun e => ?_, fun e => ?_⟩
    · have hp : p1.toInt = ((1 : Nat) : Int) := by
        rw [i_eq rfl c0] at e
        omega
      have hA3 : ¬ badA k2 z2 n2 p2 p3 → (c2 < (16 : Int32) → (wp_Acts_append c2 k2 z2 b2 p2 p3 (fun c k z b => v1 ∧ v2 ∧ v3 ∧ wp_Model_act acts am p1 p2 p3 (fun q0 q1 q2 => (c = q0 → K c1 k1 z1 b1 c k z b q1 q2) ∧ (¬ c = q0 → False))))) ∧ (¬ c2 < (16 : Int32) → (v1 ∧ v2 ∧ v3 ∧ wp_Model_act acts am p1 p2 p3 (fun q0 q1 q2 => ((-4 : Int32) = q0 → K c1 k1 z1 b1 c2 k2 z2 b2 q1 q2) ∧ (¬ (-4 : Int32) = q0 → False)))) := by
        intro nb
        rw [i_lt hc2 c16]
        refine ⟨fun hl => s_append hA2 hc2 (by omega) ok (fun c b ec hA' => ⟨hv1, hv2, hv3, ?_⟩), fun hl => ⟨hv1, hv2, hv3, ?_⟩⟩
        · have hl : n2 < 16 := by omega
          subst ec
          exact s_mact hp (by omega) hN2 hA2.1 hM2 (fun n => absurd ok n) (fun _ b => absurd b nb) (fun _ _ n => absurd hl n) (fun _ _ _ acts' a0 a1 a2 => eqK' (by rw [hm2]) (h _ _ _ _ _ _ _ _ _ _ ⟨n1, n2 + 1, hc1, by rw [tA hc2 o1 (by omega)]; omega, by rw [u_ne (by omega)]; exact hm1, by rw [u_eq, hm2], hA1, hA', actsM_keep hM1 hA1.1 hl (by omega) a0, actsM_add hM2 a0 a1 a2⟩))
        · exact s_mact hp (by omega) hN2 hA2.1 hM2 (fun n => absurd ok n) (fun _ b => absurd b nb) (fun _ _ _ => eqK h0) (fun _ _ n => absurd n (by omega))
      have hB3 : badA k2 z2 n2 p2 p3 → v1 ∧ v2 ∧ v3 ∧ wp_Model_act acts am p1 p2 p3 (fun q0 q1 q2 => ((-3 : Int32) = q0 → K c1 k1 z1 b1 c2 k2 z2 b2 q1 q2) ∧ (¬ (-3 : Int32) = q0 → False)) := fun bd => ⟨hv1, hv2, hv3, s_mact hp (by omega) hN2 hA2.1 hM2 (fun n => absurd ok n) (fun _ _ => eqK h0) (fun _ nb => absurd bd nb) (fun _ nb => absurd bd nb)⟩
      refine ⟨fun a1 => ⟨fun a2 => hA3 (fun bd => bd.elim (fun q => a1 q.1) (fun q => a2 q.1)), fun a2 => s_endsIn hA2 hc2 (fun bt => ⟨fun _ => hA3 (fun bd => bd.elim (fun q => a1 q.1) (fun q => q.2 bt)), fun q => absurd q (by decide)⟩) (fun bt => ⟨fun q => absurd rfl q, fun _ => hB3 (Or.inr ⟨a2, bt⟩)⟩)⟩, fun a1 => s_endsIn hA2 hc2 (fun bt => ⟨fun q => absurd q (by decide), fun _ => hB3 (Or.inl ⟨a1, bt⟩)⟩) (fun bt => ⟨fun _ => ⟨fun a2 => hA3 (fun bd => bd.elim (fun q => bt q.2) (fun q => a2 q.1)), fun a2 => absurd (a1.symm.trans a2) (by decide)⟩, fun q => absurd rfl q⟩)⟩
    · have hp : p1.toInt = ((0 : Nat) : Int) := by rw [e]; rfl
      have hA3 : ¬ badA k1 z1 n1 p2 p3 → (c1 < (16 : Int32) → (wp_Acts_append c1 k1 z1 b1 p2 p3 (fun c k z b => v1 ∧ v2 ∧ v3 ∧ wp_Model_act acts am p1 p2 p3 (fun q0 q1 q2 => (c = q0 → K c k z b c2 k2 z2 b2 q1 q2) ∧ (¬ c = q0 → False))))) ∧ (¬ c1 < (16 : Int32) → (v1 ∧ v2 ∧ v3 ∧ wp_Model_act acts am p1 p2 p3 (fun q0 q1 q2 => ((-4 : Int32) = q0 → K c1 k1 z1 b1 c2 k2 z2 b2 q1 q2) ∧ (¬ (-4 : Int32) = q0 → False)))) := by
        intro nb
        rw [i_lt hc1 c16]
        refine ⟨fun hl => s_append hA1 hc1 (by omega) ok (fun c b ec hA' => ⟨hv1, hv2, hv3, ?_⟩), fun hl => ⟨hv1, hv2, hv3, ?_⟩⟩
        · have hl : n1 < 16 := by omega
          subst ec
          exact s_mact hp (by omega) hN1 hA1.1 hM1 (fun n => absurd ok n) (fun _ b => absurd b nb) (fun _ _ n => absurd hl n) (fun _ _ _ acts' a0 a1 a2 => eqK' (by rw [hm1]) (h _ _ _ _ _ _ _ _ _ _ ⟨n1 + 1, n2, by rw [tA hc1 o1 (by omega)]; omega, hc2, by rw [u_eq, hm1], by rw [u_ne (by omega)]; exact hm2, hA', hA2, actsM_add hM1 a0 a1 a2, actsM_keep hM2 hA2.1 hl (by omega) a0⟩))
        · exact s_mact hp (by omega) hN1 hA1.1 hM1 (fun n => absurd ok n) (fun _ b => absurd b nb) (fun _ _ _ => eqK h0) (fun _ _ n => absurd n (by omega))
      have hB3 : badA k1 z1 n1 p2 p3 → v1 ∧ v2 ∧ v3 ∧ wp_Model_act acts am p1 p2 p3 (fun q0 q1 q2 => ((-3 : Int32) = q0 → K c1 k1 z1 b1 c2 k2 z2 b2 q1 q2) ∧ (¬ (-3 : Int32) = q0 → False)) := fun bd => ⟨hv1, hv2, hv3, s_mact hp (by omega) hN1 hA1.1 hM1 (fun n => absurd ok n) (fun _ _ => eqK h0) (fun _ nb => absurd bd nb) (fun _ nb => absurd bd nb)⟩
      refine ⟨fun a1 => ⟨fun a2 => hA3 (fun bd => bd.elim (fun q => a1 q.1) (fun q => a2 q.1)), fun a2 => s_endsIn hA1 hc1 (fun bt => ⟨fun _ => hA3 (fun bd => bd.elim (fun q => a1 q.1) (fun q => q.2 bt)), fun q => absurd q (by decide)⟩) (fun bt => ⟨fun q => absurd rfl q, fun _ => hB3 (Or.inr ⟨a2, bt⟩)⟩)⟩, fun a1 => s_endsIn hA1 hc1 (fun bt => ⟨fun q => absurd q (by decide), fun _ => hB3 (Or.inl ⟨a1, bt⟩)⟩) (fun bt => ⟨fun _ => ⟨fun a2 => hA3 (fun bd => bd.elim (fun q => bt q.2) (fun q => a2 q.1)), fun a2 => absurd (a1.symm.trans a2) (by decide)⟩, fun q => absurd rfl q⟩)⟩
  · rintro (b | b)
    · exact k0 b.1
    · exact n3 b.2
  · have ok : okA p2 p3 := Or.inl ⟨k0, y3⟩
    refine ⟨fun e => ?_, fun e => ?_⟩
    · have hp : p1.toInt = ((1 : Nat) : Int) := by
        rw [i_eq rfl c0] at e
        omega
      have hA3 : ¬ badA k2 z2 n2 p2 p3 → (c2 < (16 : Int32) → (wp_Acts_append c2 k2 z2 b2 p2 p3 (fun c k z b => v1 ∧ v2 ∧ v3 ∧ wp_Model_act acts am p1 p2 p3 (fun q0 q1 q2 => (c = q0 → K c1 k1 z1 b1 c k z b q1 q2) ∧ (¬ c = q0 → False))))) ∧ (¬ c2 < (16 : Int32) → (v1 ∧ v2 ∧ v3 ∧ wp_Model_act acts am p1 p2 p3 (fun q0 q1 q2 => ((-4 : Int32) = q0 → K c1 k1 z1 b1 c2 k2 z2 b2 q1 q2) ∧ (¬ (-4 : Int32) = q0 → False)))) := by
        intro nb
        rw [i_lt hc2 c16]
        refine ⟨fun hl => s_append hA2 hc2 (by omega) ok (fun c b ec hA' => ⟨hv1, hv2, hv3, ?_⟩), fun hl => ⟨hv1, hv2, hv3, ?_⟩⟩
        · have hl : n2 < 16 := by omega
          subst ec
          exact s_mact hp (by omega) hN2 hA2.1 hM2 (fun n => absurd ok n) (fun _ b => absurd b nb) (fun _ _ n => absurd hl n) (fun _ _ _ acts' a0 a1 a2 => eqK' (by rw [hm2]) (h _ _ _ _ _ _ _ _ _ _ ⟨n1, n2 + 1, hc1, by rw [tA hc2 o1 (by omega)]; omega, by rw [u_ne (by omega)]; exact hm1, by rw [u_eq, hm2], hA1, hA', actsM_keep hM1 hA1.1 hl (by omega) a0, actsM_add hM2 a0 a1 a2⟩))
        · exact s_mact hp (by omega) hN2 hA2.1 hM2 (fun n => absurd ok n) (fun _ b => absurd b nb) (fun _ _ _ => eqK h0) (fun _ _ n => absurd n (by omega))
      have hB3 : badA k2 z2 n2 p2 p3 → v1 ∧ v2 ∧ v3 ∧ wp_Model_act acts am p1 p2 p3 (fun q0 q1 q2 => ((-3 : Int32) = q0 → K c1 k1 z1 b1 c2 k2 z2 b2 q1 q2) ∧ (¬ (-3 : Int32) = q0 → False)) := fun bd => ⟨hv1, hv2, hv3, s_mact hp (by omega) hN2 hA2.1 hM2 (fun n => absurd ok n) (fun _ _ => eqK h0) (fun _ nb => absurd bd nb) (fun _ nb => absurd bd nb)⟩
      refine ⟨fun a1 => ⟨fun a2 => hA3 (fun bd => bd.elim (fun q => a1 q.1) (fun q => a2 q.1)), fun a2 => s_endsIn hA2 hc2 (fun bt => ⟨fun _ => hA3 (fun bd => bd.elim (fun q => a1 q.1) (fun q => q.2 bt)), fun q => absurd q (by decide)⟩) (fun bt => ⟨fun q => absurd rfl q, fun _ => hB3 (Or.inr ⟨a2, bt⟩)⟩)⟩, fun a1 => s_endsIn hA2 hc2 (fun bt => ⟨fun q => absurd q (by decide), fun _ => hB3 (Or.inl ⟨a1, bt⟩)⟩) (fun bt => ⟨fun _ => ⟨fun a2 => hA3 (fun bd => bd.elim (fun q => bt q.2) (fun q => a2 q.1)), fun a2 => absurd (a1.symm.trans a2) (by decide)⟩, fun q => absurd rfl q⟩)⟩
    · have hp : p1.toInt = ((0 : Nat) : Int) := by rw [e]; rfl
      have hA3 : ¬ badA k1 z1 n1 p2 p3 → (c1 < (16 : Int32) → (wp_Acts_append c1 k1 z1 b1 p2 p3 (fun c k z b => v1 ∧ v2 ∧ v3 ∧ wp_Model_act acts am p1 p2 p3 (fun q0 q1 q2 => (c = q0 → K c k z b c2 k2 z2 b2 q1 q2) ∧ (¬ c = q0 → False))))) ∧ (¬ c1 < (16 : Int32) → (v1 ∧ v2 ∧ v3 ∧ wp_Model_act acts am p1 p2 p3 (fun q0 q1 q2 => ((-4 : Int32) = q0 → K c1 k1 z1 b1 c2 k2 z2 b2 q1 q2) ∧ (¬ (-4 : Int32) = q0 → False)))) := by
        intro nb
        rw [i_lt hc1 c16]
        refine ⟨fun hl => s_append hA1 hc1 (by omega) ok (fun c b ec hA' => ⟨hv1, hv2, hv3, ?_⟩), fun hl => ⟨hv1, hv2, hv3, ?_⟩⟩
        · have hl : n1 < 16 := by omega
          subst ec
          exact s_mact hp (by omega) hN1 hA1.1 hM1 (fun n => absurd ok n) (fun _ b => absurd b nb) (fun _ _ n => absurd hl n) (fun _ _ _ acts' a0 a1 a2 => eqK' (by rw [hm1]) (h _ _ _ _ _ _ _ _ _ _ ⟨n1 + 1, n2, by rw [tA hc1 o1 (by omega)]; omega, hc2, by rw [u_eq, hm1], by rw [u_ne (by omega)]; exact hm2, hA', hA2, actsM_add hM1 a0 a1 a2, actsM_keep hM2 hA2.1 hl (by omega) a0⟩))
        · exact s_mact hp (by omega) hN1 hA1.1 hM1 (fun n => absurd ok n) (fun _ b => absurd b nb) (fun _ _ _ => eqK h0) (fun _ _ n => absurd n (by omega))
      have hB3 : badA k1 z1 n1 p2 p3 → v1 ∧ v2 ∧ v3 ∧ wp_Model_act acts am p1 p2 p3 (fun q0 q1 q2 => ((-3 : Int32) = q0 → K c1 k1 z1 b1 c2 k2 z2 b2 q1 q2) ∧ (¬ (-3 : Int32) = q0 → False)) := fun bd => ⟨hv1, hv2, hv3, s_mact hp (by omega) hN1 hA1.1 hM1 (fun n => absurd ok n) (fun _ _ => eqK h0) (fun _ nb => absurd bd nb) (fun _ nb => absurd bd nb)⟩
      refine ⟨fun a1 => ⟨fun a2 => hA3 (fun bd => bd.elim (fun q => a1 q.1) (fun q => a2 q.1)), fun a2 => s_endsIn hA1 hc1 (fun bt => ⟨fun _ => hA3 (fun bd => bd.elim (fun q => a1 q.1) (fun q => q.2 bt)), fun q => absurd q (by decide)⟩) (fun bt => ⟨fun q => absurd rfl q, fun _ => hB3 (Or.inr ⟨a2, bt⟩)⟩)⟩, fun a1 => s_endsIn hA1 hc1 (fun bt => ⟨fun q => absurd q (by decide), fun _ => hB3 (Or.inl ⟨a1, bt⟩)⟩) (fun bt => ⟨fun _ => ⟨fun a2 => hA3 (fun bd => bd.elim (fun q => bt q.2) (fun q => a2 q.1)), fun a2 => absurd (a1.symm.trans a2) (by decide)⟩, fun q => absurd rfl q⟩)⟩
  · rintro (b | ⟨b | b, -⟩)
    · exact n3 b.2
    · exact absurd (k0.symm.trans b) (by decide)
    · exact absurd (k0.symm.trans b) (by decide)
  · rintro (b | ⟨b | b, -⟩)
    · exact n2 (by rw [b.1]; decide)
    · exact n2 (by rw [b]; decide)
    · exact n2 (by rw [b]; decide)
  · unfold wp_Model_act
    exact mi_nz (a := 0) (b := 1) rfl rfl (fun y => absurd y no1) (fun _ => eqK h0)
theorem j_web {c1 c2 : Int32} {k1 z1 b1 k2 z2 b2 acts am rea mre : Nat → Int32} {K : (Nat → Int32) → (Nat → Int32) → Prop} (hG : gAc c1 k1 z1 b1 c2 k2 z2 b2 acts am) (h : ∀ a b : Nat → Int32, K a b) : wp_SeamCell_web rea c1 k1 z1 b1 c2 k2 z2 b2 (fun o0 o1 => wp_Model_web acts am mre (fun q0 q1 => (o0 = q0 → K o1 q1) ∧ (¬ o0 = q0 → False))) := by
  obtain ⟨n1, n2, hc1, hc2, hm1, hm2, hA1, hA2, hM1, hM2⟩ := hG
  have hN1 : (am 0).toInt = (n1 : Int) := by rw [hm1]; exact hc1
  have hN2 : (am 1).toInt = (n2 : Int) := by rw [hm2]; exact hc2
  have u1 := hA1.1
  have u2 := hA2.1
  unfold wp_SeamCell_web
  refine s_countPairs hA1 hA2 hc1 hc2 (fun R' => ?_)
  unfold wp_Model_web
  exact s_findWeb u1 u2 hM1 hM2 hN1 hN2 (fun R2 _ => eqK (h _ _))
theorem j_lock {c1 c2 : Int32} {k1 z1 b1 k2 z2 b2 acts am rea mre : Nat → Int32} {p1 : Int32} {v1 : Prop} {K : (Nat → Int32) → (Nat → Int32) → Prop} (hv1 : v1) (hG : gAc c1 k1 z1 b1 c2 k2 z2 b2 acts am) (h : ∀ a b : Nat → Int32, K a b) : wp_SeamCell_lock rea c1 k1 z1 b1 c2 k2 z2 b2 p1 (fun o0 o1 => v1 ∧ wp_Model_lock acts am mre p1 (fun q0 q1 => (o0 = q0 → K o1 q1) ∧ (¬ o0 = q0 → False))) := by
  obtain ⟨n1, n2, hc1, hc2, hm1, hm2, hA1, hA2, hM1, hM2⟩ := hG
  have hN1 : (am 0).toInt = (n1 : Int) := by rw [hm1]; exact hc1
  have hN2 : (am 1).toInt = (n2 : Int) := by rw [hm2]; exact hc2
  have u1 := hA1.1
  have u2 := hA2.1
  have cm : (-1 : Int32).toInt = -1 := rfl
  unfold wp_SeamCell_lock
  rw [i_le cm rfl]
  have neg := fun (ht : p1.toInt < 0) => lkAll_neg (P := lkP n1 n2 (gA n1 k1 z1 k2 z2) (fun i j => gA n2 k2 z2 k1 z1 j i)) (w := n2 + 1) ht (by omega) (n1 + 1) 0 (by omega)
  have cz : cA (lkP n1 n2 (gA n1 k1 z1 k2 z2) (fun i j => gA n2 k2 z2 k1 z1 j i)) (n2 + 1) 0 = 0 := by unfold cA; rfl
  rw [cz, Nat.zero_add] at neg
  refine ⟨fun c => ⟨fun d => ?_, fun d => ?_⟩, fun c => ⟨hv1, ?_⟩⟩
  · refine s_findLock hA1 hA2 hc1 hc2 (fun R' v hl => ⟨hv1, ?_⟩) (fun R' w hr => ⟨hv1, ?_⟩)
    · refine s_mlock u1 u2 hM1 hM2 hN1 hN2 (fun R2 v2 hl2 => ?_) (fun R2 w2 hr2 => ?_)
      · rw [hl] at hl2
        injection hl2 with e
        exact eqK' e (h _ _)
      · rw [hl] at hr2
        injection hr2
    · refine s_mlock u1 u2 hM1 hM2 hN1 hN2 (fun R2 v2 hl2 => ?_) (fun R2 w2 hr2 => ⟨fun _ => eqK (h _ _), fun q => absurd q d⟩)
      rw [hr] at hl2
      injection hl2
  · have ht : p1.toInt < 0 := by rw [d, cm]; omega
    refine s_countLocks hA1 hA2 hc1 hc2 (fun R' => ⟨hv1, ?_⟩)
    refine s_mlock u1 u2 hM1 hM2 hN1 hN2 (fun R2 v2 hl2 => ?_) (fun R2 w2 hr2 => ⟨fun q => absurd d q, fun _ => ?_⟩)
    · rw [neg ht] at hl2
      injection hl2
    · rw [neg ht] at hr2
      injection hr2 with e
      rw [e]
      exact eqK (h _ _)
  · have ht : p1.toInt < 0 := by omega
    refine s_mlock u1 u2 hM1 hM2 hN1 hN2 (fun R2 v2 hl2 => ?_) (fun R2 w2 hr2 => ⟨fun _ => eqK (h _ _), fun q => absurd (by rw [q, cm]; omega) c⟩)
    rw [neg ht] at hl2
    injection hl2
theorem j_runK {c1 c2 : Int32} {k1 z1 b1 k2 z2 b2 acts am lat ran mdn mlf mwt : Nat → Int32} {K : Int32 → (Nat → Int32) → Int32 → Int32 → Int32 → Int32 → Int32 → Int32 → Int32 → (Nat → Int32) → (Nat → Int32) → (Nat → Int32) → (Nat → Int32) → Prop} (hG : gAc c1 k1 z1 b1 c2 k2 z2 b2 acts am) (h : ∀ (la' ra' : Nat → Int32) (a b c d e f : Int32) (dn' lf' wt' : Nat → Int32), (∀ k, k < 5 → la' k = ra' k) → K 1 la' a b c d e f 1 dn' lf' wt' ra') : wp_SeamCell_run lat c1 k1 z1 b1 c2 k2 z2 b2 (fun o0 o1 o2 o3 o4 o5 o6 o7 o8 => wp_Model_run acts am mdn mlf mwt ran (fun q0 q1 q2 q3 q4 q5 => (o0 = q0 → K o1 o2 o3 o4 o5 o6 o7 o8 q1 q2 q3 q4 q5) ∧ (¬ o0 = q0 → False))) := by
  obtain ⟨n1, n2, hc1, hc2, hm1, hm2, hA1, hA2, hM1, hM2⟩ := hG
  have hN1 : (am 0).toInt = (n1 : Int) := by rw [hm1]; exact hc1
  have hN2 : (am 1).toInt = (n2 : Int) := by rw [hm2]; exact hc2
  have u1 := hA1.1
  have u2 := hA2.1
  exact j_run (dn := mdn) (lf := mlf) (wt := mwt) (ra := ran) (post' := fun r r' hr la a b c d e f hr' dn' lf' wt' ra' => (r = r' → K hr la a b c d e f hr' dn' lf' wt' ra') ∧ (¬ r = r' → False)) hA1 hA2 hM1 hM2 hc1 hc2 hN1 hN2 (fun _ _ _ _ _ _ _ _ _ q => q) (fun r la' ra' a b c d e f dn' lf' wt' hR => eqK (h _ _ _ _ _ _ _ _ _ _ _ hR))
