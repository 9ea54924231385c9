/-! a run of both arms -/
def adv (n : Nat) (kd sz : Nat → Int32) (zo : Int32) : Nat → Nat → Nat
  | 0, d => d
  | m + 1, d => if d < n ∧ ¬ kd d = 0 ∧ ¬ (kd d = 1 ∧ bitT zo (sz d) = 1) then adv n kd sz zo m (d + 1) else d
def avA (n : Nat) (kd sz : Nat → Int32) (zo : Int32) (d : Nat) : Nat := adv n kd sz zo (n - d) d
def tkD (n : Nat) (kd sz : Nat → Int32) (zo : Int32) (d l : Nat) : Nat := if l = 0 then (if avA n kd sz zo d < n ∧ kd (avA n kd sz zo d) = 0 then avA n kd sz zo d + 1 else avA n kd sz zo d) else d
def tkL (n : Nat) (kd sz : Nat → Int32) (zo : Int32) (d l : Nat) : Nat := if l = 0 then (if avA n kd sz zo d < n ∧ kd (avA n kd sz zo d) = 0 then (sz (avA n kd sz zo d)).toInt.toNat - 1 else 0) else l - 1
def tkW (n : Nat) (kd sz : Nat → Int32) (zo : Int32) (d l : Nat) : Prop := l = 0 ∧ tkD n kd sz zo d l = d ∧ d < n
def AI (n : Nat) (kd : Nat → Int32) (d l : Nat) : Prop := d ≤ n ∧ l ≤ 49 ∧ (0 < l → 1 ≤ d ∧ kd (d - 1) = 0)
def ovP (n d l : Nat) : Prop := d = n ∧ l = 0
noncomputable def wU (P : Prop) (w : Int32) : Int32 := @ite _ P (Classical.propDecidable _) (w + (1 : Int32)) w
theorem wU_1 {P : Prop} {w : Int32} (h : P) : wU P w = w + (1 : Int32) := by unfold wU; rw [if_pos h]
theorem wU_0 {P : Prop} {w : Int32} (h : ¬ P) : wU P w = w := by unfold wU; rw [if_neg h]
theorem nzP {r : Int32} {P : Prop} (h : r = 0 ↔ ¬ P) (q : ¬ r = 0) : P := Classical.not_not.mp (fun z => q (h.mpr z))
section RUN1
variable {n : Nat} {kd sz zb : Nat → Int32} {zo : Int32}
theorem avA_s {d : Nat} (h1 : d < n) (h2 : ¬ kd d = 0) (h3 : ¬ wtP kd sz zo d) : avA n kd sz zo d = avA n kd sz zo (d + 1) := by
  unfold avA
  rw [show n - d = (n - (d + 1)) + 1 by omega]
  rw [adv]
  rw [if_pos ⟨h1, h2, h3⟩]
theorem avA_e {d : Nat} (h : ¬ (d < n ∧ ¬ kd d = 0 ∧ ¬ wtP kd sz zo d)) : avA n kd sz zo d = d := by
  unfold avA
  rcases Nat.eq_zero_or_pos (n - d) with q | q
  · rw [q]; rfl
  · rw [show n - d = (n - (d + 1)) + 1 by omega, adv]
    exact if_neg h
theorem adv_bd : ∀ m d, d + m ≤ n → d ≤ adv n kd sz zo m d ∧ adv n kd sz zo m d ≤ n
  | 0, d, h => ⟨Nat.le_refl d, by show d ≤ n; omega⟩
  | m + 1, d, h => by
    rw [adv]
    by_cases c : d < n ∧ ¬ kd d = 0 ∧ ¬ (kd d = 1 ∧ bitT zo (sz d) = 1)
    · rw [if_pos c]
      have := adv_bd m (d + 1) (by omega)
      omega
    · rw [if_neg c]; omega
theorem avA_bd {d : Nat} (h : d ≤ n) : d ≤ avA n kd sz zo d ∧ avA n kd sz zo d ≤ n := adv_bd (n - d) d (by omega)
theorem AI_t {d l : Nat} (hA : actsOK n kd sz zb) (h : AI n kd d l) : AI n kd (tkD n kd sz zo d l) (tkL n kd sz zo d l) := by
  obtain ⟨h1, h2, h3⟩ := h
  have hb := avA_bd (n := n) (kd := kd) (sz := sz) (zo := zo) h1
  unfold tkD tkL
  by_cases c : l = 0
  · rw [if_pos c, if_pos c]
    by_cases e : avA n kd sz zo d < n ∧ kd (avA n kd sz zo d) = 0
    · rw [if_pos e, if_pos e]
      refine ⟨by omega, ?_, fun _ => ⟨by omega, ?_⟩⟩
      · rcases hA.2.1 _ e.1 with q | q
        · omega
        · omega
      · rw [Nat.add_sub_cancel]; exact e.2
    · rw [if_neg e, if_neg e]
      exact ⟨hb.2, by omega, fun q => absurd q (by omega)⟩
  · rw [if_neg c, if_neg c]
    exact ⟨h1, by omega, fun _ => h3 (by omega)⟩
theorem tk_le {d l : Nat} (hA : actsOK n kd sz zb) (h : AI n kd d l) : 51 * (n - tkD n kd sz zo d l) + tkL n kd sz zo d l ≤ 51 * (n - d) + l := by
  obtain ⟨h1, h2, h3⟩ := h
  have hb := avA_bd (n := n) (kd := kd) (sz := sz) (zo := zo) h1
  unfold tkD tkL
  by_cases c : l = 0
  · rw [if_pos c, if_pos c]
    by_cases e : avA n kd sz zo d < n ∧ kd (avA n kd sz zo d) = 0
    · rw [if_pos e, if_pos e]
      rcases hA.2.1 _ e.1 with q | q
      · omega
      · omega
    · rw [if_neg e, if_neg e]; omega
  · rw [if_neg c, if_neg c]; omega
theorem tk_lt {d l : Nat} (hA : actsOK n kd sz zb) (h : AI n kd d l) (hw : ¬ tkW n kd sz zo d l) (ho : ¬ ovP n d l) : 51 * (n - tkD n kd sz zo d l) + tkL n kd sz zo d l < 51 * (n - d) + l := by
  obtain ⟨h1, h2, h3⟩ := h
  have hb := avA_bd (n := n) (kd := kd) (sz := sz) (zo := zo) h1
  unfold tkW tkD at hw
  unfold ovP at ho
  unfold tkD tkL
  by_cases c : l = 0
  · rw [if_pos c] at hw
    rw [if_pos c, if_pos c]
    by_cases e : avA n kd sz zo d < n ∧ kd (avA n kd sz zo d) = 0
    · rw [if_pos e, if_pos e]
      rcases hA.2.1 _ e.1 with q | q
      · omega
      · omega
    · rw [if_neg e] at hw
      rw [if_neg e, if_neg e]; omega
  · rw [if_neg c, if_neg c]; omega
theorem tk_z {d l : Nat} (h : tkW n kd sz zo d l ∨ ovP n d l) (hd : d ≤ n) : tkL n kd sz zo d l = 0 := by
  have hb := avA_bd (n := n) (kd := kd) (sz := sz) (zo := zo) hd
  unfold tkW tkD at h
  unfold ovP at h
  unfold tkL
  have c : l = 0 := by rcases h with q | q <;> omega
  rw [if_pos c] at h
  rw [if_pos c]
  by_cases e : avA n kd sz zo d < n ∧ kd (avA n kd sz zo d) = 0
  · rw [if_pos e] at h
    rcases h with q | q
    · omega
    · omega
  · rw [if_neg e]
theorem s_tick {d l : Nat} {cnt dn wl w : Int32} {post : Int32 → Int32 → Int32 → Int32 → Prop} (hA : actsOK n kd sz zb) (hI : AI n kd d l) (hc : cnt.toInt = (n : Int)) (hd : dn.toInt = (d : Int)) (hl : wl.toInt = (l : Int))
    (h : ∀ b d' l' : Int32, (b = 0 ↔ ¬ tkW n kd sz zo d l) → d'.toInt = (tkD n kd sz zo d l : Int) → l'.toInt = (tkL n kd sz zo d l : Int) → post b d' l' (wU (tkW n kd sz zo d l) w)) : wp_Acts_tick cnt dn wl w kd sz zo post := by
  have hn := hA.1
  have hdn := hI.1
  have hb := avA_bd (n := n) (kd := kd) (sz := sz) (zo := zo) hdn
  unfold wp_Acts_tick
  have z0 : (0 : Int32).toInt = 0 := rfl
  have c1 : (1 : Int32).toInt = 1 := rfl
  rw [i_le hl z0]
  refine ⟨fun c => ⟨n - d + 1, ?_⟩, fun c f ef => ?_⟩
  · have l0 : l = 0 := by omega
    have j144 : ∀ (d' l' : Int32), d'.toInt = (tkD n kd sz zo d l : Int) → l'.toInt = (tkL n kd sz zo d l : Int) → ∀ b : Int32, (b = 0 ∨ b = 1) → (b = 0 ↔ ¬ tkW n kd sz zo d l) → wp_Acts_tick_j144_7 w post d' l' b := by
      intro d' l' h1 h2 b hb01 hbw
      unfold wp_Acts_tick_j144_7
      refine ⟨fun q => ⟨hb01, ?_⟩, fun q f ef => ⟨hb01, ?_⟩⟩
      · have := h b d' l' hbw h1 h2
        rw [wU_0 (hbw.mp q)] at this
        exact this
      · have := h b d' l' hbw h1 h2
        rw [wU_1 (nzP hbw q)] at this
        rw [ef]; exact this
    have j120 : ∀ (d' l' : Int32), d'.toInt = (tkD n kd sz zo d l : Int) → l'.toInt = (tkL n kd sz zo d l : Int) → wp_Acts_tick_j120_9 cnt dn w post d' l' := by
      intro d' l' h1 h2
      unfold wp_Acts_tick_j120_9
      rw [i_eq h1 hd, i_le hc h1]
      refine ⟨fun q => j144 d' l' h1 h2 0 (Or.inl rfl) ⟨fun _ v => q (by rw [v.2.1]), fun _ => rfl⟩, fun q => ⟨fun p => j144 d' l' h1 h2 0 (Or.inl rfl) ⟨fun _ v => absurd v.2.2 (by omega), fun _ => rfl⟩, fun p => j144 d' l' h1 h2 1 (Or.inr rfl) ⟨fun v => absurd v (by decide), fun v => absurd ⟨l0, by omega, by omega⟩ v⟩⟩⟩
    have j72 : ∀ y : Int32, y.toInt = (avA n kd sz zo d : Int) → wp_Acts_tick_j72_13 cnt dn wl w kd sz post y := by
      intro y hy
      unfold wp_Acts_tick_j72_13
      rw [i_le hc hy, cl_t hy]
      have no : ¬ (avA n kd sz zo d < n ∧ kd (avA n kd sz zo d) = 0) → wp_Acts_tick_j120_9 cnt dn w post y wl := fun e => j120 y wl (by unfold tkD; rw [if_pos l0, if_neg e]; exact hy) (by unfold tkL; rw [if_pos l0, if_neg e, hl, l0])
      refine ⟨fun q => no (fun v => by omega), fun q => ⟨vp_t hy (by omega), fun e => no (fun v => e v.2), fun e => ⟨vp_t hy (by omega), fun f12 e12 f13 e13 => ?_⟩⟩⟩
      have p : avA n kd sz zo d < n ∧ kd (avA n kd sz zo d) = 0 := ⟨by omega, e⟩
      refine j120 f13 f12 ?_ ?_
      · unfold tkD; rw [if_pos l0, if_pos p, e13]; exact inc_t hy (by omega)
      · unfold tkL; rw [if_pos l0, if_pos p, e12]
        rcases hA.2.1 _ p.1 with q | q
        · rw [tS rfl c1 (by omega)]; omega
        · rcases q.1 with r | r <;> rw [e] at r <;> exact absurd r (by decide)
    have key : ∀ (m e : Nat) (y : Int32), y.toInt = (e : Int) → e + m = n → avA n kd sz zo e = avA n kd sz zo d → wpL_Acts_tick_24 cnt dn wl w kd sz zo post (m + 1) y := by
      intro m
      induction m with
      | zero =>
        intro e y hy he ha
        show wpB_Acts_tick_24 cnt dn wl w kd sz zo post (wpL_Acts_tick_24 cnt dn wl w kd sz zo post 0) y
        unfold wpB_Acts_tick_24
        rw [i_le hc hy]
        refine ⟨fun _ => j72 y ?_, fun q => absurd (by omega) q⟩
        rw [← ha, avA_e (fun v => by omega)]; exact hy
      | succ m ih =>
        intro e y hy he ha
        show wpB_Acts_tick_24 cnt dn wl w kd sz zo post (wpL_Acts_tick_24 cnt dn wl w kd sz zo post (m + 1)) y
        unfold wpB_Acts_tick_24
        rw [i_le hc hy, cl_t hy]
        have st : ¬ (e < n ∧ ¬ kd e = 0 ∧ ¬ wtP kd sz zo e) → wp_Acts_tick_j72_13 cnt dn wl w kd sz post y := fun v => j72 y (by rw [← ha, avA_e v]; exact hy)
        refine ⟨fun q => absurd q (by omega), fun _ => ⟨vp_t hy (by omega), fun q => st (fun v => v.2.1 q), fun q => s_goes hc hn hy (fun k1 k2 => ⟨fun z => absurd z (by decide), fun _ f ef => ?_⟩) (fun k => ⟨fun _ => st (fun v => k ⟨v.1, v.2.2⟩), fun z => absurd rfl z⟩)⟩⟩
        exact ih (e + 1) f (by rw [ef]; exact inc_t hy (by omega)) (by omega) (by rw [← avA_s k1 q k2]; exact ha)
    exact key (n - d) d dn hd (by omega) rfl
  · have l0 : ¬ l = 0 := by omega
    have nw : ¬ tkW n kd sz zo d l := fun v => l0 v.1
    have := h 0 dn f ⟨fun _ => nw, fun _ => rfl⟩ (by unfold tkD; rw [if_neg l0]; exact hd) (by unfold tkL; rw [if_neg l0, ef, tS hl c1 (by have := hI.2.1; omega)]; omega)
    rw [wU_0 nw] at this
    exact this
theorem s_isThrough {d l : Nat} {cnt dn wl : Int32} {post : Int32 → Prop} (hc : cnt.toInt = (n : Int)) (hd : dn.toInt = (d : Int)) (hl : wl.toInt = (l : Int)) (hdn : d ≤ n) (h : ∀ b : Int32, (b = 0 ↔ ¬ ovP n d l) → post b) : wp_Acts_isThrough cnt dn wl post := by
  unfold wp_Acts_isThrough
  have z0 : (0 : Int32).toInt = 0 := rfl
  rw [i_lt hd hc, i_eq hl z0]
  refine ⟨fun c => h 0 ⟨fun _ v => by have := v.1; omega, fun _ => rfl⟩, fun c => ⟨fun e => h 0 ⟨fun _ v => by have := v.2; omega, fun _ => rfl⟩, fun e => h 1 ⟨fun v => absurd v (by decide), fun v => absurd ⟨by omega, by omega⟩ v⟩⟩⟩
theorem s_zonesNow {d : Nat} {dn : Int32} {post : Int32 → Prop} (hA : actsOK n kd sz zb) (hd : dn.toInt = (d : Int)) (hdn : d ≤ n) (h : post (zn kd sz d)) : wp_Acts_zonesNow dn zb post := by
  unfold wp_Acts_zonesNow
  have := hA.1
  rw [cl_t hd, hA.2.2 d hdn]
  exact ⟨vp_t hd (by omega), h⟩
end RUN1
