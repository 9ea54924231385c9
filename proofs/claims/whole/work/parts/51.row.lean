/-! the row -/
def gRo (sc rc : Int32) (ps pw rS rW : Nat → Int32) : Prop := ∃ (ns n : Nat) (p : Nat → Nat), sc.toInt = (ns : Int) ∧ rc.toInt = (n : Int) ∧ n ≤ ns ∧ vaP ns p n ∧ ∀ j, j < n → ps j = nI (p j / 2) ∧ pw j = nI (p j % 2) ∧ rS j = nI (p j / 2) ∧ rW j = nI (p j % 2)
theorem gRo_0 {sc : Int32} {ps pw rS rW : Nat → Int32} (h : 0 ≤ sc.toInt) : gRo sc 0 ps pw rS rW := ⟨sc.toInt.toNat, 0, fun _ => 0, by omega, rfl, by omega, ⟨fun j hj => absurd hj (by omega), fun i j _ hj => absurd hj (by omega)⟩, fun j hj => absurd hj (by omega)⟩
theorem gRo_mono {sc sc' rc : Int32} {ps pw rS rW : Nat → Int32} (h : sc.toInt ≤ sc'.toInt) (hG : gRo sc rc ps pw rS rW) : gRo sc' rc ps pw rS rW := by
  obtain ⟨ns, n, p, h1, h2, h3, h4, h5⟩ := hG
  exact ⟨sc'.toInt.toNat, n, p, by omega, h2, by omega, ⟨fun j hj => by have := h4.1 j hj; omega, h4.2⟩, h5⟩
theorem s_holds {rc : Int32} {n : Nat} {ps : Nat → Int32} {p : Int32} {post : Int32 → Prop} (hrc : rc.toInt = (n : Int)) (hn : n ≤ 8) (h1 : (∃ j, j < n ∧ ps j = p) → post 1) (h0 : (∀ j, j < n → ps j ≠ p) → post 0) : wp_Plan_holds rc ps p post := by
  unfold wp_Plan_holds
  refine ⟨n + 1, ?_⟩
  have key : ∀ (m j : Nat) (x : Int32), x.toInt = (j : Int) → j + m = n → (∀ i, i < j → ps i ≠ p) → wpL_Plan_holds_2 rc ps p post (m + 1) x := by
    intro m
    induction m with
    | zero =>
      intro j x hx hj hall
      show wpB_Plan_holds_2 rc ps p post (wpL_Plan_holds_2 rc ps p post 0) x
      unfold wpB_Plan_holds_2
      rw [i_le hrc hx]
      exact ⟨fun _ => h0 (fun i hi => hall i (by omega)), fun c => absurd (by omega) c⟩
    | succ m ih =>
      intro j x hx hj hall
      show wpB_Plan_holds_2 rc ps p post (wpL_Plan_holds_2 rc ps p post (m + 1)) x
      unfold wpB_Plan_holds_2
      rw [i_le hrc hx, cl_t hx]
      refine ⟨fun c => absurd c (by omega), fun _ => ⟨vp_t hx (by omega), fun c y ey => ?_, fun c => h1 ⟨j, by omega, c⟩⟩⟩
      subst ey
      refine ih (j + 1) _ (by rw [tA hx q_1 (by omega)]; omega) (by omega) (fun i hi => ?_)
      by_cases e : i = j
      · rw [e]; exact c
      · exact hall i (by omega)
  exact key n 0 0 rfl (by omega) (fun i hi => absurd hi (by omega))
theorem s_planApp {rc : Int32} {n : Nat} {ps pw : Nat → Int32} {a b : Int32} {post : Int32 → (Nat → Int32) → (Nat → Int32) → Prop} (hrc : rc.toInt = (n : Int)) (hn : n < 8) (h : post (rc + (1 : Int32)) (upd ps n a) (upd pw n b)) : wp_Plan_append rc ps pw a b post := by
  unfold wp_Plan_append
  have c8 : (8 : Int32).toInt = 8 := rfl
  have hv := vp_t (N := 8) hrc hn
  rw [i_lt hrc c8, cl_t hrc]
  refine ⟨fun _ => ⟨hv, fun g e1 => ⟨hv, fun g' e2 f e3 => ?_⟩⟩, fun c => absurd (by omega) c⟩
  subst e1; subst e2; subst e3
  exact h
theorem s_maddL {mx my sx sy la lb fl : Int32} {nb ns : Nat} {bX0 bY0 bX1 bY1 sx0 sy0 sx1 sy1 : Nat → Int32} {bars seams rS rW : Nat → Int32} {bc rc p1 p2 : Int32} {lu ld hu hd : Int64} {n k : Nat} {post : Int32 → Int32 → Int64 → Int64 → Int64 → Int64 → (Nat → Int32) → (Nat → Int32) → Prop} (hc : cellOK mx my sx sy la lb fl) (hb : barsOK nb bX0 bY0 bX1 bY1) (hbm : barsM nb bars bX0 bY0 bX1 bY1) (hbc : bc.toInt = (nb : Int)) (hs : seamsOK ns sx0 sy0 sx1 sy1) (hsm : seamsM ns seams sx0 sy0 sx1 sy1) (hk : k < ns) (hsk : p1.toInt = (k : Int)) (hrc : rc.toInt = (n : Int)) (hn : n ≤ 8)
    (h3 : (∃ j, j < n ∧ rS j = p1) → post (-3) rc lu ld hu hd rS rW) (h5 : (∀ j, j < n → rS j ≠ p1) → qtV mx my sx sy la lb fl nb bX0 bY0 bX1 bY1 sx0 sy0 sx1 sy1 k = -6 → ∀ a b c d, post (-5) rc a b c d rS rW) (h1 : (∀ j, j < n → rS j ≠ p1) → ¬ qtV mx my sx sy la lb fl nb bX0 bY0 bX1 bY1 sx0 sy0 sx1 sy1 k = -6 → n < 8 ∧ ∀ a b c d, post (rc + (1 : Int32)) (rc + (1 : Int32)) a b c d (upd rS n p1) (upd rW n p2)) : ∃ m : Nat, wpL_Model_add_25 mx my la lb fl bc rc lu ld hu hd sx sy bars seams rS rW p1 p2 post m (0 : Int32) := by
  refine ⟨n + 1, ?_⟩
  have key : ∀ (m j : Nat) (x : Int32), x.toInt = (j : Int) → j + m = n → (∀ i, i < j → rS i ≠ p1) → wpL_Model_add_25 mx my la lb fl bc rc lu ld hu hd sx sy bars seams rS rW p1 p2 post (m + 1) x := by
    intro m
    induction m with
    | zero =>
      intro j x hx hj hall
      show wpB_Model_add_25 mx my la lb fl bc rc lu ld hu hd sx sy bars seams rS rW p1 p2 post (wpL_Model_add_25 mx my la lb fl bc rc lu ld hu hd sx sy bars seams rS rW p1 p2 post 0) x
      unfold wpB_Model_add_25
      rw [i_le hrc hx]
      have hall' : ∀ i, i < n → rS i ≠ p1 := fun i hi => hall i (by omega)
      refine ⟨fun _ => s_mquarterOf hc hb hbm hbc hs hsm hk hsk (fun a b c d => ⟨fun q => ?_, fun q => ?_⟩), fun c => absurd (by omega) c⟩
      · rw [i_le_not, qt_neg] at q
        obtain ⟨n8, hp⟩ := h1 hall' q
        have hv := vp_t (N := 8) hrc n8
        rw [cl_t hrc]
        refine ⟨hv, fun g e1 => ⟨hv, fun g' e2 f e3 => ?_⟩⟩
        subst e1; subst e2; subst e3
        exact hp a b c d
      · rw [i_le_not, Classical.not_not, qt_neg] at q
        exact h5 hall' q a b c d
    | succ m ih =>
      intro j x hx hj hall
      show wpB_Model_add_25 mx my la lb fl bc rc lu ld hu hd sx sy bars seams rS rW p1 p2 post (wpL_Model_add_25 mx my la lb fl bc rc lu ld hu hd sx sy bars seams rS rW p1 p2 post (m + 1)) x
      unfold wpB_Model_add_25
      rw [i_le hrc hx, cl_t hx]
      refine ⟨fun c => absurd c (by omega), fun _ => ⟨vp_t hx (by omega), fun c y ey => ?_, fun c => h3 ⟨j, by omega, c⟩⟩⟩
      subst ey
      refine ih (j + 1) _ (by rw [tA hx q_1 (by omega)]; omega) (by omega) (fun i hi => ?_)
      by_cases e : i = j
      · rw [e]; exact c
      · exact hall i (by omega)
  exact key n 0 0 rfl (by omega) (fun i hi => absurd hi (by omega))
theorem nI_inj {a b : Nat} (ha : a < 2147483648) (hb : b < 2147483648) (h : nI a = nI b) : a = b := by
  have := congrArg Int32.toInt h
  rw [nI_t ha, nI_t hb] at this
  omega
theorem gRo_add {sc rc p1 p2 : Int32} {ns n k : Nat} {p : Nat → Nat} {ps pw rS rW : Nat → Int32} (hsc : sc.toInt = (ns : Int)) (h8 : ns ≤ 8) (hrc : rc.toInt = (n : Int)) (hv : vaP ns p n) (hr : ∀ j, j < n → ps j = nI (p j / 2) ∧ pw j = nI (p j % 2) ∧ rS j = nI (p j / 2) ∧ rW j = nI (p j % 2)) (hk : p1.toInt = (k : Int)) (lk : k < ns) (hw : 0 ≤ p2.toInt ∧ p2.toInt ≤ 1) (hu : ¬ usP p n k) (hn : n < ns) : gRo sc (rc + (1 : Int32)) (upd ps n p1) (upd pw n p2) (upd rS n p1) (upd rW n p2) := by
  obtain ⟨w, hw'⟩ : ∃ w : Nat, p2.toInt = (w : Int) := ⟨p2.toInt.toNat, by omega⟩
  have e1 : p1 = nI ((2 * k + w) / 2) := by rw [show (2 * k + w) / 2 = k by omega]; exact nI_of_t hk
  have e2 : p2 = nI ((2 * k + w) % 2) := by rw [show (2 * k + w) % 2 = w by omega]; exact nI_of_t hw'
  have pn : ∀ j, j ≠ n → updN p n (2 * k + w) j = p j := fun j hj => if_neg hj
  have pe : updN p n (2 * k + w) n = 2 * k + w := if_pos rfl
  refine ⟨ns, n + 1, updN p n (2 * k + w), hsc, ?_, by omega, ⟨fun j hj => ?_, fun i j hi hj => ?_⟩, fun j hj => ?_⟩
  · rw [tA hrc q_1 (by omega)]; omega
  · by_cases e : j = n
    · rw [e, pe]; omega
    · rw [pn j e]; exact hv.1 j (by omega)
  · rw [pn i (by omega)]
    by_cases e : j = n
    · rw [e, pe]
      intro q
      exact hu ⟨i, by omega, by omega⟩
    · rw [pn j e]; exact hv.2 i j hi (by omega)
  · by_cases e : j = n
    · rw [e, pe, u_eq, u_eq, u_eq, u_eq]; exact ⟨e1, e2, e1, e2⟩
    · rw [pn j e, u_ne e, u_ne e, u_ne e, u_ne e]; exact hr j (by omega)
theorem j_add {mx my sx sy la lb fl : Int32} {bX0 bY0 bX1 bY1 sx0 sy0 sx1 sy1 len tm heat bars seams : Nat → Int32} {bc sc : Int32} {lu ld hu hd : Int64} {rc p1 p2 : Int32} {ps pw rS rW : Nat → Int32} {v1 v2 : Prop} {K : Int32 → (Nat → Int32) → (Nat → Int32) → Int32 → Int64 → Int64 → Int64 → Int64 → (Nat → Int32) → (Nat → Int32) → Prop} (hv1 : v1) (hv2 : v2) (hc : cellOK mx my sx sy la lb fl) (hB : gBa bc bX0 bY0 bX1 bY1 bars) (hG : gSe sc sx0 sy0 sx1 sy1 len tm heat seams) (hR : gRo sc rc ps pw rS rW) (h : ∀ (rc' : Int32) (ps' pw' rS' rW' : Nat → Int32) (a b c d : Int64), gRo sc rc' ps' pw' rS' rW' → K rc' ps' pw' rc' a b c d rS' rW') : wp_SeamCell_add mx my sx sy la lb fl bc bX0 bY0 bX1 bY1 sc rc ps pw sx0 sy0 sx1 sy1 p1 p2 (fun o0 o1 o2 o3 => v1 ∧ v2 ∧ wp_Model_add mx my la lb fl bc sc rc lu ld hu hd sx sy bars seams rS rW p1 p2 (fun q0 q1 q2 q3 q4 q5 q6 q7 => (o0 = q0 → K o1 o2 o3 q1 q2 q3 q4 q5 q6 q7) ∧ (¬ o0 = q0 → False))) := by
  have h0 := fun a b c d => h rc ps pw rS rW a b c d hR
  obtain ⟨ns, hsc, hS, hM, hT, hL⟩ := hG
  obtain ⟨nb, hbc, hOK, hbM⟩ := hB
  obtain ⟨ns', n, p, hsc', hrc, hle, hva, hrow⟩ := hR
  have ens : ns' = ns := by omega
  subst ens
  have h8 := hS.1
  have hs0 : 0 ≤ sc.toInt := by omega
  unfold wp_SeamCell_add
  refine ph_nz (fun y1 => ft_nz (a := 0) (b := 1) rfl rfl (fun y2 => ?_) (fun n2 => ⟨hv1, hv2, ?_⟩)) (fun n1 => ⟨hv1, hv2, ?_⟩)
  · obtain ⟨k, hk, lk⟩ := ex_nat hsc y1
    have ek := nI_of_t hk
    have same : (∃ j, j < n ∧ ps j = p1) → ∃ j, j < n ∧ rS j = p1 := fun ⟨j, hj, e⟩ => ⟨j, hj, by rw [(hrow j hj).2.2.1, ← (hrow j hj).1]; exact e⟩
    have same' : (∀ j, j < n → ps j ≠ p1) → ∀ j, j < n → rS j ≠ p1 := fun g j hj e => g j hj (by rw [(hrow j hj).1, ← (hrow j hj).2.2.1]; exact e)
    refine s_holds hrc (by omega) (fun hh => ⟨fun q => absurd q (by decide), fun _ => ⟨hv1, hv2, ?_⟩⟩) (fun hh => ⟨fun _ => ?_, fun q => absurd rfl q⟩)
    · obtain ⟨j, hj, ej⟩ := same hh
      unfold wp_Model_add
      exact ms_nz hs0 (fun _ => mi_nz (a := 0) (b := 1) rfl rfl (fun _ => s_maddL hc hOK hbM hbc hS hM lk hk hrc (by omega) (fun _ => eqK (h0 _ _ _ _)) (fun g => absurd ej (g j hj)) (fun g => absurd ej (g j hj))) (fun n => absurd y2 n)) (fun n => absurd y1 n)
    · have hnu : ¬ usP p n k := fun ⟨j, hj, e⟩ => hh j hj (by rw [(hrow j hj).1, e]; exact ek.symm)
      have hn : n < ns' := by
        have := US_cnt n hva hle
        have := US_pos hnu ns' lk
        omega
      refine s_quarterOf hc hOK hbc hS lk hk ⟨fun q6 => ?_, fun q6 => ⟨hv1, hv2, ?_⟩⟩
      · refine s_planApp hrc (by omega) ⟨hv1, hv2, ?_⟩
        have gn := gRo_add hsc h8 hrc hva hrow hk lk y2 hnu hn
        unfold wp_Model_add
        exact ms_nz hs0 (fun _ => mi_nz (a := 0) (b := 1) rfl rfl (fun _ => s_maddL hc hOK hbM hbc hS hM lk hk hrc (by omega) (fun ⟨j, hj, e⟩ => absurd e (same' hh j hj)) (fun _ q => absurd q q6) (fun _ _ => ⟨by omega, fun a b c d => eqK (h _ _ _ _ _ _ _ _ _ gn)⟩)) (fun n => absurd y2 n)) (fun n => absurd y1 n)
      · unfold wp_Model_add
        exact ms_nz hs0 (fun _ => mi_nz (a := 0) (b := 1) rfl rfl (fun _ => s_maddL hc hOK hbM hbc hS hM lk hk hrc (by omega) (fun ⟨j, hj, e⟩ => absurd e (same' hh j hj)) (fun _ _ a b c d => eqK (h0 _ _ _ _)) (fun _ q => absurd q6 q)) (fun n => absurd y2 n)) (fun n => absurd y1 n)
  · unfold wp_Model_add
    exact ms_nz hs0 (fun _ => mi_nz (a := 0) (b := 1) rfl rfl (fun y => absurd y n2) (fun _ => eqK (h0 _ _ _ _))) (fun n => absurd y1 n)
  · unfold wp_Model_add
    exact ms_nz hs0 (fun y => absurd y n1) (fun _ => eqK (h0 _ _ _ _))
theorem j_row {mx my sx sy la lb fl : Int32} {bX0 bY0 bX1 bY1 sx0 sy0 sx1 sy1 len tm heat bars seams : Nat → Int32} {bc sc : Int32} {lu ld hu hd : Int64} {gap turn travel lift cool hx hy rc : Int32} {ps pw pb pe pr rS rW qs mb me mr : Nat → Int32} {p1 p2 : Int32} {v1 v2 : Prop} {K : (Nat → Int32) → (Nat → Int32) → (Nat → Int32) → Int64 → Int64 → Int64 → Int64 → (Nat → Int32) → (Nat → Int32) → (Nat → Int32) → (Nat → Int32) → Prop} (hv1 : v1) (hv2 : v2) (hc : cellOK mx my sx sy la lb fl) (hg : gapOK gap) (hp : paceOK turn travel lift cool hx hy) (hB : gBa bc bX0 bY0 bX1 bY1 bars) (hG : gSe sc sx0 sy0 sx1 sy1 len tm heat seams) (hR : gRo sc rc ps pw rS rW) (h : ∀ (a b c : Nat → Int32) (w x y z : Int64) (d e f g : Nat → Int32), K a b c w x y z d e f g) : wp_SeamCell_row mx my sx sy la lb fl bc bX0 bY0 bX1 bY1 gap turn travel lift cool hx hy rc ps pw pb pe pr sx0 sy0 sx1 sy1 tm heat p1 p2 (fun o0 o1 o2 o3 => v1 ∧ v2 ∧ wp_Model_row mx my la lb fl gap turn travel lift cool hx hy bc sc rc lu ld hu hd sx sy bars seams rS rW qs mb me mr p1 p2 (fun q0 q1 q2 q3 q4 q5 q6 q7 q8 => (o0 = q0 → K o1 o2 o3 q1 q2 q3 q4 q5 q6 q7 q8) ∧ (¬ o0 = q0 → False))) := by
  obtain ⟨ns, hsc, hS, hM, hT, hL⟩ := hG
  obtain ⟨nb, hbc, hOK, hbM⟩ := hB
  obtain ⟨ns', n, p, hsc', hrc, hle, hva, hrow⟩ := hR
  have ens : ns' = ns := by omega
  subst ens
  have h8 := hS.1
  have n8 : n ≤ 8 := by omega
  have hps : ∀ j, j < n → (ps j).toInt = ((sA p j : Nat) : Int) := fun j hj => by
    have := hva.1 j hj
    rw [(hrow j hj).1]
    exact nI_t (by omega)
  have hrS : ∀ j, j < n → (rS j).toInt = ((sA p j : Nat) : Int) := fun j hj => by
    have := hva.1 j hj
    rw [(hrow j hj).2.2.1]
    exact nI_t (by omega)
  have hsa : ∀ j, j < n → sA p j < ns' := fun j hj => by
    have := hva.1 j hj
    show p j / 2 < ns'
    omega
  have hrW : ∀ j, j < n → rW j = pw j := fun j hj => by rw [(hrow j hj).2.2.2, (hrow j hj).2.1]
  have hw : ∀ j, j < n → pw j = 0 ∨ pw j = 1 := fun j hj => by
    rw [(hrow j hj).2.1]
    rcases (show p j % 2 = 0 ∨ p j % 2 = 1 by omega) with e | e
    · exact Or.inl (by rw [e]; rfl)
    · exact Or.inr (by rw [e]; rfl)
  have c0 : (0 : Int32).toInt = 0 := rfl
  have o1 : (1 : Int32).toInt = 1 := rfl
  have hb : ((rc - (1 : Int32)).toInt64).toInt = (n : Int) - 1 := tL (tS hrc o1 (by omega))
  have out : ¬ (0 ≤ p1.toInt ∧ p1.toInt ≤ (n : Int) - 1) → v1 ∧ v2 ∧ wp_Model_row mx my la lb fl gap turn travel lift cool hx hy bc sc rc lu ld hu hd sx sy bars seams rS rW qs mb me mr p1 p2 (fun q0 q1 q2 q3 q4 q5 q6 q7 q8 => ((-1 : Int32) = q0 → K pb pe pr q1 q2 q3 q4 q5 q6 q7 q8) ∧ (¬ (-1 : Int32) = q0 → False)) := by
    intro no
    refine ⟨hv1, hv2, ?_⟩
    unfold wp_Model_row
    exact mi_nz (a := 0) rfl hb (fun y => absurd y no) (fun _ => eqK (h _ _ _ _ _ _ _ _ _ _ _))
  unfold wp_SeamCell_row
  rw [i_lt rfl c0, i_lt rfl hrc]
  refine ⟨fun c => out (by omega), fun c => ⟨fun d => ?_, fun d => out (by omega)⟩⟩
  obtain ⟨z, hz⟩ : ∃ z : Nat, p1.toInt = (z : Int) := ⟨p1.toInt.toNat, by omega⟩
  have lz : z < n := by omega
  have hv := vp_t (N := 8) hz (by omega)
  have y1 : 0 ≤ p1.toInt ∧ p1.toInt ≤ (n : Int) - 1 := by omega
  have ez := cl_t hz
  refine ft_nz (a := 0) (b := 4) rfl rfl (fun y2 => ?_) (fun n2 => ⟨hv1, hv2, ?_⟩)
  · refine s_reckon hc hOK hbc hS hg hp n8 hrc hps hsa (fun hall b e r hv3 => ⟨fun _ => ?_, fun q => absurd q (by decide)⟩) (fun hall b e r => ⟨fun q => absurd rfl q, fun _ => ⟨hv1, hv2, ?_⟩⟩)
    · have m : ∀ o0 : Int32, (p2 = 0 → o0 = ps z) → (p2 = 1 → o0 = pw z) → (p2 = 2 → o0 = b z) → (p2 = 3 → o0 = e z) → (¬ p2 = 0 → ¬ p2 = 1 → ¬ p2 = 2 → ¬ p2 = 3 → o0 = r z) → v1 ∧ v2 ∧ wp_Model_row mx my la lb fl gap turn travel lift cool hx hy bc sc rc lu ld hu hd sx sy bars seams rS rW qs mb me mr p1 p2 (fun q0 q1 q2 q3 q4 q5 q6 q7 q8 => (o0 = q0 → K b e r q1 q2 q3 q4 q5 q6 q7 q8) ∧ (¬ o0 = q0 → False)) := by
        intro o0 r0 r1 r2 r3 r4
        refine ⟨hv1, hv2, ?_⟩
        unfold wp_Model_row
        refine mi_nz (a := 0) rfl hb (fun _ => mi_nz (a := 0) (b := 4) rfl rfl (fun _ => s_findQuarters hc hOK hbM hbc hS hM hsc n8 hrc hrS hsa (fun _ a b' c' d' q hq => ⟨fun _ => ?_, fun z => absurd z (by decide)⟩) (fun g => absurd hall g)) (fun n => absurd y2 n)) (fun n => absurd y1 n)
        refine s_workRow hc hOK hbM hbc hS hM hg hp hT n8 hrc hrS hsa hrW hw hall hq (fun a b' c' d' x y w hx => ?_)
        obtain ⟨x1, x2, x3⟩ := hx z lz
        obtain ⟨k1, k2, k3⟩ := hv3 z lz
        rw [ez]
        refine ⟨fun a0 => ⟨fun a1 => ⟨fun a2 => ⟨fun a3 => ⟨hv, eqK' ?_ (h _ _ _ _ _ _ _ _ _ _ _)⟩, fun a3 => ⟨hv, eqK' ?_ (h _ _ _ _ _ _ _ _ _ _ _)⟩⟩, fun a2 => ⟨hv, eqK' ?_ (h _ _ _ _ _ _ _ _ _ _ _)⟩⟩, fun a1 => ⟨hv, eqK' ?_ (h _ _ _ _ _ _ _ _ _ _ _)⟩⟩, fun a0 => ⟨hv, eqK' ?_ (h _ _ _ _ _ _ _ _ _ _ _)⟩⟩
        · rw [r4 a0 a1 a2 a3, k3, x3]
        · rw [r3 a3, k2, x2]
        · rw [r2 a2, k1, x1]
        · rw [r1 a1, hrW z lz]
        · rw [r0 a0, (hrow z lz).1, (hrow z lz).2.2.1]
      rw [ez]
      refine ⟨fun a0 => ⟨fun a1 => ⟨fun a2 => ⟨fun a3 => ⟨hv, ?_⟩, fun a3 => ⟨hv, ?_⟩⟩, fun a2 => ⟨hv, ?_⟩⟩, fun a1 => ⟨hv, ?_⟩⟩, fun a0 => ⟨hv, ?_⟩⟩
      · exact m _ (fun q => absurd q a0) (fun q => absurd q a1) (fun q => absurd q a2) (fun q => absurd q a3) (fun _ _ _ _ => rfl)
      · exact m _ (fun q => absurd q a0) (fun q => absurd q a1) (fun q => absurd q a2) (fun _ => rfl) (fun _ _ _ q => absurd a3 q)
      · exact m _ (fun q => absurd q a0) (fun q => absurd q a1) (fun _ => rfl) (fun q => absurd (a2.symm.trans q) (by decide)) (fun _ _ q => absurd a2 q)
      · exact m _ (fun q => absurd q a0) (fun _ => rfl) (fun q => absurd (a1.symm.trans q) (by decide)) (fun q => absurd (a1.symm.trans q) (by decide)) (fun _ q => absurd a1 q)
      · exact m _ (fun _ => rfl) (fun q => absurd (a0.symm.trans q) (by decide)) (fun q => absurd (a0.symm.trans q) (by decide)) (fun q => absurd (a0.symm.trans q) (by decide)) (fun q => absurd a0 q)
    · unfold wp_Model_row
      exact mi_nz (a := 0) rfl hb (fun _ => mi_nz (a := 0) (b := 4) rfl rfl (fun _ => s_findQuarters hc hOK hbM hbc hS hM hsc n8 hrc hrS hsa (fun g => absurd g hall) (fun _ a b c d q => ⟨fun z => absurd rfl z, fun _ => eqK (h _ _ _ _ _ _ _ _ _ _ _)⟩)) (fun n => absurd y2 n)) (fun n => absurd y1 n)
  · unfold wp_Model_row
    exact mi_nz (a := 0) rfl hb (fun _ => mi_nz (a := 0) (b := 4) rfl rfl (fun y => absurd y n2) (fun _ => eqK (h _ _ _ _ _ _ _ _ _ _ _))) (fun n => absurd y1 n)
theorem j_total {mx my sx sy la lb fl : Int32} {bX0 bY0 bX1 bY1 sx0 sy0 sx1 sy1 len tm heat bars seams : Nat → Int32} {bc sc : Int32} {lu ld hu hd : Int64} {gap turn travel lift cool hx hy rc : Int32} {ps pw pb pe pr rS rW qs mb me mr : Nat → Int32} {K : (Nat → Int32) → (Nat → Int32) → (Nat → Int32) → Int64 → Int64 → Int64 → Int64 → (Nat → Int32) → (Nat → Int32) → (Nat → Int32) → (Nat → Int32) → Prop} (hc : cellOK mx my sx sy la lb fl) (hg : gapOK gap) (hp : paceOK turn travel lift cool hx hy) (hB : gBa bc bX0 bY0 bX1 bY1 bars) (hG : gSe sc sx0 sy0 sx1 sy1 len tm heat seams) (hR : gRo sc rc ps pw rS rW) (h : ∀ (a b c : Nat → Int32) (w x y z : Int64) (d e f g : Nat → Int32), K a b c w x y z d e f g) : wp_SeamCell_total mx my sx sy la lb fl bc bX0 bY0 bX1 bY1 gap turn travel lift cool hx hy rc ps pw pb pe pr sx0 sy0 sx1 sy1 tm heat (fun o0 o1 o2 o3 => wp_Model_total mx my la lb fl gap turn travel lift cool hx hy bc sc rc lu ld hu hd sx sy bars seams rS rW qs mb me mr (fun q0 q1 q2 q3 q4 q5 q6 q7 q8 => (o0 = q0 → K o1 o2 o3 q1 q2 q3 q4 q5 q6 q7 q8) ∧ (¬ o0 = q0 → False))) := by
  obtain ⟨ns, hsc, hS, hM, hT, hL⟩ := hG
  obtain ⟨nb, hbc, hOK, hbM⟩ := hB
  obtain ⟨ns', n, p, hsc', hrc, hle, hva, hrow⟩ := hR
  have ens : ns' = ns := by omega
  subst ens
  have h8 := hS.1
  have n8 : n ≤ 8 := by omega
  have hps : ∀ j, j < n → (ps j).toInt = ((sA p j : Nat) : Int) := fun j hj => by
    have := hva.1 j hj
    rw [(hrow j hj).1]
    exact nI_t (by omega)
  have hrS : ∀ j, j < n → (rS j).toInt = ((sA p j : Nat) : Int) := fun j hj => by
    have := hva.1 j hj
    rw [(hrow j hj).2.2.1]
    exact nI_t (by omega)
  have hsa : ∀ j, j < n → sA p j < ns' := fun j hj => by
    have := hva.1 j hj
    show p j / 2 < ns'
    omega
  have hrW : ∀ j, j < n → rW j = pw j := fun j hj => by rw [(hrow j hj).2.2.2, (hrow j hj).2.1]
  have hw : ∀ j, j < n → pw j = 0 ∨ pw j = 1 := fun j hj => by
    rw [(hrow j hj).2.1]
    rcases (show p j % 2 = 0 ∨ p j % 2 = 1 by omega) with e | e
    · exact Or.inl (by rw [e]; rfl)
    · exact Or.inr (by rw [e]; rfl)
  have c0 : (0 : Int32).toInt = 0 := rfl
  have o1 : (1 : Int32).toInt = 1 := rfl
  unfold wp_SeamCell_total
  refine s_reckon hc hOK hbc hS hg hp n8 hrc hps hsa (fun hall b e r hv3 => ⟨fun q => absurd q (by decide), fun _ => ?_⟩) (fun hall b e r => ⟨fun _ => ?_, fun q => absurd rfl q⟩)
  · have m : ∀ o0 : Int32, (n = 0 → o0 = 0) → (0 < n → o0 = e (n - 1)) → wp_Model_total mx my la lb fl gap turn travel lift cool hx hy bc sc rc lu ld hu hd sx sy bars seams rS rW qs mb me mr (fun q0 q1 q2 q3 q4 q5 q6 q7 q8 => (o0 = q0 → K b e r q1 q2 q3 q4 q5 q6 q7 q8) ∧ (¬ o0 = q0 → False)) := by
      intro o0 r0 r1
      unfold wp_Model_total
      refine s_findQuarters hc hOK hbM hbc hS hM hsc n8 hrc hrS hsa (fun _ a b' c' d' q hq => ⟨fun _ => ?_, fun z => absurd z (by decide)⟩) (fun g => absurd hall g)
      refine s_workRow hc hOK hbM hbc hS hM hg hp hT n8 hrc hrS hsa hrW hw hall hq (fun a b' c' d' x y w hx => ?_)
      rw [i_eq hrc c0]
      refine ⟨fun a0 => ?_, fun a0 => eqK' (r0 (by omega)) (h _ _ _ _ _ _ _ _ _ _ _)⟩
      have il : (rc - (1 : Int32)).toInt = ((n - 1 : Nat) : Int) := by rw [tS hrc o1 (by omega)]; omega
      rw [cl_t il]
      refine ⟨vp_t il (by omega), eqK' ?_ (h _ _ _ _ _ _ _ _ _ _ _)⟩
      rw [r1 (by omega), (hv3 (n - 1) (by omega)).2.1, (hx (n - 1) (by omega)).2.1]
    unfold wp_Plan_lastEnd
    rw [i_le o1 hrc]
    refine ⟨fun c => ?_, fun c => m _ (fun _ => rfl) (fun q => absurd q (by omega))⟩
    have il : (rc - (1 : Int32)).toInt = ((n - 1 : Nat) : Int) := by rw [tS hrc o1 (by omega)]; omega
    rw [cl_t il]
    exact ⟨vp_t il (by omega), m _ (fun q => absurd q (by omega)) (fun _ => rfl)⟩
  · unfold wp_Model_total
    exact s_findQuarters hc hOK hbM hbc hS hM hsc n8 hrc hrS hsa (fun g => absurd g hall) (fun _ a b c d q => ⟨fun z => absurd rfl z, fun _ => eqK (h _ _ _ _ _ _ _ _ _ _ _)⟩)
theorem j_best {mx my sx sy la lb fl : Int32} {bX0 bY0 bX1 bY1 sx0 sy0 sx1 sy1 len tm heat bars seams : Nat → Int32} {bc sc : Int32} {lu ld hu hd : Int64} {gap turn travel lift cool hx hy rc cn fe : Int32} {ps pw sq st sr nm lA lB co sp fo rS rW qs mb me mr bR : Nat → Int32} {mv : Nat → Nat → Int32} {K : Int32 → (Nat → Int32) → (Nat → Int32) → Int32 → Int32 → (Nat → Int32) → (Nat → Int32) → (Nat → Int32) → (Nat → Int32) → (Nat → Int32) → (Nat → Int32) → (Nat → Int32) → (Nat → Int32) → (Nat → Int32) → (Nat → Nat → Int32) → Int32 → Int64 → Int64 → Int64 → Int64 → (Nat → Int32) → (Nat → Int32) → (Nat → Int32) → (Nat → Int32) → (Nat → Int32) → (Nat → Int32) → (Nat → Int32) → Prop} (hc : cellOK mx my sx sy la lb fl) (hg : gapOK gap) (hp : paceOK turn travel lift cool hx hy) (hB : gBa bc bX0 bY0 bX1 bY1 bars) (hG : gSe sc sx0 sy0 sx1 sy1 len tm heat seams) (hR : gRo sc rc ps pw rS rW) (h : ∀ (rc' : Int32) (ps' pw' : Nat → Int32) (cn' fe' : Int32) (a b c d e f g i j : Nat → Int32) (mv' : Nat → Nat → Int32) (w x y z : Int64) (rS' rW' k l m n o : Nat → Int32), gRo sc rc' ps' pw' rS' rW' → K rc' ps' pw' cn' fe' a b c d e f g i j mv' rc' w x y z rS' rW' k l m n o) : wp_SeamCell_best mx my sx sy la lb fl bc bX0 bY0 bX1 bY1 sc gap turn travel lift cool hx hy rc ps pw cn fe sq st sr nm lA lB co sp fo sx0 sy0 sx1 sy1 tm heat mv (fun o0 o1 o2 o3 o4 o5 o6 o7 o8 o9 o10 o11 o12 o13 o14 o15 => wp_Model_best mx my la lb fl gap turn travel lift cool hx hy bc sc rc lu ld hu hd sx sy bars seams rS rW qs mb me mr bR (fun q0 q1 q2 q3 q4 q5 q6 q7 q8 q9 q10 q11 q12 => (o0 = q0 → K o1 o2 o3 o4 o5 o6 o7 o8 o9 o10 o11 o12 o13 o14 o15 q1 q2 q3 q4 q5 q6 q7 q8 q9 q10 q11 q12) ∧ (¬ o0 = q0 → False))) := by
  have h0 := fun cn fe a b c d e f g i j mv w x y z k l m n o => h rc ps pw cn fe a b c d e f g i j mv w x y z rS rW k l m n o hR
  obtain ⟨ns, hsc, hS, hM, hT, hL⟩ := hG
  obtain ⟨nb, hbc, hOK, hbM⟩ := hB
  refine s_best hc hOK hbc hS hg hp hT hsc (fun c4 => ?_) (fun c6 nall => ?_) (fun c6 hall r ps' pw' cn' fe' q t r' m a b c s f v hr hrow => ?_)
  · exact s_mbest hc hOK hbM hbc hS hM hg hp hT hsc (fun _ => eqK (h0 _ _ _ _ _ _ _ _ _ _ _ _ _ _ _ _ _ _ _ _ _)) (fun c => absurd c (by omega)) (fun c => absurd c (by omega))
  · exact s_mbest hc hOK hbM hbc hS hM hg hp hT hsc (fun c => absurd c (by omega)) (fun _ _ w x y z => eqK (h0 _ _ _ _ _ _ _ _ _ _ _ _ _ _ _ _ _ _ _ _ _)) (fun _ g => absurd g nall)
  · have hTT : tOK (fun a => a < ns) (qtV mx my sx sy la lb fl nb bX0 bY0 bX1 bY1 sx0 sy0 sx1 sy1) (gX mx my sx sy la lb fl nb bX0 bY0 bX1 bY1 sx0 sy0 sx1 sy1) (gY mx my sx sy la lb fl nb bX0 bY0 bX1 bY1 sx0 sy0 sx1 sy1) (freeP nb bX0 bY0 bX1 bY1) tm (rsF heat cool) (nearP gap sx0 sy0 sx1 sy1) turn travel lift hx hy := tOK_of (seams := seams) hc hS hp hT (fun a ha => ⟨ha, hall a ha⟩)
    have hva := (FD_fin hTT c6).2.2
    refine s_mbest hc hOK hbM hbc hS hM hg hp hT hsc (fun c => absurd c (by omega)) (fun _ g => absurd hall g) (fun _ _ r2 w x y z rS' rW' k l m2 n o hr2 hrow2 => eqK' (Int32.toInt_inj.mp (by rw [hr, hr2])) (h _ _ _ _ _ _ _ _ _ _ _ _ _ _ _ _ _ _ _ _ _ _ _ _ _ _ ?_))
    exact ⟨ns, ns, _, hsc, nI_t (by have := hS.1; omega), by omega, hva, fun j hj => ⟨(hrow j hj).1, (hrow j hj).2, (hrow2 j hj).1, (hrow2 j hj).2⟩⟩
