/-! the reference's run -/
def mD (d l : Nat) : Nat := if l = 0 then d else d - 1
theorem mD_0 {d : Nat} : mD d 0 = d := if_pos rfl
theorem mD_s {d l : Nat} (h : ¬ l = 0) : mD d l = d - 1 := if_neg h
theorem mD_le {n : Nat} {kd : Nat → Int32} {d l : Nat} (h : AI n kd d l) : mD d l ≤ n := by
  have := h.1
  unfold mD
  by_cases c : l = 0
  · rw [if_pos c]; exact this
  · rw [if_neg c]; omega
theorem zn_mD {n : Nat} {kd sz : Nat → Int32} {d l : Nat} (h : AI n kd d l) : zn kd sz (mD d l) = zn kd sz d := by
  unfold mD
  by_cases c : l = 0
  · rw [if_pos c]
  · rw [if_neg c]
    obtain ⟨q1, q2⟩ := h.2.2 (by omega)
    obtain ⟨e, rfl⟩ : ∃ e, d = e + 1 := ⟨d - 1, by omega⟩
    rw [Nat.add_sub_cancel] at q2 ⊢
    rw [show zn kd sz (e + 1) = if kd e = 1 then zn kd sz e ||| ((1 : Int32) <<< (sz e &&& 31)) else if kd e = 2 then zn kd sz e &&& (((1 : Int32) <<< (sz e &&& 31)) ^^^ (-1 : Int32)) else zn kd sz e from rfl, q2, if_neg (by decide), if_neg (by decide)]
theorem s_misOver {n ar d l : Nat} {kd am dn lf : Nat → Int32} {p : Int32} {post : Int32 → Prop} (hI : AI n kd d l) (ham : (am ar).toInt = (n : Int)) (hp : p.toInt = (ar : Int)) (ha : ar < 2) (hd : (dn ar).toInt = (mD d l : Int)) (hl : (lf ar).toInt = (l : Int)) (h : ∀ b : Int32, (b = 0 ↔ ¬ ovP n d l) → post b) : wp_Model_isOver am dn lf p post := by
  unfold wp_Model_isOver
  have z0 : (0 : Int32).toInt = 0 := rfl
  have v := vp_t (N := 2) hp ha
  rw [cl_t hp, i_eq hd ham, i_eq hl z0]
  have dn := hI.1
  refine ⟨v, v, fun c => h 0 ⟨fun _ q => ?_, fun _ => rfl⟩, fun c => ⟨v, fun e => h 0 ⟨fun _ q => e (by rw [q.2]; rfl), fun _ => rfl⟩, fun e => h 1 ⟨fun q => absurd q (by decide), fun q => absurd ⟨?_, by omega⟩ q⟩⟩⟩
  · rw [q.2, mD_0, q.1] at c; exact c rfl
  · rw [show l = 0 by omega, mD_0] at c; omega
theorem s_mgoes {n n' ar d l o : Nat} {acts am dn lf kd sz zb kd' sz' : Nat → Int32} {zo p : Int32} {post : Int32 → (Nat → Int32) → (Nat → Int32) → Prop} (hA : actsOK n kd sz zb) (hI : AI n kd d l) (hm : actsM n ar acts kd sz) (hm' : actsM n' (1 - ar) acts kd' sz') (hn' : n' ≤ 16) (ham : (am ar).toInt = (n : Int)) (hp : p.toInt = (ar : Int)) (ha : ar < 2) (hd : (dn ar).toInt = (mD d l : Int)) (hl : (lf ar).toInt = (l : Int)) (ho : (dn (1 - ar)).toInt = (o : Int)) (hon : o ≤ n') (hz : zn kd' sz' o = zo)
    (h : ∀ (b : Int32) (dn' lf' : Nat → Int32), (b = 0 ↔ ¬ tkW n kd sz zo d l) → dn' (1 - ar) = dn (1 - ar) → lf' (1 - ar) = lf (1 - ar) → (dn' ar).toInt = (mD (tkD n kd sz zo d l) (tkL n kd sz zo d l) : Int) → (lf' ar).toInt = (tkL n kd sz zo d l : Int) → post b dn' lf') : wp_Model_goes acts am dn lf p post := by
  have hn := hA.1
  have hdn := hI.1
  have h49 := hI.2.1
  have v := vp_t (N := 2) hp ha
  have v' := vp_t (N := 2) (oth hp ha) (by omega)
  have c1 : (1 : Int32).toInt = 1 := rfl
  have z0 : (0 : Int32).toInt = 0 := rfl
  have ne : 1 - ar ≠ ar := by omega
  unfold wp_Model_goes
  rw [cl_t hp, i_le hl z0]
  refine ⟨v, fun c => ⟨n - d + 1, ?_⟩, fun c => ⟨v, fun t et => ⟨v, fun g eg => ⟨v, v, ?_⟩⟩⟩⟩
  · have l0 : l = 0 := by omega
    rw [l0, mD_0] at hd
    have hb := avA_bd (n := n) (kd := kd) (sz := sz) (zo := zo) hdn
    have stop : ∀ (e : Nat) (g : Nat → Int32) (f : Int32), (g ar).toInt = (e : Int) → g (1 - ar) = dn (1 - ar) → (f = 0 ↔ e = d) → e = avA n kd sz zo d → ¬ (e < n ∧ kd e = 0) → ((¬ f = 0 → post 0 g lf) ∧ (f = 0 → (vp_in p 2 ∧ vp_in p 2 ∧ ((am ar ≤ g ar → post 0 g lf) ∧ (¬ am ar ≤ g ar → post 1 g lf))))) := by
      intro e g f hg hg' hf he hw
      have eD : tkD n kd sz zo d l = e := by unfold tkD; rw [if_pos l0, ← he, if_neg hw]
      have eL : tkL n kd sz zo d l = 0 := by unfold tkL; rw [if_pos l0, ← he, if_neg hw]
      have fin : ∀ b : Int32, (b = 0 ↔ ¬ tkW n kd sz zo d l) → post b g lf := fun b hb => h b g lf hb hg' rfl (by rw [eD, eL, mD_0]; exact hg) (by rw [eL, hl, l0])
      rw [i_le ham hg]
      refine ⟨fun q => fin 0 ⟨fun _ w => q (hf.mpr (by rw [← eD]; exact w.2.1)), fun _ => rfl⟩, fun q => ⟨v, v, fun k => fin 0 ⟨fun _ w => ?_, fun _ => rfl⟩, fun k => fin 1 ⟨fun w => absurd w (by decide), fun w => absurd ⟨l0, by rw [eD]; exact hf.mp q, ?_⟩ w⟩⟩⟩
      · have := hf.mp q
        have := w.2.2
        omega
      · have := hf.mp q
        omega
    have key : ∀ (m e : Nat) (g : Nat → Int32) (f : Int32), (g ar).toInt = (e : Int) → g (1 - ar) = dn (1 - ar) → (f = 0 ↔ e = d) → d ≤ e → e + m = n → avA n kd sz zo e = avA n kd sz zo d → wpL_Model_goes_46 acts am lf p post (m + 1) g f := by
      intro m
      induction m with
      | zero =>
        intro e g f hg hg' hf hde he hav
        show wpB_Model_goes_46 acts am lf p post (wpL_Model_goes_46 acts am lf p post 0) g f
        unfold wpB_Model_goes_46
        rw [cl_t hp]
        have st := stop e g f hg hg' hf (by rw [← hav, avA_e (fun w => by omega)]) (fun w => by omega)
        refine ⟨v, v, fun _ => st, fun q => absurd ((i_le ham hg).mpr (by omega)) q⟩
      | succ m ih =>
        intro e g f hg hg' hf hde he hav
        show wpB_Model_goes_46 acts am lf p post (wpL_Model_goes_46 acts am lf p post (m + 1)) g f
        unfold wpB_Model_goes_46
        rw [cl_t hp, cl_t (oth hp ha), hg']
        refine ⟨v, v, fun q => absurd ((i_le ham hg).mp q) (by omega), fun q => ⟨v, v', ?_⟩⟩
        have hen : e < n := by omega
        refine s_waits hm hm' hp ha hg hen hn ho hon hn' (fun w => ?_) (fun w => ?_)
        · rw [hz] at w
          have k0 : ¬ kd e = 0 := fun k => by rw [w.1] at k; exact absurd k (by decide)
          exact ⟨fun _ => stop e g f hg hg' hf (by rw [← hav, avA_e (fun u => u.2.2 w)]) (fun u => k0 u.2), fun u => absurd u (by decide)⟩
        · rw [hz] at w
          refine ⟨fun u => absurd rfl u, fun _ => ⟨v, s_kindOf hm hp ha hg hen hn ⟨fun k0 => ⟨v, fun t et => ⟨v, fun g' eg' => ?_⟩⟩, fun k0 => ⟨v, s_numberOf hm hp ha hg hen hn (fun t et => ⟨v, fun g' eg' => ⟨v, v, ?_⟩⟩)⟩⟩⟩⟩
          · rw [eg']
            refine ih (e + 1) _ 1 (by rw [u_eq, et]; exact inc_t hg (by omega)) (by rw [u_ne ne]; exact hg') ⟨fun u => absurd u (by decide), fun u => by omega⟩ (by omega) (by omega) (by rw [← avA_s hen k0 w]; exact hav)
          · have he' : e = avA n kd sz zo d := by rw [← hav, avA_e (fun u => u.2.1 k0)]
            have hw : avA n kd sz zo d < n ∧ kd (avA n kd sz zo d) = 0 := by rw [← he']; exact ⟨hen, k0⟩
            have eD : tkD n kd sz zo d l = e + 1 := by unfold tkD; rw [if_pos l0, if_pos hw, ← he']
            have eL : tkL n kd sz zo d l = (sz e).toInt.toNat - 1 := by unfold tkL; rw [if_pos l0, if_pos hw, ← he']
            have bs : 1 ≤ (sz e).toInt ∧ (sz e).toInt ≤ 50 := by
              rcases hA.2.1 e hen with q | q
              · exact q.2
              · rcases q.1 with r | r <;> rw [k0] at r <;> exact absurd r (by decide)
            have nw : ¬ tkW n kd sz zo d l := fun u => by have := u.2.1; omega
            have tt : t.toInt = (tkL n kd sz zo d l : Int) := by rw [et, tS rfl c1 (by omega), eL]; omega
            rw [eg', u_eq, i_eq tt z0]
            refine ⟨fun q y ey => ⟨v, fun g2 eg2 => h 0 g2 _ ⟨fun _ => nw, fun _ => rfl⟩ (by rw [eg2, u_ne ne]; exact hg') (u_ne ne) ?_ (by rw [u_eq]; exact tt)⟩, fun q y ey => ⟨v, fun g2 eg2 => h 0 g2 _ ⟨fun _ => nw, fun _ => rfl⟩ (by rw [eg2, u_ne ne]; exact hg') (u_ne ne) ?_ (by rw [u_eq]; exact tt)⟩⟩
            · rw [eg2, u_eq, ey, tA hg z0 (by omega), mD_s (by omega), eD]; omega
            · rw [eg2, u_eq, ey, tA hg c1 (by omega), show tkL n kd sz zo d l = 0 by omega, mD_0, eD]; omega
    exact key (n - d) d dn 0 hd rfl ⟨fun _ => rfl, fun _ => rfl⟩ (Nat.le_refl d) (by omega) rfl
  · have l0 : ¬ l = 0 := by omega
    have nw : ¬ tkW n kd sz zo d l := fun u => l0 u.1
    have eD : tkD n kd sz zo d l = d := by unfold tkD; rw [if_neg l0]
    have eL : tkL n kd sz zo d l = l - 1 := by unfold tkL; rw [if_neg l0]
    have tt : t.toInt = (tkL n kd sz zo d l : Int) := by rw [et, tS hl c1 (by omega), eL]; omega
    have d1 := hI.2.2 (by omega)
    rw [mD_s l0] at hd
    rw [eg, u_eq, i_eq tt z0]
    refine ⟨fun q y ey => ⟨v, fun g2 eg2 => h 0 g2 _ ⟨fun _ => nw, fun _ => rfl⟩ (by rw [eg2, u_ne ne]) (u_ne ne) ?_ (by rw [u_eq]; exact tt)⟩, fun q y ey => ⟨v, fun g2 eg2 => h 0 g2 _ ⟨fun _ => nw, fun _ => rfl⟩ (by rw [eg2, u_ne ne]) (u_ne ne) ?_ (by rw [u_eq]; exact tt)⟩⟩
    · rw [eg2, u_eq, ey, tA hd z0 (by omega), mD_s (by omega), eD]; omega
    · rw [eg2, u_eq, ey, tA hd c1 (by omega), show tkL n kd sz zo d l = 0 by omega, mD_0, eD]; omega
