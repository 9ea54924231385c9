/-! two arms: zones and waits -/
def bitT (z n : Int32) : Int32 := (z >>> (n &&& 31)) &&& (1 : Int32)
theorem and1 (x : Int32) : x &&& (1 : Int32) = 0 ∨ x &&& (1 : Int32) = 1 := by
  have h := pk_and x (m := 1) 1 rfl
  rw [h]
  rcases (show x.toBitVec.toNat % 2 ^ 1 = 0 ∨ x.toBitVec.toNat % 2 ^ 1 = 1 by omega) with e | e <;> rw [e]
  · exact Or.inl rfl
  · exact Or.inr rfl
theorem bit01 (z n : Int32) : bitT z n = 0 ∨ bitT z n = 1 := and1 _
theorem bit_n0 {z n : Int32} : ¬ bitT z n = 0 ↔ bitT z n = 1 := by
  rcases bit01 z n with h | h <;> rw [h] <;> decide
theorem bit_n1 {z n : Int32} : ¬ bitT z n = 1 ↔ bitT z n = 0 := by
  rcases bit01 z n with h | h <;> rw [h] <;> decide
def zn (kd sz : Nat → Int32) : Nat → Int32
  | 0 => 0
  | k + 1 => if kd k = 1 then zn kd sz k ||| ((1 : Int32) <<< (sz k &&& 31)) else if kd k = 2 then zn kd sz k &&& (((1 : Int32) <<< (sz k &&& 31)) ^^^ (-1 : Int32)) else zn kd sz k
theorem zn_congr {kd sz kd' sz' : Nat → Int32} : ∀ k, (∀ j, j < k → kd j = kd' j ∧ sz j = sz' j) → zn kd sz k = zn kd' sz' k
  | 0, _ => rfl
  | k + 1, h => by
    unfold zn
    rw [(h k (by omega)).1, (h k (by omega)).2, zn_congr k (fun j hj => h j (by omega))]
def actsM (n ar : Nat) (acts kd sz : Nat → Int32) : Prop := ∀ k, k < n → acts (32 * ar + 2 * k) = kd k ∧ acts (32 * ar + 2 * k + 1) = sz k
def actsOK (n : Nat) (kd sz zb : Nat → Int32) : Prop := n ≤ 16 ∧ (∀ k, k < n → (kd k = 0 ∧ 1 ≤ (sz k).toInt ∧ (sz k).toInt ≤ 50) ∨ ((kd k = 1 ∨ kd k = 2) ∧ 0 ≤ (sz k).toInt ∧ (sz k).toInt ≤ 4)) ∧ ∀ k, k ≤ n → zb k = zn kd sz k
/-- act k of an arm has to wait while the other one is in the zones zo -/
def wtP (kd sz : Nat → Int32) (zo : Int32) (k : Nat) : Prop := kd k = 1 ∧ bitT zo (sz k) = 1
theorem ix32 {p q : Int32} {ar k : Nat} (hp : p.toInt = (ar : Int)) (ha : ar < 2) (hq : q.toInt = (k : Int)) (hk : k < 17) : ((32 : Int32) * p + (2 : Int32) * q).toInt = ((32 * ar + 2 * k : Nat) : Int) ∧ ((32 : Int32) * p + (2 : Int32) * q + (1 : Int32)).toInt = ((32 * ar + 2 * k + 1 : Nat) : Int) := by
  have c32 : (32 : Int32).toInt = 32 := rfl
  have c2 : (2 : Int32).toInt = 2 := rfl
  have c1 : (1 : Int32).toInt = 1 := rfl
  have i0 : ((32 : Int32) * p + (2 : Int32) * q).toInt = ((32 * ar + 2 * k : Nat) : Int) := by rw [tA (tM c32 hp (by omega)) (tM c2 hq (by omega)) (by omega)]; omega
  exact ⟨i0, by rw [tA i0 c1 (by omega)]; omega⟩
theorem s_kindOf {n ar k : Nat} {acts kd sz : Nat → Int32} {p q : Int32} {post : Int32 → Prop} (hm : actsM n ar acts kd sz) (hp : p.toInt = (ar : Int)) (ha : ar < 2) (hq : q.toInt = (k : Int)) (hk : k < n) (hn : n ≤ 16) (h : post (kd k)) : wp_Model_kindOf acts p q post := by
  unfold wp_Model_kindOf
  obtain ⟨i0, -⟩ := ix32 hp ha hq (by omega)
  rw [cl_t i0, (hm k hk).1]
  exact ⟨vp_t i0 (by omega), h⟩
theorem s_numberOf {n ar k : Nat} {acts kd sz : Nat → Int32} {p q : Int32} {post : Int32 → Prop} (hm : actsM n ar acts kd sz) (hp : p.toInt = (ar : Int)) (ha : ar < 2) (hq : q.toInt = (k : Int)) (hk : k < n) (hn : n ≤ 16) (h : post (sz k)) : wp_Model_numberOf acts p q post := by
  unfold wp_Model_numberOf
  obtain ⟨-, i1⟩ := ix32 hp ha hq (by omega)
  rw [cl_t i1, (hm k hk).2]
  exact ⟨vp_t i1 (by omega), h⟩
theorem s_zonesOf {n ar d : Nat} {acts kd sz : Nat → Int32} {p q : Int32} {post : Int32 → Prop} (hm : actsM n ar acts kd sz) (hp : p.toInt = (ar : Int)) (ha : ar < 2) (hq : q.toInt = (d : Int)) (hd : d ≤ n) (hn : n ≤ 16) (h : post (zn kd sz d)) : wp_Model_zonesOf acts p q post := by
  unfold wp_Model_zonesOf
  refine ⟨d + 1, ?_⟩
  have key : ∀ (m k : Nat) (y : Int32), y.toInt = (k : Int) → k + m = d → wpL_Model_zonesOf_5 acts p q post (m + 1) (zn kd sz k) y := by
    intro m
    induction m with
    | zero =>
      intro k y hy hk
      show wpB_Model_zonesOf_5 acts p q post (wpL_Model_zonesOf_5 acts p q post 0) _ y
      unfold wpB_Model_zonesOf_5
      rw [i_le hq hy]
      refine ⟨fun _ => ?_, fun z => absurd (by omega) z⟩
      rw [show k = d by omega]; exact h
    | succ m ih =>
      intro k y hy hk
      show wpB_Model_zonesOf_5 acts p q post (wpL_Model_zonesOf_5 acts p q post (m + 1)) _ y
      unfold wpB_Model_zonesOf_5
      rw [i_le hq hy]
      have nx : ∀ y' : Int32, y' = y + (1 : Int32) → wpL_Model_zonesOf_5 acts p q post (m + 1) (zn kd sz (k + 1)) y' := fun y' e => ih (k + 1) y' (by rw [e]; exact inc_t hy (by omega)) (by omega)
      have hkn : k < n := by omega
      refine ⟨fun z => absurd z (by omega), fun _ => s_numberOf hm hp ha hy hkn hn (fun x5 e5 => s_kindOf hm hp ha hy hkn hn ⟨fun c1 => s_kindOf hm hp ha hy hkn hn ⟨fun c2 y' e => ?_, fun c2 x3 e3 y' e => ?_⟩, fun c1 x3 e3 y' e => ?_⟩)⟩
      · have := nx y' e
        unfold zn at this
        rw [if_neg c1, if_neg c2] at this
        exact this
      · have := nx y' e
        unfold zn at this
        rw [if_neg c1, if_pos c2] at this
        rw [e3, e5]; exact this
      · have := nx y' e
        unfold zn at this
        rw [if_pos c1] at this
        rw [e3, e5]; exact this
  exact key d 0 0 rfl (by omega)
theorem oth {p : Int32} {ar : Nat} (hp : p.toInt = (ar : Int)) (ha : ar < 2) : ((1 : Int32) - p).toInt = ((1 - ar : Nat) : Int) := by
  have c1 : (1 : Int32).toInt = 1 := rfl
  rw [tS c1 hp (by omega)]; omega
theorem s_waits {n n' ar k o : Nat} {acts kd sz kd' sz' : Nat → Int32} {p q r : Int32} {post : Int32 → Prop} (hm : actsM n ar acts kd sz) (hm' : actsM n' (1 - ar) acts kd' sz') (hp : p.toInt = (ar : Int)) (ha : ar < 2) (hq : q.toInt = (k : Int)) (hk : k < n) (hn : n ≤ 16) (hr : r.toInt = (o : Int)) (ho : o ≤ n') (hn' : n' ≤ 16)
    (h1 : wtP kd sz (zn kd' sz' o) k → post 1) (h0 : ¬ wtP kd sz (zn kd' sz' o) k → post 0) : wp_Model_waits acts p q r post := by
  unfold wp_Model_waits
  refine s_kindOf hm hp ha hq hk hn ⟨fun c => h0 (fun w => c w.1), fun c => ?_⟩
  refine s_zonesOf hm' (oth hp ha) (by omega) hr ho hn' (s_numberOf hm hp ha hq hk hn ⟨fun c2 => h0 (fun w => c2 w.2), fun c2 => h1 ⟨c, c2⟩⟩)
theorem s_canDo {n n' ar k o : Nat} {acts am kd sz kd' sz' : Nat → Int32} {p q r : Int32} {post : Int32 → Prop} (hm : actsM n ar acts kd sz) (hm' : actsM n' (1 - ar) acts kd' sz') (ham : (am ar).toInt = (n : Int)) (hp : p.toInt = (ar : Int)) (ha : ar < 2) (hq : q.toInt = (k : Int)) (hn : n ≤ 16) (hr : r.toInt = (o : Int)) (ho : o ≤ n') (hn' : n' ≤ 16)
    (h1 : k < n → ¬ wtP kd sz (zn kd' sz' o) k → post 1) (h0 : ¬ (k < n ∧ ¬ wtP kd sz (zn kd' sz' o) k) → post 0) : wp_Model_canDo acts am p q r post := by
  unfold wp_Model_canDo
  rw [cl_t hp, i_le ham hq]
  refine ⟨vp_t hp ha, fun c => h0 (fun w => by omega), fun c => ?_⟩
  have hk : k < n := by omega
  exact s_waits hm hm' hp ha hq hk hn hr ho hn' (fun w => ⟨fun _ => h0 (fun v => v.2 w), fun z => absurd z (by decide)⟩) (fun w => ⟨fun z => absurd rfl z, fun _ => h1 hk w⟩)
theorem s_goes {n k : Nat} {kd sz : Nat → Int32} {cnt q tk : Int32} {post : Int32 → Prop} (hc : cnt.toInt = (n : Int)) (hn : n ≤ 16) (hq : q.toInt = (k : Int)) (h1 : k < n → ¬ wtP kd sz tk k → post 1) (h0 : ¬ (k < n ∧ ¬ wtP kd sz tk k) → post 0) : wp_Acts_goes cnt kd sz q tk post := by
  unfold wp_Acts_goes
  have z0 : (0 : Int32).toInt = 0 := rfl
  rw [i_lt hq z0, i_lt hq hc, cl_t hq]
  refine ⟨fun c => absurd c (by omega), fun _ => ⟨fun c => ?_, fun c => h0 (fun w => c (by omega))⟩⟩
  have hk : k < n := by omega
  have v := vp_t (N := 16) hq (by omega)
  exact ⟨v, fun c1 => h1 hk (fun w => c1 w.1), fun c1 => ⟨v, fun c2 => h0 (fun w => w.2 ⟨c1, bit_n0.mp c2⟩), fun c2 => h1 hk (fun w => bit_n1.mpr c2 w.2)⟩⟩
theorem s_endsIn {n : Nat} {kd sz zb : Nat → Int32} {cnt z : Int32} {post : Int32 → Prop} (hA : actsOK n kd sz zb) (hc : cnt.toInt = (n : Int)) (h1 : bitT (zn kd sz n) z = 1 → post 1) (h0 : ¬ bitT (zn kd sz n) z = 1 → post 0) : wp_Acts_endsIn cnt zb z post := by
  unfold wp_Acts_endsIn
  rw [cl_t hc, hA.2.2 n (Nat.le_refl n)]
  have := hA.1
  exact ⟨vp_t hc (by omega), fun c => h0 (bit_n1.mpr c), fun c => h1 (bit_n0.mp c)⟩
theorem s_append {n : Nat} {kd sz zb : Nat → Int32} {cnt k z : Int32} {post : Int32 → (Nat → Int32) → (Nat → Int32) → (Nat → Int32) → Prop} (hA : actsOK n kd sz zb) (hc : cnt.toInt = (n : Int)) (hn : n < 16) (hv : (k = 0 ∧ 1 ≤ z.toInt ∧ z.toInt ≤ 50) ∨ ((k = 1 ∨ k = 2) ∧ 0 ≤ z.toInt ∧ z.toInt ≤ 4))
    (h : ∀ (c : Int32) (zb' : Nat → Int32), c = cnt + (1 : Int32) → actsOK (n + 1) (upd kd n k) (upd sz n z) zb' → post c (upd kd n k) (upd sz n z) zb') : wp_Acts_append cnt kd sz zb k z post := by
  unfold wp_Acts_append
  have c16 : (16 : Int32).toInt = 16 := rfl
  rw [i_lt hc c16, cl_t hc, hA.2.2 n (Nat.le_refl n)]
  refine ⟨fun _ => ?_, fun z => absurd (by omega) z⟩
  have v := vp_t (N := 16) hc hn
  have fin : ∀ (f x : Int32) (g : Nat → Int32), f = cnt + (1 : Int32) → x = zn (upd kd n k) (upd sz n z) (n + 1) → g = upd zb f.toNatClampNeg x → post f (upd kd n k) (upd sz n z) g := by
    intro f x g ef ex eg
    refine h f g ef ⟨by omega, fun j hj => ?_, fun j hj => ?_⟩
    · rcases Nat.lt_or_ge j n with q | q
      · rw [u_ne (by omega), u_ne (by omega)]; exact hA.2.1 j q
      · rw [show j = n by omega, u_eq, u_eq]; exact hv
    · have tf : f.toInt = ((n + 1 : Nat) : Int) := by rw [ef]; exact inc_t hc (by omega)
      rw [eg, cl_t tf]
      rcases Nat.lt_or_ge j (n + 1) with q | q
      · rw [u_ne (by omega), hA.2.2 j (by omega)]
        exact zn_congr j (fun i hi => ⟨(u_ne (by omega)).symm, (u_ne (by omega)).symm⟩)
      · rw [show j = n + 1 by omega, u_eq, ex]
  have zs : zn (upd kd n k) (upd sz n z) (n + 1) = if k = 1 then zn kd sz n ||| ((1 : Int32) <<< (z &&& 31)) else if k = 2 then zn kd sz n &&& (((1 : Int32) <<< (z &&& 31)) ^^^ (-1 : Int32)) else zn kd sz n := by
    have e : zn (upd kd n k) (upd sz n z) n = zn kd sz n := zn_congr n (fun i hi => ⟨u_ne (by omega), u_ne (by omega)⟩)
    rw [show zn (upd kd n k) (upd sz n z) (n + 1) = if upd kd n k n = 1 then zn (upd kd n k) (upd sz n z) n ||| ((1 : Int32) <<< (upd sz n z n &&& 31)) else if upd kd n k n = 2 then zn (upd kd n k) (upd sz n z) n &&& (((1 : Int32) <<< (upd sz n z n &&& 31)) ^^^ (-1 : Int32)) else zn (upd kd n k) (upd sz n z) n from rfl, u_eq, u_eq, e]
  have vf : ∀ f : Int32, f = cnt + (1 : Int32) → vp_in f 17 := fun f ef => by rw [ef]; exact vp_t (inc_t hc (by omega)) (by omega)
  refine ⟨v, fun g2 e2 => ⟨v, fun g3 e3 => ⟨vp_t hc (by omega), fun x3 ex => ?_⟩⟩⟩
  rw [e2, e3]
  refine ⟨fun c1 => ⟨fun c2 f ef => ⟨vf f ef, fun g eg => fin f x3 g ef (by rw [zs, if_neg c1, if_neg c2]; exact ex) eg⟩, fun c2 y ey f ef => ⟨vf f ef, fun g eg => fin f y g ef (by rw [zs, if_neg c1, if_pos c2, ey, ex]) eg⟩⟩, fun c1 y ey => ⟨fun c2 f ef => ⟨vf f ef, fun g eg => fin f y g ef (by rw [zs, if_pos c1, ey, ex]) eg⟩, fun c2 => absurd (c1.symm.trans c2) (by decide)⟩⟩
