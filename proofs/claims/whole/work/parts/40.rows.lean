/-! masks of seams, steps, and the ends of rows of steps -/
theorem mk_bit : ∀ u, u < 64 → ∀ s, s < 6 → ((nI u >>> (nI s &&& 31)) &&& (1 : Int32)) = if u.testBit s then 1 else 0 := by decide +kernel
theorem mk_or : ∀ u, u < 64 → ∀ s, s < 6 → nI u ||| ((1 : Int32) <<< (nI s &&& 31)) = nI (u ||| (1 <<< s)) ∧ (u ||| (1 <<< s)) < 64 ∧ ∀ t, t < 6 → (u ||| (1 <<< s)).testBit t = (u.testBit t || t == s) := by decide +kernel
theorem mk_off : ∀ u, u < 64 → ∀ s, s < 6 → nI u &&& (((1 : Int32) <<< (nI s &&& 31)) ^^^ (-1 : Int32)) = nI (u &&& (63 - (1 <<< s))) ∧ (u &&& (63 - (1 <<< s))) < 64 ∧ ∀ t, t < 6 → (u &&& (63 - (1 <<< s))).testBit t = (u.testBit t && t != s) := by decide +kernel
theorem mk_all : ∀ u, u < 64 → ∀ N, N < 7 → (nI u = ((1 : Int32) <<< (nI N &&& 31)) - (1 : Int32) ↔ ∀ s, s < 6 → u.testBit s = decide (s < N)) := by decide +kernel
theorem half : ∀ n, n < 16 → nI n / (2 : Int32) = nI (n / 2) ∧ nI n - nI n / (2 : Int32) * (2 : Int32) = nI (n % 2) := by decide +kernel
def maP (u : Nat) (p : Nat → Nat) (k : Nat) : Prop := u < 64 ∧ ∀ s, s < 6 → (u.testBit s = true ↔ usP p k s)
theorem mk_get {u : Nat} {p : Nat → Nat} {k s : Nat} (h : maP u p k) (hs : s < 6) : (((nI u >>> (nI s &&& 31)) &&& (1 : Int32)) = 0 ↔ ¬ usP p k s) ∧ (((nI u >>> (nI s &&& 31)) &&& (1 : Int32)) = 1 ↔ usP p k s) := by
  rw [mk_bit u h.1 s hs, ← h.2 s hs]
  cases u.testBit s <;> decide
theorem mk_set {u : Nat} {p : Nat → Nat} {k n : Nat} (h : maP u p k) (hn : n / 2 < 6) : ∃ u', nI u ||| ((1 : Int32) <<< (nI (n / 2) &&& 31)) = nI u' ∧ maP u' (updN p k n) (k + 1) := by
  obtain ⟨e1, e2, e3⟩ := mk_or u h.1 (n / 2) hn
  refine ⟨_, e1, e2, fun t ht => ?_⟩
  rw [e3 t ht, us_s, un_eq, us_congr (p := updN p k n) (q := p) (fun j hj => un_ne (by omega)), ← h.2 t ht]
  cases u.testBit t <;> simp <;> omega
theorem mk_clr {u : Nat} {p : Nat → Nat} {k : Nat} (h : maP u p (k + 1)) (hk : p k / 2 < 6) (hu : ¬ usP p k (p k / 2)) : ∃ u', nI u &&& (((1 : Int32) <<< (nI (p k / 2) &&& 31)) ^^^ (-1 : Int32)) = nI u' ∧ maP u' p k := by
  obtain ⟨e1, e2, e3⟩ := mk_off u h.1 (p k / 2) hk
  refine ⟨_, e1, e2, fun t ht => ?_⟩
  rw [e3 t ht]
  have h1 := h.2 t ht
  rw [us_s] at h1
  by_cases c : t = p k / 2
  · subst c
    simp [hu]
  · have : (t != p k / 2) = true := by simp [c]
    rw [this, Bool.and_true, h1]
    exact ⟨fun q => q.elim id (fun e => absurd e.symm c), Or.inl⟩
theorem mk_full {u N : Nat} {p : Nat → Nat} {k : Nat} (h : maP u p k) (hN : N < 7) (hp : ∀ j, j < k → p j < 2 * N) (hne : ¬ nI u = ((1 : Int32) <<< (nI N &&& 31)) - (1 : Int32)) : ∃ s, s < N ∧ ¬ usP p k s := by
  refine Classical.not_not.mp (fun c => hne ((mk_all u h.1 N hN).mpr (fun s hs => ?_)))
  by_cases d : s < N
  · have : usP p k s := Classical.not_not.mp (fun q => c ⟨s, d, q⟩)
    rw [(h.2 s hs).mpr this]; simp [d]
  · have : ¬ usP p k s := fun ⟨j, h1, h2⟩ => by have := hp j h1; omega
    have h2 : u.testBit s = false := by
      cases e : u.testBit s
      · rfl
      · exact absurd ((h.2 s hs).mp e) this
    rw [h2]; simp [d]
def sA (p : Nat → Nat) (j : Nat) : Nat := p j / 2
def sW (p : Nat → Nat) (j : Nat) : Int32 := nI (p j % 2)
def fqF (qa : Nat → Int32) (a : Nat) : Int32 := if a = 12 then 0 else qa (a / 2)
def fxF (ex : Nat → Int32 → Int32) (h : Int32) (a : Nat) : Int32 := if a = 12 then h else ex (a / 2) ((1 : Int32) - nI (a % 2))
def frm (p : Nat → Nat) (k : Nat) : Nat := if k = 0 then 12 else p (k - 1)
noncomputable def E3 (qa : Nat → Int32) (ex ey : Nat → Int32 → Int32) (fr : Int32 → Int32 → Int32 → Int32 → Prop) (tm rs : Nat → Int32) (nr : Nat → Nat → Prop) (turn travel lift hx hy : Int32) (p : Nat → Nat) (k : Nat) : Int32 := END qa ex ey fr tm rs nr turn travel lift hx hy (sA p) (sW p) k
noncomputable def MVf (qa : Nat → Int32) (ex ey : Nat → Int32 → Int32) (fr : Int32 → Int32 → Int32 → Int32 → Prop) (tm rs : Nat → Int32) (nr : Nat → Nat → Prop) (turn travel lift hx hy : Int32) (a b : Nat) : Int32 := turnF turn (fqF qa a) (qa (b / 2)) + goF fr travel lift (fxF ex hx a) (fxF ey hy a) (ex (b / 2) (nI (b % 2))) (ey (b / 2) (nI (b % 2)))
noncomputable def Bt3 (qa : Nat → Int32) (ex ey : Nat → Int32 → Int32) (fr : Int32 → Int32 → Int32 → Int32 → Prop) (tm rs : Nat → Int32) (nr : Nat → Nat → Prop) (turn travel lift hx hy : Int32) (a b : Nat) : Int32 := pif (nr (a / 2) (b / 2)) (imax (MVf qa ex ey fr tm rs nr turn travel lift hx hy a b) (rs (a / 2))) (MVf qa ex ey fr tm rs nr turn travel lift hx hy a b)
section SRCH
variable {qa : Nat → Int32} {ex ey : Nat → Int32 → Int32} {fr : Int32 → Int32 → Int32 → Int32 → Prop} {tm rs : Nat → Int32} {nr : Nat → Nat → Prop} {turn travel lift hx hy : Int32}
theorem END_any {sa : Nat → Nat} {sw : Nat → Int32} {k : Nat} : END qa ex ey fr tm rs nr turn travel lift hx hy sa sw k = begF qa ex ey fr tm rs nr turn travel lift hx hy sa sw (END qa ex ey fr tm rs nr turn travel lift hx hy sa sw) k + tm (sa k) := by
  rw [END_eq, ← beg_due (en := END qa ex ey fr tm rs nr turn travel lift hx hy sa sw) (fun j hj => rfl)]
theorem cool2 {sa sa' : Nat → Nat} {en en' : Nat → Int32} {k : Nat} (hk : sa k = sa' k) : ∀ m, (∀ j, j < m → sa j = sa' j ∧ en j = en' j) → coolF rs nr sa en k m = coolF rs nr sa' en' k m
  | 0, _ => rfl
  | m + 1, h => by
    unfold coolF
    rw [cool2 hk m (fun j hj => h j (by omega)), hk, (h m (by omega)).1, (h m (by omega)).2]
theorem E3_congr {p p' : Nat → Nat} : ∀ k, (∀ j, j ≤ k → p j = p' j) → E3 qa ex ey fr tm rs nr turn travel lift hx hy p k = E3 qa ex ey fr tm rs nr turn travel lift hx hy p' k := by
  intro k
  induction k using Nat.strongRecOn with
  | ind k ih =>
    intro h
    have en : ∀ j, j < k → END qa ex ey fr tm rs nr turn travel lift hx hy (sA p) (sW p) j = END qa ex ey fr tm rs nr turn travel lift hx hy (sA p') (sW p') j := fun j hj => ih j hj (fun i hi => h i (by omega))
    have hk := h k (Nat.le_refl k)
    have a1 : sA p k = sA p' k := by unfold sA; rw [hk]
    have a2 : sW p k = sW p' k := by unfold sW; rw [hk]
    unfold E3
    rw [END_any, END_any, a1]
    have c1 : coolF rs nr (sA p) (END qa ex ey fr tm rs nr turn travel lift hx hy (sA p) (sW p)) k k = coolF rs nr (sA p') (END qa ex ey fr tm rs nr turn travel lift hx hy (sA p') (sW p')) k k := cool2 a1 k (fun j hj => ⟨by unfold sA; rw [h j (by omega)], en j hj⟩)
    have c2 : thK qa ex ey fr tm rs nr turn travel lift hx hy (sA p) (sW p) (END qa ex ey fr tm rs nr turn travel lift hx hy (sA p) (sW p)) k = thK qa ex ey fr tm rs nr turn travel lift hx hy (sA p') (sW p') (END qa ex ey fr tm rs nr turn travel lift hx hy (sA p') (sW p')) k := by
      rw [thK_eq, thK_eq, clk_congr en, a1, a2]
      have q1 : psQ qa (sA p) k = psQ qa (sA p') k := by
        unfold psQ sA
        by_cases z : k = 0
        · rw [if_pos z, if_pos z]
        · rw [if_neg z, if_neg z, h (k - 1) (by omega)]
      have q2 : ∀ (e : Nat → Int32 → Int32) (hh : Int32), psX e hh (sA p) (sW p) k = psX e hh (sA p') (sW p') k := by
        intro e hh
        unfold psX sA sW
        by_cases z : k = 0
        · rw [if_pos z, if_pos z]
        · rw [if_neg z, if_neg z, h (k - 1) (by omega)]
      rw [q1, q2, q2]
    unfold begF
    rw [c1, c2]
theorem E3_step {p : Nat → Nat} {k : Nat} (h : ∀ j, j < k → p j < 12) : E3 qa ex ey fr tm rs nr turn travel lift hx hy p k = imax (clk (E3 qa ex ey fr tm rs nr turn travel lift hx hy p) k + MVf qa ex ey fr tm rs nr turn travel lift hx hy (frm p k) (p k)) (coolF rs nr (sA p) (E3 qa ex ey fr tm rs nr turn travel lift hx hy p) k k) + tm (p k / 2) := by
  have e : E3 qa ex ey fr tm rs nr turn travel lift hx hy p k = END qa ex ey fr tm rs nr turn travel lift hx hy (sA p) (sW p) k := rfl
  rw [e, END_any]
  have f : E3 qa ex ey fr tm rs nr turn travel lift hx hy p = END qa ex ey fr tm rs nr turn travel lift hx hy (sA p) (sW p) := rfl
  rw [f]
  unfold begF
  rw [thK_eq]
  unfold MVf
  have q1 : psQ qa (sA p) k = fqF qa (frm p k) := by
    unfold psQ sA fqF frm
    by_cases z : k = 0
    · rw [if_pos z, if_pos z, if_pos rfl]
    · have := h (k - 1) (by omega)
      rw [if_neg z, if_neg z, if_neg (by omega)]
  have q2 : ∀ (e : Nat → Int32 → Int32) (hh : Int32), psX e hh (sA p) (sW p) k = fxF e hh (frm p k) := by
    intro e hh
    unfold psX sA sW fxF frm
    by_cases z : k = 0
    · rw [if_pos z, if_pos z, if_pos rfl]
    · have := h (k - 1) (by omega)
      rw [if_neg z, if_neg z, if_neg (by omega)]
  rw [q1, q2, q2, Int32.add_assoc]
  rfl
theorem mv_bd {N a b : Nat} (hT : tOK (fun a => a < N) qa ex ey fr tm rs nr turn travel lift hx hy) (hN : N ≤ 6) (ha : a < 2 * N ∨ a = 12) (hb : b < 2 * N) : 0 ≤ (MVf qa ex ey fr tm rs nr turn travel lift hx hy a b).toInt ∧ (MVf qa ex ey fr tm rs nr turn travel lift hx hy a b).toInt ≤ 1100 := by
  obtain ⟨hA, h1, h2, h3, h4, h5⟩ := hT
  obtain ⟨⟨i, hi, eq1⟩, exy, -, -⟩ := hA (b / 2) (by omega)
  unfold MVf
  have bq : ∃ j : Nat, j ≤ 3 ∧ fqF qa a = nI j := by
    unfold fqF
    by_cases z : a = 12
    · rw [if_pos z]; exact ⟨0, by omega, rfl⟩
    · rw [if_neg z]; exact (hA (a / 2) (by omega)).1
  obtain ⟨j, hj, ej⟩ := bq
  have bt := turn_bd (turn := turn) (p := fqF qa a) (q := qa (b / 2)) (by rw [ej]; exact nI_t (by omega)) hj (by rw [eq1]; exact nI_t (by omega)) hi h1
  have bx : in400 (fxF ex hx a) ∧ in400 (fxF ey hy a) := by
    unfold fxF
    by_cases z : a = 12
    · rw [if_pos z, if_pos z]; exact ⟨h4, h5⟩
    · rw [if_neg z, if_neg z]; exact (hA (a / 2) (by omega)).2.1 _
  have bg := go_bd (fr := fr) bx.1 bx.2 (exy (nI (b % 2))).1 (exy (nI (b % 2))).2 h2 h3
  rw [tA rfl rfl (by omega)]
  omega
theorem E3_bd {N : Nat} {p : Nat → Nat} {k : Nat} (hT : tOK (fun a => a < N) qa ex ey fr tm rs nr turn travel lift hx hy) (hN : N ≤ 6) (hv : vaP N p (k + 1)) (hk : k < N) : 0 ≤ (E3 qa ex ey fr tm rs nr turn travel lift hx hy p k).toInt ∧ (E3 qa ex ey fr tm rs nr turn travel lift hx hy p k).toInt ≤ 18000 := by
  have := (t_bd (sa := sA p) (sw := sW p) hT (N := k + 1) (by omega) (fun j hj => by have := hv.1 j hj; unfold sA; omega) k (by omega)).2.2
  have e : E3 qa ex ey fr tm rs nr turn travel lift hx hy p k = END qa ex ey fr tm rs nr turn travel lift hx hy (sA p) (sW p) k := rfl
  rw [e]
  omega
theorem bt_bd {N a b : Nat} (hT : tOK (fun a => a < N) qa ex ey fr tm rs nr turn travel lift hx hy) (hN : N ≤ 6) (ha : a < 2 * N) (hb : b < 2 * N) : 0 ≤ (Bt3 qa ex ey fr tm rs nr turn travel lift hx hy a b).toInt ∧ (Bt3 qa ex ey fr tm rs nr turn travel lift hx hy a b).toInt ≤ 1100 := by
  have h1 := mv_bd hT hN (Or.inl ha) hb
  have h2 := (hT.1 (a / 2) (by omega)).2.2.2
  unfold Bt3
  rcases Classical.em (nr (a / 2) (b / 2)) with c | c
  · rw [pif_pos c, imax_t rfl rfl]; split <;> omega
  · rw [pif_neg c]; exact h1
theorem cool3_bd {N : Nat} {p : Nat → Nat} {k : Nat} (hT : tOK (fun a => a < N) qa ex ey fr tm rs nr turn travel lift hx hy) (hN : N ≤ 6) (hv : vaP N p k) (hk : k ≤ N) (q : Nat) : 0 ≤ (coolF rs nr (sA p) (E3 qa ex ey fr tm rs nr turn travel lift hx hy p) q k).toInt ∧ (coolF rs nr (sA p) (E3 qa ex ey fr tm rs nr turn travel lift hx hy p) q k).toInt ≤ 19000 := by
  have := cool_bd (U := fun a => a < N) (k := q) (nr := nr) (rs := rs) (sa := sA p) (en := E3 qa ex ey fr tm rs nr turn travel lift hx hy p) (B := 18000) (fun a ha => (hT.1 a ha).2.2.2) (by omega) k (fun j hj => by have := hv.1 j hj; unfold sA; omega) (fun j hj => E3_bd hT hN (va_le hv (by omega)) (by omega))
  omega
theorem E3_low {N : Nat} {p : Nat → Nat} {k : Nat} (hT : tOK (fun a => a < N) qa ex ey fr tm rs nr turn travel lift hx hy) (hN : N ≤ 6) (hv : vaP N p (k + 2)) (hk : k + 1 < N) : (E3 qa ex ey fr tm rs nr turn travel lift hx hy p k).toInt + (Bt3 qa ex ey fr tm rs nr turn travel lift hx hy (p k) (p (k + 1))).toInt + (tm (p (k + 1) / 2)).toInt ≤ (E3 qa ex ey fr tm rs nr turn travel lift hx hy p (k + 1)).toInt := by
  have pk := hv.1 k (by omega)
  have pk1 := hv.1 (k + 1) (by omega)
  have b0 := E3_bd hT hN (va_le hv (show k + 1 ≤ k + 2 by omega)) (by omega)
  have b1 := mv_bd hT hN (Or.inl pk) pk1
  have b2 := cool3_bd hT hN (va_le hv (show k + 1 ≤ k + 2 by omega)) (by omega) (k + 1)
  have b3 := (hT.1 (p k / 2) (by omega)).2.2.2
  have b4 := (hT.1 (p (k + 1) / 2) (by omega)).2.2.1
  have b5 := cool3_bd hT hN (va_le hv (show k ≤ k + 2 by omega)) (by omega) (k + 1)
  rw [E3_step (p := p) (k := k + 1) (fun j hj => by have := hv.1 j (by omega); omega)]
  rw [← clk_s (en := E3 qa ex ey fr tm rs nr turn travel lift hx hy p) (k := k)]
  have f : frm p (k + 1) = p k := by unfold frm; rw [if_neg (by omega), Nat.add_sub_cancel]
  rw [f]
  have t1 : (E3 qa ex ey fr tm rs nr turn travel lift hx hy p k + MVf qa ex ey fr tm rs nr turn travel lift hx hy (p k) (p (k + 1))).toInt = (E3 qa ex ey fr tm rs nr turn travel lift hx hy p k).toInt + (MVf qa ex ey fr tm rs nr turn travel lift hx hy (p k) (p (k + 1))).toInt := tA rfl rfl (by omega)
  have t2 := imax_t t1 (y := coolF rs nr (sA p) (E3 qa ex ey fr tm rs nr turn travel lift hx hy p) (k + 1) (k + 1)) rfl
  rw [tA t2 rfl (by split <;> omega)]
  unfold Bt3
  rcases Classical.em (nr (p k / 2) (p (k + 1) / 2)) with c | c
  · rw [pif_pos c, imax_t rfl rfl]
    have e : coolF rs nr (sA p) (E3 qa ex ey fr tm rs nr turn travel lift hx hy p) (k + 1) (k + 1) = imax (coolF rs nr (sA p) (E3 qa ex ey fr tm rs nr turn travel lift hx hy p) (k + 1) k) (E3 qa ex ey fr tm rs nr turn travel lift hx hy p k + rs (sA p k)) := pif_pos c
    have t3 : (E3 qa ex ey fr tm rs nr turn travel lift hx hy p k + rs (sA p k)).toInt = (E3 qa ex ey fr tm rs nr turn travel lift hx hy p k).toInt + (rs (p k / 2)).toInt := by
      unfold sA; exact tA rfl rfl (by omega)
    rw [e, imax_t rfl t3]
    repeat' split
    all_goals omega
  · rw [pif_neg c]
    split <;> omega
/-- where the rest of a row costs too much, nothing below it is better -/
theorem prune {N : Nat} {p : Nat → Nat} {k m : Nat} {st : Int × (Nat → Nat)} {LA LB : Nat → Int} {V : Int} (hT : tOK (fun a => a < N) qa ex ey fr tm rs nr turn travel lift hx hy) (hN : N ≤ 6) (hv : vaP N p (k + 1)) (hm : k + 1 + m = N)
    (hA : ∀ a b, a < 2 * N → b < 2 * N → a / 2 ≠ b / 2 → LA (b / 2) ≤ (Bt3 qa ex ey fr tm rs nr turn travel lift hx hy a b).toInt ∧ LB (a / 2) ≤ (Bt3 qa ex ey fr tm rs nr turn travel lift hx hy a b).toInt)
    (hV : V = 0 ∨ ((∃ s, s < N ∧ ¬ usP p (k + 1) s) ∧ V = (if US (fun s => (tm s).toInt + LA s) p (k + 1) N < LB (p k / 2) + US (fun s => (tm s).toInt + LB s) p (k + 1) N - MX LB p (k + 1) N then LB (p k / 2) + US (fun s => (tm s).toInt + LB s) p (k + 1) N - MX LB p (k + 1) N else US (fun s => (tm s).toInt + LA s) p (k + 1) N)))
    (hs : st.1 ≤ (E3 qa ex ey fr tm rs nr turn travel lift hx hy p k).toInt + V) : FD N (fun q => if N = 0 then 0 else (E3 qa ex ey fr tm rs nr turn travel lift hx hy q (N - 1)).toInt) m (k + 1) p st = st := by
  refine FD_no m (k + 1) p st hm hv (fun q hq hvq => ?_)
  show st.1 ≤ if N = 0 then 0 else (E3 qa ex ey fr tm rs nr turn travel lift hx hy q (N - 1)).toInt
  rw [if_neg (by omega)]
  have hst : ∀ i, i + 1 < N → (E3 qa ex ey fr tm rs nr turn travel lift hx hy q i).toInt + (Bt3 qa ex ey fr tm rs nr turn travel lift hx hy (q i) (q (i + 1))).toInt + (tm (q (i + 1) / 2)).toInt ≤ (E3 qa ex ey fr tm rs nr turn travel lift hx hy q (i + 1)).toInt := fun i hi => E3_low hT hN (va_le hvq (by omega)) hi
  have ek : E3 qa ex ey fr tm rs nr turn travel lift hx hy q k = E3 qa ex ey fr tm rs nr turn travel lift hx hy p k := E3_congr k (fun j hj => hq j (by omega))
  rcases hV with z | ⟨⟨s, hs1, hs2⟩, z⟩
  · have := E_mono (E := fun i => (E3 qa ex ey fr tm rs nr turn travel lift hx hy q i).toInt) (T := fun s => (tm s).toInt) (B := fun a b => (Bt3 qa ex ey fr tm rs nr turn travel lift hx hy a b).toInt) hst hvq (fun s h => (hT.1 s h).2.2.1.1) (fun a b h1 h2 _ => (bt_bd hT hN h1 h2).1) m k (by omega)
    have e2 : (E3 qa ex ey fr tm rs nr turn travel lift hx hy q k).toInt ≤ (E3 qa ex ey fr tm rs nr turn travel lift hx hy q (N - 1)).toInt := this
    rw [ek] at e2
    omega
  · have kN : k + 1 < N := by
      refine Classical.not_not.mp (fun c => hs2 ?_)
      have e : k + 1 = N := by omega
      rw [e] at hv ⊢
      exact us_all hv hs1
    have a1 := lowA (E := fun i => (E3 qa ex ey fr tm rs nr turn travel lift hx hy q i).toInt) (T := fun s => (tm s).toInt) (LA := LA) (B := fun a b => (Bt3 qa ex ey fr tm rs nr turn travel lift hx hy a b).toInt) hvq hst (fun a b h1 h2 h3 => (hA a b h1 h2 h3).1) m k (by omega)
    have a2 := lowB (E := fun i => (E3 qa ex ey fr tm rs nr turn travel lift hx hy q i).toInt) (T := fun s => (tm s).toInt) (LB := LB) (B := fun a b => (Bt3 qa ex ey fr tm rs nr turn travel lift hx hy a b).toInt) hvq hst (fun a b h1 h2 h3 => (hA a b h1 h2 h3).2) m k (by omega)
    have u1 : ¬ usP q (k + 1) (q (N - 1) / 2) := fun ⟨j, h1, h2⟩ => hvq.2 j (N - 1) (by omega) (by omega) h2
    have l1 := hvq.1 (N - 1) (by omega)
    have a3 := MX_ge (f := LB) u1 N (by omega)
    have cg : ∀ j, j < k + 1 → q j = p j := hq
    have b1 : (E3 qa ex ey fr tm rs nr turn travel lift hx hy q k).toInt + US (fun s => (tm s).toInt + LA s) q (k + 1) N ≤ (E3 qa ex ey fr tm rs nr turn travel lift hx hy q (N - 1)).toInt := a1
    have b2 : (E3 qa ex ey fr tm rs nr turn travel lift hx hy q k).toInt + LB (q k / 2) + US (fun s => (tm s).toInt + LB s) q (k + 1) N ≤ (E3 qa ex ey fr tm rs nr turn travel lift hx hy q (N - 1)).toInt + LB (q (N - 1) / 2) := a2
    rw [US_congr cg, ek] at b1
    rw [US_congr cg, ek, cg k (by omega)] at b2
    rw [MX_congr cg] at a3
    rw [z] at hs
    split at hs <;> omega
end SRCH
