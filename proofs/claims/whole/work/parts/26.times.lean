/-! the times of a row, over what is known of its seams -/
def turnF (turn p q : Int32) : Int32 := turn * imin (iabs (p - q)) ((4 : Int32) - iabs (p - q))
noncomputable def goF (fr : Int32 → Int32 → Int32 → Int32 → Prop) (travel lift x0 y0 x1 y1 : Int32) : Int32 := upF (imax (iabs (x1 - x0)) (iabs (y1 - y0))) travel + pif (fr x0 y0 x1 y1) 0 ((2 : Int32) * lift)
noncomputable def thF (qa : Nat → Int32) (ex ey : Nat → Int32 → Int32) (fr : Int32 → Int32 → Int32 → Int32 → Prop) (tm rs : Nat → Int32) (nr : Nat → Nat → Prop) (turn travel lift hx hy : Int32) (clock q x y : Int32) (a : Nat) (w : Int32) : Int32 := (clock + turnF turn q (qa a)) + goF fr travel lift x y (ex a w) (ey a w)
def psQ (qa : Nat → Int32) (sa : Nat → Nat) (k : Nat) : Int32 := if k = 0 then 0 else qa (sa (k - 1))
def psX (ex : Nat → Int32 → Int32) (h : Int32) (sa : Nat → Nat) (sw : Nat → Int32) (k : Nat) : Int32 := if k = 0 then h else ex (sa (k - 1)) ((1 : Int32) - sw (k - 1))
def clk (en : Nat → Int32) (k : Nat) : Int32 := if k = 0 then 0 else en (k - 1)
noncomputable def coolF (rs : Nat → Int32) (nr : Nat → Nat → Prop) (sa : Nat → Nat) (en : Nat → Int32) (k : Nat) : Nat → Int32
  | 0 => 0
  | m + 1 => pif (nr (sa m) (sa k)) (imax (coolF rs nr sa en k m) (en m + rs (sa m))) (coolF rs nr sa en k m)
noncomputable def thK (qa : Nat → Int32) (ex ey : Nat → Int32 → Int32) (fr : Int32 → Int32 → Int32 → Int32 → Prop) (tm rs : Nat → Int32) (nr : Nat → Nat → Prop) (turn travel lift hx hy : Int32) (sa : Nat → Nat) (sw : Nat → Int32) (en : Nat → Int32) (k : Nat) : Int32 := thF qa ex ey fr tm rs nr turn travel lift hx hy (clk en k) (psQ qa sa k) (psX ex hx sa sw k) (psX ey hy sa sw k) (sa k) (sw k)
noncomputable def begF (qa : Nat → Int32) (ex ey : Nat → Int32 → Int32) (fr : Int32 → Int32 → Int32 → Int32 → Prop) (tm rs : Nat → Int32) (nr : Nat → Nat → Prop) (turn travel lift hx hy : Int32) (sa : Nat → Nat) (sw : Nat → Int32) (en : Nat → Int32) (k : Nat) : Int32 := imax (thK qa ex ey fr tm rs nr turn travel lift hx hy sa sw en k) (coolF rs nr sa en k k)
noncomputable def endF (qa : Nat → Int32) (ex ey : Nat → Int32 → Int32) (fr : Int32 → Int32 → Int32 → Int32 → Prop) (tm rs : Nat → Int32) (nr : Nat → Nat → Prop) (turn travel lift hx hy : Int32) (sa : Nat → Nat) (sw : Nat → Int32) (en : Nat → Int32) (k : Nat) : Int32 := begF qa ex ey fr tm rs nr turn travel lift hx hy sa sw en k + tm (sa k)
noncomputable def eA (qa : Nat → Int32) (ex ey : Nat → Int32 → Int32) (fr : Int32 → Int32 → Int32 → Int32 → Prop) (tm rs : Nat → Int32) (nr : Nat → Nat → Prop) (turn travel lift hx hy : Int32) (sa : Nat → Nat) (sw : Nat → Int32) : Nat → Nat → Int32
  | 0 => fun _ => 0
  | k + 1 => upd (eA qa ex ey fr tm rs nr turn travel lift hx hy sa sw k) k (endF qa ex ey fr tm rs nr turn travel lift hx hy sa sw (eA qa ex ey fr tm rs nr turn travel lift hx hy sa sw k) k)
/-- the begin, the end and the rest of place k -/
noncomputable def BEG (qa : Nat → Int32) (ex ey : Nat → Int32 → Int32) (fr : Int32 → Int32 → Int32 → Int32 → Prop) (tm rs : Nat → Int32) (nr : Nat → Nat → Prop) (turn travel lift hx hy : Int32) (sa : Nat → Nat) (sw : Nat → Int32) (k : Nat) : Int32 := begF qa ex ey fr tm rs nr turn travel lift hx hy sa sw (eA qa ex ey fr tm rs nr turn travel lift hx hy sa sw k) k
noncomputable def END (qa : Nat → Int32) (ex ey : Nat → Int32 → Int32) (fr : Int32 → Int32 → Int32 → Int32 → Prop) (tm rs : Nat → Int32) (nr : Nat → Nat → Prop) (turn travel lift hx hy : Int32) (sa : Nat → Nat) (sw : Nat → Int32) (k : Nat) : Int32 := endF qa ex ey fr tm rs nr turn travel lift hx hy sa sw (eA qa ex ey fr tm rs nr turn travel lift hx hy sa sw k) k
noncomputable def RST (qa : Nat → Int32) (ex ey : Nat → Int32 → Int32) (fr : Int32 → Int32 → Int32 → Int32 → Prop) (tm rs : Nat → Int32) (nr : Nat → Nat → Prop) (turn travel lift hx hy : Int32) (sa : Nat → Nat) (sw : Nat → Int32) (k : Nat) : Int32 := BEG qa ex ey fr tm rs nr turn travel lift hx hy sa sw k - thK qa ex ey fr tm rs nr turn travel lift hx hy sa sw (eA qa ex ey fr tm rs nr turn travel lift hx hy sa sw k) k
theorem eA_at {qa : Nat → Int32} {ex ey : Nat → Int32 → Int32} {fr : Int32 → Int32 → Int32 → Int32 → Prop} {tm rs : Nat → Int32} {nr : Nat → Nat → Prop} {turn travel lift hx hy : Int32} {sa : Nat → Nat} {sw : Nat → Int32} : ∀ (m j : Nat), j < m → eA qa ex ey fr tm rs nr turn travel lift hx hy sa sw m j = END qa ex ey fr tm rs nr turn travel lift hx hy sa sw j
  | 0, j, h => absurd h (Nat.not_lt_zero j)
  | m + 1, j, h => by
    unfold eA
    by_cases e : j = m
    · subst e; rw [u_eq]; rfl
    · rw [u_ne e]; exact eA_at m j (by omega)
theorem clk_congr {en en' : Nat → Int32} {k : Nat} (h : ∀ j, j < k → en j = en' j) : clk en k = clk en' k := by
  unfold clk
  split
  · rfl
  · exact h (k - 1) (by omega)
theorem cool_congr {rs : Nat → Int32} {nr : Nat → Nat → Prop} {sa : Nat → Nat} {en en' : Nat → Int32} {k : Nat} : ∀ m, (∀ j, j < m → en j = en' j) → coolF rs nr sa en k m = coolF rs nr sa en' k m
  | 0, _ => rfl
  | m + 1, h => by unfold coolF; rw [cool_congr m (fun j hj => h j (by omega)), h m (by omega)]
theorem th_congr {qa : Nat → Int32} {ex ey : Nat → Int32 → Int32} {fr : Int32 → Int32 → Int32 → Int32 → Prop} {tm rs : Nat → Int32} {nr : Nat → Nat → Prop} {turn travel lift hx hy : Int32} {sa : Nat → Nat} {sw : Nat → Int32} {en en' : Nat → Int32} {k : Nat} (h : ∀ j, j < k → en j = en' j) : thK qa ex ey fr tm rs nr turn travel lift hx hy sa sw en k = thK qa ex ey fr tm rs nr turn travel lift hx hy sa sw en' k := by unfold thK; rw [clk_congr h]
theorem beg_congr {qa : Nat → Int32} {ex ey : Nat → Int32 → Int32} {fr : Int32 → Int32 → Int32 → Int32 → Prop} {tm rs : Nat → Int32} {nr : Nat → Nat → Prop} {turn travel lift hx hy : Int32} {sa : Nat → Nat} {sw : Nat → Int32} {en en' : Nat → Int32} {k : Nat} (h : ∀ j, j < k → en j = en' j) : begF qa ex ey fr tm rs nr turn travel lift hx hy sa sw en k = begF qa ex ey fr tm rs nr turn travel lift hx hy sa sw en' k := by unfold begF; rw [th_congr h, cool_congr k h]
/-- with an array that holds the ends so far, the next times are as they are due -/
theorem beg_due {qa : Nat → Int32} {ex ey : Nat → Int32 → Int32} {fr : Int32 → Int32 → Int32 → Int32 → Prop} {tm rs : Nat → Int32} {nr : Nat → Nat → Prop} {turn travel lift hx hy : Int32} {sa : Nat → Nat} {sw : Nat → Int32} {en : Nat → Int32} {k : Nat} (h : ∀ j, j < k → en j = END qa ex ey fr tm rs nr turn travel lift hx hy sa sw j) : begF qa ex ey fr tm rs nr turn travel lift hx hy sa sw en k = BEG qa ex ey fr tm rs nr turn travel lift hx hy sa sw k := beg_congr (fun j hj => by rw [h j hj, eA_at k j hj])
theorem th_due {qa : Nat → Int32} {ex ey : Nat → Int32 → Int32} {fr : Int32 → Int32 → Int32 → Int32 → Prop} {tm rs : Nat → Int32} {nr : Nat → Nat → Prop} {turn travel lift hx hy : Int32} {sa : Nat → Nat} {sw : Nat → Int32} {en : Nat → Int32} {k : Nat} (h : ∀ j, j < k → en j = END qa ex ey fr tm rs nr turn travel lift hx hy sa sw j) : thK qa ex ey fr tm rs nr turn travel lift hx hy sa sw en k = thK qa ex ey fr tm rs nr turn travel lift hx hy sa sw (eA qa ex ey fr tm rs nr turn travel lift hx hy sa sw k) k := th_congr (fun j hj => by rw [h j hj, eA_at k j hj])
theorem END_eq {qa : Nat → Int32} {ex ey : Nat → Int32 → Int32} {fr : Int32 → Int32 → Int32 → Int32 → Prop} {tm rs : Nat → Int32} {nr : Nat → Nat → Prop} {turn travel lift hx hy : Int32} {sa : Nat → Nat} {sw : Nat → Int32} (k : Nat) : END qa ex ey fr tm rs nr turn travel lift hx hy sa sw k = BEG qa ex ey fr tm rs nr turn travel lift hx hy sa sw k + tm (sa k) := rfl
/-! how great they get -/
theorem upF_bd {n d : Int32} (h0 : 0 ≤ n.toInt) (h1 : n.toInt ≤ 1000) (h2 : 1 ≤ d.toInt) (h3 : d.toInt ≤ 100) : 0 ≤ (upF n d).toInt ∧ (upF n d).toInt ≤ n.toInt := by
  unfold upF
  have c1 : (1 : Int32).toInt = 1 := rfl
  have t1 : (n + d - (1 : Int32)).toInt = n.toInt + d.toInt - 1 := tS (tA rfl rfl (by omega)) c1 (by omega)
  obtain ⟨A, hA⟩ : ∃ A : Nat, n.toInt + d.toInt - 1 = (A : Int) := ⟨(n.toInt + d.toInt - 1).toNat, by omega⟩
  obtain ⟨B, hB⟩ : ∃ B : Nat, d.toInt = (B : Int) := ⟨d.toInt.toNat, by omega⟩
  rw [nI_of_t (t1.trans hA), nI_of_t hB, pk_div (by omega) (by omega) (by omega)]
  have hq : A / B ≤ A := Nat.div_le_self A B
  rw [nI_t (by omega)]
  obtain ⟨C, hC⟩ : ∃ C : Nat, n.toInt = (C : Int) := ⟨n.toInt.toNat, by omega⟩
  have hAB : A = C + B - 1 := by omega
  have : A / B ≤ C := by
    rcases Nat.eq_zero_or_pos C with z | z
    · subst z
      rw [hAB, Nat.div_eq_of_lt (by omega)]
      exact Nat.le_refl 0
    · have h9 : A < (C + 1) * B := by
        rw [hAB, Nat.add_mul, Nat.one_mul]
        have : C * 1 ≤ C * B := Nat.mul_le_mul_left C (by omega)
        omega
      have := (Nat.div_lt_iff_lt_mul (show 0 < B by omega)).mpr h9
      omega
  generalize A / B = Z at *
  omega
theorem turn_bd {turn p q : Int32} {i j : Nat} (hp : p.toInt = (i : Int)) (hi : i ≤ 3) (hq : q.toInt = (j : Int)) (hj : j ≤ 3) (ht : 0 ≤ turn.toInt ∧ turn.toInt ≤ 100) : 0 ≤ (turnF turn p q).toInt ∧ (turnF turn p q).toInt ≤ 200 := by
  unfold turnF
  have c4 : (4 : Int32).toInt = 4 := rfl
  have t1 := iabs_t (tS hp hq (by omega)) (by omega)
  have t2 := imin_t t1 (tS c4 t1 (by split <;> omega))
  generalize hw : imin (iabs (p - q)) ((4 : Int32) - iabs (p - q)) = w at *
  have hw2 : 0 ≤ w.toInt ∧ w.toInt ≤ 2 := by
    rw [t2]
    split <;> split <;> (try split) <;> omega
  have := mul_bd (a := turn.toInt) (b := w.toInt) 100 2 (by omega) (by omega) (by omega) (by omega)
  rw [tM rfl rfl (by omega)]
  have := Int.mul_nonneg ht.1 hw2.1
  omega
def in400 (x : Int32) : Prop := -400 ≤ x.toInt ∧ x.toInt ≤ 400
theorem go_bd {fr : Int32 → Int32 → Int32 → Int32 → Prop} {travel lift x0 y0 x1 y1 : Int32} (h1 : in400 x0) (h2 : in400 y0) (h3 : in400 x1) (h4 : in400 y1) (ht : 1 ≤ travel.toInt ∧ travel.toInt ≤ 100) (hl : 0 ≤ lift.toInt ∧ lift.toInt ≤ 50) : 0 ≤ (goF fr travel lift x0 y0 x1 y1).toInt ∧ (goF fr travel lift x0 y0 x1 y1).toInt ≤ 900 := by
  unfold in400 at *
  unfold goF
  have t1 := iabs_t (tS (x := x1) (y := x0) rfl rfl (by omega)) (by omega)
  have t2 := iabs_t (tS (x := y1) (y := y0) rfl rfl (by omega)) (by omega)
  have t3 := imax_t t1 t2
  generalize imax (iabs (x1 - x0)) (iabs (y1 - y0)) = m at *
  have bm : 0 ≤ m.toInt ∧ m.toInt ≤ 800 := by
    rw [t3]
    split <;> split <;> (try split) <;> omega
  have bu := upF_bd bm.1 (by omega) ht.1 ht.2
  have c2 : (2 : Int32).toInt = 2 := rfl
  have tl : ((2 : Int32) * lift).toInt = 2 * lift.toInt := tM c2 rfl (by omega)
  have bp : 0 ≤ (pif (fr x0 y0 x1 y1) 0 ((2 : Int32) * lift)).toInt ∧ (pif (fr x0 y0 x1 y1) 0 ((2 : Int32) * lift)).toInt ≤ 100 := by
    rcases Classical.em (fr x0 y0 x1 y1) with h | h
    · rw [pif_pos h]; decide
    · rw [pif_neg h, tl]; omega
  rw [tA rfl rfl (by omega)]
  omega
/-- what the times' bounds rest on, for the seams in use -/
def tOK (U : Nat → Prop) (qa : Nat → Int32) (ex ey : Nat → Int32 → Int32) (fr : Int32 → Int32 → Int32 → Int32 → Prop) (tm rs : Nat → Int32) (nr : Nat → Nat → Prop) (turn travel lift hx hy : Int32) : Prop := (∀ a, U a → (∃ i : Nat, i ≤ 3 ∧ qa a = nI i) ∧ (∀ w, in400 (ex a w) ∧ in400 (ey a w)) ∧ (0 ≤ (tm a).toInt ∧ (tm a).toInt ≤ 400) ∧ (0 ≤ (rs a).toInt ∧ (rs a).toInt ≤ 1000)) ∧ (0 ≤ turn.toInt ∧ turn.toInt ≤ 100) ∧ (1 ≤ travel.toInt ∧ travel.toInt ≤ 100) ∧ (0 ≤ lift.toInt ∧ lift.toInt ≤ 50) ∧ in400 hx ∧ in400 hy
theorem th_bd {U : Nat → Prop} {qa : Nat → Int32} {ex ey : Nat → Int32 → Int32} {fr : Int32 → Int32 → Int32 → Int32 → Prop} {tm rs : Nat → Int32} {nr : Nat → Nat → Prop} {turn travel lift hx hy : Int32} {sa : Nat → Nat} {sw : Nat → Int32} {en : Nat → Int32} {k : Nat} {B : Int} (hT : tOK U qa ex ey fr tm rs nr turn travel lift hx hy) (hs : ∀ j, j ≤ k → U (sa j)) (hB : 0 ≤ B ∧ B ≤ 100000) (he : ∀ j, j < k → 0 ≤ (en j).toInt ∧ (en j).toInt ≤ B) : 0 ≤ (thK qa ex ey fr tm rs nr turn travel lift hx hy sa sw en k).toInt ∧ (thK qa ex ey fr tm rs nr turn travel lift hx hy sa sw en k).toInt ≤ B + 1100 := by
  obtain ⟨hA, h1, h2, h3, h4, h5⟩ := hT
  unfold thK thF
  obtain ⟨⟨i, hi, eq1⟩, exy, -, -⟩ := hA (sa k) (hs k (Nat.le_refl k))
  have bc : 0 ≤ (clk en k).toInt ∧ (clk en k).toInt ≤ B := by
    unfold clk
    split
    · have : (0 : Int32).toInt = 0 := rfl
      omega
    · exact he (k - 1) (by omega)
  have bq : ∃ j : Nat, j ≤ 3 ∧ psQ qa sa k = nI j := by
    unfold psQ
    split
    · exact ⟨0, by omega, rfl⟩
    · exact (hA (sa (k - 1)) (hs _ (by omega))).1
  obtain ⟨j, hj, ej⟩ := bq
  have bt := turn_bd (turn := turn) (p := psQ qa sa k) (q := qa (sa k)) (by rw [ej]; exact nI_t (by omega)) hj (by rw [eq1]; exact nI_t (by omega)) hi h1
  have bx : in400 (psX ex hx sa sw k) := by
    unfold psX
    split
    · exact h4
    · exact ((hA (sa (k - 1)) (hs _ (by omega))).2.1 _).1
  have by' : in400 (psX ey hy sa sw k) := by
    unfold psX
    split
    · exact h5
    · exact ((hA (sa (k - 1)) (hs _ (by omega))).2.1 _).2
  have bg := go_bd (fr := fr) bx by' (exy (sw k)).1 (exy (sw k)).2 h2 h3
  rw [tA (tA rfl rfl (by omega)) rfl (by omega)]
  omega
theorem cool_bd {U : Nat → Prop} {rs : Nat → Int32} {nr : Nat → Nat → Prop} {sa : Nat → Nat} {en : Nat → Int32} {k : Nat} {B : Int} (hr : ∀ a, U a → 0 ≤ (rs a).toInt ∧ (rs a).toInt ≤ 1000) (hB : 0 ≤ B ∧ B ≤ 100000) : ∀ m, (∀ j, j < m → U (sa j)) → (∀ j, j < m → 0 ≤ (en j).toInt ∧ (en j).toInt ≤ B) → 0 ≤ (coolF rs nr sa en k m).toInt ∧ (coolF rs nr sa en k m).toInt ≤ B + 1000
  | 0, _, _ => by
    have : (coolF rs nr sa en k 0).toInt = 0 := rfl
    omega
  | m + 1, hs, he => by
    have ih := cool_bd (k := k) (nr := nr) hr hB m (fun j hj => hs j (by omega)) (fun j hj => he j (by omega))
    have e1 := he m (by omega)
    have r1 := hr (sa m) (hs m (by omega))
    unfold coolF
    rcases Classical.em (nr (sa m) (sa k)) with h | h
    · rw [pif_pos h, imax_t rfl (tA rfl rfl (by omega))]
      split <;> omega
    · rw [pif_neg h]; exact ih
theorem t_bd {U : Nat → Prop} {qa : Nat → Int32} {ex ey : Nat → Int32 → Int32} {fr : Int32 → Int32 → Int32 → Int32 → Prop} {tm rs : Nat → Int32} {nr : Nat → Nat → Prop} {turn travel lift hx hy : Int32} {sa : Nat → Nat} {sw : Nat → Int32} (hT : tOK U qa ex ey fr tm rs nr turn travel lift hx hy) {N : Nat} (hN : N ≤ 8) (hs : ∀ j, j < N → U (sa j)) : ∀ k, k < N → (0 ≤ (thK qa ex ey fr tm rs nr turn travel lift hx hy sa sw (eA qa ex ey fr tm rs nr turn travel lift hx hy sa sw k) k).toInt ∧ (thK qa ex ey fr tm rs nr turn travel lift hx hy sa sw (eA qa ex ey fr tm rs nr turn travel lift hx hy sa sw k) k).toInt ≤ 3000 * (k : Int) + 1100) ∧ (0 ≤ (BEG qa ex ey fr tm rs nr turn travel lift hx hy sa sw k).toInt ∧ (BEG qa ex ey fr tm rs nr turn travel lift hx hy sa sw k).toInt ≤ 3000 * (k : Int) + 1100) ∧ (0 ≤ (END qa ex ey fr tm rs nr turn travel lift hx hy sa sw k).toInt ∧ (END qa ex ey fr tm rs nr turn travel lift hx hy sa sw k).toInt ≤ 3000 * (k : Int) + 1500) := by
  intro k
  induction k using Nat.strongRecOn with
  | ind k ih =>
    intro hk
    have he : ∀ j, j < k → 0 ≤ (eA qa ex ey fr tm rs nr turn travel lift hx hy sa sw k j).toInt ∧ (eA qa ex ey fr tm rs nr turn travel lift hx hy sa sw k j).toInt ≤ 3000 * (k : Int) := by
      intro j hj
      rw [eA_at k j hj]
      have := (ih j hj (by omega)).2.2
      omega
    have b1 := th_bd (sw := sw) (en := eA qa ex ey fr tm rs nr turn travel lift hx hy sa sw k) (k := k) (B := 3000 * (k : Int)) hT (fun j hj => hs j (by omega)) (by omega) he
    have b2 := cool_bd (k := k) (nr := nr) (rs := rs) (fun a ha => (hT.1 a ha).2.2.2) (B := 3000 * (k : Int)) (by omega) k (fun j hj => hs j (by omega)) he
    have b3 : 0 ≤ (BEG qa ex ey fr tm rs nr turn travel lift hx hy sa sw k).toInt ∧ (BEG qa ex ey fr tm rs nr turn travel lift hx hy sa sw k).toInt ≤ 3000 * (k : Int) + 1100 := by
      unfold BEG begF
      rw [imax_t rfl rfl]
      split <;> omega
    have b4 := (hT.1 (sa k) (hs k hk)).2.2.1
    refine ⟨b1, b3, ?_⟩
    rw [END_eq, tA rfl rfl (by omega)]
    omega
