/-! the search for the best row, over the ends of rows -/
def updN (p : Nat → Nat) (k n : Nat) : Nat → Nat := fun j => if j = k then n else p j
theorem un_eq {p : Nat → Nat} {k n : Nat} : updN p k n k = n := if_pos rfl
theorem un_ne {p : Nat → Nat} {k n j : Nat} (h : j ≠ k) : updN p k n j = p j := if_neg h
def usP (p : Nat → Nat) (k s : Nat) : Prop := ∃ j, j < k ∧ p j / 2 = s
def vaP (N : Nat) (p : Nat → Nat) (k : Nat) : Prop := (∀ j, j < k → p j < 2 * N) ∧ ∀ i j, i < j → j < k → p i / 2 ≠ p j / 2
def foldS (f : Nat → Int × (Nat → Nat) → Int × (Nat → Nat)) : Nat → Nat → Int × (Nat → Nat) → Int × (Nat → Nat)
  | 0, _, s => s
  | r + 1, n, s => foldS f r (n + 1) (f n s)
noncomputable def FD (N : Nat) (L : (Nat → Nat) → Int) : Nat → Nat → (Nat → Nat) → Int × (Nat → Nat) → Int × (Nat → Nat)
  | 0, _, p, st => if L p < st.1 then (L p, p) else st
  | m + 1, k, p, st => foldS (fun n s => @ite _ (usP p k (n / 2)) (Classical.propDecidable _) s (FD N L m (k + 1) (updN p k n) s)) (2 * N) 0 st
noncomputable def chF (N : Nat) (L : (Nat → Nat) → Int) (m k : Nat) (p : Nat → Nat) (n : Nat) (s : Int × (Nat → Nat)) : Int × (Nat → Nat) := @ite _ (usP p k (n / 2)) (Classical.propDecidable _) s (FD N L m (k + 1) (updN p k n) s)
theorem FD_s {N : Nat} {L : (Nat → Nat) → Int} {m k : Nat} {p : Nat → Nat} {st : Int × (Nat → Nat)} : FD N L (m + 1) k p st = foldS (chF N L m k p) (2 * N) 0 st := rfl
theorem ch_u {N : Nat} {L : (Nat → Nat) → Int} {m k n : Nat} {p : Nat → Nat} {s : Int × (Nat → Nat)} (h : usP p k (n / 2)) : chF N L m k p n s = s := if_pos h
theorem ch_n {N : Nat} {L : (Nat → Nat) → Int} {m k n : Nat} {p : Nat → Nat} {s : Int × (Nat → Nat)} (h : ¬ usP p k (n / 2)) : chF N L m k p n s = FD N L m (k + 1) (updN p k n) s := if_neg h
theorem us_s {p : Nat → Nat} {k s : Nat} : usP p (k + 1) s ↔ usP p k s ∨ p k / 2 = s := by
  constructor
  · rintro ⟨j, h1, h2⟩
    by_cases c : j = k
    · subst c; exact Or.inr h2
    · exact Or.inl ⟨j, by omega, h2⟩
  · rintro (⟨j, h1, h2⟩ | h)
    · exact ⟨j, by omega, h2⟩
    · exact ⟨k, by omega, h⟩
theorem us_congr {p q : Nat → Nat} {k s : Nat} (h : ∀ j, j < k → p j = q j) : usP p k s ↔ usP q k s := by
  constructor
  · rintro ⟨j, h1, h2⟩; exact ⟨j, h1, by rw [← h j h1]; exact h2⟩
  · rintro ⟨j, h1, h2⟩; exact ⟨j, h1, by rw [h j h1]; exact h2⟩
theorem va_le {N : Nat} {p : Nat → Nat} {k k' : Nat} (h : vaP N p k) (hk : k' ≤ k) : vaP N p k' := ⟨fun j hj => h.1 j (by omega), fun i j h1 h2 => h.2 i j h1 (by omega)⟩
theorem va_ext {N : Nat} {p : Nat → Nat} {k n : Nat} (h : vaP N p k) (hn : n < 2 * N) (hu : ¬ usP p k (n / 2)) : vaP N (updN p k n) (k + 1) := by
  refine ⟨fun j hj => ?_, fun i j h1 h2 => ?_⟩
  · by_cases c : j = k
    · subst c; rw [un_eq]; exact hn
    · rw [un_ne c]; exact h.1 j (by omega)
  · by_cases c : j = k
    · subst c
      rw [un_eq, un_ne (by omega)]
      exact fun e => hu ⟨i, h1, e⟩
    · rw [un_ne c, un_ne (by omega)]
      exact h.2 i j h1 (by omega)
theorem va_us {N : Nat} {p : Nat → Nat} {k : Nat} (h : vaP N p (k + 1)) : ¬ usP p k (p k / 2) := fun ⟨j, h1, h2⟩ => h.2 j k h1 (by omega) h2
theorem foldS_pres {f : Nat → Int × (Nat → Nat) → Int × (Nat → Nat)} {P : Int × (Nat → Nat) → Prop} : ∀ r n s, (∀ i s, n ≤ i → i < n + r → P s → P (f i s)) → P s → P (foldS f r n s)
  | 0, _, _, _, h => h
  | r + 1, n, s, hf, h => foldS_pres r (n + 1) (f n s) (fun i s h1 h2 => hf i s (by omega) (by omega)) (hf n s (by omega) (by omega) h)
theorem foldS_hit {f : Nat → Int × (Nat → Nat) → Int × (Nat → Nat)} {P : Int × (Nat → Nat) → Prop} {a : Nat} (ha : ∀ s, P (f a s)) : ∀ r n s, (∀ i s, n ≤ i → i < n + r → P s → P (f i s)) → n ≤ a → a < n + r → P (foldS f r n s)
  | 0, n, s, _, h1, h2 => absurd h2 (by omega)
  | r + 1, n, s, hf, h1, h2 => by
    by_cases c : n = a
    · subst c
      exact foldS_pres r (n + 1) (f n s) (fun i s h1 h2 => hf i s (by omega) (by omega)) (ha s)
    · exact foldS_hit ha r (n + 1) (f n s) (fun i s h1 h2 => hf i s (by omega) (by omega)) (by omega) (by omega)
theorem foldS_id {f : Nat → Int × (Nat → Nat) → Int × (Nat → Nat)} {s : Int × (Nat → Nat)} : ∀ r n, (∀ i, n ≤ i → i < n + r → f i s = s) → foldS f r n s = s
  | 0, _, _ => rfl
  | r + 1, n, h => by
    show foldS f r (n + 1) (f n s) = s
    rw [h n (by omega) (by omega)]
    exact foldS_id r (n + 1) (fun i h1 h2 => h i (by omega) (by omega))
theorem FD_pres {N : Nat} {L : (Nat → Nat) → Int} {P : Int × (Nat → Nat) → Prop} (hl : ∀ q st, vaP N q N → P st → L q < st.1 → P (L q, q)) : ∀ m k p st, k + m = N → vaP N p k → P st → P (FD N L m k p st)
  | 0, k, p, st, hk, hv, h => by
    show P (if L p < st.1 then (L p, p) else st)
    by_cases c : L p < st.1
    · rw [if_pos c]; exact hl p st (va_le hv (by omega)) h c
    · rw [if_neg c]; exact h
  | m + 1, k, p, st, hk, hv, h => by
    rw [FD_s]
    refine foldS_pres _ _ _ (fun n s h1 h2 hs => ?_) h
    rcases Classical.em (usP p k (n / 2)) with c | c
    · rw [ch_u c]; exact hs
    · rw [ch_n c]; exact FD_pres hl m (k + 1) _ s (by omega) (va_ext hv (by omega) c) hs
theorem FD_no {N : Nat} {L : (Nat → Nat) → Int} : ∀ m k p st, k + m = N → vaP N p k → (∀ q, (∀ j, j < k → q j = p j) → vaP N q N → st.1 ≤ L q) → FD N L m k p st = st
  | 0, k, p, st, hk, hv, h => by
    show (if L p < st.1 then (L p, p) else st) = st
    have := h p (fun _ _ => rfl) (va_le hv (by omega))
    rw [if_neg (by omega)]
  | m + 1, k, p, st, hk, hv, h => by
    rw [FD_s]
    refine foldS_id _ _ (fun n h1 h2 => ?_)
    rcases Classical.em (usP p k (n / 2)) with c | c
    · rw [ch_u c]
    · rw [ch_n c]
      exact FD_no m (k + 1) _ st (by omega) (va_ext hv (by omega) c) (fun q hq hv' => h q (fun j hj => by rw [hq j (by omega), un_ne (by omega)]) hv')
noncomputable def US (f : Nat → Int) (p : Nat → Nat) (k : Nat) : Nat → Int
  | 0 => 0
  | s + 1 => US f p k s + @ite _ (usP p k s) (Classical.propDecidable _) 0 (f s)
theorem US_u {f : Nat → Int} {p : Nat → Nat} {k s : Nat} (h : usP p k s) : US f p k (s + 1) = US f p k s := by
  rw [US]; rw [if_pos h]; omega
theorem US_n {f : Nat → Int} {p : Nat → Nat} {k s : Nat} (h : ¬ usP p k s) : US f p k (s + 1) = US f p k s + f s := by
  rw [US]; rw [if_neg h]
theorem US_hi {f : Nat → Int} {p : Nat → Nat} {k : Nat} : ∀ n, n ≤ p k / 2 → US f p (k + 1) n = US f p k n
  | 0, _ => rfl
  | n + 1, h => by
    rcases Classical.em (usP p k n) with c | c
    · rw [US_u c, US_u (us_s.mpr (Or.inl c)), US_hi n (by omega)]
    · rw [US_n c, US_n (fun q => (us_s.mp q).elim c (fun e => by omega)), US_hi n (by omega)]
theorem US_rm {f : Nat → Int} {p : Nat → Nat} {k : Nat} (hu : ¬ usP p k (p k / 2)) : ∀ n, p k / 2 < n → US f p k n = f (p k / 2) + US f p (k + 1) n
  | 0, h => absurd h (by omega)
  | n + 1, h => by
    by_cases e : n = p k / 2
    · subst e
      rw [US_n hu, US_u (us_s.mpr (Or.inr rfl)), US_hi _ (Nat.le_refl _)]; omega
    · have ih := US_rm (f := f) hu n (by omega)
      rcases Classical.em (usP p k n) with c | c
      · rw [US_u c, US_u (us_s.mpr (Or.inl c)), ih]
      · rw [US_n c, US_n (fun q => (us_s.mp q).elim c (fun e' => by omega)), ih]; omega
theorem US_0 {p : Nat → Nat} : ∀ n, US (fun _ => 1) p 0 n = (n : Int)
  | 0 => rfl
  | n + 1 => by
    rw [US_n (fun ⟨j, h, _⟩ => by omega), US_0 n]
    omega
theorem US_cnt {N : Nat} {p : Nat → Nat} : ∀ k, vaP N p k → k ≤ N → US (fun _ => 1) p k N = (N : Int) - (k : Int)
  | 0, _, _ => by rw [US_0]; omega
  | k + 1, h, hk => by
    have ih := US_cnt k (va_le h (by omega)) (by omega)
    have hp := h.1 k (by omega)
    rw [US_rm (va_us h) N (by omega)] at ih
    omega
theorem US_zero {f : Nat → Int} {p : Nat → Nat} {k : Nat} : ∀ n, (∀ s, s < n → usP p k s) → US f p k n = 0
  | 0, _ => rfl
  | n + 1, h => by rw [US_u (h n (by omega)), US_zero n (fun s hs => h s (by omega))]
theorem US_nn {f : Nat → Int} {p : Nat → Nat} {k : Nat} : ∀ n, (∀ s, s < n → 0 ≤ f s) → 0 ≤ US f p k n
  | 0, _ => by show (0 : Int) ≤ 0; omega
  | n + 1, h => by
    have ih := US_nn (p := p) (k := k) n (fun s hs => h s (by omega))
    have := h n (by omega)
    rcases Classical.em (usP p k n) with c | c
    · rw [US_u c]; exact ih
    · rw [US_n c]; omega
theorem US_pos {p : Nat → Nat} {k s : Nat} (hu : ¬ usP p k s) : ∀ n, s < n → 1 ≤ US (fun _ => 1) p k n
  | 0, h => absurd h (by omega)
  | n + 1, h => by
    have nn := US_nn (f := fun _ => 1) (p := p) (k := k) n (fun s hs => by omega)
    by_cases e : s = n
    · subst e; rw [US_n hu]; omega
    · have ih := US_pos hu n (by omega)
      rcases Classical.em (usP p k n) with c | c
      · rw [US_u c]; exact ih
      · rw [US_n c]; omega
theorem us_all {N : Nat} {q : Nat → Nat} (h : vaP N q N) {s : Nat} (hs : s < N) : usP q N s := by
  refine Classical.not_not.mp (fun c => ?_)
  have h1 := US_pos c N hs
  have h2 := US_cnt N h (Nat.le_refl N)
  omega
theorem us_ex {N : Nat} {p : Nat → Nat} {k : Nat} (h : vaP N p k) (hk : k < N) : ∃ s, s < N ∧ ¬ usP p k s := by
  refine Classical.not_not.mp (fun c => ?_)
  have h1 := US_zero (f := fun _ => 1) (p := p) (k := k) N (fun s hs => Classical.not_not.mp (fun q => c ⟨s, hs, q⟩))
  have h2 := US_cnt k h (by omega)
  omega
theorem FD_lt {N : Nat} {L : (Nat → Nat) → Int} {M : Int} (hL : ∀ q, vaP N q N → L q < M) : ∀ m k p st, k + m = N → vaP N p k → (FD N L m k p st).1 < M
  | 0, k, p, st, hk, hv => by
    show (if L p < st.1 then (L p, p) else st).1 < M
    have := hL p (va_le hv (by omega))
    by_cases c : L p < st.1
    · rw [if_pos c]; exact this
    · rw [if_neg c]; omega
  | m + 1, k, p, st, hk, hv => by
    rw [FD_s]
    obtain ⟨a, ha, hu⟩ := us_ex hv (by omega)
    have e2 : 2 * a / 2 = a := by omega
    refine foldS_hit (P := fun s => s.1 < M) (a := 2 * a) (fun s => ?_) _ _ _ (fun n s h1 h2 hs => ?_) (by omega) (by omega)
    · rw [ch_n (by rw [e2]; exact hu)]
      exact FD_lt hL m (k + 1) _ s (by omega) (va_ext hv (by omega) (by rw [e2]; exact hu))
    · rcases Classical.em (usP p k (n / 2)) with c | c
      · rw [ch_u c]; exact hs
      · rw [ch_n c]; exact FD_lt hL m (k + 1) _ s (by omega) (va_ext hv (by omega) c)
noncomputable def MX (f : Nat → Int) (p : Nat → Nat) (k : Nat) : Nat → Int
  | 0 => 0
  | s + 1 => @ite _ (usP p k s) (Classical.propDecidable _) (MX f p k s) (if MX f p k s < f s then f s else MX f p k s)
theorem MX_u {f : Nat → Int} {p : Nat → Nat} {k s : Nat} (h : usP p k s) : MX f p k (s + 1) = MX f p k s := by rw [MX]; rw [if_pos h]
theorem MX_n {f : Nat → Int} {p : Nat → Nat} {k s : Nat} (h : ¬ usP p k s) : MX f p k (s + 1) = if MX f p k s < f s then f s else MX f p k s := by rw [MX]; rw [if_neg h]
theorem MX_ge {f : Nat → Int} {p : Nat → Nat} {k s : Nat} (hu : ¬ usP p k s) : ∀ n, s < n → f s ≤ MX f p k n
  | 0, h => absurd h (by omega)
  | n + 1, h => by
    by_cases e : s = n
    · subst e; rw [MX_n hu]; split <;> omega
    · have ih := MX_ge (f := f) hu n (by omega)
      rcases Classical.em (usP p k n) with c | c
      · rw [MX_u c]; exact ih
      · rw [MX_n c]; split <;> omega
theorem MX_bd {f : Nat → Int} {p : Nat → Nat} {k : Nat} {C : Int} (hC : 0 ≤ C) : ∀ n, (∀ s, s < n → f s ≤ C) → 0 ≤ MX f p k n ∧ MX f p k n ≤ C
  | 0, _ => by show (0 : Int) ≤ 0 ∧ (0 : Int) ≤ C; omega
  | n + 1, h => by
    have ih := MX_bd (p := p) (k := k) hC n (fun s hs => h s (by omega))
    have := h n (by omega)
    rcases Classical.em (usP p k n) with c | c
    · rw [MX_u c]; exact ih
    · rw [MX_n c]; split <;> omega
theorem US_bd {f : Nat → Int} {p : Nat → Nat} {k : Nat} {C : Int} (hC : 0 ≤ C) : ∀ n, (∀ s, s < n → f s ≤ C) → US f p k n ≤ C * (n : Int)
  | 0, _ => by show (0 : Int) ≤ C * ((0 : Nat) : Int); omega
  | n + 1, h => by
    have ih := US_bd (p := p) (k := k) hC n (fun s hs => h s (by omega))
    have := h n (by omega)
    have e : C * ((n + 1 : Nat) : Int) = C * (n : Int) + C := by rw [Int.natCast_add, Int.mul_add]; omega
    rcases Classical.em (usP p k n) with c | c
    · rw [US_u c]; omega
    · rw [US_n c]; omega
/-- no row gets by the least that its seams add -/
theorem lowA {N : Nat} {q : Nat → Nat} {E : Nat → Int} {T LA : Nat → Int} {B : Nat → Nat → Int} (hv : vaP N q N) (hst : ∀ i, i + 1 < N → E i + B (q i) (q (i + 1)) + T (q (i + 1) / 2) ≤ E (i + 1)) (hA : ∀ a b, a < 2 * N → b < 2 * N → a / 2 ≠ b / 2 → LA (b / 2) ≤ B a b) : ∀ r i, i + r + 1 = N → E i + US (fun s => T s + LA s) q (i + 1) N ≤ E (N - 1)
  | 0, i, h => by
    rw [show i + 1 = N by omega, US_zero N (fun s hs => us_all hv hs), show i = N - 1 by omega]; omega
  | r + 1, i, h => by
    have ih := lowA hv hst hA r (i + 1) (by omega)
    have s1 := hst i (by omega)
    have b1 := hA (q i) (q (i + 1)) (hv.1 i (by omega)) (hv.1 (i + 1) (by omega)) (hv.2 i (i + 1) (by omega) (by omega))
    have q1 := hv.1 (i + 1) (by omega)
    rw [US_rm (va_us (va_le hv (by omega))) N (by omega)]
    show E i + (T (q (i + 1) / 2) + LA (q (i + 1) / 2) + _) ≤ _
    omega
theorem lowB {N : Nat} {q : Nat → Nat} {E : Nat → Int} {T LB : Nat → Int} {B : Nat → Nat → Int} (hv : vaP N q N) (hst : ∀ i, i + 1 < N → E i + B (q i) (q (i + 1)) + T (q (i + 1) / 2) ≤ E (i + 1)) (hB : ∀ a b, a < 2 * N → b < 2 * N → a / 2 ≠ b / 2 → LB (a / 2) ≤ B a b) : ∀ r i, i + r + 1 = N → E i + LB (q i / 2) + US (fun s => T s + LB s) q (i + 1) N ≤ E (N - 1) + LB (q (N - 1) / 2)
  | 0, i, h => by
    rw [show i + 1 = N by omega, US_zero N (fun s hs => us_all hv hs), show i = N - 1 by omega]; omega
  | r + 1, i, h => by
    have ih := lowB hv hst hB r (i + 1) (by omega)
    have s1 := hst i (by omega)
    have b1 := hB (q i) (q (i + 1)) (hv.1 i (by omega)) (hv.1 (i + 1) (by omega)) (hv.2 i (i + 1) (by omega) (by omega))
    have q1 := hv.1 (i + 1) (by omega)
    rw [US_rm (va_us (va_le hv (by omega))) N (by omega)]
    show E i + LB (q i / 2) + (T (q (i + 1) / 2) + LB (q (i + 1) / 2) + _) ≤ _
    omega
theorem US_congr {f : Nat → Int} {p q : Nat → Nat} {k : Nat} (h : ∀ j, j < k → p j = q j) : ∀ n, US f p k n = US f q k n
  | 0 => rfl
  | n + 1 => by
    rcases Classical.em (usP p k n) with c | c
    · rw [US_u c, US_u ((us_congr h).mp c), US_congr h n]
    · rw [US_n c, US_n (fun z => c ((us_congr h).mpr z)), US_congr h n]
theorem MX_congr {f : Nat → Int} {p q : Nat → Nat} {k : Nat} (h : ∀ j, j < k → p j = q j) : ∀ n, MX f p k n = MX f q k n
  | 0 => rfl
  | n + 1 => by
    rcases Classical.em (usP p k n) with c | c
    · rw [MX_u c, MX_u ((us_congr h).mp c), MX_congr h n]
    · rw [MX_n c, MX_n (fun z => c ((us_congr h).mpr z)), MX_congr h n]
theorem E_mono {N : Nat} {q : Nat → Nat} {E : Nat → Int} {T : Nat → Int} {B : Nat → Nat → Int} (hst : ∀ i, i + 1 < N → E i + B (q i) (q (i + 1)) + T (q (i + 1) / 2) ≤ E (i + 1)) (hv : vaP N q N) (hT : ∀ s, s < N → 0 ≤ T s) (hB : ∀ a b, a < 2 * N → b < 2 * N → a / 2 ≠ b / 2 → 0 ≤ B a b) : ∀ r i, i + r + 1 = N → E i ≤ E (N - 1)
  | 0, i, h => by rw [show i = N - 1 by omega]; omega
  | r + 1, i, h => by
    have ih := E_mono hst hv hT hB r (i + 1) (by omega)
    have s1 := hst i (by omega)
    have q1 := hv.1 (i + 1) (by omega)
    have b1 := hB (q i) (q (i + 1)) (hv.1 i (by omega)) q1 (hv.2 i (i + 1) (by omega) (by omega))
    have t1 := hT (q (i + 1) / 2) (by omega)
    omega
