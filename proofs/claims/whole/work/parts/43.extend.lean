/-! the class's search: every step behind the first ones -/
noncomputable def LF (qa : Nat → Int32) (ex ey : Nat → Int32 → Int32) (fr : Int32 → Int32 → Int32 → Int32 → Prop) (tm rs : Nat → Int32) (nr : Nat → Nat → Prop) (turn travel lift hx hy : Int32) (N : Nat) (q : Nat → Nat) : Int := if N = 0 then 0 else (E3 qa ex ey fr tm rs nr turn travel lift hx hy q (N - 1)).toInt
theorem nI_p {k : Nat} (h : 1 ≤ k) : nI k - (1 : Int32) = nI (k - 1) := by
  have e : nI k = nI (k - 1) + (1 : Int32) := by rw [nI_1, show k - 1 + 1 = k by omega]
  rw [e, Int32.add_sub_cancel]
section EXT
variable {qa : Nat → Int32} {ex ey : Nat → Int32 → Int32} {fr : Int32 → Int32 → Int32 → Int32 → Prop} {tm rs : Nat → Int32} {nr : Nat → Nat → Prop} {turn travel lift hx hy : Int32} {N : Nat}
theorem LF_clk {p : Nat → Nat} : (clk (E3 qa ex ey fr tm rs nr turn travel lift hx hy p) N).toInt = LF qa ex ey fr tm rs nr turn travel lift hx hy N p := by
  unfold clk LF
  by_cases c : N = 0
  · rw [if_pos c, if_pos c]; rfl
  · rw [if_neg c, if_neg c]
theorem s_extend {st sr nm lA lB : Nat → Int32} {mv : Nat → Nat → Int32} (hT : tOK (fun a => a < N) qa ex ey fr tm rs nr turn travel lift hx hy) (hN : N ≤ 6) (hsym : ∀ a b, nr a b ↔ nr b a) (htm : ∀ s, s < N → st s = tm s) (hsr : ∀ s, s < N → sr s = rs s) (hnm : nmP N nm nr) (hmv : ∀ a b, (a < 2 * N ∨ a = 12) → b < 2 * N → mv a b = MVf qa ex ey fr tm rs nr turn travel lift hx hy a b) (hF1 : ∀ s, s < N → 0 ≤ (lA s).toInt ∧ 0 ≤ (lB s).toInt) (hF2 : ∀ a b, a < 2 * N → b < 2 * N → a / 2 ≠ b / 2 → (lA (b / 2)).toInt ≤ (Bt3 qa ex ey fr tm rs nr turn travel lift hx hy a b).toInt ∧ (lB (a / 2)).toInt ≤ (Bt3 qa ex ey fr tm rs nr turn travel lift hx hy a b).toInt) :
    ∀ (m k u f : Nat) (p : Nat → Nat) (st0 : Int × (Nat → Nat)) (cl fe : Int32) (co sp fo : Nat → Int32) (post : Int32 → (Nat → Int32) → (Nat → Int32) → (Nat → Int32) → Prop), k + m = N → m ≤ f → vaP N p k → maP u p k → cl = clk (E3 qa ex ey fr tm rs nr turn travel lift hx hy p) k → fe.toInt = st0.1 → cl.toInt < st0.1 → (st0.1 < 1000000 → ∀ j, j < N → fo j = nI (st0.2 j)) → (∀ j, j < k → sp j = nI (p j)) → (∀ j, j < k → co (p j / 2) = E3 qa ex ey fr tm rs nr turn travel lift hx hy p j + rs (p j / 2)) →
    (∀ (fe' : Int32) (co' sp' fo' : Nat → Int32), fe'.toInt = (FD N (LF qa ex ey fr tm rs nr turn travel lift hx hy N) m k p st0).1 → ((FD N (LF qa ex ey fr tm rs nr turn travel lift hx hy N) m k p st0).1 < 1000000 → ∀ j, j < N → fo' j = nI ((FD N (LF qa ex ey fr tm rs nr turn travel lift hx hy N) m k p st0).2 j)) → (∀ j, j < k → sp' j = sp j) → (∀ s, usP p k s → co' s = co s) → post fe' co' sp' fo') →
    wp_Search_extend (f + 1) (nI N) fe st sr nm lA lB co sp fo mv (nI k) cl (nI u) post := by
  intro m
  induction m with
  | zero =>
    intro k u f p st0 cl fe co sp fo post hk hf hv hu hcl hfe hlt hfo hsp hco h
    show wpB_Search_extend (wp_Search_extend f) (nI N) fe st sr nm lA lB co sp fo mv (nI k) cl (nI u) post
    unfold wpB_Search_extend
    have hkN : k = N := by omega
    rw [leN (by omega) (by omega)]
    refine ⟨fun _ => s_keep (p := p) hN (fun j hj => hsp j (by omega)) (fun fo' hfo' => ?_), fun z => absurd (by omega) z⟩
    have eL : LF qa ex ey fr tm rs nr turn travel lift hx hy N p = cl.toInt := by rw [hcl, hkN, LF_clk]
    have eF : FD N (LF qa ex ey fr tm rs nr turn travel lift hx hy N) 0 k p st0 = (LF qa ex ey fr tm rs nr turn travel lift hx hy N p, p) := by
      show (if LF qa ex ey fr tm rs nr turn travel lift hx hy N p < st0.1 then (LF qa ex ey fr tm rs nr turn travel lift hx hy N p, p) else st0) = _
      rw [if_pos (by rw [eL]; exact hlt)]
    refine h cl co sp fo' ?_ ?_ (fun _ _ => rfl) (fun _ _ => rfl)
    · rw [eF, eL]
    · rw [eF]; exact fun _ => hfo'
  | succ m ihm =>
    intro k u f p st0 cl fe co sp fo post hk hf hv hu hcl hfe hlt hfo hsp hco h
    obtain ⟨f', rfl⟩ : ∃ f', f = f' + 1 := ⟨f - 1, by omega⟩
    have J : ∀ w : Int32, w = nI (frm p k) → wp_Search_extend_j37_30 (nI N) fe st sr nm lA lB co sp fo mv (nI k) cl (nI u) post (wp_Search_extend (f' + 1)) w := by
      intro w hw
      subst hw
      unfold wp_Search_extend_j37_30
      refine ⟨2 * N + 1, ?_⟩
      have key : ∀ (r n : Nat) (s : Int × (Nat → Nat)) (fe' : Int32) (co' sp' fo' : Nat → Int32), n + r = 2 * N → foldS (chF N (LF qa ex ey fr tm rs nr turn travel lift hx hy N) m k p) r n s = FD N (LF qa ex ey fr tm rs nr turn travel lift hx hy N) (m + 1) k p st0 → fe'.toInt = s.1 → (s.1 < 1000000 → ∀ j, j < N → fo' j = nI (s.2 j)) → (∀ j, j < k → sp' j = sp j) → (∀ s, usP p k s → co' s = co s) → wpL_Search_extend_42 (nI N) st sr nm lA lB mv (nI k) cl (nI u) post (wp_Search_extend (f' + 1)) (nI (frm p k)) (r + 1) co' fo' fe' sp' (nI n) := by
        intro r
        induction r with
        | zero =>
          intro n s fe' co' sp' fo' hn hfold h1 h2 h3 h4
          show wpB_Search_extend_42 (nI N) st sr nm lA lB mv (nI k) cl (nI u) post (wp_Search_extend (f' + 1)) (nI (frm p k)) (wpL_Search_extend_42 (nI N) st sr nm lA lB mv (nI k) cl (nI u) post (wp_Search_extend (f' + 1)) (nI (frm p k)) 0) co' fo' fe' sp' (nI n)
          unfold wpB_Search_extend_42
          rw [dbl N (by omega), leN (by omega) (by omega)]
          refine ⟨fun _ => ?_, fun z => absurd (by omega) z⟩
          have e : s = FD N (LF qa ex ey fr tm rs nr turn travel lift hx hy N) (m + 1) k p st0 := hfold
          rw [e] at h1 h2
          exact h fe' co' sp' fo' h1 h2 h3 h4
        | succ r ihr =>
          intro n s fe' co' sp' fo' hn hfold h1 h2 h3 h4
          show wpB_Search_extend_42 (nI N) st sr nm lA lB mv (nI k) cl (nI u) post (wp_Search_extend (f' + 1)) (nI (frm p k)) (wpL_Search_extend_42 (nI N) st sr nm lA lB mv (nI k) cl (nI u) post (wp_Search_extend (f' + 1)) (nI (frm p k)) (r + 1)) co' fo' fe' sp' (nI n)
          unfold wpB_Search_extend_42
          have hn2 : n / 2 < N := by omega
          have hfold' : foldS (chF N (LF qa ex ey fr tm rs nr turn travel lift hx hy N) m k p) r (n + 1) (chF N (LF qa ex ey fr tm rs nr turn travel lift hx hy N) m k p n s) = FD N (LF qa ex ey fr tm rs nr turn travel lift hx hy N) (m + 1) k p st0 := hfold
          rw [dbl N (by omega), leN (by omega) (by omega), (half n (by omega)).1]
          refine ⟨fun z => absurd z (by omega), fun _ x6 e6 => ?_⟩
          subst e6
          rw [(mk_get hu (show n / 2 < 6 by omega)).1]
          refine ⟨fun nu x7 e7 => ?_, fun c y eyy => ?_⟩
          · obtain ⟨u', eu, hu'⟩ := mk_set (n := n) hu (by omega)
            rw [eu] at e7
            subst e7
            have hv' : vaP N (updN p k n) (k + 1) := va_ext hv (by omega) nu
            have qk : updN p k n k = n := un_eq
            have qj : ∀ j, j < k → updN p k n j = p j := fun j hj => un_ne (by omega)
            have fr12 : frm p k < 2 * N ∨ frm p k = 12 := by
              unfold frm
              by_cases z : k = 0
              · rw [if_pos z]; exact Or.inr rfl
              · rw [if_neg z]; exact Or.inl (hv.1 (k - 1) (by omega))
            have frq : frm (updN p k n) k = frm p k := by
              unfold frm
              by_cases z : k = 0
              · rw [if_pos z, if_pos z]
              · rw [if_neg z, if_neg z, qj (k - 1) (by omega)]
            have clq : clk (E3 qa ex ey fr tm rs nr turn travel lift hx hy (updN p k n)) k = cl := by
              rw [hcl]
              exact clk_congr (fun j hj => E3_congr j (fun i hi => qj i (by omega)))
            have hcoq : ∀ j, j < k → co' (updN p k n j / 2) = E3 qa ex ey fr tm rs nr turn travel lift hx hy (updN p k n) j + rs (updN p k n j / 2) := by
              intro j hj
              rw [qj j hj, h4 _ ⟨j, hj, rfl⟩, hco j hj, E3_congr (p := updN p k n) (p' := p) j (fun i hi => qj i (by omega))]
            have cs := fun (PO : Int32 → Prop) => s_scooled (qa := qa) (ex := ex) (ey := ey) (fr := fr) (tm := tm) (rs := rs) (nr := nr) (turn := turn) (travel := travel) (lift := lift) (hx := hx) (hy := hy) (N := N) (nm := nm) (co := co') (sp := sp') (q := updN p k n) (k := k) (post := PO) hN hsym hnm (show k < N by omega) (fun j hj => hv'.1 j (by omega)) (fun j hj => by rw [h3 j hj, hsp j hj, qj j hj]) hcoq
            rw [qk] at cs
            have vn : vp_in (nI n) 12 := vpN (by omega) (by omega)
            have v6 : vp_in (nI (n / 2)) 6 := vpN (by omega) (by omega)
            have vk : vp_in (nI k) 6 := vpN (by omega) (by omega)
            rw [clN (k := frm p k) (by rcases fr12 with z | z <;> omega), clN (k := n) (by omega), clN (k := n / 2) (by omega), clN (k := k) (by omega), hmv _ _ fr12 (by omega), htm _ hn2, hsr _ hn2]
            refine ⟨vpN (by rcases fr12 with z | z <;> omega) (by omega), vn, cs _ ?_⟩
            intro x8 e8
            refine ⟨v6, fun x9 e9 => ?_⟩
            have eE : x9 = E3 qa ex ey fr tm rs nr turn travel lift hx hy (updN p k n) k := by
              rw [E3_step (p := updN p k n) (k := k) (fun j hj => by have := hv'.1 j (by omega); omega), qk, frq, clq, e9, e8]
            have bE := E3_bd hT hN hv' (by omega)
            have ll := fun (PO : Int32 → Prop) => s_leastLeft (post := PO) (k := k) hT hN htm hF1 hF2 hv' hu'
            rw [qk] at ll
            refine ll _ (fun r19 V hr hV0 hV1 hV => ?_)
            have hE : x9.toInt = (E3 qa ex ey fr tm rs nr turn travel lift hx hy (updN p k n) k).toInt := by rw [eE]
            rw [i_lt (tA hE hr (by omega)) h1]
            refine ⟨fun c => ⟨vk, fun g21 e21 => ⟨v6, fun t22 e22 => ⟨v6, fun g23 e23 => ?_⟩⟩⟩, fun c y eyy => ?_⟩
            · have k1 : nI k + (1 : Int32) = nI (k + 1) := nI_1 k
              rw [k1]
              refine ihm (k + 1) u' f' (updN p k n) s x9 fe' g23 g21 fo' _ (by omega) (by omega) hv' hu' (by rw [eE]; exact clk_s) h1 (by omega) h2 (fun j hj => ?_) (fun j hj => ?_) (fun fe2 co2 sp2 fo2 g1 g2 g3 g4 y eyy => ?_)
              · rw [e21]
                by_cases z : j = k
                · subst z; rw [u_eq, qk]
                · rw [u_ne z, h3 j (by omega), hsp j (by omega), qj j (by omega)]
              · rw [e23]
                by_cases z : j = k
                · subst z; rw [qk, u_eq, e22, eE]
                · have hj' : j < k := by omega
                  rw [u_ne (by rw [qj j hj']; exact fun e => nu ⟨j, hj', e⟩)]
                  exact hcoq j hj'
              · rw [nI_s eyy]
                rw [ch_n nu] at hfold'
                refine ihr (n + 1) _ fe2 co2 sp2 fo2 (by omega) hfold' g1 g2 (fun j hj => ?_) (fun s' hs' => ?_)
                · rw [g3 j (by omega), e21, u_ne (by omega)]; exact h3 j hj
                · have hs2 : usP (updN p k n) (k + 1) s' := us_s.mpr (Or.inl ((us_congr (p := updN p k n) (q := p) qj).mpr hs'))
                  rw [g4 s' hs2, e23, u_ne (fun e => nu (by rw [← e]; exact hs'))]
                  exact h4 s' hs'
            · have pr : chF N (LF qa ex ey fr tm rs nr turn travel lift hx hy N) m k p n s = s := by
                rw [ch_n nu]
                have pp := prune (m := m) (st := s) (LA := fun s => (lA s).toInt) (LB := fun s => (lB s).toInt) (V := V) (p := updN p k n) (k := k) hT hN hv' (by omega) hF2
                rw [qk] at pp
                exact pp hV (by omega)
              rw [pr] at hfold'
              rw [nI_s eyy]
              exact ihr (n + 1) s fe' co' sp' fo' (by omega) hfold' h1 h2 h3 h4
          · rw [ch_u (Classical.not_not.mp c)] at hfold'
            rw [nI_s eyy]
            exact ihr (n + 1) s fe' co' sp' fo' (by omega) hfold' h1 h2 h3 h4
      exact key (2 * N) 0 st0 fe co sp fo (by omega) rfl hfe hfo (fun _ _ => rfl) (fun _ _ => rfl)
    show wpB_Search_extend (wp_Search_extend (f' + 1)) (nI N) fe st sr nm lA lB co sp fo mv (nI k) cl (nI u) post
    unfold wpB_Search_extend
    have h6 : (6 : Int32) = nI 6 := rfl
    have h0 : (0 : Int32) = nI 0 := rfl
    rw [leN (by omega) (by omega), h6, ltN (by omega) (by omega)]
    refine ⟨fun z => absurd z (by omega), fun _ => ⟨fun _ => ⟨fun z => ?_, fun z => J 12 ?_⟩, fun z => absurd (by omega) z⟩⟩
    · have k1 : 1 ≤ k := by
        rcases Nat.eq_zero_or_pos k with q | q
        · rw [q] at z; exact absurd rfl z
        · exact q
      rw [nI_p k1, clN (by omega), hsp (k - 1) (by omega)]
      refine ⟨vpN (by omega) (by omega), J _ ?_⟩
      unfold frm
      rw [if_neg (by omega)]
    · rw [h0, eqN (by omega) (by omega)] at z
      unfold frm
      rw [if_pos z]
      rfl
end EXT
