/-! the law: what holds between both sides -/
def I0 (mx my sx sy la lb fl bc : Int32) (bX0 bY0 bX1 bY1 bars : Nat → Int32) (sc gap : Int32) (sx0 sy0 sx1 sy1 len tm heat seams : Nat → Int32) (turn travel lift cool hx hy rc : Int32) (ps pw rS rW : Nat → Int32) (tc : Int32) (tl th lows highs lat ran : Nat → Int32) (c1 : Int32) (k1 z1 b1 : Nat → Int32) (c2 : Int32) (k2 z2 b2 acts am : Nat → Int32) : Prop := cellOK mx my sx sy la lb fl ∧ gapOK gap ∧ paceOK turn travel lift cool hx hy ∧ gBa bc bX0 bY0 bX1 bY1 bars ∧ gSe sc sx0 sy0 sx1 sy1 len tm heat seams ∧ gRo sc rc ps pw rS rW ∧ gTo tc tl th lows highs ∧ (∀ k, k < 5 → lat k = ran k) ∧ gAc c1 k1 z1 b1 c2 k2 z2 b2 acts am
set_option maxHeartbeats 4000000 in
set_option maxRecDepth 100000 in
theorem law_step {L : Nat} {xs : Nat → Int32} {ih : Int32 → Int32 → (Nat → Int32) → (Nat → Int32) → Int32 → Int32 → (Nat → Int32) → Int32 → Int32 → (Nat → Int32) → (Nat → Int32) → Int32 → Int32 → (Nat → Int32) → Int32 → (Nat → Int32) → (Nat → Int32) → (Nat → Int32) → (Nat → Int32) → Int32 → Int32 → Int32 → Int32 → Int32 → Int32 → Int32 → Int32 → (Nat → Int32) → (Nat → Int32) → (Nat → Int32) → (Nat → Int32) → Int32 → (Nat → Int32) → (Nat → Int32) → (Nat → Int32) → Int32 → (Nat → Int32) → (Nat → Int32) → Int32 → Int32 → Int32 → Int64 → Int64 → (Nat → Int32) → Int32 → Int32 → (Nat → Int32) → Int32 → Int32 → Int32 → Int64 → Int64 → (Nat → Int32) → Int32 → Int32 → (Nat → Int32) → (Nat → Int32) → (Nat → Int32) → (Nat → Int32) → Int32 → (Nat → Int32) → (Nat → Int32) → Int32 → (Nat → Int32) → Int32 → Int32 → Int32 → Int32 → Int32 → (Nat → Int32) → (Nat → Nat → Int32) → Int32 → Int32 → Int32 → Int32 → Int32 → Int32 → (Nat → Int32) → Int32 → (Nat → Int32) → (Nat → Int32) → (Nat → Int32) → (Nat → Int32) → Int32 → Int32 → (Nat → Int32) → Int32 → (Nat → Int32) → Int32 → (Nat → Int32) → (Nat → Int32) → (Nat → Int32) → (Nat → Int32) → (Nat → Int32) → (Nat → Int32) → (Nat → Int32) → (Nat → Int32) → (Nat → Int32) → (Nat → Int32) → (Nat → Int32) → (Nat → Int32) → (Nat → Int32) → (Nat → Int32) → Int32 → (Nat → Int32) → (Nat → Int32) → Int32 → Prop} {c1 d1 : Int32} {k1 z1 : Nat → Int32} {w1 l1 : Int32} {b1 : Nat → Int32} {c2 d2 : Int32} {k2 z2 : Nat → Int32} {w2 l2 : Int32} {b2 : Nat → Int32} {bc : Int32} {bX0 bX1 bY0 bY1 : Nat → Int32} {fl la lb mx my sx sy hr : Int32} {lat rea am acts bars mb bR : Nat → Int32} {cool : Int32} {mdn me : Nat → Int32} {gap : Int32} {hd hu : Int64} {highs : Nat → Int32} {hx hy : Int32} {mlf : Nat → Int32} {lift : Int32} {ld lu : Int64} {lows qs ran mre mr : Nat → Int32} {rc : Int32} {rS rW : Nat → Int32} {sc : Int32} {seams : Nat → Int32} {tc travel turn : Int32} {mwt : Nat → Int32} {mv : Nat → Nat → Int32} {pb pe pr ps pw co : Nat → Int32} {cn : Int32} {fo : Nat → Int32} {fe : Int32} {lA lB nm sq sr sp st heat len tm sx0 sx1 sy0 sy1 th tl : Nat → Int32} {x3 : Int32} (hL : L ≤ 3584) (x0 : 0 ≤ x3.toInt)
    (hih : ∀ {c1 d1 : Int32} {k1 z1 : Nat → Int32} {w1 l1 : Int32} {b1 : Nat → Int32} {c2 d2 : Int32} {k2 z2 : Nat → Int32} {w2 l2 : Int32} {b2 : Nat → Int32} {bc : Int32} {bX0 bX1 bY0 bY1 : Nat → Int32} {fl la lb mx my sx sy hr : Int32} {lat rea am acts bars mb bR : Nat → Int32} {cool : Int32} {mdn me : Nat → Int32} {gap : Int32} {hd hu : Int64} {highs : Nat → Int32} {hx hy : Int32} {mlf : Nat → Int32} {lift : Int32} {ld lu : Int64} {lows qs ran mre mr : Nat → Int32} {rc : Int32} {rS rW : Nat → Int32} {sc : Int32} {seams : Nat → Int32} {tc travel turn : Int32} {mwt : Nat → Int32} {mv : Nat → Nat → Int32} {pb pe pr ps pw co : Nat → Int32} {cn : Int32} {fo : Nat → Int32} {fe : Int32} {lA lB nm sq sr sp st heat len tm sx0 sx1 sy0 sy1 th tl : Nat → Int32} {y : Int32}, y.toInt = x3.toInt + 7 → x3.toInt + 7 ≤ (L : Int) → I0 mx my sx sy la lb fl bc bX0 bY0 bX1 bY1 bars sc gap sx0 sy0 sx1 sy1 len tm heat seams turn travel lift cool hx hy rc ps pw rS rW tc tl th lows highs lat ran c1 k1 z1 b1 c2 k2 z2 b2 acts am → ih c1 d1 k1 z1 w1 l1 b1 c2 d2 k2 z2 w2 l2 b2 bc bX0 bX1 bY0 bY1 fl la lb mx my sx sy hr lat rea am acts bc bars mb bR cool mdn me fl gap hr hd hu highs hx hy mlf lift la lb ld lu lows mx my qs ran mre mr rc rS rW sc seams sx sy tc travel turn mwt mv cool hx hy lift travel turn pb rc pe pr ps pw sc gap co cn fo fe lA lB nm sq sr sp st heat len tm sx0 sx1 sy0 sy1 tc th tl y) (hI : I0 mx my sx sy la lb fl bc bX0 bY0 bX1 bY1 bars sc gap sx0 sy0 sx1 sy1 len tm heat seams turn travel lift cool hx hy rc ps pw rS rW tc tl th lows highs lat ran c1 k1 z1 b1 c2 k2 z2 b2 acts am) : wpB_law_18 L xs ih c1 d1 k1 z1 w1 l1 b1 c2 d2 k2 z2 w2 l2 b2 bc bX0 bX1 bY0 bY1 fl la lb mx my sx sy hr lat rea am acts bc bars mb bR cool mdn me fl gap hr hd hu highs hx hy mlf lift la lb ld lu lows mx my qs ran mre mr rc rS rW sc seams sx sy tc travel turn mwt mv cool hx hy lift travel turn pb rc pe pr ps pw sc gap co cn fo fe lA lB nm sq sr sp st heat len tm sx0 sx1 sy0 sy1 tc th tl x3 := by
  obtain ⟨iC, iG, iP, iB, iS, iR, iT, iL, iA⟩ := hI
  have tl' : (Int32.ofNat L).toInt = (L : Int) := nI_t (n := L) (by omega)
  have c7 : (7 : Int32).toInt = 7 := rfl
  have t7 : (Int32.ofNat L - (7 : Int32)).toInt = (L : Int) - 7 := tS tl' c7 (by omega)
  have hs0 : 0 ≤ sc.toInt := by
    obtain ⟨ns, e, -⟩ := iS
    omega
  unfold wpB_law_18
  rw [i_lt t7 rfl]
  refine ⟨fun _ => trivial, fun hg => ?_⟩
  have x7 : x3.toInt + 7 ≤ (L : Int) := by omega
  have vp0 : vp_in x3 L := vp_in_iff.mpr (by omega)
  have vpk : ∀ k : Int32, 0 ≤ k.toInt → k.toInt ≤ 6 → vp_in (x3 + k) L := fun k k0 k6 => vp_in_iff.mpr (by rw [tA rfl rfl (by omega)]; omega)
  have vp1 := vpk 1 (by decide) (by decide)
  have vp2 := vpk 2 (by decide) (by decide)
  have vp3 := vpk 3 (by decide) (by decide)
  have vp4 := vpk 4 (by decide) (by decide)
  have vp5 := vpk 5 (by decide) (by decide)
  have vp6 := vpk 6 (by decide) (by decide)
  have ty : (x3 + (7 : Int32)).toInt = x3.toInt + 7 := tA rfl c7 (by omega)
  have am0 : am 0 = c1 := by
    obtain ⟨n1, n2, -, -, e, -⟩ := iA
    exact e
  have am1 : am 1 = c2 := by
    obtain ⟨n1, n2, -, -, -, e, -⟩ := iA
    exact e
  refine ⟨vp0, fun _ y ey => hih (by rw [ey]; exact ty) x7 ⟨iC, iG, iP, iB, iS, iR, iT, iL, iA⟩, fun _ => ?_, fun _ => ?_, fun _ => ?_, fun _ => ?_, fun _ => ?_, fun _ => ?_, fun _ => ?_, fun _ => ?_, fun _ => ?_, fun _ => ?_, fun _ => ?_, fun _ => ?_, fun _ => ?_, fun _ => ?_, fun _ => ?_, fun _ => ?_, fun _ => ?_, fun _ => ?_, fun _ => ?_, fun _ => ?_, fun _ => ?_, fun _ => ?_, fun _ => ?_, fun _ => ?_, fun _ => ?_, fun _ => ?_⟩
  · exact ⟨vp1, vp2, j_table vp1 vp2 (fun y ey => hih (by rw [ey]; exact ty) x7 ⟨iC, iG, iP, iB, iS, iR, iT, iL, iA⟩) (fun y1 y2 y ey => hih (by rw [ey]; exact ty) x7 ⟨⟨y1, y2, iC.2.2⟩, iG, iP, iB, iS, iR, iT, iL, iA⟩)⟩
  · exact ⟨vp1, vp2, j_arm vp1 vp2 (fun y ey => hih (by rw [ey]; exact ty) x7 ⟨iC, iG, iP, iB, iS, iR, iT, iL, iA⟩) (fun y1 y2 y ey => hih (by rw [ey]; exact ty) x7 ⟨⟨iC.1, iC.2.1, iC.2.2.1, iC.2.2.2.1, ⟨y1, y2⟩, iC.2.2.2.2.2⟩, iG, iP, iB, iS, iR, iT, iL, iA⟩)⟩
  · exact ⟨vp1, vp2, j_rules vp1 vp2 (fun y ey => hih (by rw [ey]; exact ty) x7 ⟨iC, iG, iP, iB, iS, iR, iT, iL, iA⟩) (fun y1 y2 y ey => hih (by rw [ey]; exact ty) x7 ⟨⟨iC.1, iC.2.1, iC.2.2.1, iC.2.2.2.1, iC.2.2.2.2.1, y1⟩, y2, iP, iB, iS, iR, iT, iL, iA⟩)⟩
  · exact ⟨vp1, vp2, vp3, vp4, j_times vp1 vp2 vp3 vp4 (fun y ey => hih (by rw [ey]; exact ty) x7 ⟨iC, iG, iP, iB, iS, iR, iT, iL, iA⟩) (fun y1 y2 y3 y4 y ey => hih (by rw [ey]; exact ty) x7 ⟨iC, iG, ⟨y1, y2, y3, y4, iP.2.2.2.2⟩, iB, iS, iR, iT, iL, iA⟩)⟩
  · exact ⟨vp1, vp2, j_home vp1 vp2 (fun y ey => hih (by rw [ey]; exact ty) x7 ⟨iC, iG, iP, iB, iS, iR, iT, iL, iA⟩) (fun y1 y2 y ey => hih (by rw [ey]; exact ty) x7 ⟨iC, iG, ⟨iP.1, iP.2.1, iP.2.2.1, iP.2.2.2.1, y1, y2⟩, iB, iS, iR, iT, iL, iA⟩)⟩
  · exact ⟨vp1, vp2, vp3, vp4, j_bar vp1 vp2 vp3 vp4 iB (fun _ _ _ _ _ _ g y ey => hih (by rw [ey]; exact ty) x7 ⟨iC, iG, iP, g, iS, iR, iT, iL, iA⟩)⟩
  · exact ⟨vp1, vp2, vp3, vp4, vp5, vp6, j_seam vp1 vp2 vp3 vp4 vp5 vp6 iS (fun _ _ _ _ _ _ _ _ _ le g y ey => hih (by rw [ey]; exact ty) x7 ⟨iC, iG, iP, iB, g, gRo_mono le iR, iT, iL, iA⟩)⟩
  · exact ⟨vp1, j_clear vp1 iT am0 am1 (fun y ey => hih (by rw [ey]; exact ty) x7 ⟨iC, iG, iP, iB, iS, iR, iT, iL, iA⟩) (fun y ey => hih (by rw [ey]; exact ty) x7 ⟨iC, iG, iP, iB, gSe_0, gRo_0 (by decide), iT, iL, iA⟩) (fun y ey => hih (by rw [ey]; exact ty) x7 ⟨iC, iG, iP, gBa_0, iS, iR, iT, iL, iA⟩) (fun _ _ _ _ g y ey => hih (by rw [ey]; exact ty) x7 ⟨iC, iG, iP, iB, iS, iR, g, iL, iA⟩) (fun _ a1 a2 y ey => hih (by rw [ey]; exact ty) x7 ⟨iC, iG, iP, iB, iS, iR, iT, iL, gAc_z iA a1 a2⟩) (fun y ey => hih (by rw [ey]; exact ty) x7 ⟨iC, iG, iP, iB, iS, gRo_0 hs0, iT, iL, iA⟩)⟩
  · exact ⟨vp1, vp2, j_about vp1 vp2 iC iB iS (fun _ _ _ _ y ey => hih (by rw [ey]; exact ty) x7 ⟨iC, iG, iP, iB, iS, iR, iT, iL, iA⟩)⟩
  · exact ⟨vp1, vp2, j_lacks vp1 vp2 iC iB iS (fun _ _ _ _ y ey => hih (by rw [ey]; exact ty) x7 ⟨iC, iG, iP, iB, iS, iR, iT, iL, iA⟩)⟩
  · exact ⟨vp1, vp2, j_near vp1 vp2 (fun y ey => hih (by rw [ey]; exact ty) x7 ⟨iC, iG, iP, iB, iS, iR, iT, iL, iA⟩) iG iS⟩
  · exact ⟨vp1, vp2, vp3, vp4, j_free vp1 vp2 vp3 vp4 iB (fun _ _ _ _ y ey => hih (by rw [ey]; exact ty) x7 ⟨iC, iG, iP, iB, iS, iR, iT, iL, iA⟩)⟩
  · exact ⟨vp1, vp2, j_add vp1 vp2 iC iB iS iR (fun _ _ _ _ _ _ _ _ _ g y ey => hih (by rw [ey]; exact ty) x7 ⟨iC, iG, iP, iB, iS, g, iT, iL, iA⟩)⟩
  · exact ⟨vp1, vp2, j_row vp1 vp2 iC iG iP iB iS iR (fun _ _ _ _ _ _ _ _ _ _ _ y ey => hih (by rw [ey]; exact ty) x7 ⟨iC, iG, iP, iB, iS, iR, iT, iL, iA⟩)⟩
  · exact j_total iC iG iP iB iS iR (fun _ _ _ _ _ _ _ _ _ _ _ y ey => hih (by rw [ey]; exact ty) x7 ⟨iC, iG, iP, iB, iS, iR, iT, iL, iA⟩)
  · exact j_best iC iG iP iB iS iR (fun _ _ _ _ _ _ _ _ _ _ _ _ _ _ _ _ _ _ _ _ _ _ _ _ _ _ g y ey => hih (by rw [ey]; exact ty) x7 ⟨iC, iG, iP, iB, iS, g, iT, iL, iA⟩)
  · exact ⟨vp1, vp2, vp3, vp4, j_touch vp1 vp2 vp3 vp4 iT (fun _ _ _ _ _ g y ey => hih (by rw [ey]; exact ty) x7 ⟨iC, iG, iP, iB, iS, iR, g, iL, iA⟩)⟩
  · exact ⟨vp1, vp2, j_shut vp1 vp2 (fun y ey => hih (by rw [ey]; exact ty) x7 ⟨iC, iG, iP, iB, iS, iR, iT, iL, iA⟩) (fun k hk => ⟨(iT.2 k hk).1, (iT.2 k hk).2.1⟩)⟩
  · exact j_shift iT (fun _ _ a b y ey => hih (by rw [ey]; exact ty) x7 ⟨⟨iC.1, iC.2.1, a, b, iC.2.2.2.2⟩, iG, iP, iB, iS, iR, iT, iL, iA⟩)
  · exact ⟨vp1, j_shifted vp1 (fun y ey => hih (by rw [ey]; exact ty) x7 ⟨iC, iG, iP, iB, iS, iR, iT, iL, iA⟩)⟩
  · exact ⟨vp1, vp2, vp3, j_act vp1 vp2 vp3 iA (fun _ _ _ _ _ _ _ _ _ _ g y ey => hih (by rw [ey]; exact ty) x7 ⟨iC, iG, iP, iB, iS, iR, iT, iL, g⟩)⟩
  · exact j_runK iA (fun _ _ _ _ _ _ _ _ _ _ _ g y ey => hih (by rw [ey]; exact ty) x7 ⟨iC, iG, iP, iB, iS, iR, iT, g, iA⟩)
  · exact ⟨vp1, j_ran vp1 (fun y ey => hih (by rw [ey]; exact ty) x7 ⟨iC, iG, iP, iB, iS, iR, iT, iL, iA⟩) iL⟩
  · exact j_web iA (fun _ _ y ey => hih (by rw [ey]; exact ty) x7 ⟨iC, iG, iP, iB, iS, iR, iT, iL, iA⟩)
  · exact ⟨vp1, j_lock vp1 iA (fun _ _ y ey => hih (by rw [ey]; exact ty) x7 ⟨iC, iG, iP, iB, iS, iR, iT, iL, iA⟩)⟩
  · exact ⟨vp1, j_told vp1 (fun y ey => hih (by rw [ey]; exact ty) x7 ⟨iC, iG, iP, iB, iS, iR, iT, iL, iA⟩) am0 am1⟩
theorem law_all {L : Nat} {xs : Nat → Int32} (hL : L ≤ 3584) : ∀ (n : Nat) {c1 d1 : Int32} {k1 z1 : Nat → Int32} {w1 l1 : Int32} {b1 : Nat → Int32} {c2 d2 : Int32} {k2 z2 : Nat → Int32} {w2 l2 : Int32} {b2 : Nat → Int32} {bc : Int32} {bX0 bX1 bY0 bY1 : Nat → Int32} {fl la lb mx my sx sy hr : Int32} {lat rea am acts bars mb bR : Nat → Int32} {cool : Int32} {mdn me : Nat → Int32} {gap : Int32} {hd hu : Int64} {highs : Nat → Int32} {hx hy : Int32} {mlf : Nat → Int32} {lift : Int32} {ld lu : Int64} {lows qs ran mre mr : Nat → Int32} {rc : Int32} {rS rW : Nat → Int32} {sc : Int32} {seams : Nat → Int32} {tc travel turn : Int32} {mwt : Nat → Int32} {mv : Nat → Nat → Int32} {pb pe pr ps pw co : Nat → Int32} {cn : Int32} {fo : Nat → Int32} {fe : Int32} {lA lB nm sq sr sp st heat len tm sx0 sx1 sy0 sy1 th tl : Nat → Int32} {x3 : Int32}, 0 ≤ x3.toInt → x3.toInt ≤ 3591 → 3592 ≤ x3.toInt + (n : Int) → I0 mx my sx sy la lb fl bc bX0 bY0 bX1 bY1 bars sc gap sx0 sy0 sx1 sy1 len tm heat seams turn travel lift cool hx hy rc ps pw rS rW tc tl th lows highs lat ran c1 k1 z1 b1 c2 k2 z2 b2 acts am → wpL_law_18 L xs n c1 d1 k1 z1 w1 l1 b1 c2 d2 k2 z2 w2 l2 b2 bc bX0 bX1 bY0 bY1 fl la lb mx my sx sy hr lat rea am acts bc bars mb bR cool mdn me fl gap hr hd hu highs hx hy mlf lift la lb ld lu lows mx my qs ran mre mr rc rS rW sc seams sx sy tc travel turn mwt mv cool hx hy lift travel turn pb rc pe pr ps pw sc gap co cn fo fe lA lB nm sq sr sp st heat len tm sx0 sx1 sy0 sy1 tc th tl x3 := by
  intro n
  induction n with
  | zero =>
    intros
    omega
  | succ n ih' =>
    intros
    rename_i a b c d
    exact law_step hL a (fun e f g => ih' (by omega) (by omega) (by omega) g) d
