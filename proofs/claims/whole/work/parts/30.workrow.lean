theorem s_workRow {mx my sx sy la lb fl : Int32} {nb ns : Nat} {bX0 bY0 bX1 bY1 sx0 sy0 sx1 sy1 : Nat → Int32} {n : Nat} {bars seams tm heat rS rW qs mb me mr : Nat → Int32} {bc gap turn travel lift cool hx hy rc : Int32} {lu ld hu hd : Int64} {sa : Nat → Nat} {sw : Nat → Int32} {post : Int64 → Int64 → Int64 → Int64 → (Nat → Int32) → (Nat → Int32) → (Nat → Int32) → Prop} (hc : cellOK mx my sx sy la lb fl) (hb : barsOK nb bX0 bY0 bX1 bY1) (hbm : barsM nb bars bX0 bY0 bX1 bY1) (hbc : bc.toInt = (nb : Int)) (hs : seamsOK ns sx0 sy0 sx1 sy1) (hsm : seamsM ns seams sx0 sy0 sx1 sy1) (hg : gapOK gap) (hp : paceOK turn travel lift cool hx hy) (ht : seamsT ns seams sx0 sy0 sx1 sy1 tm heat) (hn : n ≤ 8) (hrc : rc.toInt = (n : Int))
    (hrS : ∀ j, j < n → (rS j).toInt = (sa j : Int)) (hsa : ∀ j, j < n → sa j < ns) (hrW : ∀ j, j < n → rW j = sw j) (hw : ∀ j, j < n → sw j = 0 ∨ sw j = 1) (hq6 : ∀ j, j < n → qtV mx my sx sy la lb fl nb bX0 bY0 bX1 bY1 sx0 sy0 sx1 sy1 (sa j) ≠ -6) (hqs : ∀ j, j < ns → qs j = qtV mx my sx sy la lb fl nb bX0 bY0 bX1 bY1 sx0 sy0 sx1 sy1 j)
    (h : ∀ (a b c d : Int64) (x y z : Nat → Int32), (∀ j, j < n → x j = BEG (qtV mx my sx sy la lb fl nb bX0 bY0 bX1 bY1 sx0 sy0 sx1 sy1) (gX mx my sx sy la lb fl nb bX0 bY0 bX1 bY1 sx0 sy0 sx1 sy1) (gY mx my sx sy la lb fl nb bX0 bY0 bX1 bY1 sx0 sy0 sx1 sy1) (freeP nb bX0 bY0 bX1 bY1) tm (rsF heat cool) (nearP gap sx0 sy0 sx1 sy1) turn travel lift hx hy sa sw j ∧ y j = END (qtV mx my sx sy la lb fl nb bX0 bY0 bX1 bY1 sx0 sy0 sx1 sy1) (gX mx my sx sy la lb fl nb bX0 bY0 bX1 bY1 sx0 sy0 sx1 sy1) (gY mx my sx sy la lb fl nb bX0 bY0 bX1 bY1 sx0 sy0 sx1 sy1) (freeP nb bX0 bY0 bX1 bY1) tm (rsF heat cool) (nearP gap sx0 sy0 sx1 sy1) turn travel lift hx hy sa sw j ∧ z j = RST (qtV mx my sx sy la lb fl nb bX0 bY0 bX1 bY1 sx0 sy0 sx1 sy1) (gX mx my sx sy la lb fl nb bX0 bY0 bX1 bY1 sx0 sy0 sx1 sy1) (gY mx my sx sy la lb fl nb bX0 bY0 bX1 bY1 sx0 sy0 sx1 sy1) (freeP nb bX0 bY0 bX1 bY1) tm (rsF heat cool) (nearP gap sx0 sy0 sx1 sy1) turn travel lift hx hy sa sw j) → post a b c d x y z) : wp_Model_workRow mx my gap turn travel lift cool hx hy bc rc lu ld hu hd sx sy bars seams rS rW qs mb me mr post := by
  unfold wp_Model_workRow
  refine ⟨n + 1, ?_⟩
  have key : ∀ (m k : Nat) (x y z : Nat → Int32) (a b c d : Int64) (kk : Int32), kk.toInt = (k : Int) → k + m = n → (∀ j, j < k → x j = BEG (qtV mx my sx sy la lb fl nb bX0 bY0 bX1 bY1 sx0 sy0 sx1 sy1) (gX mx my sx sy la lb fl nb bX0 bY0 bX1 bY1 sx0 sy0 sx1 sy1) (gY mx my sx sy la lb fl nb bX0 bY0 bX1 bY1 sx0 sy0 sx1 sy1) (freeP nb bX0 bY0 bX1 bY1) tm (rsF heat cool) (nearP gap sx0 sy0 sx1 sy1) turn travel lift hx hy sa sw j ∧ y j = END (qtV mx my sx sy la lb fl nb bX0 bY0 bX1 bY1 sx0 sy0 sx1 sy1) (gX mx my sx sy la lb fl nb bX0 bY0 bX1 bY1 sx0 sy0 sx1 sy1) (gY mx my sx sy la lb fl nb bX0 bY0 bX1 bY1 sx0 sy0 sx1 sy1) (freeP nb bX0 bY0 bX1 bY1) tm (rsF heat cool) (nearP gap sx0 sy0 sx1 sy1) turn travel lift hx hy sa sw j ∧ z j = RST (qtV mx my sx sy la lb fl nb bX0 bY0 bX1 bY1 sx0 sy0 sx1 sy1) (gX mx my sx sy la lb fl nb bX0 bY0 bX1 bY1 sx0 sy0 sx1 sy1) (gY mx my sx sy la lb fl nb bX0 bY0 bX1 bY1 sx0 sy0 sx1 sy1) (freeP nb bX0 bY0 bX1 bY1) tm (rsF heat cool) (nearP gap sx0 sy0 sx1 sy1) turn travel lift hx hy sa sw j) → wpL_Model_workRow_2 mx my gap turn travel lift cool hx hy bc rc sx sy bars seams rS rW qs post (m + 1) x y a b c d z kk := by
    intro m
    induction m with
    | zero =>
      intro k x y z a b c d kk hkk hk hxyz
      show wpB_Model_workRow_2 mx my gap turn travel lift cool hx hy bc rc sx sy bars seams rS rW qs post (wpL_Model_workRow_2 mx my gap turn travel lift cool hx hy bc rc sx sy bars seams rS rW qs post 0) x y a b c d z kk
      unfold wpB_Model_workRow_2
      rw [i_le hrc hkk]
      exact ⟨fun _ => h _ _ _ _ _ _ _ (fun j hj => hxyz j (by omega)), fun z => absurd (by omega) z⟩
    | succ m ih =>
      intro k x y z a b c d kk hkk hk hxyz
      show wpB_Model_workRow_2 mx my gap turn travel lift cool hx hy bc rc sx sy bars seams rS rW qs post (wpL_Model_workRow_2 mx my gap turn travel lift cool hx hy bc rc sx sy bars seams rS rW qs post (m + 1)) x y a b c d z kk
      unfold wpB_Model_workRow_2
      rw [i_le hrc hkk]
      refine ⟨fun z => absurd z (by omega), fun _ => ?_⟩
      refine s_workAt (n := n) hc hb hbm hbc hs hsm hg hp ht (by omega) hkk (fun j hj => hrS j (by omega)) (fun j hj => hsa j (by omega)) (fun j hj => hrW j (by omega)) (fun j hj => hw j (by omega)) (fun j hj => hq6 j (by omega)) (fun j hj => hqs _ (hsa j (by omega))) (fun j hj => (hxyz j hj).2.1) (fun a b c d y' ey => ?_)
      refine ih (k + 1) _ _ _ _ _ _ _ y' (by rw [ey]; exact inc_t hkk (by omega)) (by omega) (fun j hj => ?_)
      rcases Nat.lt_or_ge j k with q | q
      · rw [u_ne (by omega), u_ne (by omega), u_ne (by omega)]; exact hxyz j q
      · rw [show j = k by omega, u_eq, u_eq, u_eq]; exact ⟨rfl, rfl, rfl⟩
  exact key n 0 mb me mr _ _ _ _ 0 rfl (by omega) (fun j hj => by omega)
