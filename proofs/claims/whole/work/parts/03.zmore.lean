theorem vp_lt {i : Int32} {n : Nat} (h : vp_in i n) : i.toNatClampNeg < n := Nat.not_le.mp fun q => h (Or.inr q)
def upd2 (f : Nat → Nat → Int32) (i k : Nat) (x : Int32) : Nat → Nat → Int32 := fun j => if j = i then upd (f j) k x else f j
theorem l8 {P : Nat → Prop} (h0 : P 0) (h1 : P 1) (h2 : P 2) (h3 : P 3) (h4 : P 4) (h5 : P 5) (h6 : P 6) (h7 : P 7) {i : Nat} (hi : i < 8) : P i := by
  rcases (show i = 0 ∨ i = 1 ∨ i = 2 ∨ i = 3 ∨ i = 4 ∨ i = 5 ∨ i = 6 ∨ i = 7 by omega) with rfl | rfl | rfl | rfl | rfl | rfl | rfl | rfl <;> assumption
theorem l13 {P : Nat → Prop} (h0 : P 0) (h1 : P 1) (h2 : P 2) (h3 : P 3) (h4 : P 4) (h5 : P 5) (h6 : P 6) (h7 : P 7) (h8 : P 8) (h9 : P 9) (h10 : P 10) (h11 : P 11) (h12 : P 12) {i : Nat} (hi : i < 13) : P i := by
  rcases (show i = 0 ∨ i = 1 ∨ i = 2 ∨ i = 3 ∨ i = 4 ∨ i = 5 ∨ i = 6 ∨ i = 7 ∨ i = 8 ∨ i = 9 ∨ i = 10 ∨ i = 11 ∨ i = 12 by omega) with rfl | rfl | rfl | rfl | rfl | rfl | rfl | rfl | rfl | rfl | rfl | rfl | rfl <;> assumption
theorem sw_c4 (x : Int32) : (x.toInt < 0 ∨ 4 < x.toInt) ∨ x = 0 ∨ x = 1 ∨ x = 2 ∨ x = 3 ∨ x = 4 := by
  rcases (show (x.toInt < 0 ∨ 4 < x.toInt) ∨ x.toInt = 0 ∨ x.toInt = 1 ∨ x.toInt = 2 ∨ x.toInt = 3 ∨ x.toInt = 4 by omega) with h | h | h | h | h | h
  · exact Or.inl h
  · exact Or.inr (Or.inl (Int32.toInt_inj.mp h))
  · exact Or.inr (Or.inr (Or.inl (Int32.toInt_inj.mp h)))
  · exact Or.inr (Or.inr (Or.inr (Or.inl (Int32.toInt_inj.mp h))))
  · exact Or.inr (Or.inr (Or.inr (Or.inr (Or.inl (Int32.toInt_inj.mp h)))))
  · exact Or.inr (Or.inr (Or.inr (Or.inr (Or.inr (Int32.toInt_inj.mp h)))))
theorem sw_c5 (x : Int32) : (x.toInt < 0 ∨ 5 < x.toInt) ∨ x = 0 ∨ x = 1 ∨ x = 2 ∨ x = 3 ∨ x = 4 ∨ x = 5 := by
  rcases (show (x.toInt < 0 ∨ 5 < x.toInt) ∨ x.toInt = 0 ∨ x.toInt = 1 ∨ x.toInt = 2 ∨ x.toInt = 3 ∨ x.toInt = 4 ∨ x.toInt = 5 by omega) with h | h | h | h | h | h | h
  · exact Or.inl h
  · exact Or.inr (Or.inl (Int32.toInt_inj.mp h))
  · exact Or.inr (Or.inr (Or.inl (Int32.toInt_inj.mp h)))
  · exact Or.inr (Or.inr (Or.inr (Or.inl (Int32.toInt_inj.mp h))))
  · exact Or.inr (Or.inr (Or.inr (Or.inr (Or.inl (Int32.toInt_inj.mp h)))))
  · exact Or.inr (Or.inr (Or.inr (Or.inr (Or.inr (Or.inl (Int32.toInt_inj.mp h))))))
  · exact Or.inr (Or.inr (Or.inr (Or.inr (Or.inr (Or.inr (Int32.toInt_inj.mp h))))))
theorem sw_c7 (x : Int32) : (x.toInt < 0 ∨ 7 < x.toInt) ∨ x = 0 ∨ x = 1 ∨ x = 2 ∨ x = 3 ∨ x = 4 ∨ x = 5 ∨ x = 6 ∨ x = 7 := by
  rcases (show (x.toInt < 0 ∨ 7 < x.toInt) ∨ x.toInt = 0 ∨ x.toInt = 1 ∨ x.toInt = 2 ∨ x.toInt = 3 ∨ x.toInt = 4 ∨ x.toInt = 5 ∨ x.toInt = 6 ∨ x.toInt = 7 by omega) with h | h | h | h | h | h | h | h | h
  · exact Or.inl h
  · exact Or.inr (Or.inl (Int32.toInt_inj.mp h))
  · exact Or.inr (Or.inr (Or.inl (Int32.toInt_inj.mp h)))
  · exact Or.inr (Or.inr (Or.inr (Or.inl (Int32.toInt_inj.mp h))))
  · exact Or.inr (Or.inr (Or.inr (Or.inr (Or.inl (Int32.toInt_inj.mp h)))))
  · exact Or.inr (Or.inr (Or.inr (Or.inr (Or.inr (Or.inl (Int32.toInt_inj.mp h))))))
  · exact Or.inr (Or.inr (Or.inr (Or.inr (Or.inr (Or.inr (Or.inl (Int32.toInt_inj.mp h)))))))
  · exact Or.inr (Or.inr (Or.inr (Or.inr (Or.inr (Or.inr (Or.inr (Or.inl (Int32.toInt_inj.mp h))))))))
  · exact Or.inr (Or.inr (Or.inr (Or.inr (Or.inr (Or.inr (Or.inr (Or.inr (Int32.toInt_inj.mp h))))))))
theorem sw_c25 (x : Int32) : (x.toInt < 0 ∨ 25 < x.toInt) ∨ x = 0 ∨ x = 1 ∨ x = 2 ∨ x = 3 ∨ x = 4 ∨ x = 5 ∨ x = 6 ∨ x = 7 ∨ x = 8 ∨ x = 9 ∨ x = 10 ∨ x = 11 ∨ x = 12 ∨ x = 13 ∨ x = 14 ∨ x = 15 ∨ x = 16 ∨ x = 17 ∨ x = 18 ∨ x = 19 ∨ x = 20 ∨ x = 21 ∨ x = 22 ∨ x = 23 ∨ x = 24 ∨ x = 25 := by
  rcases (show (x.toInt < 0 ∨ 25 < x.toInt) ∨ x.toInt = 0 ∨ x.toInt = 1 ∨ x.toInt = 2 ∨ x.toInt = 3 ∨ x.toInt = 4 ∨ x.toInt = 5 ∨ x.toInt = 6 ∨ x.toInt = 7 ∨ x.toInt = 8 ∨ x.toInt = 9 ∨ x.toInt = 10 ∨ x.toInt = 11 ∨ x.toInt = 12 ∨ x.toInt = 13 ∨ x.toInt = 14 ∨ x.toInt = 15 ∨ x.toInt = 16 ∨ x.toInt = 17 ∨ x.toInt = 18 ∨ x.toInt = 19 ∨ x.toInt = 20 ∨ x.toInt = 21 ∨ x.toInt = 22 ∨ x.toInt = 23 ∨ x.toInt = 24 ∨ x.toInt = 25 by omega) with h | h | h | h | h | h | h | h | h | h | h | h | h | h | h | h | h | h | h | h | h | h | h | h | h | h | h
  · exact Or.inl h
  · exact Or.inr (Or.inl (Int32.toInt_inj.mp h))
  · exact Or.inr (Or.inr (Or.inl (Int32.toInt_inj.mp h)))
  · exact Or.inr (Or.inr (Or.inr (Or.inl (Int32.toInt_inj.mp h))))
  · exact Or.inr (Or.inr (Or.inr (Or.inr (Or.inl (Int32.toInt_inj.mp h)))))
  · exact Or.inr (Or.inr (Or.inr (Or.inr (Or.inr (Or.inl (Int32.toInt_inj.mp h))))))
  · exact Or.inr (Or.inr (Or.inr (Or.inr (Or.inr (Or.inr (Or.inl (Int32.toInt_inj.mp h)))))))
  · exact Or.inr (Or.inr (Or.inr (Or.inr (Or.inr (Or.inr (Or.inr (Or.inl (Int32.toInt_inj.mp h))))))))
  · exact Or.inr (Or.inr (Or.inr (Or.inr (Or.inr (Or.inr (Or.inr (Or.inr (Or.inl (Int32.toInt_inj.mp h)))))))))
  · exact Or.inr (Or.inr (Or.inr (Or.inr (Or.inr (Or.inr (Or.inr (Or.inr (Or.inr (Or.inl (Int32.toInt_inj.mp h))))))))))
  · exact Or.inr (Or.inr (Or.inr (Or.inr (Or.inr (Or.inr (Or.inr (Or.inr (Or.inr (Or.inr (Or.inl (Int32.toInt_inj.mp h)))))))))))
  · exact Or.inr (Or.inr (Or.inr (Or.inr (Or.inr (Or.inr (Or.inr (Or.inr (Or.inr (Or.inr (Or.inr (Or.inl (Int32.toInt_inj.mp h))))))))))))
  · exact Or.inr (Or.inr (Or.inr (Or.inr (Or.inr (Or.inr (Or.inr (Or.inr (Or.inr (Or.inr (Or.inr (Or.inr (Or.inl (Int32.toInt_inj.mp h)))))))))))))
  · exact Or.inr (Or.inr (Or.inr (Or.inr (Or.inr (Or.inr (Or.inr (Or.inr (Or.inr (Or.inr (Or.inr (Or.inr (Or.inr (Or.inl (Int32.toInt_inj.mp h))))))))))))))
  · exact Or.inr (Or.inr (Or.inr (Or.inr (Or.inr (Or.inr (Or.inr (Or.inr (Or.inr (Or.inr (Or.inr (Or.inr (Or.inr (Or.inr (Or.inl (Int32.toInt_inj.mp h)))))))))))))))
  · exact Or.inr (Or.inr (Or.inr (Or.inr (Or.inr (Or.inr (Or.inr (Or.inr (Or.inr (Or.inr (Or.inr (Or.inr (Or.inr (Or.inr (Or.inr (Or.inl (Int32.toInt_inj.mp h))))))))))))))))
  · exact Or.inr (Or.inr (Or.inr (Or.inr (Or.inr (Or.inr (Or.inr (Or.inr (Or.inr (Or.inr (Or.inr (Or.inr (Or.inr (Or.inr (Or.inr (Or.inr (Or.inl (Int32.toInt_inj.mp h)))))))))))))))))
  · exact Or.inr (Or.inr (Or.inr (Or.inr (Or.inr (Or.inr (Or.inr (Or.inr (Or.inr (Or.inr (Or.inr (Or.inr (Or.inr (Or.inr (Or.inr (Or.inr (Or.inr (Or.inl (Int32.toInt_inj.mp h))))))))))))))))))
  · exact Or.inr (Or.inr (Or.inr (Or.inr (Or.inr (Or.inr (Or.inr (Or.inr (Or.inr (Or.inr (Or.inr (Or.inr (Or.inr (Or.inr (Or.inr (Or.inr (Or.inr (Or.inr (Or.inl (Int32.toInt_inj.mp h)))))))))))))))))))
  · exact Or.inr (Or.inr (Or.inr (Or.inr (Or.inr (Or.inr (Or.inr (Or.inr (Or.inr (Or.inr (Or.inr (Or.inr (Or.inr (Or.inr (Or.inr (Or.inr (Or.inr (Or.inr (Or.inr (Or.inl (Int32.toInt_inj.mp h))))))))))))))))))))
  · exact Or.inr (Or.inr (Or.inr (Or.inr (Or.inr (Or.inr (Or.inr (Or.inr (Or.inr (Or.inr (Or.inr (Or.inr (Or.inr (Or.inr (Or.inr (Or.inr (Or.inr (Or.inr (Or.inr (Or.inr (Or.inl (Int32.toInt_inj.mp h)))))))))))))))))))))
  · exact Or.inr (Or.inr (Or.inr (Or.inr (Or.inr (Or.inr (Or.inr (Or.inr (Or.inr (Or.inr (Or.inr (Or.inr (Or.inr (Or.inr (Or.inr (Or.inr (Or.inr (Or.inr (Or.inr (Or.inr (Or.inr (Or.inl (Int32.toInt_inj.mp h))))))))))))))))))))))
  · exact Or.inr (Or.inr (Or.inr (Or.inr (Or.inr (Or.inr (Or.inr (Or.inr (Or.inr (Or.inr (Or.inr (Or.inr (Or.inr (Or.inr (Or.inr (Or.inr (Or.inr (Or.inr (Or.inr (Or.inr (Or.inr (Or.inr (Or.inl (Int32.toInt_inj.mp h)))))))))))))))))))))))
  · exact Or.inr (Or.inr (Or.inr (Or.inr (Or.inr (Or.inr (Or.inr (Or.inr (Or.inr (Or.inr (Or.inr (Or.inr (Or.inr (Or.inr (Or.inr (Or.inr (Or.inr (Or.inr (Or.inr (Or.inr (Or.inr (Or.inr (Or.inr (Or.inl (Int32.toInt_inj.mp h))))))))))))))))))))))))
  · exact Or.inr (Or.inr (Or.inr (Or.inr (Or.inr (Or.inr (Or.inr (Or.inr (Or.inr (Or.inr (Or.inr (Or.inr (Or.inr (Or.inr (Or.inr (Or.inr (Or.inr (Or.inr (Or.inr (Or.inr (Or.inr (Or.inr (Or.inr (Or.inr (Or.inl (Int32.toInt_inj.mp h)))))))))))))))))))))))))
  · exact Or.inr (Or.inr (Or.inr (Or.inr (Or.inr (Or.inr (Or.inr (Or.inr (Or.inr (Or.inr (Or.inr (Or.inr (Or.inr (Or.inr (Or.inr (Or.inr (Or.inr (Or.inr (Or.inr (Or.inr (Or.inr (Or.inr (Or.inr (Or.inr (Or.inr (Or.inl (Int32.toInt_inj.mp h))))))))))))))))))))))))))
  · exact Or.inr (Or.inr (Or.inr (Or.inr (Or.inr (Or.inr (Or.inr (Or.inr (Or.inr (Or.inr (Or.inr (Or.inr (Or.inr (Or.inr (Or.inr (Or.inr (Or.inr (Or.inr (Or.inr (Or.inr (Or.inr (Or.inr (Or.inr (Or.inr (Or.inr (Or.inr (Int32.toInt_inj.mp h))))))))))))))))))))))))))
section ZM
variable {p : Program} {l : Launch} {e : Env} {R : Room} {s : State} {m : MethodId} {args : Array Value} {below : List Frame} {meth : Method} {c : Code} {cells slots : Nat} {Q : State → Prop} {D : va_G} {κ : KT} {own : String} {cc : ByteArray} {nL : Nat} {md : Option (Nat → Prop)} {A : Nat → Prop} {ws : va_W} {lv : List (Nat × Value)} {pc q : Nat} {st rest : List Value}
theorem z_swOut (C : Cx p s m args c D κ own cc nL) {dflt lo hi : Int} {offs : Array Int} {len : Nat} {x : Int32} {tgt : Nat} (d : dN cc pc (.tableswitch dflt lo hi offs) len q) (h : x.toInt < lo ∨ hi < x.toInt) (ht : (pc : Int) + dflt = (tgt : Int)) (k : Zw p l e R s m args below meth c cells slots Q D nL md ws lv tgt rest) : Zw p l e R s m args below meth c cells slots Q D nL md ws lv pc (.int x :: rest) := by
  obtain ⟨d, rfl⟩ := d
  exact fun H locs ls hI hl => lv_tableOut C.1 C.2.1 d h ht (k H locs ls hI hl)
theorem z_swIn (C : Cx p s m args c D κ own cc nL) {dflt lo hi off : Int} {offs : Array Int} {len : Nat} {x : Int32} {tgt : Nat} (d : dN cc pc (.tableswitch dflt lo hi offs) len q) (h1 : ¬ x.toInt < lo) (h2 : ¬ hi < x.toInt) (ho : offs[(x.toInt - lo).toNat]? = some off) (ht : (pc : Int) + off = (tgt : Int)) (k : Zw p l e R s m args below meth c cells slots Q D nL md ws lv tgt rest) : Zw p l e R s m args below meth c cells slots Q D nL md ws lv pc (.int x :: rest) := by
  obtain ⟨d, rfl⟩ := d
  exact fun H locs ls hI hl => lv_tableIn C.1 C.2.1 d h1 h2 ho ht (k H locs ls hI hl)
theorem z_getP8 (C : Cx p s m args c D κ own cc nL) {idx ci k : Nat} {v : Value} (fl : FLD own idx ci k) (b0 : Nat) (a : Nat → Nat) (E : Nat → List Value) (i : Nat) (hi : i < 8) (h0 : ws[b0 + 0]? = some (a 0, .inr (ci, E 0))) (h1 : ws[b0 + 1]? = some (a 1, .inr (ci, E 1))) (h2 : ws[b0 + 2]? = some (a 2, .inr (ci, E 2))) (h3 : ws[b0 + 3]? = some (a 3, .inr (ci, E 3))) (h4 : ws[b0 + 4]? = some (a 4, .inr (ci, E 4))) (h5 : ws[b0 + 5]? = some (a 5, .inr (ci, E 5))) (h6 : ws[b0 + 6]? = some (a 6, .inr (ci, E 6))) (h7 : ws[b0 + 7]? = some (a 7, .inr (ci, E 7))) (hv : (E i)[k]? = some v) (d : dN cc pc (.getfield idx) 3 q) (kk : Zw p l e R s m args below meth c cells slots Q D nL md ws lv q (v :: rest)) : Zw p l e R s m args below meth c cells slots Q D nL md ws lv pc (.ref (a i) :: rest) := z_get C fl (b0 + i) (l8 (P := fun j => ws[b0 + j]? = some (a j, .inr (ci, E j))) h0 h1 h2 h3 h4 h5 h6 h7 hi) hv d kk
theorem z_ialdP13 (C : Cx p s m args c D κ own cc nL) {n : Nat} {x : Int32} (b0 : Nat) (a : Nat → Nat) (F : Nat → Nat → Int32) (i : Nat) (hi : i < 13) (hin : vp_in x n) (h0 : ws[b0 + 0]? = some (a 0, cI κ n (F 0))) (h1 : ws[b0 + 1]? = some (a 1, cI κ n (F 1))) (h2 : ws[b0 + 2]? = some (a 2, cI κ n (F 2))) (h3 : ws[b0 + 3]? = some (a 3, cI κ n (F 3))) (h4 : ws[b0 + 4]? = some (a 4, cI κ n (F 4))) (h5 : ws[b0 + 5]? = some (a 5, cI κ n (F 5))) (h6 : ws[b0 + 6]? = some (a 6, cI κ n (F 6))) (h7 : ws[b0 + 7]? = some (a 7, cI κ n (F 7))) (h8 : ws[b0 + 8]? = some (a 8, cI κ n (F 8))) (h9 : ws[b0 + 9]? = some (a 9, cI κ n (F 9))) (h10 : ws[b0 + 10]? = some (a 10, cI κ n (F 10))) (h11 : ws[b0 + 11]? = some (a 11, cI κ n (F 11))) (h12 : ws[b0 + 12]? = some (a 12, cI κ n (F 12))) (d : dN cc pc .iaload 1 q) (kk : Zw p l e R s m args below meth c cells slots Q D nL md ws lv q (.int (F i x.toNatClampNeg) :: rest)) : Zw p l e R s m args below meth c cells slots Q D nL md ws lv pc (.int x :: .ref (a i) :: rest) := z_iald C (b0 + i) (l13 (P := fun j => ws[b0 + j]? = some (a j, cI κ n (F j))) h0 h1 h2 h3 h4 h5 h6 h7 h8 h9 h10 h11 h12 hi) hin d kk
theorem set_pool {n : Nat} {b0 i : Nat} {a : Nat → Nat} {E E' : Nat → va_E} (hi : i < n) (hlen : b0 + n = ws.length) (hE : ∀ j, j < n → ws[b0 + j]? = some (a j, E j)) (hj : ∀ j, j < n → j ≠ i → E' j = E j) (ws' : va_W) (hl' : ws'.length = ws.length) (h1 : ∀ k, k < b0 → ws'[k]? = ws[k]?) (h2 : ∀ j, j < n → ws'[b0 + j]? = some (a j, E' j)) : ws.set (b0 + i) (a i, E' i) = ws' := by
  apply List.ext_getElem?
  intro k
  by_cases hk : k = b0 + i
  · subst hk
    rw [List.getElem?_set_self (by omega), h2 i hi]
  · rw [List.getElem?_set_ne (fun e => hk e.symm)]
    by_cases hkb : k < b0
    · exact (h1 k hkb).symm
    · by_cases hkl : k < b0 + n
      · obtain ⟨j, rfl⟩ : ∃ j, k = b0 + j := ⟨k - b0, by omega⟩
        have hjn : j < n := by omega
        rw [hE j hjn, h2 j hjn, hj j hjn (fun e => hk (by rw [e]))]
      · rw [List.getElem?_eq_none (by omega), List.getElem?_eq_none (by omega)]
theorem z_iastP13 (C : Cx p s m args c D κ own cc nL) {n : Nat} {x v : Int32} (b0 : Nat) (a : Nat → Nat) (F : Nat → Nat → Int32) (i : Nat) (hi : i < 13) (hin : vp_in x n) (h0 : ws[b0 + 0]? = some (a 0, cI κ n (F 0))) (h1 : ws[b0 + 1]? = some (a 1, cI κ n (F 1))) (h2 : ws[b0 + 2]? = some (a 2, cI κ n (F 2))) (h3 : ws[b0 + 3]? = some (a 3, cI κ n (F 3))) (h4 : ws[b0 + 4]? = some (a 4, cI κ n (F 4))) (h5 : ws[b0 + 5]? = some (a 5, cI κ n (F 5))) (h6 : ws[b0 + 6]? = some (a 6, cI κ n (F 6))) (h7 : ws[b0 + 7]? = some (a 7, cI κ n (F 7))) (h8 : ws[b0 + 8]? = some (a 8, cI κ n (F 8))) (h9 : ws[b0 + 9]? = some (a 9, cI κ n (F 9))) (h10 : ws[b0 + 10]? = some (a 10, cI κ n (F 10))) (h11 : ws[b0 + 11]? = some (a 11, cI κ n (F 11))) (h12 : ws[b0 + 12]? = some (a 12, cI κ n (F 12))) (hlen : b0 + 13 = ws.length) (ws' : va_W) (hl' : ws'.length = ws.length) (hb : (List.range b0).all (fun _ => true) = true → ∀ k, k < b0 → ws'[k]? = ws[k]?) (hw : ∀ j, j < 13 → ws'[b0 + j]? = some (a j, cI κ n (upd2 F i x.toNatClampNeg v j))) (d : dN cc pc .iastore 1 q) (kk : Zw p l e R s m args below meth c cells slots Q D nL (some A) ws' lv q rest) : Zw p l e R s m args below meth c cells slots Q D nL (some A) ws lv pc (.int v :: .int x :: .ref (a i) :: rest) := by
  have hE : ∀ j, j < 13 → ws[b0 + j]? = some (a j, cI κ n (F j)) := fun j hj => l13 (P := fun j => ws[b0 + j]? = some (a j, cI κ n (F j))) h0 h1 h2 h3 h4 h5 h6 h7 h8 h9 h10 h11 h12 hj
  refine z_iast C (b0 + i) (hE i hi) hin ws' ?_ d kk
  have e : upd (F i) x.toNatClampNeg v = upd2 F i x.toNatClampNeg v i := by simp [upd2]
  rw [e]
  exact set_pool (E := fun j => cI κ n (F j)) (E' := fun j => cI κ n (upd2 F i x.toNatClampNeg v j)) hi hlen hE (fun j _ h => by simp [upd2, h]) ws' hl' (hb (by simp)) hw
theorem z_aaldM (C : Cx p s m args c D κ own cc nL) {a n b : Nat} {f : Nat → Option Nat} {i : Int32} (q0 : Nat) (ha : ws[q0]? = some (a, cM κ n f)) (hin : vp_in i n) (hb : f i.toNatClampNeg = some b) (d : dN cc pc .aaload 1 q) (kk : Zw p l e R s m args below meth c cells slots Q D nL md ws lv q (.ref b :: rest)) : Zw p l e R s m args below meth c cells slots Q D nL md ws lv pc (.int i :: .ref a :: rest) := by
  obtain ⟨d, rfl⟩ := d
  intro H locs ls hI hls
  have hlt : i.toNatClampNeg < n := Nat.not_le.mp fun q => hin (Or.inr q)
  exact W.aald (v := va_rf (f i.toNatClampNeg)) (ty := .array .int) C.1 C.2.1 (hI.1 q0 _ ha) ((C.2.2.2.2.2.1.2 3 _ rfl).1 n (fun j => va_rf (f j))) rfl (fun q => by cases q) (by show ¬ (i < 0 ∨ (arrV _ _ _).slots.size ≤ _); rw [arrV_size]; exact hin) (by show (arrV _ _ _).slots[_]? = _; rw [arrV_read _ _ hlt]) rfl rfl d (by rw [hb]; exact kk H locs ls hI hls)
end ZM
