def va_AOA (ty : FieldType) (U : State) : Prop := (Cond.arrayOver (.array ty)).before #[] U = true
theorem va_AOA.use {ty : FieldType} {A : Array Value} {U : State} (h : va_AOA ty U) : (Cond.arrayOver (.array ty)).before A U = true := h
/-! ===== BEGIN new T[n][m]: the outer array a place, the inner ones among the pooled ===== -/
/-- f, but v at every address of l -/
def vr_up {α : Type} (f : Nat → α) (l : List Nat) (v : α) : Nat → α := fun a => if a ∈ l then v else f a
theorem vr_up_in {α : Type} {f : Nat → α} {l : List Nat} {v : α} {a : Nat} (h : a ∈ l) : vr_up f l v a = v := if_pos h
theorem vr_up_ne {α : Type} {f : Nat → α} {l : List Nat} {v : α} {a : Nat} (h : a ∉ l) : vr_up f l v a = f a := if_neg h
theorem vr_rows {L l : List Nat} {f : Nat → va_E} {e : va_E} (h : ∀ a, a ∈ l → a ∉ L) : va_pl L f ++ l.map (fun a => (a, e)) = va_pl (L ++ l) (vr_up f l e) := by
  unfold va_pl
  rw [List.map_append]
  congr 1
  · apply List.map_congr_left
    intro a ha
    rw [vr_up_ne (fun q => h a q ha)]
  · apply List.map_congr_left
    intro a ha
    rw [vr_up_in ha]
theorem vr_lay {X rows : va_W} {x : Nat × va_E} {pl : va_W} {D : va_G} {cl : List vw_C} {H : Heap} (hP : va_P D cl (((X ++ pl) ++ [x]) ++ rows) H) : va_P D cl ((X ++ [x]) ++ (pl ++ rows)) H := by
  rw [List.append_assoc (X ++ pl)] at hP
  have h := va_P.swap hP
  rw [← List.append_assoc X] at h
  have h2 := va_P.swap h
  rw [List.append_assoc (X ++ [x])] at h2
  exact h2
theorem vr_layD {X rows : va_W} {x : Nat × va_E} {pl : va_W} {A : Nat → Prop} (hD : va_D A (((X ++ pl) ++ [x]) ++ rows)) : va_D A ((X ++ [x]) ++ (pl ++ rows)) := by
  rw [List.append_assoc (X ++ pl)] at hD
  have h := va_D.swap hD
  rw [← List.append_assoc X] at h
  have h2 := va_D.swap h
  rw [List.append_assoc (X ++ [x])] at h2
  exact h2
theorem vr_outer (c : ClassId) (N h0 : Nat) : ∀ i : Nat, Jvm.Free.Multi.outerC c N h0 i = arrV c N (fun j => va_rf (if j < i then some (h0 + 1 + j) else none))
  | 0 => by
    show ({ cls := c, slots := Array.replicate N .null, vm := .none } : Cell) = _
    rw [arrV_new]
    refine congrArg (arrV c N) (funext fun j => ?_)
    simp [va_rf]
  | i + 1 => by
    show (Jvm.Free.Multi.outerC c N h0 i).setSlot i (.ref (h0 + 1 + i)) = _
    rw [vr_outer c N h0 i, arrV_store]
    refine congrArg (arrV c N) (funext fun j => ?_)
    by_cases e : j = i
    · subst e
      simp [updV, va_rf]
    · by_cases h : j < i
      · simp [updV, e, h, Nat.lt_succ_of_lt h]
      · simp [updV, e, h, show ¬ j < i + 1 by omega]
section VGM
variable {p : Program} {l : Launch} {e : Env} {R : Room} {s : State} {m : MethodId} {args : Array Value} {below : List Frame} {meth : Method} {c : Code} {H : Heap} {locs : List Loc} {cells slots : Nat} {Q : State → Prop}
variable {cc : ByteArray} {pc : Nat} {ls : Array Slot} {rest : List Value} {D : va_G} {cl : List vw_C} {A : Nat → Prop} {a : Nat} {tys : List (ClassId × FieldType)} {ws : va_W} {H0 : Heap}
theorem va_mna {X : va_W} {L : List Nat} {f : Nat → va_E} {cc : ByteArray} (hexec : p.tables.exec = Jvm.exec) (hb : c.code = cc) {own : String} {index : Nat} {ty : FieldType} {cy : ClassId} (hown : s.vm.findClass own = some m.cls) (hclink : (Cond.classLink own index ("[" ++ (FieldType.array ty).toString)).before args s = true) (hover : va_AOA ty s) (harr : (Cond.arrayClass ty).before args s = true) (hcy : s.vm.findClass (FieldType.array ty).toString = some cy)
    (hK : va_K D cl tys s) (hP : va_P D cl (X ++ va_pl L f) H) (hD : va_D A (X ++ va_pl L f)) (hS : va_S A H0 H locs) (hA : ∀ q, H0.size ≤ q → A q) {n k : Int32} {N' K' : Nat} {z : vp_A} (hn : ¬ n < 0) (hk : ¬ k < 0) (hN : n.toNatClampNeg = N') (hM : k.toNatClampNeg = K')
    (hb1 : N' * 4 ≤ 536870912) (hb2 : K' * componentBytes ty ≤ 536870912) (hb3 : K' ≤ 536870912) (hdf : fits ty (defaultValue ty) = true) (hdd : (defaultValue ty).isDefault = true) (hcells : cells + (1 + N') ≤ R.cells) (hslots : slots + (N' + N' * K') ≤ R.slots) (hz : ∀ c : ClassId, Jvm.Free.Multi.innerC c K' (defaultValue ty) = vp_cell c z) (hdg : decode cc pc = .ok (.multianewarray index 2, 4))
    (kk : ∀ (q : Nat) (r : Nat → Nat) (cA : ClassId) (H1 : Heap), (∀ i j : Nat, i < N' → j < N' → r i = r j → i = j) → (∀ i : Nat, i < N' → r i ∉ L) → va_K D cl (tys ++ [(cA, .array ty)]) s →
      va_P D cl ((X ++ [(q, .inl (cA, N', .inr (.inr (.inr (.inr (fun i => if i < N' then some (r i) else none))))))]) ++ va_pl (L ++ (List.range N').map r) (vr_up f ((List.range N').map r) (.inl (cy, z)))) H1 → va_D A ((X ++ [(q, .inl (cA, N', .inr (.inr (.inr (.inr (fun i => if i < N' then some (r i) else none))))))]) ++ va_pl (L ++ (List.range N').map r) (vr_up f ((List.range N').map r) (.inl (cy, z)))) → va_S A H0 H1 locs →
      W p l e R s m args below meth c H1 locs (cells + 1 + N') (slots + N' + N' * K') Q (F0 m (pc + 4) ls (.ref q :: rest))) : W p l e R s m args below meth c H locs cells slots Q (F0 m pc ls (.int k :: .int n :: rest)) := by
  subst hN
  subst hM
  intro T hT Xs
  obtain ⟨vm₁, cA, comp, -, fA, fC, hO, -, X', step⟩ := Xs.multianewarray2F hexec hown hclink (va_AOA.use hover) harr (g := F0 m pc ls (.int k :: .int n :: rest)) rfl (by rw [hb]; exact hdg) rfl hn hk hb1 hb2 hb3 hdf hdd hcells hslots
  have ec : some cy = some comp := hcy.symm.trans fC
  cases ec
  generalize hF : Jvm.Free.Multi.fill (T.setVm vm₁) cA cy n.toNatClampNeg k.toNatClampNeg (defaultValue ty) n.toNatClampNeg = F at X' step
  have hTh : (T.setVm vm₁).heap = H := hT
  obtain ⟨f1, f2, -, -⟩ := Jvm.Free.Multi.fill_facts (T.setVm vm₁) cA cy n.toNatClampNeg k.toNatClampNeg (defaultValue ty) n.toNatClampNeg
  rw [hF, hTh] at f1 f2
  have hold : ∀ x : Nat, x < H.size → F.heap[x]? = H[x]? := fun x hx => by
    have := Jvm.Free.Multi.fill_old (T.setVm vm₁) cA cy n.toNatClampNeg k.toNatClampNeg (defaultValue ty) (a := x) (by rw [hTh]; exact hx) n.toNatClampNeg
    rw [hF, hTh] at this
    exact this
  have hrow : ∀ j : Nat, j < n.toNatClampNeg → F.heap[H.size + 1 + j]? = some (vp_cell cy z) := fun j hj => by
    have := Jvm.Free.Multi.fill_inner (T.setVm vm₁) cA cy n.toNatClampNeg k.toNatClampNeg (defaultValue ty) n.toNatClampNeg j hj
    rw [hF, hTh, hz] at this
    exact this
  have hout : Jvm.Free.Multi.outerC cA n.toNatClampNeg H.size n.toNatClampNeg = vp_cell cA (n.toNatClampNeg, .inr (.inr (.inr (.inr (fun i => if i < n.toNatClampNeg then some (H.size + 1 + i) else none))))) := by
    rw [vp_cell_q]
    exact vr_outer cA n.toNatClampNeg H.size n.toNatClampNeg
  rw [hout] at f2
  have hlt : ∀ a, a ∈ L → a < H.size := fun a ha => by
    obtain ⟨k9, hk9⟩ := va_pl_get (X := X) (f := f) ha
    exact (hP k9 _ hk9).lt
  have hnl : ∀ i : Nat, i < n.toNatClampNeg → H.size + 1 + i ∉ L := fun i _ h => by
    have := hlt _ h
    omega
  have hnm : ∀ a, a ∈ (List.range n.toNatClampNeg).map (fun i => H.size + 1 + i) → a ∉ L := fun a ha h => by
    obtain ⟨i, -, rfl⟩ := List.mem_map.mp ha
    have := hlt _ h
    omega
  have hP0 : va_P D cl (X ++ va_pl L f) F.heap := hP.kept (fun k9 x hx => hold x.1 ((hP k9 x hx).lt))
  have hP1 : va_P D cl ((X ++ va_pl L f) ++ [(H.size, .inl (cA, n.toNatClampNeg, .inr (.inr (.inr (.inr (fun i => if i < n.toNatClampNeg then some (H.size + 1 + i) else none))))))]) F.heap := hP0.app (fun k9 x hx => by
    have h0 : k9 < 1 := (List.getElem?_eq_some_iff.mp hx).1
    rw [show k9 = 0 by omega] at hx
    cases hx
    exact f2)
  have hP2 : va_P D cl (((X ++ va_pl L f) ++ [(H.size, .inl (cA, n.toNatClampNeg, .inr (.inr (.inr (.inr (fun i => if i < n.toNatClampNeg then some (H.size + 1 + i) else none))))))]) ++ ((List.range n.toNatClampNeg).map (fun i => H.size + 1 + i)).map (fun a => (a, .inl (cy, z)))) F.heap := hP1.app (fun k9 x hx => by
    obtain ⟨a, ha, rfl⟩ := List.mem_map.mp (List.mem_of_getElem? hx)
    obtain ⟨i, hi, rfl⟩ := List.mem_map.mp ha
    exact hrow i (List.mem_range.mp hi))
  have hD2 : va_D A (((X ++ va_pl L f) ++ [(H.size, .inl (cA, n.toNatClampNeg, .inr (.inr (.inr (.inr (fun i => if i < n.toNatClampNeg then some (H.size + 1 + i) else none))))))]) ++ ((List.range n.toNatClampNeg).map (fun i => H.size + 1 + i)).map (fun a => (a, .inl (cy, z)))) := by
    have hD1 := hD.push (e := .inl (cA, n.toNatClampNeg, .inr (.inr (.inr (.inr (fun i => if i < n.toNatClampNeg then some (H.size + 1 + i) else none)))))) hP rfl (hA _ hS.1)
    generalize hW1 : (X ++ va_pl L f) ++ [(H.size, .inl (cA, n.toNatClampNeg, .inr (.inr (.inr (.inr (fun i => if i < n.toNatClampNeg then some (H.size + 1 + i) else none))))))] = W1 at hD1 hP1 ⊢
    have hle : ∀ (k9 : Nat) (x : Nat × va_E), W1[k9]? = some x → x.1 ≤ H.size := fun k9 x hx => by
      rw [← hW1] at hx
      by_cases hl : k9 < (X ++ va_pl L f).length
      · rw [List.getElem?_append_left hl] at hx
        exact Nat.le_of_lt ((hP k9 x hx).lt)
      · rw [List.getElem?_append_right (by omega)] at hx
        have h0 : k9 - (X ++ va_pl L f).length < 1 := (List.getElem?_eq_some_iff.mp hx).1
        rw [show k9 - (X ++ va_pl L f).length = 0 by omega] at hx
        cases hx
        exact Nat.le_refl _
    have hr : ∀ (k9 : Nat) (x : Nat × va_E), (((List.range n.toNatClampNeg).map (fun i => H.size + 1 + i)).map (fun a => ((a, .inl (cy, z)) : Nat × va_E)))[k9]? = some x → x.1 = H.size + 1 + k9 := fun k9 x hx => by
      rw [List.getElem?_map, List.getElem?_map] at hx
      by_cases h9 : k9 < n.toNatClampNeg
      · rw [List.getElem?_range h9] at hx
        cases hx
        rfl
      · have hn0 : (List.range n.toNatClampNeg)[k9]? = none := List.getElem?_eq_none (by rw [List.length_range]; omega)
        rw [hn0] at hx
        cases hx
    refine ⟨fun i j x y hi hj hxy => ?_, fun k9 x hx => ?_⟩
    · by_cases h1 : i < W1.length <;> by_cases h2 : j < W1.length
      · rw [List.getElem?_append_left h1] at hi
        rw [List.getElem?_append_left h2] at hj
        exact hD1.1 i j x y hi hj hxy
      · rw [List.getElem?_append_left h1] at hi
        rw [List.getElem?_append_right (by omega)] at hj
        have := hle _ _ hi
        have := hr _ _ hj
        omega
      · rw [List.getElem?_append_right (by omega)] at hi
        rw [List.getElem?_append_left h2] at hj
        have := hle _ _ hj
        have := hr _ _ hi
        omega
      · rw [List.getElem?_append_right (by omega)] at hi hj
        have := hr _ _ hi
        have := hr _ _ hj
        omega
    · by_cases h1 : k9 < W1.length
      · rw [List.getElem?_append_left h1] at hx
        exact hD1.2 k9 x hx
      · rw [List.getElem?_append_right (by omega)] at hx
        have := hr _ _ hx
        exact hA _ (by have := hS.1; omega)
  have hAr : ArrOfT s cA (.array ty) := fun N9 z9 => by
    obtain ⟨-, k9, hk9, cm9, hkk9⟩ := (hO 0 0 0).1
    exact ⟨(fun q hq => by cases hq), k9, hk9, cm9, hkk9⟩
  have hK2 : va_K D cl (tys ++ [(cA, .array ty)]) s := ⟨hK.1, fun k9 x hx => by
    by_cases hl : k9 < tys.length
    · rw [List.getElem?_append_left hl] at hx
      exact hK.2 k9 x hx
    · rw [List.getElem?_append_right (by omega)] at hx
      have h0 : k9 - tys.length < 1 := (List.getElem?_eq_some_iff.mp hx).1
      rw [show k9 - tys.length = 0 by omega] at hx
      cases hx
      exact ⟨hAr, fA⟩⟩
  obtain ⟨t, a1, b1⟩ := kk H.size (fun i => H.size + 1 + i) cA F.heap (fun i j _ _ h => by have h9 : H.size + 1 + i = H.size + 1 + j := h; omega) hnl hK2 (by rw [← vr_rows hnm]; exact vr_lay hP2) (by rw [← vr_rows hnm]; exact vr_layD hD2) ⟨by rw [f1]; have := hS.1; omega, fun x h1 h2 => (hold x (Nat.lt_of_lt_of_le h1 hS.1)).trans (hS.2.1 x h1 h2), hS.2.2⟩ F rfl X'
  refine ⟨t, step t ?_, b1⟩
  have e : T.heap.size = H.size := by rw [hT]
  rw [e]
  exact a1
end VGM

def AO (U : State) : Prop := va_AO "SeamCell$Seam" U ∧ va_AOA .int U
theorem AO.warm {s U : State} (hW : s.WarmedH U.vm) (h : AO s) : AO U := ⟨va_AO.moved hW.alike h.1, (show (Cond.arrayOver (.array .int)).before #[] U = (Cond.arrayOver (.array .int)).before #[] (s.setVm U.vm) from rfl).trans ((Cond.arrayOver_setVmC (args := #[]) hW.alike (.array .int)).trans h.2)⟩
theorem AO.call {U : State} (g : JFrame) (mk : MethodId) (a : Array Value) (h : AO U) : AO (U.calling g mk a) := ⟨h.1, h.2⟩
def PX (D : va_G) (κ : KT) (av : List Value) (ws : va_W) (sz : Nat) : Array Value → State → Prop := va_Pc av (fun U => U.heap.size = sz ∧ va_P D vwCl ws U.heap ∧ KK D κ U ∧ va_D (fun _ => True) ws ∧ AO U)
theorem PX.blind {D : va_G} {κ : KT} {av : List Value} {ws : va_W} {sz : Nat} : FrameBlind (PX D κ av ws sz) := fun a U g mk h => ⟨h.1, h.2.1, h.2.2.1, KK.call g mk a h.2.2.2.1, h.2.2.2.2.1, AO.call g mk a h.2.2.2.2.2⟩
theorem px_v {D : va_G} {κ : KT} {s : State} {A : Nat → Prop} {H : Heap} {av : List Value} {wc : va_W} (hK : KK D κ s) (hO : AO s) (hP : va_P D vwCl wc H) (hD : va_D A wc) : ∀ U : State, U.heap = H → s.WarmedH U.vm → PX D κ av wc H.size av.toArray U := fun U hU hW => ⟨rfl, by rw [hU], by rw [hU]; exact hP, hK.warm hW, hD.weaken (fun _ _ _ _ => trivial), hO.warm hW⟩
theorem zx_start {l : Launch} {D : va_G} {κ : KT} {y : MethodName} {b : ByteArray} {maxL mc ms sz : Nat} {ret : Option FieldType} {rm : Room} {av : List Value} {ws : va_W} {Qc : Array Value → State → Outcome → State → Prop} (lv : List (Nat × Value)) (hy : plainName y.cls = true) (hlen : (lg_sl av).length ≤ maxL) (hlv : lv_args 0 av = lv)
    (body : ∀ (p : Program) (e : Env) (s : State) (m : MethodId) (args : Array Value) (below : List Frame) (meth : Method) (c : Code), Cx p s m args c D κ y.cls b maxL → meth.sig.returnType = ret → meth.locks = false → meth.name = y.name → s.heap.size = sz → AO s → Zw p l e rm s m args below meth c 0 0 (MQ below Qc args s mc ms (va_A ws sz)) D maxL (some (va_A ws sz)) ws lv 0 []) :
    Met l y (wsG y b maxL ret) rm (PX D κ av ws sz) Qc mc ms (va_A ws sz) := by
  refine Met.ofW (cc := b) (maxL := maxL) (ret := ret) hy rfl ?_
  intro p e s m args below meth c s₁ B hml hv
  obtain ⟨rfl, hsz, hP, hK, hD, hO⟩ := hv
  have hts := atoms_spec (ws := wsG y b maxL ret) B.pre
  have hl := lv_entry av (n := maxL) hlen
  rw [hlv] at hl
  rw [lg_entry_eq]
  exact body p e s m av.toArray below meth c ⟨B.exec, B.bytes, hml, findClass_of_methodNamed B.named, fun w hw => hts w (List.mem_cons_of_mem _ hw), hK⟩ B.returns B.notSynchronized (name_of_methodNamed B.named B.method).1 hsz hO s.heap [] _ ⟨hP, hD.self, va_S.rf, fun q h => Or.inr (by rw [← hsz]; exact h)⟩ hl
def NEWC (own : String) (idx ci N : Nat) (fs : List Value) : Prop := ∃ (r : vw_C) (ty0 : Nat → FieldType), vwCl[ci]? = some r ∧ r.2.2 = N ∧ (∀ w ∈ u_ws r.1 r.2.1 r.2.2, w ∈ lgG) ∧ (Cond.classLink own idx r.1 ∈ lgG ∧ Cond.instantiable r.1 r.2.2 ∈ lgG ∧ Cond.initialized r.1 ∈ lgG) ∧ (∀ k, k < r.2.2 → parseFieldDescriptor (r.2.1 k).2.2.1 = some (ty0 k)) ∧ ∀ j, j < r.2.2 → defaultValue (ty0 j) = vp_V fs j
def OIN (own : String) (idx : Nat) : Prop := Cond.methodLink own idx Lib.objectInit ∈ lgG ∧ Cond.instanceMethod Lib.objectInit ∈ lgG ∧ Cond.code Lib.objectInit ⟨#[0xb1]⟩ 1 none ∈ lgG
def CWI (own : String) (idx : Nat) (y : MethodName) (b : ByteArray) (maxL n : Nat) : Prop := (Cond.methodLink own idx y ∈ lgG ∧ Cond.instanceMethod y ∈ lgG ∧ Cond.initialized y.cls ∈ lgG ∧ Cond.code y b maxL none ∈ lgG) ∧ y.name = "<init>" ∧ (y.cls ≠ "java/lang/invoke/MethodHandle" ∧ y.cls ≠ "java/lang/invoke/VarHandle" ∧ (parseMethodDescriptor y.desc).map (fun d => d.parameters.length) = some n)
def CNI (own : String) (idx : Nat) (host : String) (y : MethodName) (b : ByteArray) (maxL n : Nat) : Prop := ((own, idx, y, host) ∈ nestW ∧ Cond.instanceMethod y ∈ lgG ∧ Cond.initialized y.cls ∈ lgG ∧ Cond.code y b maxL none ∈ lgG) ∧ y.name = "<init>" ∧ (y.cls ≠ "java/lang/invoke/MethodHandle" ∧ y.cls ≠ "java/lang/invoke/VarHandle" ∧ (parseMethodDescriptor y.desc).map (fun d => d.parameters.length) = some n)
theorem arrV_congr {cA : ClassId} {n : Nat} {f g : Nat → Value} (h : ∀ j, j < n → f j = g j) : arrV cA n f = arrV cA n g := by
  unfold arrV
  congr 1
  apply congrArg
  funext j
  exact h j.val j.isLt
theorem inner12 (c : ClassId) : Jvm.Free.Multi.innerC c 12 (defaultValue .int) = vp_cell c (12, .inl (fun _ => 0)) := by
  rw [vp_cell_i, ← arrV_new]
  rfl
section ZC
variable {p : Program} {l : Launch} {e : Env} {R : Room} {s : State} {m : MethodId} {args : Array Value} {below : List Frame} {meth : Method} {c : Code} {cells slots : Nat} {Q : State → Prop} {D : va_G} {κ : KT} {own : String} {cc : ByteArray} {nL : Nat} {md : Option (Nat → Prop)} {A : Nat → Prop} {ws : va_W} {lv : List (Nat × Value)} {pc q : Nat} {st rest : List Value}
theorem z_new (C : Cx p s m args c D κ own cc nL) {idx ci N : Nat} {fs : List Value} (w : NEWC own idx ci N fs) (hcl : cells + 1 ≤ R.cells) (hsl : slots + N ≤ R.slots) (d : dN cc pc (.new idx) 3 q) (kk : ∀ a : Nat, Zw p l e R s m args below meth c (cells + 1) (slots + N) Q D nL (some A) (ws ++ [(a, .inr (ci, fs))]) lv q (.ref a :: rest)) : Zw p l e R s m args below meth c cells slots Q D nL (some A) ws lv pc rest := by
  obtain ⟨d, rfl⟩ := d
  obtain ⟨⟨rn, rT, rN⟩, ty0, hc, rfl, hin, ⟨w1, w2, w3⟩, hty, hfs⟩ := w
  intro H locs ls hI hls
  obtain ⟨hP, hD, hS, hA⟩ := hI
  exact va_new C.1 C.2.1 C.2.2.2.2.1 hin ty0 hty C.2.2.2.1 (C.2.2.2.2.1 _ w1) (C.2.2.2.2.1 _ w2) (C.2.2.2.2.1 _ w3) C.2.2.2.2.2.1 hP hD hS hA hc hfs hcl hsl d (fun a H1 hP hD hS => kk a H1 locs ls ⟨hP, hD, hS, hA⟩ hls)
theorem z_newa (C : Cx p s m args c D κ own cc nL) {N : Nat} {n : Int32} (w : Cond.arrayClass .int ∈ lgG) (hn : ¬ n < 0) (hN : n.toNatClampNeg = N) (hb : N * componentBytes .int ≤ 536870912) (hcl : cells + 1 ≤ R.cells) (hsl : slots + N ≤ R.slots) (d : dN cc pc (.newarray .int) 2 q) (kk : ∀ a : Nat, Zw p l e R s m args below meth c (cells + 1) (slots + N) Q D nL (some A) (ws ++ [(a, cI κ N (fun _ => 0))]) lv q (.ref a :: rest)) : Zw p l e R s m args below meth c cells slots Q D nL (some A) ws lv pc (.int n :: rest) := by
  obtain ⟨d, rfl⟩ := d
  intro H locs ls hI hls
  obtain ⟨hP, hD, hS, hA⟩ := hI
  refine va_newa (atype := .int) (a0 := (N, .inl (fun _ => 0))) C.1 C.2.1 (C.2.2.2.2.1 _ w) rfl C.2.2.2.2.2.1 hP hD hS hA (fun _ => rfl) hn hN hb hcl hsl d (fun a cA H1 hK hP hD hS => ?_)
  have e : cA = κ.1 := by
    have h1 := (hK.2 4 _ rfl).2
    have h2 := (C.2.2.2.2.2.1.2 0 _ rfl).2
    exact Option.some.inj (h1.symm.trans h2)
  subst e
  exact kk a H1 locs ls ⟨hP, hD, hS, hA⟩ hls
theorem z_newz (C : Cx p s m args c D κ own cc nL) {N : Nat} {n : Int32} (w : Cond.arrayClass .boolean ∈ lgG) (hn : ¬ n < 0) (hN : n.toNatClampNeg = N) (hb : N * componentBytes .boolean ≤ 536870912) (hcl : cells + 1 ≤ R.cells) (hsl : slots + N ≤ R.slots) (d : dN cc pc (.newarray .boolean) 2 q) (kk : ∀ a : Nat, Zw p l e R s m args below meth c (cells + 1) (slots + N) Q D nL (some A) (ws ++ [(a, cZ κ N (fun _ => 0))]) lv q (.ref a :: rest)) : Zw p l e R s m args below meth c cells slots Q D nL (some A) ws lv pc (.int n :: rest) := by
  obtain ⟨d, rfl⟩ := d
  intro H locs ls hI hls
  obtain ⟨hP, hD, hS, hA⟩ := hI
  refine va_newa (atype := .boolean) (a0 := (N, .inl (fun _ => 0))) C.1 C.2.1 (C.2.2.2.2.1 _ w) rfl C.2.2.2.2.2.1 hP hD hS hA (fun _ => rfl) hn hN hb hcl hsl d (fun a cA H1 hK hP hD hS => ?_)
  have e : cA = κ.2.1 := by
    have h1 := (hK.2 4 _ rfl).2
    have h2 := (C.2.2.2.2.2.1.2 1 _ rfl).2
    exact Option.some.inj (h1.symm.trans h2)
  subst e
  exact kk a H1 locs ls ⟨hP, hD, hS, hA⟩ hls
theorem z_anew (C : Cx p s m args c D κ own cc nL) {N idx : Nat} {n : Int32} (w : Cond.classLink own idx "SeamCell$Seam" ∈ lgG) (wo : AO s) (hn : ¬ n < 0) (hN : n.toNatClampNeg = N) (hb : N * 4 ≤ 536870912) (hcl : cells + 1 ≤ R.cells) (hsl : slots + N ≤ R.slots) (d : dN cc pc (.anewarray idx) 3 q) (kk : ∀ a : Nat, Zw p l e R s m args below meth c (cells + 1) (slots + N) Q D nL (some A) (ws ++ [(a, cS κ N (fun _ => none))]) lv q (.ref a :: rest)) : Zw p l e R s m args below meth c cells slots Q D nL (some A) ws lv pc (.int n :: rest) := by
  obtain ⟨d, rfl⟩ := d
  intro H locs ls hI hls
  obtain ⟨hP, hD, hS, hA⟩ := hI
  refine va_newq C.1 C.2.1 C.2.2.2.1 (C.2.2.2.2.1 _ w) wo.1 C.2.2.2.2.2.1 hP hD hS hA hn hN hb hcl hsl d (fun a cA H1 hK hP hD hS => ?_)
  have e : cA = κ.2.2.1 := by
    obtain ⟨k1, c1, -, -, -, h1⟩ := (hK.2 4 _ rfl).2
    obtain ⟨k2, c2, -, -, -, h2⟩ := (C.2.2.2.2.2.1.2 2 _ rfl).2
    exact Option.some.inj (h1.symm.trans h2)
  subst e
  exact kk a H1 locs ls ⟨hP, hD, hS, hA⟩ hls
theorem z_mnew (C : Cx p s m args c D κ own cc nL) {idx : Nat} (w : Cond.classLink own idx "[[I" ∈ lgG) (wo : AO s) (wa : Cond.arrayClass .int ∈ lgG) (hcl : cells + (1 + 13) ≤ R.cells) (hsl : slots + (13 + 13 * 12) ≤ R.slots) (d : dN cc pc (.multianewarray idx 2) 4 q) (kk : ∀ (a : Nat) (r : Nat → Nat), Zw p l e R s m args below meth c (cells + 1 + 13) (slots + 13 + 13 * 12) Q D nL (some A) (ws ++ [(a, cM κ 13 (fun i => some (r i)))] ++ [(r 0, cI κ 12 (fun _ => 0)), (r 1, cI κ 12 (fun _ => 0)), (r 2, cI κ 12 (fun _ => 0)), (r 3, cI κ 12 (fun _ => 0)), (r 4, cI κ 12 (fun _ => 0)), (r 5, cI κ 12 (fun _ => 0)), (r 6, cI κ 12 (fun _ => 0)), (r 7, cI κ 12 (fun _ => 0)), (r 8, cI κ 12 (fun _ => 0)), (r 9, cI κ 12 (fun _ => 0)), (r 10, cI κ 12 (fun _ => 0)), (r 11, cI κ 12 (fun _ => 0)), (r 12, cI κ 12 (fun _ => 0))]) lv q (.ref a :: rest)) : Zw p l e R s m args below meth c cells slots Q D nL (some A) ws lv pc (.int 12 :: .int 13 :: rest) := by
  obtain ⟨d, rfl⟩ := d
  intro H locs ls hI hls
  obtain ⟨hP, hD, hS, hA⟩ := hI
  have hcy : s.vm.findClass (FieldType.array .int).toString = some κ.1 := (C.2.2.2.2.2.1.2 0 _ rfl).2
  have hP0 : va_P D vwCl (ws ++ va_pl [] (fun _ => .inr (0, []))) H := by
    have e : ws ++ va_pl [] (fun _ => (.inr (0, []) : va_E)) = ws := List.append_nil _
    rw [e]; exact hP
  have hD0 : va_D A (ws ++ va_pl [] (fun _ => .inr (0, []))) := by
    have e : ws ++ va_pl [] (fun _ => (.inr (0, []) : va_E)) = ws := List.append_nil _
    rw [e]; exact hD
  refine va_mna (ty := .int) (N' := 13) (K' := 12) (z := (12, .inl (fun _ => 0))) C.1 C.2.1 C.2.2.2.1 (C.2.2.2.2.1 _ w) wo.2 (C.2.2.2.2.1 _ wa) hcy C.2.2.2.2.2.1 hP0 hD0 hS hA (by decide) (by decide) (by decide) (by decide) (by decide) (by decide) (by decide) rfl rfl hcl hsl inner12 d (fun a r cA H1 hinj hni hK hP1 hD1 hS1 => ?_)
  · have e : cA = κ.2.2.2 := by
      have h1 := (hK.2 4 _ rfl).2
      have h2 := (C.2.2.2.2.2.1.2 3 _ rfl).2
      exact Option.some.inj (h1.symm.trans h2)
    subst e
    rw [← vr_rows (fun a _ h => by cases h)] at hP1 hD1
    have ee : (cM κ 13 (fun i => if i < 13 then some (r i) else none) : va_E) = .inl (κ.2.2.2, 13, .inr (.inr (.inr (.inr (fun i => if i < 13 then some (r i) else none))))) := rfl
    have hP2 : va_P D vwCl (ws ++ [(a, cM κ 13 (fun i => some (r i)))] ++ [(r 0, cI κ 12 (fun _ => 0)), (r 1, cI κ 12 (fun _ => 0)), (r 2, cI κ 12 (fun _ => 0)), (r 3, cI κ 12 (fun _ => 0)), (r 4, cI κ 12 (fun _ => 0)), (r 5, cI κ 12 (fun _ => 0)), (r 6, cI κ 12 (fun _ => 0)), (r 7, cI κ 12 (fun _ => 0)), (r 8, cI κ 12 (fun _ => 0)), (r 9, cI κ 12 (fun _ => 0)), (r 10, cI κ 12 (fun _ => 0)), (r 11, cI κ 12 (fun _ => 0)), (r 12, cI κ 12 (fun _ => 0))]) H1 := by
      intro k x hx
      by_cases hk : k = ws.length
      · subst hk
        have hx2 : x = (a, cM κ 13 (fun i => some (r i))) := by
          rw [List.append_assoc, List.getElem?_append_right (Nat.le_refl _), Nat.sub_self] at hx
          exact (Option.some.inj hx).symm
        subst hx2
        have h9 := hP1 ws.length (a, cM κ 13 (fun i => if i < 13 then some (r i) else none)) (by
          rw [List.append_assoc, List.getElem?_append_right (Nat.le_refl _), Nat.sub_self]; rfl)
        have h10 : H1[a]? = some (arrV κ.2.2.2 13 (fun j => va_rf (if j < 13 then some (r j) else none))) := h9
        show H1[a]? = some (arrV κ.2.2.2 13 (fun j => va_rf (some (r j))))
        rw [h10]
        exact congrArg some (arrV_congr (fun j hj => by rw [if_pos hj]))
      · refine hP1 k x ?_
        rw [List.append_assoc] at hx ⊢
        by_cases hk2 : k < ws.length
        · rw [List.getElem?_append_left hk2] at hx ⊢
          exact hx
        · rw [List.getElem?_append_right (by omega)] at hx ⊢
          obtain ⟨j, hj⟩ : ∃ j, k - ws.length = j + 1 := ⟨k - ws.length - 1, by omega⟩
          rw [hj] at hx ⊢
          exact hx
    have hD2 : va_D A (ws ++ [(a, cM κ 13 (fun i => some (r i)))] ++ [(r 0, cI κ 12 (fun _ => 0)), (r 1, cI κ 12 (fun _ => 0)), (r 2, cI κ 12 (fun _ => 0)), (r 3, cI κ 12 (fun _ => 0)), (r 4, cI κ 12 (fun _ => 0)), (r 5, cI κ 12 (fun _ => 0)), (r 6, cI κ 12 (fun _ => 0)), (r 7, cI κ 12 (fun _ => 0)), (r 8, cI κ 12 (fun _ => 0)), (r 9, cI κ 12 (fun _ => 0)), (r 10, cI κ 12 (fun _ => 0)), (r 11, cI κ 12 (fun _ => 0)), (r 12, cI κ 12 (fun _ => 0))]) := by
      have key : ∀ (k : Nat) (x : Nat × va_E), (ws ++ [(a, cM κ 13 (fun i => some (r i)))] ++ [(r 0, cI κ 12 (fun _ => 0)), (r 1, cI κ 12 (fun _ => 0)), (r 2, cI κ 12 (fun _ => 0)), (r 3, cI κ 12 (fun _ => 0)), (r 4, cI κ 12 (fun _ => 0)), (r 5, cI κ 12 (fun _ => 0)), (r 6, cI κ 12 (fun _ => 0)), (r 7, cI κ 12 (fun _ => 0)), (r 8, cI κ 12 (fun _ => 0)), (r 9, cI κ 12 (fun _ => 0)), (r 10, cI κ 12 (fun _ => 0)), (r 11, cI κ 12 (fun _ => 0)), (r 12, cI κ 12 (fun _ => 0))])[k]? = some x → ∃ y, ((ws ++ [(a, cM κ 13 (fun i => if i < 13 then some (r i) else none))]) ++ (va_pl [] (fun _ => .inr (0, [])) ++ ((List.range 13).map r).map (fun a => (a, .inl (κ.1, (12, .inl (fun _ => 0)))))))[k]? = some y ∧ y.1 = x.1 := by
        intro k x hx
        rw [List.append_assoc] at hx ⊢
        by_cases hk2 : k < ws.length
        · rw [List.getElem?_append_left hk2] at hx ⊢
          exact ⟨x, hx, rfl⟩
        · rw [List.getElem?_append_right (by omega)] at hx ⊢
          cases hj : k - ws.length with
          | zero => rw [hj] at hx; have := Option.some.inj hx; exact ⟨_, rfl, by rw [← this]⟩
          | succ j => rw [hj] at hx; exact ⟨x, hx, rfl⟩
      refine ⟨fun i j x y hx hy hxy => ?_, fun k x hx => ?_⟩
      · obtain ⟨x', h1, h2⟩ := key i x hx
        obtain ⟨y', h3, h4⟩ := key j y hy
        exact hD1.1 i j x' y' h1 h3 (by rw [h2, h4, hxy])
      · obtain ⟨x', h1, h2⟩ := key k x hx
        rw [← h2]
        exact hD1.2 k x' h1
    exact kk a r H1 locs ls ⟨hP2, hD2, hS1, hA⟩ hls
theorem z_oinit (C : Cx p s m args c D κ own cc nL) {idx a : Nat} (w : OIN own idx) (hf : 1 ≤ R.frames) (hL : (rest.map fun v => v.category).sum + 12 ≤ R.locals) (d : dN cc pc (.invokespecial idx) 3 q) (kk : Zw p l e R s m args below meth c cells slots Q D nL md ws lv q rest) : Zw p l e R s m args below meth c cells slots Q D nL md ws lv pc (.ref a :: rest) := by
  obtain ⟨d, rfl⟩ := d
  intro H locs ls hI hls
  refine W.objInit C.1 C.2.1 C.2.2.2.1 (C.2.2.2.2.1 _ w.1) (C.2.2.2.2.1 _ w.2.1) (C.2.2.2.2.1 _ w.2.2) rfl (by rw [C.2.2.1]; exact hls.1) rfl d hf ?_ (kk H locs ls hI hls)
  show 2 * 0 + _ + 12 ≤ _
  rw [Nat.mul_zero, Nat.zero_add]
  exact hL
theorem z_arrS {a n : Nat} {f : Nat → Option Nat} (q0 : Nat) (ha : ws[q0]? = some (a, cS κ n f)) (f' : Nat → Option Nat) (hf : ∀ j, j < n → f j = f' j) (ws' : va_W) (hw : ws.set q0 (a, cS κ n f') = ws') (kk : Zw p l e R s m args below meth c cells slots Q D nL (some A) ws' lv pc st) : Zw p l e R s m args below meth c cells slots Q D nL (some A) ws lv pc st := by
  subst hw
  intro H locs ls hI hls
  obtain ⟨hP, hD, hS, hA⟩ := hI
  refine kk H locs ls ⟨?_, hD.set ha, hS, hA⟩ hls
  intro k x hx
  have hl := (List.getElem?_eq_some_iff.mp ha).1
  by_cases hk : k = q0
  · subst hk
    rw [List.getElem?_set_self hl] at hx
    cases hx
    have h1 : H[a]? = some (arrV κ.2.2.1 n (fun j => va_rf (f j))) := hP k _ ha
    show H[a]? = some (arrV κ.2.2.1 n (fun j => va_rf (f' j)))
    rw [h1]
    exact congrArg some (arrV_congr (fun j hj => by rw [hf j hj]))
  · rw [List.getElem?_set_ne (fun e => hk e.symm)] at hx
    exact hP k x hx
theorem z_aast (C : Cx p s m args c D κ own cc nL) {a n v : Nat} {f : Nat → Option Nat} {vs : List Value} {i : Int32} (q0 qk : Nat) (ha : ws[q0]? = some (a, cS κ n f)) (hv : ws[qk]? = some (v, .inr (6, vs))) (hin : vp_in i n) (ws' : va_W) (hw : ws.set q0 (a, cS κ n (va_up f i.toNatClampNeg (some v))) = ws') (d : dN cc pc .aastore 1 q) (kk : Zw p l e R s m args below meth c cells slots Q D nL (some A) ws' lv q rest) : Zw p l e R s m args below meth c cells slots Q D nL (some A) ws lv pc (.ref v :: .int i :: .ref a :: rest) := by
  obtain ⟨d, rfl⟩ := d
  subst hw
  exact fun H locs ls hI hls => va_astq (r := (R_Seam, T_Seam, 7)) C.1 C.2.1 C.2.2.2.2.2.1 hI.1 hI.2.1 hI.2.2.1 q0 2 qk 6 ha rfl hv rfl hin d (fun H1 locs1 hP hD hS => kk H1 locs1 ls ⟨hP, hD, hS, hI.2.2.2⟩ hls)
theorem z_ci (C : Cx p s m args c D κ own cc nL) {S : Type} {y : MethodName} {b : ByteArray} {host : String} {maxL idx n a mc ms : Nat} {rm : Room} {As : List Value} {wc wr : va_W} {post : S → Prop} {N : S → va_W} (hO : AO s) (hM : ∀ sz : Nat, Met l y (wsG y b maxL none) rm (PX D κ (.ref a :: As) wc sz) (va_Qv post (QB D wc sz N) (va_A wc sz)) mc ms (va_A wc sz)) (cw : CWI own idx y b maxL n) (h0 : rm.cells = mc ∧ rm.slots = ms) (hF : rm.frames + 1 ≤ R.frames ∧ 8 + (maxL + 11) + rm.locals ≤ R.locals) (hcs : cells + mc ≤ R.cells ∧ slots + ms ≤ R.slots) (isC isR : List Nat) (hC : isC.map (fun i => ws[i]?) = wc.map some) (hR2 : isR.map (fun i => ws[i]?) = wr.map some) (hdj : va_nd (isC ++ isR) = true) (hn : As.length = n) (hst : st = As.reverse ++ .ref a :: rest) (hr : (rest.map fun v => v.category).sum ≤ 8) (d : dN cc pc (.invokespecial idx) 3 q) (kk : ∀ u : S, post u → Zw p l e R s m args below meth c (cells + mc) (slots + ms) Q D nL (some A) (wr ++ N u) lv q rest) : Zw p l e R s m args below meth c cells slots Q D nL (some A) ws lv pc st := by
  obtain ⟨d, rfl⟩ := d
  obtain ⟨⟨w1, w2, w3, w4⟩, hy, hd⟩ := cw
  have hts := C.2.2.2.2.1
  subst hst
  obtain ⟨hdR, hdC⟩ := nd_app hdj
  intro H locs ls hI hls
  obtain ⟨hP, hD, hS, hA⟩ := hI
  have hPc : va_P D vwCl wc H := p_of_map hP isC hC
  have hDc : va_D A wc := hD.sub isC (nd_left hdj) hC
  have hFc := va_free (wc := wc) hD hS hA isC hC
  refine va_callv (va_runI (Ts := lgG) ⟨C.1, C.2.1, C.2.2.1, C.2.2.2.1, hts⟩ (hM H.size) ⟨callB_of n hts (gG w4) rfl h0.1 h0.2 (hts _ w3) (hts _ w1) hd hF, hy, hts _ w2⟩ ⟨PX.blind, px_v C.2.2.2.2.2 hO hPc hDc⟩ rfl hn hls.1 rfl (lv_room hr) d hcs) hS (fun q _ h => hFc q h) hFc (fun u t H1 locs1 ht hvm hw hB hz1 hk1 hS1 => ?_)
  obtain ⟨hP1, hD1⟩ := hB
  rw [ht] at hP1
  obtain ⟨hP2, hD2⟩ := va_join (wr := wr) (w1 := N u) hP hD isC isR hC hR2 hdR hdC hk1 hFc hP1 hD1
  exact kk u hw H1 locs1 ls ⟨hP2, hD2, hS1, hA⟩ hls
theorem z_cni (C : Cx p s m args c D κ own cc nL) {S : Type} {y : MethodName} {b : ByteArray} {host : String} {maxL idx n a mc ms : Nat} {rm : Room} {As : List Value} {wc wr : va_W} {post : S → Prop} {N : S → va_W} (hO : AO s) (hM : ∀ sz : Nat, Met l y (wsG y b maxL none) rm (PX D κ (.ref a :: As) wc sz) (va_Qv post (QB D wc sz N) (va_A wc sz)) mc ms (va_A wc sz)) (cw : CNI own idx host y b maxL n) (h0 : rm.cells = mc ∧ rm.slots = ms) (hF : rm.frames + 1 ≤ R.frames ∧ 8 + (maxL + 11) + rm.locals ≤ R.locals) (hcs : cells + mc ≤ R.cells ∧ slots + ms ≤ R.slots) (isC isR : List Nat) (hC : isC.map (fun i => ws[i]?) = wc.map some) (hR2 : isR.map (fun i => ws[i]?) = wr.map some) (hdj : va_nd (isC ++ isR) = true) (hn : As.length = n) (hst : st = As.reverse ++ .ref a :: rest) (hr : (rest.map fun v => v.category).sum ≤ 8) (d : dN cc pc (.invokespecial idx) 3 q) (kk : ∀ u : S, post u → Zw p l e R s m args below meth c (cells + mc) (slots + ms) Q D nL (some A) (wr ++ N u) lv q rest) : Zw p l e R s m args below meth c cells slots Q D nL (some A) ws lv pc st := by
  obtain ⟨d, rfl⟩ := d
  obtain ⟨⟨w1, w2, w3, w4⟩, hy, hd⟩ := cw
  have hts := C.2.2.2.2.1
  subst hst
  obtain ⟨hdR, hdC⟩ := nd_app hdj
  intro H locs ls hI hls
  obtain ⟨hP, hD, hS, hA⟩ := hI
  have hPc : va_P D vwCl wc H := p_of_map hP isC hC
  have hDc : va_D A wc := hD.sub isC (nd_left hdj) hC
  have hFc := va_free (wc := wc) hD hS hA isC hC
  refine va_callv (va_runIN (host := host) (Ts := lgG) ⟨C.1, C.2.1, C.2.2.1, C.2.2.2.1, hts⟩ (hM H.size) ⟨va_cnB n hts (gG w4) rfl h0.1 h0.2 (C.2.2.2.2.2.2 _ w1) (hts _ w3) hd hF, hy, hts _ w2⟩ ⟨PX.blind, px_v C.2.2.2.2.2 hO hPc hDc⟩ rfl hn hls.1 rfl (lv_room hr) d hcs) hS (fun q _ h => hFc q h) hFc (fun u t H1 locs1 ht hvm hw hB hz1 hk1 hS1 => ?_)
  obtain ⟨hP1, hD1⟩ := hB
  rw [ht] at hP1
  obtain ⟨hP2, hD2⟩ := va_join (wr := wr) (w1 := N u) hP hD isC isR hC hR2 hdR hdC hk1 hFc hP1 hD1
  exact kk u hw H1 locs1 ls ⟨hP2, hD2, hS1, hA⟩ hls
end ZC
