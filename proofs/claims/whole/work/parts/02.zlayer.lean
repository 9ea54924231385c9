theorem nd_mem {l : List Nat} {x : Nat} (h : va_nd (x :: l) = true) : x ∉ l := by
  simp only [va_nd, Bool.and_eq_true, decide_eq_true_eq] at h
  exact h.1
theorem nd_app {a b : List Nat} (h : va_nd (a ++ b) = true) : va_nd b = true ∧ ∀ i ∈ b, i ∉ a := by
  induction a with
  | nil => exact ⟨h, fun i _ q => by cases q⟩
  | cons x a ih =>
    have hx := nd_mem (x := x) (l := a ++ b) h
    have h2 : va_nd (a ++ b) = true := by
      simp only [List.cons_append, va_nd, Bool.and_eq_true] at h
      exact h.2
    obtain ⟨h3, h4⟩ := ih h2
    refine ⟨h3, fun i hi q => ?_⟩
    rcases List.mem_cons.mp q with rfl | q
    · exact hx (List.mem_append_right _ hi)
    · exact h4 i hi q
theorem nd_left {a b : List Nat} (h : va_nd (a ++ b) = true) : va_nd a = true := by
  induction a with
  | nil => rfl
  | cons x a ih =>
    simp only [List.cons_append, va_nd, Bool.and_eq_true] at h ⊢
    refine ⟨?_, ih h.2⟩
    have h1 := h.1
    simp at h1 ⊢
    exact h1.1
theorem p_of_map {D : va_G} {cl : List vw_C} {ws w : va_W} {H : Heap} (hP : va_P D cl ws H) (is : List Nat) (hs : is.map (fun i => ws[i]?) = w.map some) : va_P D cl w H := by
  intro k q hq
  have h1 : (is.map (fun i => ws[i]?))[k]? = some (some q) := by rw [hs, List.getElem?_map, hq]; rfl
  rw [List.getElem?_map] at h1
  cases hi : is[k]? with
  | none => rw [hi] at h1; cases h1
  | some i => rw [hi] at h1; exact hP i q (Option.some.inj h1)
/-! the judgement over cells, places and stack alone -/
abbrev KT : Type := ClassId × ClassId × ClassId × ClassId
abbrev tyL (κ : KT) : List (ClassId × FieldType) := [(κ.1, .int), (κ.2.1, .boolean), (κ.2.2.1, .object "SeamCell$Seam"), (κ.2.2.2, .array .int)]
abbrev cI (κ : KT) (n : Nat) (f : Nat → Int32) : va_E := .inl (κ.1, n, .inl f)
abbrev cZ (κ : KT) (n : Nat) (f : Nat → Int32) : va_E := .inl (κ.2.1, n, .inl f)
abbrev cS (κ : KT) (n : Nat) (f : Nat → Option Nat) : va_E := .inl (κ.2.2.1, n, .inr (.inr (.inr (.inr f))))
abbrev cM (κ : KT) (n : Nat) (f : Nat → Option Nat) : va_E := .inl (κ.2.2.2, n, .inr (.inr (.inr (.inr f))))
def imax (x y : Int32) : Int32 := if x < y then y else x
def imin (x y : Int32) : Int32 := if y < x then y else x
def iabs (x : Int32) : Int32 := if 0 ≤ x then x else -x
def KK (D : va_G) (κ : KT) (U : State) : Prop := va_K D vwCl (tyL κ) U ∧ NW U
theorem KK.warm {D : va_G} {κ : KT} {s U : State} (hW : s.WarmedH U.vm) (h : KK D κ s) : KK D κ U := ⟨va_K.moved hW.alike h.1, fun q hq => va_Nw.warmM hW (h.2 q hq)⟩
theorem KK.call {D : va_G} {κ : KT} {U : State} (g : JFrame) (mk : MethodId) (a : Array Value) (h : KK D κ U) : KK D κ (U.calling g mk a) := ⟨va_K.moved (u := U) (U := U.calling g mk a) (Vm.Alike.refl U.vm) h.1, fun q hq => va_Nw.same rfl rfl (h.2 q hq)⟩
def PP (D : va_G) (κ : KT) (av : List Value) (ws : va_W) : Array Value → State → Prop := va_Pc av (fun U => va_P D vwCl ws U.heap ∧ KK D κ U)
theorem PP.blind {D : va_G} {κ : KT} {av : List Value} {ws : va_W} : FrameBlind (PP D κ av ws) := fun a U g mk h => ⟨h.1, h.2.1, KK.call g mk a h.2.2⟩
def PE (D : va_G) (κ : KT) (av : List Value) (ws : va_W) (sz : Nat) : Array Value → State → Prop := va_Pc av (fun U => U.heap.size = sz ∧ va_P D vwCl ws U.heap ∧ KK D κ U ∧ va_D (fun _ => True) ws)
theorem PE.blind {D : va_G} {κ : KT} {av : List Value} {ws : va_W} {sz : Nat} : FrameBlind (PE D κ av ws sz) := fun a U g mk h => ⟨h.1, h.2.1, h.2.2.1, KK.call g mk a h.2.2.2.1, h.2.2.2.2⟩
def QB {S : Type} (D : va_G) (ws : va_W) (sz : Nat) (N : S → va_W) : S → State → Prop := fun u t => va_P D vwCl (N u) t.heap ∧ va_D (va_A ws sz) (N u)
def Im (D : va_G) (s : State) (md : Option (Nat → Prop)) (ws : va_W) (H : Heap) (locs : List Loc) : Prop := va_P D vwCl ws H ∧ (match md with
  | none => H = s.heap ∧ locs = []
  | some A => va_D A ws ∧ va_S A s.heap H locs ∧ ∀ q : Nat, s.heap.size ≤ q → A q)
def Cx (p : Program) (s : State) (m : MethodId) (args : Array Value) (c : Code) (D : va_G) (κ : KT) (own : String) (cc : ByteArray) (nL : Nat) : Prop := p.tables.exec = Jvm.exec ∧ c.code = cc ∧ c.maxLocals = nL ∧ s.vm.findClass own = some m.cls ∧ (∀ w ∈ lgG, w.before args s = true) ∧ KK D κ s
def Zw (p : Program) (l : Launch) (e : Env) (R : Room) (s : State) (m : MethodId) (args : Array Value) (below : List Frame) (meth : Method) (c : Code) (cells slots : Nat) (Q : State → Prop) (D : va_G) (nL : Nat) (md : Option (Nat → Prop)) (ws : va_W) (lv : List (Nat × Value)) (pc : Nat) (st : List Value) : Prop :=
  ∀ (H : Heap) (locs : List Loc) (ls : Array Slot), Im D s md ws H locs → lv_has ls nL lv → W p l e R s m args below meth c H locs cells slots Q (F0 m pc ls st)
/-! what an instruction is, and where it goes -/
def dN (b : ByteArray) (pc : Nat) (i : Instr) (n q : Nat) : Prop := decode b pc = .ok (i, n) ∧ pc + n = q
def dK (b : ByteArray) (pc : Nat) (v : Int32) (q : Nat) : Prop := (∃ n : Int, decode b pc = .ok (.iconst n, 1) ∧ Int32.ofInt n = v ∧ pc + 1 = q) ∨ (∃ n : Int, decode b pc = .ok (.bipush n, 2) ∧ (Int8.ofInt n).toInt32 = v ∧ pc + 2 = q) ∨ (∃ n : Int, decode b pc = .ok (.sipush n, 3) ∧ (Int16.ofInt n).toInt32 = v ∧ pc + 3 = q)
def dLK (b : ByteArray) (pc : Nat) (v : Int64) (q : Nat) : Prop := ∃ n : Fin 2, decode b pc = .ok (.lconst n, 1) ∧ Int64.ofNat (n : Nat) = v ∧ pc + 1 = q
def dIL (b : ByteArray) (pc i q : Nat) : Prop := (∃ k : Fin 4, decode b pc = .ok (.iload_n k, 1) ∧ (k : Nat) = i ∧ pc + 1 = q) ∨ (decode b pc = .ok (.iload i, 2) ∧ pc + 2 = q)
def dAL (b : ByteArray) (pc i q : Nat) : Prop := (∃ k : Fin 4, decode b pc = .ok (.aload_n k, 1) ∧ (k : Nat) = i ∧ pc + 1 = q) ∨ (decode b pc = .ok (.aload i, 2) ∧ pc + 2 = q)
def dLL (b : ByteArray) (pc i q : Nat) : Prop := (∃ k : Fin 4, decode b pc = .ok (.lload_n k, 1) ∧ (k : Nat) = i ∧ pc + 1 = q) ∨ (decode b pc = .ok (.lload i, 2) ∧ pc + 2 = q)
def dIS (b : ByteArray) (pc i q : Nat) : Prop := (∃ k : Fin 4, decode b pc = .ok (.istore_n k, 1) ∧ (k : Nat) = i ∧ pc + 1 = q) ∨ (decode b pc = .ok (.istore i, 2) ∧ pc + 2 = q)
def dAS (b : ByteArray) (pc i q : Nat) : Prop := (∃ k : Fin 4, decode b pc = .ok (.astore_n k, 1) ∧ (k : Nat) = i ∧ pc + 1 = q) ∨ (decode b pc = .ok (.astore i, 2) ∧ pc + 2 = q)
def dLS (b : ByteArray) (pc i q : Nat) : Prop := (∃ k : Fin 4, decode b pc = .ok (.lstore_n k, 1) ∧ (k : Nat) = i ∧ pc + 1 = q) ∨ (decode b pc = .ok (.lstore i, 2) ∧ pc + 2 = q)
def dB (b : ByteArray) (pc : Nat) (f : Int → Instr) (tgt q : Nat) : Prop := ∃ off : Int, decode b pc = .ok (f off, 3) ∧ (pc : Int) + off = (tgt : Int) ∧ pc + 3 = q
/-! what a site links -/
def FLD (own : String) (idx ci k : Nat) : Prop := ∃ r : vw_C, vwCl[ci]? = some r ∧ (∀ w ∈ u_ws r.1 r.2.1 r.2.2, w ∈ lgG) ∧ k < r.2.2 ∧ Cond.fieldLink own idx (r.2.1 k).1 (r.2.1 k).2.1 (r.2.1 k).2.2.1 ∈ lgG
def FPT (own : String) (idx ci k : Nat) (fin : Bool) (ty : FieldType) : Prop := ∃ (r : vw_C) (ty0 : Nat → FieldType), vwCl[ci]? = some r ∧ (∀ w ∈ u_ws r.1 r.2.1 r.2.2, w ∈ lgG) ∧ k < r.2.2 ∧ Cond.fieldLink own idx (r.2.1 k).1 (r.2.1 k).2.1 (r.2.1 k).2.2.1 ∈ lgG ∧ (∀ k, k < r.2.2 → parseFieldDescriptor (r.2.1 k).2.2.1 = some (ty0 k)) ∧ (∀ a, a < r.2.2 → ∀ b, b < r.2.2 → a ≠ b → (r.2.1 a).2.1 ≠ (r.2.1 b).2.1) ∧ (r.2.1 k).2.2.2 = fin ∧ (fin = true → (r.2.1 k).1 = own) ∧ parseFieldDescriptor (r.2.1 k).2.2.1 = some ty
def CWV (own : String) (idx ci : Nat) (y : MethodName) (b : ByteArray) (maxL : Nat) (ret : Option FieldType) (n : Nat) : Prop := (Cond.methodLink own idx y ∈ lgG ∧ Cond.instanceMethod y ∈ lgG ∧ Cond.selects y.cls y y ∈ lgG ∧ Cond.initialized y.cls ∈ lgG ∧ Cond.code y b maxL ret ∈ lgG) ∧ (∃ r : vw_C, vwCl[ci]? = some r ∧ r.1 = y.cls) ∧ (y.cls ≠ "java/lang/invoke/MethodHandle" ∧ y.cls ≠ "java/lang/invoke/VarHandle" ∧ (parseMethodDescriptor y.desc).map (fun d => d.parameters.length) = some n)
def CWS (own : String) (idx : Nat) (y : MethodName) (b : ByteArray) (maxL : Nat) (ret : Option FieldType) (n : Nat) : Prop := (Cond.methodLink own idx y ∈ lgG ∧ Cond.static y ∈ lgG ∧ Cond.initialized y.cls ∈ lgG ∧ Cond.code y b maxL ret ∈ lgG) ∧ (y.cls ≠ "java/lang/invoke/MethodHandle" ∧ y.cls ≠ "java/lang/invoke/VarHandle" ∧ (parseMethodDescriptor y.desc).map (fun d => d.parameters.length) = some n)
def CNS (own : String) (idx : Nat) (host : String) (y : MethodName) (b : ByteArray) (maxL : Nat) (ret : Option FieldType) (n : Nat) : Prop := ((own, idx, y, host) ∈ nestW ∧ Cond.static y ∈ lgG ∧ Cond.initialized y.cls ∈ lgG ∧ Cond.code y b maxL ret ∈ lgG) ∧ (y.cls ≠ "java/lang/invoke/MethodHandle" ∧ y.cls ≠ "java/lang/invoke/VarHandle" ∧ (parseMethodDescriptor y.desc).map (fun d => d.parameters.length) = some n)
def CMA (own : String) (idx : Nat) (y : MethodName) (b : ByteArray) (n : Nat) : Prop := Cond.methodLink own idx y ∈ lgG ∧ Cond.static y ∈ lgG ∧ Cond.initialized "java/lang/Math" ∈ lgG ∧ Cond.code y b n (some .int) ∈ lgG
def RM (rm R : Room) (maxL cells slots : Nat) : Prop := (rm.frames + 1 ≤ R.frames ∧ 8 + (maxL + 11) + rm.locals ≤ R.locals) ∧ cells + rm.cells ≤ R.cells ∧ slots + rm.slots ≤ R.slots
section ZL
variable {p : Program} {l : Launch} {e : Env} {R : Room} {s : State} {m : MethodId} {args : Array Value} {below : List Frame} {meth : Method} {c : Code} {cells slots : Nat} {Q : State → Prop} {D : va_G} {κ : KT} {own : String} {cc : ByteArray} {nL : Nat} {md : Option (Nat → Prop)} {A : Nat → Prop} {ws : va_W} {lv : List (Nat × Value)} {pc q : Nat} {st rest : List Value}
theorem z_iadd (C : Cx p s m args c D κ own cc nL) {x y : Int32} (d : dN cc pc (.iadd) 1 q)  (k : Zw p l e R s m args below meth c cells slots Q D nL md ws lv q (.int (x + y) :: rest)) : Zw p l e R s m args below meth c cells slots Q D nL md ws lv pc (.int y :: .int x :: rest) := by
  obtain ⟨d, rfl⟩ := d
  exact fun H locs ls hI hl => lv_iadd C.1 C.2.1 d  (k H locs ls hI hl)
theorem z_isub (C : Cx p s m args c D κ own cc nL) {x y : Int32} (d : dN cc pc (.isub) 1 q)  (k : Zw p l e R s m args below meth c cells slots Q D nL md ws lv q (.int (x - y) :: rest)) : Zw p l e R s m args below meth c cells slots Q D nL md ws lv pc (.int y :: .int x :: rest) := by
  obtain ⟨d, rfl⟩ := d
  exact fun H locs ls hI hl => lv_isub C.1 C.2.1 d  (k H locs ls hI hl)
theorem z_imul (C : Cx p s m args c D κ own cc nL) {x y : Int32} (d : dN cc pc (.imul) 1 q)  (k : Zw p l e R s m args below meth c cells slots Q D nL md ws lv q (.int (x * y) :: rest)) : Zw p l e R s m args below meth c cells slots Q D nL md ws lv pc (.int y :: .int x :: rest) := by
  obtain ⟨d, rfl⟩ := d
  exact fun H locs ls hI hl => lv_imul C.1 C.2.1 d  (k H locs ls hI hl)
theorem z_iand (C : Cx p s m args c D κ own cc nL) {x y : Int32} (d : dN cc pc (.iand) 1 q)  (k : Zw p l e R s m args below meth c cells slots Q D nL md ws lv q (.int (x &&& y) :: rest)) : Zw p l e R s m args below meth c cells slots Q D nL md ws lv pc (.int y :: .int x :: rest) := by
  obtain ⟨d, rfl⟩ := d
  exact fun H locs ls hI hl => lv_iand C.1 C.2.1 d  (k H locs ls hI hl)
theorem z_ior (C : Cx p s m args c D κ own cc nL) {x y : Int32} (d : dN cc pc (.ior) 1 q)  (k : Zw p l e R s m args below meth c cells slots Q D nL md ws lv q (.int (x ||| y) :: rest)) : Zw p l e R s m args below meth c cells slots Q D nL md ws lv pc (.int y :: .int x :: rest) := by
  obtain ⟨d, rfl⟩ := d
  exact fun H locs ls hI hl => lv_ior C.1 C.2.1 d  (k H locs ls hI hl)
theorem z_ixor (C : Cx p s m args c D κ own cc nL) {x y : Int32} (d : dN cc pc (.ixor) 1 q)  (k : Zw p l e R s m args below meth c cells slots Q D nL md ws lv q (.int (x ^^^ y) :: rest)) : Zw p l e R s m args below meth c cells slots Q D nL md ws lv pc (.int y :: .int x :: rest) := by
  obtain ⟨d, rfl⟩ := d
  exact fun H locs ls hI hl => lv_ixor C.1 C.2.1 d  (k H locs ls hI hl)
theorem z_ishl (C : Cx p s m args c D κ own cc nL) {x y : Int32} (d : dN cc pc (.ishl) 1 q)  (k : Zw p l e R s m args below meth c cells slots Q D nL md ws lv q (.int (x <<< (y &&& 31)) :: rest)) : Zw p l e R s m args below meth c cells slots Q D nL md ws lv pc (.int y :: .int x :: rest) := by
  obtain ⟨d, rfl⟩ := d
  exact fun H locs ls hI hl => lv_ishl C.1 C.2.1 d  (k H locs ls hI hl)
theorem z_ishr (C : Cx p s m args c D κ own cc nL) {x y : Int32} (d : dN cc pc (.ishr) 1 q)  (k : Zw p l e R s m args below meth c cells slots Q D nL md ws lv q (.int (x >>> (y &&& 31)) :: rest)) : Zw p l e R s m args below meth c cells slots Q D nL md ws lv pc (.int y :: .int x :: rest) := by
  obtain ⟨d, rfl⟩ := d
  exact fun H locs ls hI hl => lv_ishr C.1 C.2.1 d  (k H locs ls hI hl)
theorem z_idiv (C : Cx p s m args c D κ own cc nL) {x y : Int32} (d : dN cc pc (.idiv) 1 q) (hne : ¬ y = 0) (k : Zw p l e R s m args below meth c cells slots Q D nL md ws lv q (.int (x / y) :: rest)) : Zw p l e R s m args below meth c cells slots Q D nL md ws lv pc (.int y :: .int x :: rest) := by
  obtain ⟨d, rfl⟩ := d
  exact fun H locs ls hI hl => lv_idiv C.1 C.2.1 d hne (k H locs ls hI hl)
theorem z_irem (C : Cx p s m args c D κ own cc nL) {x y : Int32} (d : dN cc pc (.irem) 1 q) (hne : ¬ y = 0) (k : Zw p l e R s m args below meth c cells slots Q D nL md ws lv q (.int (x - x / y * y) :: rest)) : Zw p l e R s m args below meth c cells slots Q D nL md ws lv pc (.int y :: .int x :: rest) := by
  obtain ⟨d, rfl⟩ := d
  exact fun H locs ls hI hl => lv_irem C.1 C.2.1 d hne (k H locs ls hI hl)
theorem z_ineg (C : Cx p s m args c D κ own cc nL) {x : Int32} (d : dN cc pc (.ineg) 1 q)  (k : Zw p l e R s m args below meth c cells slots Q D nL md ws lv q (.int (-x) :: rest)) : Zw p l e R s m args below meth c cells slots Q D nL md ws lv pc (.int x :: rest) := by
  obtain ⟨d, rfl⟩ := d
  exact fun H locs ls hI hl => lv_ineg C.1 C.2.1 d  (k H locs ls hI hl)
theorem z_ladd (C : Cx p s m args c D κ own cc nL) {x y : Int64} (d : dN cc pc (.ladd) 1 q)  (k : Zw p l e R s m args below meth c cells slots Q D nL md ws lv q (.long (x + y) :: rest)) : Zw p l e R s m args below meth c cells slots Q D nL md ws lv pc (.long y :: .long x :: rest) := by
  obtain ⟨d, rfl⟩ := d
  exact fun H locs ls hI hl => lv_ladd C.1 C.2.1 d  (k H locs ls hI hl)
theorem z_lsub (C : Cx p s m args c D κ own cc nL) {x y : Int64} (d : dN cc pc (.lsub) 1 q)  (k : Zw p l e R s m args below meth c cells slots Q D nL md ws lv q (.long (x - y) :: rest)) : Zw p l e R s m args below meth c cells slots Q D nL md ws lv pc (.long y :: .long x :: rest) := by
  obtain ⟨d, rfl⟩ := d
  exact fun H locs ls hI hl => lv_lsub C.1 C.2.1 d  (k H locs ls hI hl)
theorem z_lmul (C : Cx p s m args c D κ own cc nL) {x y : Int64} (d : dN cc pc (.lmul) 1 q)  (k : Zw p l e R s m args below meth c cells slots Q D nL md ws lv q (.long (x * y) :: rest)) : Zw p l e R s m args below meth c cells slots Q D nL md ws lv pc (.long y :: .long x :: rest) := by
  obtain ⟨d, rfl⟩ := d
  exact fun H locs ls hI hl => lv_lmul C.1 C.2.1 d  (k H locs ls hI hl)
theorem z_lneg (C : Cx p s m args c D κ own cc nL) {x : Int64} (d : dN cc pc (.lneg) 1 q)  (k : Zw p l e R s m args below meth c cells slots Q D nL md ws lv q (.long (-x) :: rest)) : Zw p l e R s m args below meth c cells slots Q D nL md ws lv pc (.long x :: rest) := by
  obtain ⟨d, rfl⟩ := d
  exact fun H locs ls hI hl => lv_lneg C.1 C.2.1 d  (k H locs ls hI hl)
theorem z_i2l (C : Cx p s m args c D κ own cc nL) {x : Int32} (d : dN cc pc .i2l 1 q) (k : Zw p l e R s m args below meth c cells slots Q D nL md ws lv q (.long x.toInt64 :: rest)) : Zw p l e R s m args below meth c cells slots Q D nL md ws lv pc (.int x :: rest) := by
  obtain ⟨d, rfl⟩ := d
  exact fun H locs ls hI hl => lv_i2l C.1 C.2.1 d rfl (k H locs ls hI hl)
theorem z_lcmp (C : Cx p s m args c D κ own cc nL) {x y : Int64} (d : dN cc pc .lcmp 1 q) (k : Zw p l e R s m args below meth c cells slots Q D nL md ws lv q (.int (lg_cmp x y) :: rest)) : Zw p l e R s m args below meth c cells slots Q D nL md ws lv pc (.long y :: .long x :: rest) := by
  obtain ⟨d, rfl⟩ := d
  exact fun H locs ls hI hl => W.lcmp C.1 C.2.1 d (k H locs ls hI hl)
theorem z_k (C : Cx p s m args c D κ own cc nL) {v : Int32} (d : dK cc pc v q) (k : Zw p l e R s m args below meth c cells slots Q D nL md ws lv q (.int v :: rest)) : Zw p l e R s m args below meth c cells slots Q D nL md ws lv pc rest := by
  rcases d with ⟨n, d, hv, rfl⟩ | ⟨n, d, hv, rfl⟩ | ⟨n, d, hv, rfl⟩
  · exact fun H locs ls hI hl => lv_iconst C.1 C.2.1 d hv (k H locs ls hI hl)
  · exact fun H locs ls hI hl => lv_bipush C.1 C.2.1 d hv (k H locs ls hI hl)
  · exact fun H locs ls hI hl => lv_sipush C.1 C.2.1 d hv (k H locs ls hI hl)
theorem z_lk (C : Cx p s m args c D κ own cc nL) {v : Int64} (d : dLK cc pc v q) (k : Zw p l e R s m args below meth c cells slots Q D nL md ws lv q (.long v :: rest)) : Zw p l e R s m args below meth c cells slots Q D nL md ws lv pc rest := by
  obtain ⟨n, d, hv, rfl⟩ := d
  exact fun H locs ls hI hl => lv_lconst C.1 C.2.1 d hv (k H locs ls hI hl)
theorem z_ldc (C : Cx p s m args c D κ own cc nL) {v : Int32} {idx : Nat} (d : dN cc pc (.ldc idx) 2 q) (w : Cond.constant own idx v ∈ lgG) (k : Zw p l e R s m args below meth c cells slots Q D nL md ws lv q (.int v :: rest)) : Zw p l e R s m args below meth c cells slots Q D nL md ws lv pc rest := by
  obtain ⟨d, rfl⟩ := d
  exact fun H locs ls hI hl => lv_ldc C.1 C.2.1 C.2.2.2.1 (C.2.2.2.2.1 _ w) d (k H locs ls hI hl)
theorem z_ldc2 (C : Cx p s m args c D κ own cc nL) {v : Int64} {idx : Nat} (d : dN cc pc (.ldc2_w idx) 3 q) (w : Cond.constantLong own idx v ∈ lgG) (k : Zw p l e R s m args below meth c cells slots Q D nL md ws lv q (.long v :: rest)) : Zw p l e R s m args below meth c cells slots Q D nL md ws lv pc rest := by
  obtain ⟨d, rfl⟩ := d
  exact fun H locs ls hI hl => lv_ldc2 C.1 C.2.1 C.2.2.2.1 (C.2.2.2.2.1 _ w) d (k H locs ls hI hl)
theorem z_iload (C : Cx p s m args c D κ own cc nL) {x : Int32} {i : Nat} (d : dIL cc pc i q) (j : Nat) (hj : lv[j]? = some (i, .int x)) (k : Zw p l e R s m args below meth c cells slots Q D nL md ws lv q (.int x :: rest)) : Zw p l e R s m args below meth c cells slots Q D nL md ws lv pc rest := by
  rcases d with ⟨n, d, hi, rfl⟩ | ⟨d, rfl⟩
  · exact fun H locs ls hI hl => lv_iload_n C.1 C.2.1 d hi (lv_at hl j hj) (k H locs ls hI hl)
  · exact fun H locs ls hI hl => lv_iload C.1 C.2.1 d (lv_at hl j hj) (k H locs ls hI hl)
theorem z_lload (C : Cx p s m args c D κ own cc nL) {x : Int64} {i : Nat} (d : dLL cc pc i q) (j : Nat) (hj : lv[j]? = some (i, .long x)) (k : Zw p l e R s m args below meth c cells slots Q D nL md ws lv q (.long x :: rest)) : Zw p l e R s m args below meth c cells slots Q D nL md ws lv pc rest := by
  rcases d with ⟨n, d, hi, rfl⟩ | ⟨d, rfl⟩
  · exact fun H locs ls hI hl => lv_lload_n C.1 C.2.1 d hi (lv_at hl j hj) (k H locs ls hI hl)
  · exact fun H locs ls hI hl => lv_lload C.1 C.2.1 d (lv_at hl j hj) (k H locs ls hI hl)
theorem z_aload (C : Cx p s m args c D κ own cc nL) {x : Nat} {i : Nat} (d : dAL cc pc i q) (j : Nat) (hj : lv[j]? = some (i, .ref x)) (k : Zw p l e R s m args below meth c cells slots Q D nL md ws lv q (.ref x :: rest)) : Zw p l e R s m args below meth c cells slots Q D nL md ws lv pc rest := by
  rcases d with ⟨n, d, hi, rfl⟩ | ⟨d, rfl⟩
  · exact fun H locs ls hI hl => lv_aload_n C.1 C.2.1 d hi (lv_at hl j hj) (k H locs ls hI hl)
  · exact fun H locs ls hI hl => lv_aload C.1 C.2.1 d (lv_at hl j hj) (k H locs ls hI hl)
theorem z_istore (C : Cx p s m args c D κ own cc nL) {x : Int32} {i : Nat} (lv' : List (Nat × Value)) (d : dIS cc pc i q) (hn : Nat.blt i nL = true) (hl0 : (i, Value.int x) :: lv.filter (fun q => !(q.1 == i) && !(q.1 + 1 == i && q.2.category == 2)) = lv') (k : Zw p l e R s m args below meth c cells slots Q D nL md ws lv' q rest) : Zw p l e R s m args below meth c cells slots Q D nL md ws lv pc (.int x :: rest) := by
  have hn := Nat.blt_eq.mp hn
  rcases d with ⟨n, d, hi, rfl⟩ | ⟨d, rfl⟩
  · exact fun H locs ls hI hl => lv_istore_n C.1 C.2.1 d hi hl hn hl0 (fun ls hl => k H locs ls hI hl)
  · exact fun H locs ls hI hl => lv_istore C.1 C.2.1 d hl hn hl0 (fun ls hl => k H locs ls hI hl)
theorem z_astore (C : Cx p s m args c D κ own cc nL) {x : Nat} {i : Nat} (lv' : List (Nat × Value)) (d : dAS cc pc i q) (hn : Nat.blt i nL = true) (hl0 : (i, Value.ref x) :: lv.filter (fun q => !(q.1 == i) && !(q.1 + 1 == i && q.2.category == 2)) = lv') (k : Zw p l e R s m args below meth c cells slots Q D nL md ws lv' q rest) : Zw p l e R s m args below meth c cells slots Q D nL md ws lv pc (.ref x :: rest) := by
  have hn := Nat.blt_eq.mp hn
  rcases d with ⟨n, d, hi, rfl⟩ | ⟨d, rfl⟩
  · exact fun H locs ls hI hl => lv_astore_n C.1 C.2.1 d hi hl hn hl0 (fun ls hl => k H locs ls hI hl)
  · exact fun H locs ls hI hl => lv_astore C.1 C.2.1 d hl hn hl0 (fun ls hl => k H locs ls hI hl)
theorem z_lstore (C : Cx p s m args c D κ own cc nL) {x : Int64} {i : Nat} (lv' : List (Nat × Value)) (d : dLS cc pc i q) (hn : Nat.blt (i + 1) nL = true) (hl0 : (i, Value.long x) :: lv.filter (fun q => !(q.1 == i) && (!(q.1 == i + 1) && !(q.1 + 1 == i && q.2.category == 2))) = lv') (k : Zw p l e R s m args below meth c cells slots Q D nL md ws lv' q rest) : Zw p l e R s m args below meth c cells slots Q D nL md ws lv pc (.long x :: rest) := by
  have hn := Nat.blt_eq.mp hn
  rcases d with ⟨n, d, hi, rfl⟩ | ⟨d, rfl⟩
  · exact fun H locs ls hI hl => lv_lstore_n C.1 C.2.1 d hi hl hn hl0 (fun ls hl => k H locs ls hI hl)
  · exact fun H locs ls hI hl => lv_lstore C.1 C.2.1 d hl hn hl0 (fun ls hl => k H locs ls hI hl)
theorem z_iinc (C : Cx p s m args c D κ own cc nL) {x v : Int32} {i j : Nat} {n : Int} (lv' : List (Nat × Value)) (d : dN cc pc (.iinc i n) 3 q) (hj : lv[j]? = some (i, .int x)) (hv : x + Int32.ofInt n = v) (hn : Nat.blt i nL = true) (hl0 : (i, Value.int v) :: lv.filter (fun q => !(q.1 == i) && !(q.1 + 1 == i && q.2.category == 2)) = lv') (k : Zw p l e R s m args below meth c cells slots Q D nL md ws lv' q rest) : Zw p l e R s m args below meth c cells slots Q D nL md ws lv pc rest := by
  obtain ⟨d, rfl⟩ := d
  exact fun H locs ls hI hl => lv_iinc C.1 C.2.1 d hl hj hv (Nat.blt_eq.mp hn) hl0 (fun ls hl => k H locs ls hI hl)
theorem z_dup (C : Cx p s m args c D κ own cc nL) {va : Value} (d : dN cc pc .dup 1 q) (hva : va.category = 1) (k : Zw p l e R s m args below meth c cells slots Q D nL md ws lv q (va :: va :: rest)) : Zw p l e R s m args below meth c cells slots Q D nL md ws lv pc (va :: rest) := by
  obtain ⟨d, rfl⟩ := d
  exact fun H locs ls hI hl => lv_dup C.1 C.2.1 d hva (k H locs ls hI hl)
theorem z_dup2 (C : Cx p s m args c D κ own cc nL) {va vb : Value} (d : dN cc pc .dup2 1 q) (hva : va.category = 1) (hvb : vb.category = 1) (k : Zw p l e R s m args below meth c cells slots Q D nL md ws lv q (va :: vb :: va :: vb :: rest)) : Zw p l e R s m args below meth c cells slots Q D nL md ws lv pc (va :: vb :: rest) := by
  obtain ⟨d, rfl⟩ := d
  exact fun H locs ls hI hl => lv_dup2_11 C.1 C.2.1 d hva hvb (k H locs ls hI hl)
theorem z_goto (C : Cx p s m args c D κ own cc nL) {tgt : Nat} (d : dB cc pc .goto tgt q) (k : Zw p l e R s m args below meth c cells slots Q D nL md ws lv tgt st) : Zw p l e R s m args below meth c cells slots Q D nL md ws lv pc st := by
  obtain ⟨off, d, ht, rfl⟩ := d
  exact fun H locs ls hI hl => lv_goto C.1 C.2.1 d ht (k H locs ls hI hl)
theorem z_if_eq (C : Cx p s m args c D κ own cc nL) {x : Int32} {tgt : Nat} (d : dB cc pc (.ifCond .eq) tgt q) (kt : x = 0 → Zw p l e R s m args below meth c cells slots Q D nL md ws lv tgt rest) (kf : ¬ x = 0 → Zw p l e R s m args below meth c cells slots Q D nL md ws lv q rest) : Zw p l e R s m args below meth c cells slots Q D nL md ws lv pc (.int x :: rest) := by
  obtain ⟨off, d, ht, rfl⟩ := d
  exact fun H locs ls hI hl => lv_if_eq C.1 C.2.1 d ht (fun h => kt h H locs ls hI hl) (fun h => kf h H locs ls hI hl)
theorem z_if_ne (C : Cx p s m args c D κ own cc nL) {x : Int32} {tgt : Nat} (d : dB cc pc (.ifCond .ne) tgt q) (kt : ¬ x = 0 → Zw p l e R s m args below meth c cells slots Q D nL md ws lv tgt rest) (kf : x = 0 → Zw p l e R s m args below meth c cells slots Q D nL md ws lv q rest) : Zw p l e R s m args below meth c cells slots Q D nL md ws lv pc (.int x :: rest) := by
  obtain ⟨off, d, ht, rfl⟩ := d
  exact fun H locs ls hI hl => lv_if_ne C.1 C.2.1 d ht (fun h => kt h H locs ls hI hl) (fun h => kf h H locs ls hI hl)
theorem z_if_lt (C : Cx p s m args c D κ own cc nL) {x : Int32} {tgt : Nat} (d : dB cc pc (.ifCond .lt) tgt q) (kt : x < 0 → Zw p l e R s m args below meth c cells slots Q D nL md ws lv tgt rest) (kf : ¬ x < 0 → Zw p l e R s m args below meth c cells slots Q D nL md ws lv q rest) : Zw p l e R s m args below meth c cells slots Q D nL md ws lv pc (.int x :: rest) := by
  obtain ⟨off, d, ht, rfl⟩ := d
  exact fun H locs ls hI hl => lv_if_lt C.1 C.2.1 d ht (fun h => kt h H locs ls hI hl) (fun h => kf h H locs ls hI hl)
theorem z_if_ge (C : Cx p s m args c D κ own cc nL) {x : Int32} {tgt : Nat} (d : dB cc pc (.ifCond .ge) tgt q) (kt : 0 ≤ x → Zw p l e R s m args below meth c cells slots Q D nL md ws lv tgt rest) (kf : ¬ 0 ≤ x → Zw p l e R s m args below meth c cells slots Q D nL md ws lv q rest) : Zw p l e R s m args below meth c cells slots Q D nL md ws lv pc (.int x :: rest) := by
  obtain ⟨off, d, ht, rfl⟩ := d
  exact fun H locs ls hI hl => lv_if_ge C.1 C.2.1 d ht (fun h => kt h H locs ls hI hl) (fun h => kf h H locs ls hI hl)
theorem z_if_gt (C : Cx p s m args c D κ own cc nL) {x : Int32} {tgt : Nat} (d : dB cc pc (.ifCond .gt) tgt q) (kt : 0 < x → Zw p l e R s m args below meth c cells slots Q D nL md ws lv tgt rest) (kf : ¬ 0 < x → Zw p l e R s m args below meth c cells slots Q D nL md ws lv q rest) : Zw p l e R s m args below meth c cells slots Q D nL md ws lv pc (.int x :: rest) := by
  obtain ⟨off, d, ht, rfl⟩ := d
  exact fun H locs ls hI hl => lv_if_gt C.1 C.2.1 d ht (fun h => kt h H locs ls hI hl) (fun h => kf h H locs ls hI hl)
theorem z_if_le (C : Cx p s m args c D κ own cc nL) {x : Int32} {tgt : Nat} (d : dB cc pc (.ifCond .le) tgt q) (kt : x ≤ 0 → Zw p l e R s m args below meth c cells slots Q D nL md ws lv tgt rest) (kf : ¬ x ≤ 0 → Zw p l e R s m args below meth c cells slots Q D nL md ws lv q rest) : Zw p l e R s m args below meth c cells slots Q D nL md ws lv pc (.int x :: rest) := by
  obtain ⟨off, d, ht, rfl⟩ := d
  exact fun H locs ls hI hl => lv_if_le C.1 C.2.1 d ht (fun h => kt h H locs ls hI hl) (fun h => kf h H locs ls hI hl)
theorem z_icmp_eq (C : Cx p s m args c D κ own cc nL) {x y : Int32} {tgt : Nat} (d : dB cc pc (.if_icmp .eq) tgt q) (kt : x = y → Zw p l e R s m args below meth c cells slots Q D nL md ws lv tgt rest) (kf : ¬ x = y → Zw p l e R s m args below meth c cells slots Q D nL md ws lv q rest) : Zw p l e R s m args below meth c cells slots Q D nL md ws lv pc (.int y :: .int x :: rest) := by
  obtain ⟨off, d, ht, rfl⟩ := d
  exact fun H locs ls hI hl => lv_icmp_eq C.1 C.2.1 d ht (fun h => kt h H locs ls hI hl) (fun h => kf h H locs ls hI hl)
theorem z_icmp_ne (C : Cx p s m args c D κ own cc nL) {x y : Int32} {tgt : Nat} (d : dB cc pc (.if_icmp .ne) tgt q) (kt : ¬ x = y → Zw p l e R s m args below meth c cells slots Q D nL md ws lv tgt rest) (kf : x = y → Zw p l e R s m args below meth c cells slots Q D nL md ws lv q rest) : Zw p l e R s m args below meth c cells slots Q D nL md ws lv pc (.int y :: .int x :: rest) := by
  obtain ⟨off, d, ht, rfl⟩ := d
  exact fun H locs ls hI hl => lv_icmp_ne C.1 C.2.1 d ht (fun h => kt h H locs ls hI hl) (fun h => kf h H locs ls hI hl)
theorem z_icmp_lt (C : Cx p s m args c D κ own cc nL) {x y : Int32} {tgt : Nat} (d : dB cc pc (.if_icmp .lt) tgt q) (kt : x < y → Zw p l e R s m args below meth c cells slots Q D nL md ws lv tgt rest) (kf : ¬ x < y → Zw p l e R s m args below meth c cells slots Q D nL md ws lv q rest) : Zw p l e R s m args below meth c cells slots Q D nL md ws lv pc (.int y :: .int x :: rest) := by
  obtain ⟨off, d, ht, rfl⟩ := d
  exact fun H locs ls hI hl => lv_icmp_lt C.1 C.2.1 d ht (fun h => kt h H locs ls hI hl) (fun h => kf h H locs ls hI hl)
theorem z_icmp_ge (C : Cx p s m args c D κ own cc nL) {x y : Int32} {tgt : Nat} (d : dB cc pc (.if_icmp .ge) tgt q) (kt : y ≤ x → Zw p l e R s m args below meth c cells slots Q D nL md ws lv tgt rest) (kf : ¬ y ≤ x → Zw p l e R s m args below meth c cells slots Q D nL md ws lv q rest) : Zw p l e R s m args below meth c cells slots Q D nL md ws lv pc (.int y :: .int x :: rest) := by
  obtain ⟨off, d, ht, rfl⟩ := d
  exact fun H locs ls hI hl => lv_icmp_ge C.1 C.2.1 d ht (fun h => kt h H locs ls hI hl) (fun h => kf h H locs ls hI hl)
theorem z_icmp_gt (C : Cx p s m args c D κ own cc nL) {x y : Int32} {tgt : Nat} (d : dB cc pc (.if_icmp .gt) tgt q) (kt : y < x → Zw p l e R s m args below meth c cells slots Q D nL md ws lv tgt rest) (kf : ¬ y < x → Zw p l e R s m args below meth c cells slots Q D nL md ws lv q rest) : Zw p l e R s m args below meth c cells slots Q D nL md ws lv pc (.int y :: .int x :: rest) := by
  obtain ⟨off, d, ht, rfl⟩ := d
  exact fun H locs ls hI hl => lv_icmp_gt C.1 C.2.1 d ht (fun h => kt h H locs ls hI hl) (fun h => kf h H locs ls hI hl)
theorem z_icmp_le (C : Cx p s m args c D κ own cc nL) {x y : Int32} {tgt : Nat} (d : dB cc pc (.if_icmp .le) tgt q) (kt : x ≤ y → Zw p l e R s m args below meth c cells slots Q D nL md ws lv tgt rest) (kf : ¬ x ≤ y → Zw p l e R s m args below meth c cells slots Q D nL md ws lv q rest) : Zw p l e R s m args below meth c cells slots Q D nL md ws lv pc (.int y :: .int x :: rest) := by
  obtain ⟨off, d, ht, rfl⟩ := d
  exact fun H locs ls hI hl => lv_icmp_le C.1 C.2.1 d ht (fun h => kt h H locs ls hI hl) (fun h => kf h H locs ls hI hl)
theorem Im.P {H : Heap} {locs : List Loc} (h : Im D s md ws H locs) : va_P D vwCl ws H := h.1
theorem z_sub (ks : List Nat) (lv' : List (Nat × Value)) (h : lv_pick lv ks = lv') (k : Zw p l e R s m args below meth c cells slots Q D nL md ws lv' pc st) : Zw p l e R s m args below meth c cells slots Q D nL md ws lv pc st := fun H locs ls hI hl => k H locs ls hI (lv_sub hl ks h)
theorem z_topi {x : Int32} (k : ∀ v : Int32, v = x → Zw p l e R s m args below meth c cells slots Q D nL md ws lv pc (.int v :: rest)) : Zw p l e R s m args below meth c cells slots Q D nL md ws lv pc (.int x :: rest) := k x rfl
theorem z_topl {x : Int64} (k : ∀ v : Int64, v = x → Zw p l e R s m args below meth c cells slots Q D nL md ws lv pc (.long v :: rest)) : Zw p l e R s m args below meth c cells slots Q D nL md ws lv pc (.long x :: rest) := k x rfl
theorem z_get (C : Cx p s m args c D κ own cc nL) {idx ci k a : Nat} {fs : List Value} {v : Value} (fl : FLD own idx ci k) (q0 : Nat) (he : ws[q0]? = some (a, .inr (ci, fs))) (hv : fs[k]? = some v) (d : dN cc pc (.getfield idx) 3 q) (kk : Zw p l e R s m args below meth c cells slots Q D nL md ws lv q (v :: rest)) : Zw p l e R s m args below meth c cells slots Q D nL md ws lv pc (.ref a :: rest) := by
  obtain ⟨d, rfl⟩ := d
  obtain ⟨⟨rn, rT, rN⟩, hc, hin, hk, hl⟩ := fl
  exact fun H locs ls hI hls => va_get C.1 C.2.1 C.2.2.2.2.1 hin C.2.2.2.1 C.2.2.2.2.2.1 hI.1 q0 he hc k hk (C.2.2.2.2.1 _ hl) (fun _ h9 => h9) hv d (kk H locs ls hI hls)
theorem z_put (C : Cx p s m args c D κ own cc nL) {idx ci k a : Nat} {fs : List Value} {v : Value} {ty : FieldType} (fl : FPT own idx ci k false ty) (q0 : Nat) (he : ws[q0]? = some (a, .inr (ci, fs))) (hn : narrow ty v = v) (hft : fits ty v = true) (hlen : Nat.blt k fs.length = true) (ws' : va_W) (hw : ws.set q0 (a, .inr (ci, fs.set k v)) = ws') (d : dN cc pc (.putfield idx) 3 q) (kk : Zw p l e R s m args below meth c cells slots Q D nL (some A) ws' lv q rest) : Zw p l e R s m args below meth c cells slots Q D nL (some A) ws lv pc (v :: .ref a :: rest) := by
  obtain ⟨d, rfl⟩ := d
  obtain ⟨⟨rn, rT, rN⟩, ty0, hc, hin, hk, hl, hty, hnm, hfin, -, hd⟩ := fl
  subst hw
  exact fun H locs ls hI hls => va_put C.1 C.2.1 C.2.2.2.2.1 hin ty0 hty hnm C.2.2.2.1 C.2.2.2.2.2.1 hI.1 hI.2.1 hI.2.2.1 q0 he hc k hk (C.2.2.2.2.1 _ hl) (fun _ h9 => h9) hfin hd hn hft (Nat.blt_eq.mp hlen) d (fun H1 locs1 hP hD hS => kk H1 locs1 ls ⟨hP, hD, hS, hI.2.2.2⟩ hls)
theorem z_putF (C : Cx p s m args c D κ own cc nL) {idx ci k a : Nat} {fs : List Value} {v : Value} {ty : FieldType} (hin2 : meth.name = "<init>") (fl : FPT own idx ci k true ty) (q0 : Nat) (he : ws[q0]? = some (a, .inr (ci, fs))) (hn : narrow ty v = v) (hft : fits ty v = true) (hlen : Nat.blt k fs.length = true) (ws' : va_W) (hw : ws.set q0 (a, .inr (ci, fs.set k v)) = ws') (d : dN cc pc (.putfield idx) 3 q) (kk : Zw p l e R s m args below meth c cells slots Q D nL (some A) ws' lv q rest) : Zw p l e R s m args below meth c cells slots Q D nL (some A) ws lv pc (v :: .ref a :: rest) := by
  obtain ⟨d, rfl⟩ := d
  obtain ⟨⟨rn, rT, rN⟩, ty0, hc, hin, hk, hl, hty, hnm, hfin, hdecl, hd⟩ := fl
  subst hw
  exact fun H locs ls hI hls => va_putF C.1 C.2.1 C.2.2.2.2.1 hin ty0 hty hnm C.2.2.2.1 C.2.2.2.2.2.1 hI.1 hI.2.1 hI.2.2.1 q0 he hc k hk (C.2.2.2.2.1 _ hl) (fun _ h9 => h9) hfin hin2 (hdecl rfl) hd hn hft (Nat.blt_eq.mp hlen) d (fun H1 locs1 hP hD hS => kk H1 locs1 ls ⟨hP, hD, hS, hI.2.2.2⟩ hls)
theorem z_iald (C : Cx p s m args c D κ own cc nL) {a n : Nat} {f : Nat → Int32} {i : Int32} (q0 : Nat) (ha : ws[q0]? = some (a, cI κ n f)) (hin : vp_in i n) (d : dN cc pc .iaload 1 q) (kk : Zw p l e R s m args below meth c cells slots Q D nL md ws lv q (.int (f i.toNatClampNeg) :: rest)) : Zw p l e R s m args below meth c cells slots Q D nL md ws lv pc (.int i :: .ref a :: rest) := by
  obtain ⟨d, rfl⟩ := d
  exact fun H locs ls hI hls => va_iald C.1 C.2.1 C.2.2.2.2.2.1 hI.1 q0 0 ha rfl hin d (kk H locs ls hI hls)
theorem z_zald (C : Cx p s m args c D κ own cc nL) {a n : Nat} {f : Nat → Int32} {i : Int32} (q0 : Nat) (ha : ws[q0]? = some (a, cZ κ n f)) (hin : vp_in i n) (d : dN cc pc .baload 1 q) (kk : Zw p l e R s m args below meth c cells slots Q D nL md ws lv q (.int (f i.toNatClampNeg) :: rest)) : Zw p l e R s m args below meth c cells slots Q D nL md ws lv pc (.int i :: .ref a :: rest) := by
  obtain ⟨d, rfl⟩ := d
  exact fun H locs ls hI hls => va_zald C.1 C.2.1 C.2.2.2.2.2.1 hI.1 q0 1 ha rfl hin d (kk H locs ls hI hls)
theorem z_iast (C : Cx p s m args c D κ own cc nL) {a n : Nat} {f : Nat → Int32} {i x : Int32} (q0 : Nat) (ha : ws[q0]? = some (a, cI κ n f)) (hin : vp_in i n) (ws' : va_W) (hw : ws.set q0 (a, cI κ n (upd f i.toNatClampNeg x)) = ws') (d : dN cc pc .iastore 1 q) (kk : Zw p l e R s m args below meth c cells slots Q D nL (some A) ws' lv q rest) : Zw p l e R s m args below meth c cells slots Q D nL (some A) ws lv pc (.int x :: .int i :: .ref a :: rest) := by
  obtain ⟨d, rfl⟩ := d
  subst hw
  exact fun H locs ls hI hls => va_iast C.1 C.2.1 C.2.2.2.2.2.1 hI.1 hI.2.1 hI.2.2.1 q0 0 ha rfl hin d (fun H1 locs1 hP hD hS => kk H1 locs1 ls ⟨hP, hD, hS, hI.2.2.2⟩ hls)
theorem z_zast (C : Cx p s m args c D κ own cc nL) {a n : Nat} {f : Nat → Int32} {i x : Int32} (q0 : Nat) (ha : ws[q0]? = some (a, cZ κ n f)) (hin : vp_in i n) (ws' : va_W) (hw : ws.set q0 (a, cZ κ n (upd f i.toNatClampNeg (vp_nar .boolean x))) = ws') (d : dN cc pc .bastore 1 q) (kk : Zw p l e R s m args below meth c cells slots Q D nL (some A) ws' lv q rest) : Zw p l e R s m args below meth c cells slots Q D nL (some A) ws lv pc (.int x :: .int i :: .ref a :: rest) := by
  obtain ⟨d, rfl⟩ := d
  subst hw
  exact fun H locs ls hI hls => va_zast C.1 C.2.1 C.2.2.2.2.2.1 hI.1 hI.2.1 hI.2.2.1 q0 1 ha rfl hin d (fun H1 locs1 hP hD hS => kk H1 locs1 ls ⟨hP, hD, hS, hI.2.2.2⟩ hls)
theorem z_aald (C : Cx p s m args c D κ own cc nL) {a n b : Nat} {f : Nat → Option Nat} {i : Int32} (q0 : Nat) (ha : ws[q0]? = some (a, cS κ n f)) (hin : vp_in i n) (hb : f i.toNatClampNeg = some b) (d : dN cc pc .aaload 1 q) (kk : Zw p l e R s m args below meth c cells slots Q D nL md ws lv q (.ref b :: rest)) : Zw p l e R s m args below meth c cells slots Q D nL md ws lv pc (.int i :: .ref a :: rest) := by
  obtain ⟨d, rfl⟩ := d
  exact fun H locs ls hI hls => va_aldq C.1 C.2.1 C.2.2.2.2.2.1 hI.1 q0 2 ha rfl hin d (by rw [hb]; exact kk H locs ls hI hls)
theorem z_alen (C : Cx p s m args c D κ own cc nL) {a : Nat} {cA : ClassId} {x : vp_A} {ty : FieldType} (q0 t0 : Nat) (ha : ws[q0]? = some (a, .inl (cA, x))) (ht : (tyL κ)[t0]? = some (cA, ty)) (d : dN cc pc .arraylength 1 q) (kk : Zw p l e R s m args below meth c cells slots Q D nL md ws lv q (.int (Int32.ofNat x.1) :: rest)) : Zw p l e R s m args below meth c cells slots Q D nL md ws lv pc (.ref a :: rest) := by
  obtain ⟨d, rfl⟩ := d
  exact fun H locs ls hI hls => va_alen C.1 C.2.1 C.2.2.2.2.2.1 hI.1 q0 t0 ha ht rfl d (kk H locs ls hI hls)
theorem z_mmax (C : Cx p s m args c D κ own cc nL) {x y : Int32} {idx : Nat} (w : CMA own idx Lib.Math.max.name Lib.Math.max.code 2) (hR : 1 ≤ R.frames) (hL : (rest.map fun v => v.category).sum + 13 ≤ R.locals) (hc : cells ≤ R.cells ∧ slots ≤ R.slots) (d : dN cc pc (.invokestatic idx) 3 q) (kk : Zw p l e R s m args below meth c cells slots Q D nL md ws lv q (.int (imax x y) :: rest)) : Zw p l e R s m args below meth c cells slots Q D nL md ws lv pc (.int y :: .int x :: rest) := by
  obtain ⟨d, rfl⟩ := d
  obtain ⟨w1, w2, w3, w4⟩ := w
  exact fun H locs ls hI hls => va_mmax C.1 C.2.1 (by rw [C.2.2.1, hls.1]) C.2.2.2.1 (C.2.2.2.2.1 _ w1) (C.2.2.2.2.1 _ w2) (C.2.2.2.2.1 _ w3) (C.2.2.2.2.1 _ w4) hR hL hc.1 hc.2 d (kk H locs ls hI hls)
theorem z_mmin (C : Cx p s m args c D κ own cc nL) {x y : Int32} {idx : Nat} (w : CMA own idx Lib.Math.min.name Lib.Math.min.code 2) (hR : 1 ≤ R.frames) (hL : (rest.map fun v => v.category).sum + 13 ≤ R.locals) (hc : cells ≤ R.cells ∧ slots ≤ R.slots) (d : dN cc pc (.invokestatic idx) 3 q) (kk : Zw p l e R s m args below meth c cells slots Q D nL md ws lv q (.int (imin x y) :: rest)) : Zw p l e R s m args below meth c cells slots Q D nL md ws lv pc (.int y :: .int x :: rest) := by
  obtain ⟨d, rfl⟩ := d
  obtain ⟨w1, w2, w3, w4⟩ := w
  exact fun H locs ls hI hls => va_mmin C.1 C.2.1 (by rw [C.2.2.1, hls.1]) C.2.2.2.1 (C.2.2.2.2.1 _ w1) (C.2.2.2.2.1 _ w2) (C.2.2.2.2.1 _ w3) (C.2.2.2.2.1 _ w4) hR hL hc.1 hc.2 d (kk H locs ls hI hls)
theorem z_mabs (C : Cx p s m args c D κ own cc nL) {x : Int32} {idx : Nat} (w : CMA own idx Lib.Math.abs.name Lib.Math.abs.code 1) (hR : 1 ≤ R.frames) (hL : (rest.map fun v => v.category).sum + 13 ≤ R.locals) (hc : cells ≤ R.cells ∧ slots ≤ R.slots) (d : dN cc pc (.invokestatic idx) 3 q) (kk : Zw p l e R s m args below meth c cells slots Q D nL md ws lv q (.int (iabs x) :: rest)) : Zw p l e R s m args below meth c cells slots Q D nL md ws lv pc (.int x :: rest) := by
  obtain ⟨d, rfl⟩ := d
  obtain ⟨w1, w2, w3, w4⟩ := w
  exact fun H locs ls hI hls => va_mabs C.1 C.2.1 (by rw [C.2.2.1, hls.1]) C.2.2.2.1 (C.2.2.2.2.1 _ w1) (C.2.2.2.2.1 _ w2) (C.2.2.2.2.1 _ w3) (C.2.2.2.2.1 _ w4) hR hL hc.1 hc.2 d (kk H locs ls hI hls)
theorem cs_i {H : Heap} {locs : List Loc} {ls : Array Slot} {post : Int32 → Prop} {a : Array Value} {st0 : List Value} {mc ms : Nat} (h0 : mc = 0 ∧ ms = 0) (hr : va_Run p l e R s m args below meth c H locs cells slots mc ms (F0 m pc ls st0) rest (vp_Si post a) (fun _ => False))
    (kk : ∀ r : Int32, post r → W p l e R s m args below meth c H locs cells slots Q (F0 m (pc + 3) ls (.int r :: rest))) : W p l e R s m args below meth c H locs cells slots Q (F0 m pc ls st0) := by
  obtain ⟨rfl, rfl⟩ := h0
  intro T hT X
  obtain ⟨v, st₀, t, T', L, h0, X', hL, e1, -, ⟨r, hv, hp, hh⟩, st⟩ := hr T hT X
  cases hv
  obtain ⟨t2, a1, b1⟩ := kk r hp T' (by rw [e1, hh, h0]) (Stand.forget X' (fun q h => (hL q h).elim))
  exact ⟨t2, st t2 a1, b1⟩
theorem cs_l {H : Heap} {locs : List Loc} {ls : Array Slot} {post : Int64 → Prop} {a : Array Value} {st0 : List Value} {mc ms : Nat} (h0 : mc = 0 ∧ ms = 0) (hr : va_Run p l e R s m args below meth c H locs cells slots mc ms (F0 m pc ls st0) rest (vp_Sl post a) (fun _ => False))
    (kk : ∀ r : Int64, post r → W p l e R s m args below meth c H locs cells slots Q (F0 m (pc + 3) ls (.long r :: rest))) : W p l e R s m args below meth c H locs cells slots Q (F0 m pc ls st0) := by
  obtain ⟨rfl, rfl⟩ := h0
  intro T hT X
  obtain ⟨v, st₀, t, T', L, h0, X', hL, e1, -, ⟨r, hv, hp, hh⟩, st⟩ := hr T hT X
  cases hv
  obtain ⟨t2, a1, b1⟩ := kk r hp T' (by rw [e1, hh, h0]) (Stand.forget X' (fun q h => (hL q h).elim))
  exact ⟨t2, st t2 a1, b1⟩
theorem pp_v {H : Heap} {locs : List Loc} {av : List Value} {wc : va_W} (hK : KK D κ s) (hP : va_P D vwCl wc H) : ∀ U : State, U.heap = H → s.WarmedH U.vm → PP D κ av wc av.toArray U := fun U hU hW => ⟨rfl, by rw [hU]; exact hP, hK.warm hW⟩
theorem pe_v {H : Heap} {av : List Value} {wc : va_W} (hK : KK D κ s) (hP : va_P D vwCl wc H) (hD : va_D A wc) : ∀ U : State, U.heap = H → s.WarmedH U.vm → PE D κ av wc H.size av.toArray U := fun U hU hW => ⟨rfl, by rw [hU], by rw [hU]; exact hP, hK.warm hW, hD.weaken (fun _ _ _ _ => trivial)⟩
theorem z_vpi (C : Cx p s m args c D κ own cc nL) {y : MethodName} {b : ByteArray} {maxL idx ci n a : Nat} {ret : Option FieldType} {rm : Room} {As : List Value} {wc : va_W} {post : Int32 → Prop} {fs : List Value} (hM : Met l y (wsG y b maxL ret) rm (PP D κ (.ref a :: As) wc) (vp_Si post) 0 0 (fun _ => False)) (cw : CWV own idx ci y b maxL ret n) (h0 : rm.cells = 0 ∧ rm.slots = 0) (hR : RM rm R maxL cells slots) (q0 : Nat) (he : ws[q0]? = some (a, .inr (ci, fs))) (is : List Nat) (hs : is.filterMap (fun i => ws[i]?) = wc) (hn : As.length = n) (hst : st = As.reverse ++ .ref a :: rest) (hr : (rest.map fun v => v.category).sum ≤ 8) (d : dN cc pc (.invokevirtual idx) 3 q) (kk : ∀ r : Int32, post r → Zw p l e R s m args below meth c cells slots Q D nL md ws lv q (.int r :: rest)) : Zw p l e R s m args below meth c cells slots Q D nL md ws lv pc st := by
  obtain ⟨d, rfl⟩ := d
  obtain ⟨⟨w1, w2, w3, w4, w5⟩, ⟨r9, hc, hr9⟩, hd⟩ := cw
  have hts := C.2.2.2.2.1
  obtain ⟨hF, hc1, hc2⟩ := hR
  rw [h0.1] at hc1
  rw [h0.2] at hc2
  subst hst
  intro H locs ls hI hls
  obtain ⟨cell, g1, g2, g3⟩ := va_recv C.2.2.2.2.2.1 hI.1 hc he
  rw [hr9] at g3
  exact cs_i ⟨rfl, rfl⟩ (va_runV (Ts := lgG) ⟨C.1, C.2.1, C.2.2.1, C.2.2.2.1, hts⟩ hM ⟨callB_of n hts (gG w5) rfl h0.1 h0.2 (hts _ w4) (hts _ w1) hd hF, hts _ w2, hts _ w3⟩ ⟨PP.blind, ⟨cell, g1, g2, g3⟩, pp_v (locs := locs) C.2.2.2.2.2 (hI.1.sub is hs)⟩ rfl hn hls.1 rfl (lv_room hr) d ⟨hc1, hc2⟩) (fun r h => kk r h H locs ls hI hls)
theorem z_spi (C : Cx p s m args c D κ own cc nL) {y : MethodName} {b : ByteArray} {maxL idx n : Nat} {ret : Option FieldType} {rm : Room} {As : List Value} {wc : va_W} {post : Int32 → Prop} (hM : Met l y (wsG y b maxL ret) rm (PP D κ As wc) (vp_Si post) 0 0 (fun _ => False)) (cw : CWS own idx y b maxL ret n) (h0 : rm.cells = 0 ∧ rm.slots = 0) (hR : RM rm R maxL cells slots) (is : List Nat) (hs : is.filterMap (fun i => ws[i]?) = wc) (hn : As.length = n) (hst : st = As.reverse ++ rest) (hr : (rest.map fun v => v.category).sum ≤ 8) (d : dN cc pc (.invokestatic idx) 3 q) (kk : ∀ r : Int32, post r → Zw p l e R s m args below meth c cells slots Q D nL md ws lv q (.int r :: rest)) : Zw p l e R s m args below meth c cells slots Q D nL md ws lv pc st := by
  obtain ⟨d, rfl⟩ := d
  obtain ⟨⟨w1, w2, w3, w4⟩, hd⟩ := cw
  have hts := C.2.2.2.2.1
  obtain ⟨hF, hc1, hc2⟩ := hR
  rw [h0.1] at hc1
  rw [h0.2] at hc2
  subst hst
  intro H locs ls hI hls
  exact cs_i ⟨rfl, rfl⟩ (va_runS (Ts := lgG) ⟨C.1, C.2.1, C.2.2.1, C.2.2.2.1, hts⟩ hM ⟨callB_of n hts (gG w4) rfl h0.1 h0.2 (hts _ w3) (hts _ w1) hd hF, hts _ w2⟩ ⟨PP.blind, pp_v (locs := locs) C.2.2.2.2.2 (hI.1.sub is hs)⟩ rfl hn hls.1 rfl (lv_room hr) d ⟨hc1, hc2⟩) (fun r h => kk r h H locs ls hI hls)
theorem z_vpl (C : Cx p s m args c D κ own cc nL) {y : MethodName} {b : ByteArray} {maxL idx ci n a : Nat} {ret : Option FieldType} {rm : Room} {As : List Value} {wc : va_W} {post : Int64 → Prop} {fs : List Value} (hM : Met l y (wsG y b maxL ret) rm (PP D κ (.ref a :: As) wc) (vp_Sl post) 0 0 (fun _ => False)) (cw : CWV own idx ci y b maxL ret n) (h0 : rm.cells = 0 ∧ rm.slots = 0) (hR : RM rm R maxL cells slots) (q0 : Nat) (he : ws[q0]? = some (a, .inr (ci, fs))) (is : List Nat) (hs : is.filterMap (fun i => ws[i]?) = wc) (hn : As.length = n) (hst : st = As.reverse ++ .ref a :: rest) (hr : (rest.map fun v => v.category).sum ≤ 8) (d : dN cc pc (.invokevirtual idx) 3 q) (kk : ∀ r : Int64, post r → Zw p l e R s m args below meth c cells slots Q D nL md ws lv q (.long r :: rest)) : Zw p l e R s m args below meth c cells slots Q D nL md ws lv pc st := by
  obtain ⟨d, rfl⟩ := d
  obtain ⟨⟨w1, w2, w3, w4, w5⟩, ⟨r9, hc, hr9⟩, hd⟩ := cw
  have hts := C.2.2.2.2.1
  obtain ⟨hF, hc1, hc2⟩ := hR
  rw [h0.1] at hc1
  rw [h0.2] at hc2
  subst hst
  intro H locs ls hI hls
  obtain ⟨cell, g1, g2, g3⟩ := va_recv C.2.2.2.2.2.1 hI.1 hc he
  rw [hr9] at g3
  exact cs_l ⟨rfl, rfl⟩ (va_runV (Ts := lgG) ⟨C.1, C.2.1, C.2.2.1, C.2.2.2.1, hts⟩ hM ⟨callB_of n hts (gG w5) rfl h0.1 h0.2 (hts _ w4) (hts _ w1) hd hF, hts _ w2, hts _ w3⟩ ⟨PP.blind, ⟨cell, g1, g2, g3⟩, pp_v (locs := locs) C.2.2.2.2.2 (hI.1.sub is hs)⟩ rfl hn hls.1 rfl (lv_room hr) d ⟨hc1, hc2⟩) (fun r h => kk r h H locs ls hI hls)
theorem z_spl (C : Cx p s m args c D κ own cc nL) {y : MethodName} {b : ByteArray} {maxL idx n : Nat} {ret : Option FieldType} {rm : Room} {As : List Value} {wc : va_W} {post : Int64 → Prop} (hM : Met l y (wsG y b maxL ret) rm (PP D κ As wc) (vp_Sl post) 0 0 (fun _ => False)) (cw : CWS own idx y b maxL ret n) (h0 : rm.cells = 0 ∧ rm.slots = 0) (hR : RM rm R maxL cells slots) (is : List Nat) (hs : is.filterMap (fun i => ws[i]?) = wc) (hn : As.length = n) (hst : st = As.reverse ++ rest) (hr : (rest.map fun v => v.category).sum ≤ 8) (d : dN cc pc (.invokestatic idx) 3 q) (kk : ∀ r : Int64, post r → Zw p l e R s m args below meth c cells slots Q D nL md ws lv q (.long r :: rest)) : Zw p l e R s m args below meth c cells slots Q D nL md ws lv pc st := by
  obtain ⟨d, rfl⟩ := d
  obtain ⟨⟨w1, w2, w3, w4⟩, hd⟩ := cw
  have hts := C.2.2.2.2.1
  obtain ⟨hF, hc1, hc2⟩ := hR
  rw [h0.1] at hc1
  rw [h0.2] at hc2
  subst hst
  intro H locs ls hI hls
  exact cs_l ⟨rfl, rfl⟩ (va_runS (Ts := lgG) ⟨C.1, C.2.1, C.2.2.1, C.2.2.2.1, hts⟩ hM ⟨callB_of n hts (gG w4) rfl h0.1 h0.2 (hts _ w3) (hts _ w1) hd hF, hts _ w2⟩ ⟨PP.blind, pp_v (locs := locs) C.2.2.2.2.2 (hI.1.sub is hs)⟩ rfl hn hls.1 rfl (lv_room hr) d ⟨hc1, hc2⟩) (fun r h => kk r h H locs ls hI hls)
theorem z_npi (C : Cx p s m args c D κ own cc nL) {y : MethodName} {b : ByteArray} {maxL idx n : Nat} {ret : Option FieldType} {rm : Room} {As : List Value} {wc : va_W} {post : Int32 → Prop} {host : String} (hM : Met l y (wsG y b maxL ret) rm (PP D κ As wc) (vp_Si post) 0 0 (fun _ => False)) (cw : CNS own idx host y b maxL ret n) (h0 : rm.cells = 0 ∧ rm.slots = 0) (hR : RM rm R maxL cells slots) (is : List Nat) (hs : is.filterMap (fun i => ws[i]?) = wc) (hn : As.length = n) (hst : st = As.reverse ++ rest) (hr : (rest.map fun v => v.category).sum ≤ 8) (d : dN cc pc (.invokestatic idx) 3 q) (kk : ∀ r : Int32, post r → Zw p l e R s m args below meth c cells slots Q D nL md ws lv q (.int r :: rest)) : Zw p l e R s m args below meth c cells slots Q D nL md ws lv pc st := by
  obtain ⟨d, rfl⟩ := d
  obtain ⟨⟨w1, w2, w3, w4⟩, hd⟩ := cw
  have hts := C.2.2.2.2.1
  obtain ⟨hF, hc1, hc2⟩ := hR
  rw [h0.1] at hc1
  rw [h0.2] at hc2
  subst hst
  intro H locs ls hI hls
  exact cs_i ⟨rfl, rfl⟩ (va_runSN (Ts := lgG) (host := host) ⟨C.1, C.2.1, C.2.2.1, C.2.2.2.1, hts⟩ hM ⟨va_cnB n hts (gG w4) rfl h0.1 h0.2 (C.2.2.2.2.2.2 _ w1) (hts _ w3) hd hF, hts _ w2, trivial⟩ ⟨PP.blind, pp_v (locs := locs) C.2.2.2.2.2 (hI.1.sub is hs)⟩ rfl hn hls.1 rfl (lv_room hr) d ⟨hc1, hc2⟩) (fun r h => kk r h H locs ls hI hls)
theorem z_vei (C : Cx p s m args c D κ own cc nL) {S : Type} {y : MethodName} {b : ByteArray} {maxL idx ci n a : Nat} {ret : Option FieldType} {rm : Room} {As : List Value} {wc wr : va_W} {post : Int32 → S → Prop} {N : S → va_W} {fs : List Value} (hM : ∀ sz : Nat, Met l y (wsG y b maxL ret) rm (PE D κ (.ref a :: As) wc sz) (va_Qi post (QB D wc sz N) (va_A wc sz)) 0 0 (va_A wc sz)) (cw : CWV own idx ci y b maxL ret n) (h0 : rm.cells = 0 ∧ rm.slots = 0) (hR : RM rm R maxL cells slots) (q0 : Nat) (he : ws[q0]? = some (a, .inr (ci, fs))) (isC isR : List Nat) (hC : isC.map (fun i => ws[i]?) = wc.map some) (hR2 : isR.map (fun i => ws[i]?) = wr.map some) (hdj : va_nd (isC ++ isR) = true) (N' : S → va_W) (isP : List Nat) (hN : va_nd isP = true) (hP' : ∀ u : S, isP.map (fun i => (wr ++ N u)[i]?) = (N' u).map some) (hn : As.length = n) (hst : st = As.reverse ++ .ref a :: rest) (hr : (rest.map fun v => v.category).sum ≤ 8) (d : dN cc pc (.invokevirtual idx) 3 q) (kk : ∀ (r : Int32) (u : S), post r u → Zw p l e R s m args below meth c cells slots Q D nL (some A) (N' u) lv q (.int r :: rest)) : Zw p l e R s m args below meth c cells slots Q D nL (some A) ws lv pc st := by
  obtain ⟨d, rfl⟩ := d
  obtain ⟨⟨w1, w2, w3, w4, w5⟩, ⟨r9, hc, hr9⟩, hd⟩ := cw
  have hts := C.2.2.2.2.1
  obtain ⟨hF, hc1, hc2⟩ := hR
  rw [h0.1] at hc1
  rw [h0.2] at hc2
  subst hst
  obtain ⟨hdR, hdC⟩ := nd_app hdj
  intro H locs ls hI hls
  obtain ⟨hP, hD, hS, hA⟩ := hI
  obtain ⟨cell, g1, g2, g3⟩ := va_recv C.2.2.2.2.2.1 hP hc he
  rw [hr9] at g3
  have hPc : va_P D vwCl wc H := p_of_map hP isC hC
  have hDc : va_D A wc := hD.sub isC (nd_left hdj) hC
  have hFc := va_free (wc := wc) hD hS hA isC hC
  refine va_calli (va_runV (Ts := lgG) ⟨C.1, C.2.1, C.2.2.1, C.2.2.2.1, hts⟩ (hM H.size) ⟨callB_of n hts (gG w5) rfl h0.1 h0.2 (hts _ w4) (hts _ w1) hd hF, hts _ w2, hts _ w3⟩ ⟨PE.blind, ⟨cell, g1, g2, g3⟩, pe_v C.2.2.2.2.2 hPc hDc⟩ rfl hn hls.1 rfl (lv_room hr) d ⟨hc1, hc2⟩) hS (fun q _ h => hFc q h) hFc (fun r u t H1 locs1 ht hvm hw hB hz1 hk1 hS1 => ?_)
  obtain ⟨hP1, hD1⟩ := hB
  rw [ht] at hP1
  obtain ⟨hP2, hD2⟩ := va_join (wr := wr) (w1 := N u) hP hD isC isR hC hR2 hdR hdC hk1 hFc hP1 hD1
  exact kk r u hw H1 locs1 ls ⟨p_of_map hP2 isP (hP' u), hD2.sub isP hN (hP' u), hS1, hA⟩ hls
theorem z_sei (C : Cx p s m args c D κ own cc nL) {S : Type} {y : MethodName} {b : ByteArray} {maxL idx  n : Nat} {ret : Option FieldType} {rm : Room} {As : List Value} {wc wr : va_W} {post : Int32 → S → Prop} {N : S → va_W} (hM : ∀ sz : Nat, Met l y (wsG y b maxL ret) rm (PE D κ As wc sz) (va_Qi post (QB D wc sz N) (va_A wc sz)) 0 0 (va_A wc sz)) (cw : CWS own idx y b maxL ret n) (h0 : rm.cells = 0 ∧ rm.slots = 0) (hR : RM rm R maxL cells slots) (isC isR : List Nat) (hC : isC.map (fun i => ws[i]?) = wc.map some) (hR2 : isR.map (fun i => ws[i]?) = wr.map some) (hdj : va_nd (isC ++ isR) = true) (N' : S → va_W) (isP : List Nat) (hN : va_nd isP = true) (hP' : ∀ u : S, isP.map (fun i => (wr ++ N u)[i]?) = (N' u).map some) (hn : As.length = n) (hst : st = As.reverse ++ rest) (hr : (rest.map fun v => v.category).sum ≤ 8) (d : dN cc pc (.invokestatic idx) 3 q) (kk : ∀ (r : Int32) (u : S), post r u → Zw p l e R s m args below meth c cells slots Q D nL (some A) (N' u) lv q (.int r :: rest)) : Zw p l e R s m args below meth c cells slots Q D nL (some A) ws lv pc st := by
  obtain ⟨d, rfl⟩ := d
  obtain ⟨⟨w1, w2, w3, w4⟩, hd⟩ := cw
  have hts := C.2.2.2.2.1
  obtain ⟨hF, hc1, hc2⟩ := hR
  rw [h0.1] at hc1
  rw [h0.2] at hc2
  subst hst
  obtain ⟨hdR, hdC⟩ := nd_app hdj
  intro H locs ls hI hls
  obtain ⟨hP, hD, hS, hA⟩ := hI
  have hPc : va_P D vwCl wc H := p_of_map hP isC hC
  have hDc : va_D A wc := hD.sub isC (nd_left hdj) hC
  have hFc := va_free (wc := wc) hD hS hA isC hC
  refine va_calli (va_runS (Ts := lgG) ⟨C.1, C.2.1, C.2.2.1, C.2.2.2.1, hts⟩ (hM H.size) ⟨callB_of n hts (gG w4) rfl h0.1 h0.2 (hts _ w3) (hts _ w1) hd hF, hts _ w2⟩ ⟨PE.blind, pe_v C.2.2.2.2.2 hPc hDc⟩ rfl hn hls.1 rfl (lv_room hr) d ⟨hc1, hc2⟩) hS (fun q _ h => hFc q h) hFc (fun r u t H1 locs1 ht hvm hw hB hz1 hk1 hS1 => ?_)
  obtain ⟨hP1, hD1⟩ := hB
  rw [ht] at hP1
  obtain ⟨hP2, hD2⟩ := va_join (wr := wr) (w1 := N u) hP hD isC isR hC hR2 hdR hdC hk1 hFc hP1 hD1
  exact kk r u hw H1 locs1 ls ⟨p_of_map hP2 isP (hP' u), hD2.sub isP hN (hP' u), hS1, hA⟩ hls
theorem z_vev (C : Cx p s m args c D κ own cc nL) {S : Type} {y : MethodName} {b : ByteArray} {maxL idx ci n a : Nat} {ret : Option FieldType} {rm : Room} {As : List Value} {wc wr : va_W} {post : S → Prop} {N : S → va_W} {fs : List Value} (hM : ∀ sz : Nat, Met l y (wsG y b maxL ret) rm (PE D κ (.ref a :: As) wc sz) (va_Qv post (QB D wc sz N) (va_A wc sz)) 0 0 (va_A wc sz)) (cw : CWV own idx ci y b maxL ret n) (h0 : rm.cells = 0 ∧ rm.slots = 0) (hR : RM rm R maxL cells slots) (q0 : Nat) (he : ws[q0]? = some (a, .inr (ci, fs))) (isC isR : List Nat) (hC : isC.map (fun i => ws[i]?) = wc.map some) (hR2 : isR.map (fun i => ws[i]?) = wr.map some) (hdj : va_nd (isC ++ isR) = true) (N' : S → va_W) (isP : List Nat) (hN : va_nd isP = true) (hP' : ∀ u : S, isP.map (fun i => (wr ++ N u)[i]?) = (N' u).map some) (hn : As.length = n) (hst : st = As.reverse ++ .ref a :: rest) (hr : (rest.map fun v => v.category).sum ≤ 8) (d : dN cc pc (.invokevirtual idx) 3 q) (kk : ∀ (u : S), post u → Zw p l e R s m args below meth c cells slots Q D nL (some A) (N' u) lv q rest) : Zw p l e R s m args below meth c cells slots Q D nL (some A) ws lv pc st := by
  obtain ⟨d, rfl⟩ := d
  obtain ⟨⟨w1, w2, w3, w4, w5⟩, ⟨r9, hc, hr9⟩, hd⟩ := cw
  have hts := C.2.2.2.2.1
  obtain ⟨hF, hc1, hc2⟩ := hR
  rw [h0.1] at hc1
  rw [h0.2] at hc2
  subst hst
  obtain ⟨hdR, hdC⟩ := nd_app hdj
  intro H locs ls hI hls
  obtain ⟨hP, hD, hS, hA⟩ := hI
  obtain ⟨cell, g1, g2, g3⟩ := va_recv C.2.2.2.2.2.1 hP hc he
  rw [hr9] at g3
  have hPc : va_P D vwCl wc H := p_of_map hP isC hC
  have hDc : va_D A wc := hD.sub isC (nd_left hdj) hC
  have hFc := va_free (wc := wc) hD hS hA isC hC
  refine va_callv (va_runV (Ts := lgG) ⟨C.1, C.2.1, C.2.2.1, C.2.2.2.1, hts⟩ (hM H.size) ⟨callB_of n hts (gG w5) rfl h0.1 h0.2 (hts _ w4) (hts _ w1) hd hF, hts _ w2, hts _ w3⟩ ⟨PE.blind, ⟨cell, g1, g2, g3⟩, pe_v C.2.2.2.2.2 hPc hDc⟩ rfl hn hls.1 rfl (lv_room hr) d ⟨hc1, hc2⟩) hS (fun q _ h => hFc q h) hFc (fun u t H1 locs1 ht hvm hw hB hz1 hk1 hS1 => ?_)
  obtain ⟨hP1, hD1⟩ := hB
  rw [ht] at hP1
  obtain ⟨hP2, hD2⟩ := va_join (wr := wr) (w1 := N u) hP hD isC isR hC hR2 hdR hdC hk1 hFc hP1 hD1
  exact kk u hw H1 locs1 ls ⟨p_of_map hP2 isP (hP' u), hD2.sub isP hN (hP' u), hS1, hA⟩ hls
theorem z_sev (C : Cx p s m args c D κ own cc nL) {S : Type} {y : MethodName} {b : ByteArray} {maxL idx  n : Nat} {ret : Option FieldType} {rm : Room} {As : List Value} {wc wr : va_W} {post : S → Prop} {N : S → va_W} (hM : ∀ sz : Nat, Met l y (wsG y b maxL ret) rm (PE D κ As wc sz) (va_Qv post (QB D wc sz N) (va_A wc sz)) 0 0 (va_A wc sz)) (cw : CWS own idx y b maxL ret n) (h0 : rm.cells = 0 ∧ rm.slots = 0) (hR : RM rm R maxL cells slots) (isC isR : List Nat) (hC : isC.map (fun i => ws[i]?) = wc.map some) (hR2 : isR.map (fun i => ws[i]?) = wr.map some) (hdj : va_nd (isC ++ isR) = true) (N' : S → va_W) (isP : List Nat) (hN : va_nd isP = true) (hP' : ∀ u : S, isP.map (fun i => (wr ++ N u)[i]?) = (N' u).map some) (hn : As.length = n) (hst : st = As.reverse ++ rest) (hr : (rest.map fun v => v.category).sum ≤ 8) (d : dN cc pc (.invokestatic idx) 3 q) (kk : ∀ (u : S), post u → Zw p l e R s m args below meth c cells slots Q D nL (some A) (N' u) lv q rest) : Zw p l e R s m args below meth c cells slots Q D nL (some A) ws lv pc st := by
  obtain ⟨d, rfl⟩ := d
  obtain ⟨⟨w1, w2, w3, w4⟩, hd⟩ := cw
  have hts := C.2.2.2.2.1
  obtain ⟨hF, hc1, hc2⟩ := hR
  rw [h0.1] at hc1
  rw [h0.2] at hc2
  subst hst
  obtain ⟨hdR, hdC⟩ := nd_app hdj
  intro H locs ls hI hls
  obtain ⟨hP, hD, hS, hA⟩ := hI
  have hPc : va_P D vwCl wc H := p_of_map hP isC hC
  have hDc : va_D A wc := hD.sub isC (nd_left hdj) hC
  have hFc := va_free (wc := wc) hD hS hA isC hC
  refine va_callv (va_runS (Ts := lgG) ⟨C.1, C.2.1, C.2.2.1, C.2.2.2.1, hts⟩ (hM H.size) ⟨callB_of n hts (gG w4) rfl h0.1 h0.2 (hts _ w3) (hts _ w1) hd hF, hts _ w2⟩ ⟨PE.blind, pe_v C.2.2.2.2.2 hPc hDc⟩ rfl hn hls.1 rfl (lv_room hr) d ⟨hc1, hc2⟩) hS (fun q _ h => hFc q h) hFc (fun u t H1 locs1 ht hvm hw hB hz1 hk1 hS1 => ?_)
  obtain ⟨hP1, hD1⟩ := hB
  rw [ht] at hP1
  obtain ⟨hP2, hD2⟩ := va_join (wr := wr) (w1 := N u) hP hD isC isR hC hR2 hdR hdC hk1 hFc hP1 hD1
  exact kk u hw H1 locs1 ls ⟨p_of_map hP2 isP (hP' u), hD2.sub isP hN (hP' u), hS1, hA⟩ hls
theorem zp_iret (C : Cx p s m args c D κ own cc nL) {post : Int32 → Prop} {v : Int32} (hr : meth.sig.returnType = some .int) (hl : meth.locks = false) (d : dN cc pc .ireturn 1 q) (h : post v) : Zw p l e R s m args below meth c 0 0 (MQ below (vp_Si post) args s 0 0 (fun _ => False)) D nL none ws lv pc [.int v] := by
  obtain ⟨d, rfl⟩ := d
  intro H locs ls hI hls
  obtain ⟨hP, rfl, rfl⟩ := hI
  exact W.iret C.1 C.2.1 hr (fun t ht hW => ⟨v, rfl, h, ht⟩) (fun q hq => by cases hq) d hl
theorem nb01 {v : Int32} (h : v = 0 ∨ v = 1) : narrow .boolean (.int v) = .int v := by rcases h with rfl | rfl <;> rfl
theorem zp_zret (C : Cx p s m args c D κ own cc nL) {post : Int32 → Prop} {v : Int32} (hr : meth.sig.returnType = some .boolean) (hl : meth.locks = false) (h01 : v = 0 ∨ v = 1) (d : dN cc pc .ireturn 1 q) (h : post v) : Zw p l e R s m args below meth c 0 0 (MQ below (vp_Si post) args s 0 0 (fun _ => False)) D nL none ws lv pc [.int v] := by
  obtain ⟨d, rfl⟩ := d
  intro H locs ls hI hls
  obtain ⟨hP, rfl, rfl⟩ := hI
  exact W.zret C.1 C.2.1 hr (nb01 h01) (fun t ht hW => ⟨v, rfl, h, ht⟩) (fun q hq => by cases hq) d hl
theorem zp_lret (C : Cx p s m args c D κ own cc nL) {post : Int64 → Prop} {v : Int64} (hr : meth.sig.returnType = some .long) (hl : meth.locks = false) (d : dN cc pc .lreturn 1 q) (h : post v) : Zw p l e R s m args below meth c 0 0 (MQ below (vp_Sl post) args s 0 0 (fun _ => False)) D nL none ws lv pc [.long v] := by
  obtain ⟨d, rfl⟩ := d
  intro H locs ls hI hls
  obtain ⟨hP, rfl, rfl⟩ := hI
  exact W.lret C.1 C.2.1 hr (fun t ht hW => ⟨v, rfl, h, ht⟩) (fun q hq => by cases hq) d hl
theorem ze_iret (C : Cx p s m args c D κ own cc nL) {S : Type} {post : Int32 → S → Prop} {N : S → va_W} {w0 : va_W} {v : Int32} (u : S) (hr : meth.sig.returnType = some .int) (hl : meth.locks = false) (hw : ws = N u) (d : dN cc pc .ireturn 1 q) (h : post v u) : Zw p l e R s m args below meth c cells slots (MQ below (va_Qi post (QB D w0 s.heap.size N) (va_A w0 s.heap.size)) args s cells slots (va_A w0 s.heap.size)) D nL (some (va_A w0 s.heap.size)) ws lv pc [.int v] := by
  obtain ⟨d, rfl⟩ := d
  subst hw
  intro H locs ls hI hls
  obtain ⟨hP, hD, hS, hA⟩ := hI
  exact W.iret C.1 C.2.1 hr (fun t ht hW => ⟨⟨v, u, rfl, h, by rw [ht]; exact hP, hD⟩, hS.F ht⟩) hS.2.2 d hl
theorem ze_zret (C : Cx p s m args c D κ own cc nL) {S : Type} {post : Int32 → S → Prop} {N : S → va_W} {w0 : va_W} {v : Int32} (u : S) (hr : meth.sig.returnType = some .boolean) (hl : meth.locks = false) (h01 : v = 0 ∨ v = 1) (hw : ws = N u) (d : dN cc pc .ireturn 1 q) (h : post v u) : Zw p l e R s m args below meth c cells slots (MQ below (va_Qi post (QB D w0 s.heap.size N) (va_A w0 s.heap.size)) args s cells slots (va_A w0 s.heap.size)) D nL (some (va_A w0 s.heap.size)) ws lv pc [.int v] := by
  obtain ⟨d, rfl⟩ := d
  subst hw
  intro H locs ls hI hls
  obtain ⟨hP, hD, hS, hA⟩ := hI
  exact W.zret C.1 C.2.1 hr (nb01 h01) (fun t ht hW => ⟨⟨v, u, rfl, h, by rw [ht]; exact hP, hD⟩, hS.F ht⟩) hS.2.2 d hl
theorem ze_vret (C : Cx p s m args c D κ own cc nL) {S : Type} {post : S → Prop} {N : S → va_W} {w0 : va_W} (u : S) (hr : meth.sig.returnType = none) (hl : meth.locks = false) (hw : ws = N u) (d : dN cc pc .return_ 1 q) (h : post u) : Zw p l e R s m args below meth c cells slots (MQ below (va_Qv post (QB D w0 s.heap.size N) (va_A w0 s.heap.size)) args s cells slots (va_A w0 s.heap.size)) D nL (some (va_A w0 s.heap.size)) ws lv pc [] := by
  obtain ⟨d, rfl⟩ := d
  subst hw
  intro H locs ls hI hls
  obtain ⟨hP, hD, hS, hA⟩ := hI
  exact W.vret C.1 C.2.1 hr (fun t ht hW => ⟨⟨u, rfl, h, by rw [ht]; exact hP, hD⟩, hS.F ht⟩) hS.2.2 d hl
end ZL
theorem zp_start {l : Launch} {D : va_G} {κ : KT} {y : MethodName} {b : ByteArray} {maxL : Nat} {ret : Option FieldType} {rm : Room} {av : List Value} {ws : va_W} {Qc : Array Value → State → Outcome → State → Prop} (lv : List (Nat × Value)) (hy : plainName y.cls = true) (hlen : (lg_sl av).length ≤ maxL) (hlv : lv_args 0 av = lv)
    (body : ∀ (p : Program) (e : Env) (s : State) (m : MethodId) (args : Array Value) (below : List Frame) (meth : Method) (c : Code), Cx p s m args c D κ y.cls b maxL → meth.sig.returnType = ret → meth.locks = false → Zw p l e rm s m args below meth c 0 0 (MQ below Qc args s 0 0 (fun _ => False)) D maxL none ws lv 0 []) :
    Met l y (wsG y b maxL ret) rm (PP D κ av ws) Qc 0 0 (fun _ => False) := by
  refine Met.ofW (cc := b) (maxL := maxL) (ret := ret) hy rfl ?_
  intro p e s m args below meth c s₁ B hml hv
  obtain ⟨rfl, hP, hK⟩ := hv
  have hts := atoms_spec (ws := wsG y b maxL ret) B.pre
  have hl := lv_entry av (n := maxL) hlen
  rw [hlv] at hl
  rw [lg_entry_eq]
  exact body p e s m av.toArray below meth c ⟨B.exec, B.bytes, hml, findClass_of_methodNamed B.named, fun w hw => hts w (List.mem_cons_of_mem _ hw), hK⟩ B.returns B.notSynchronized s.heap [] _ ⟨hP, rfl, rfl⟩ hl
theorem ze_start {l : Launch} {D : va_G} {κ : KT} {y : MethodName} {b : ByteArray} {maxL mc ms sz : Nat} {ret : Option FieldType} {rm : Room} {av : List Value} {ws : va_W} {Qc : Array Value → State → Outcome → State → Prop} (lv : List (Nat × Value)) (hy : plainName y.cls = true) (hlen : (lg_sl av).length ≤ maxL) (hlv : lv_args 0 av = lv)
    (body : ∀ (p : Program) (e : Env) (s : State) (m : MethodId) (args : Array Value) (below : List Frame) (meth : Method) (c : Code), Cx p s m args c D κ y.cls b maxL → meth.sig.returnType = ret → meth.locks = false → meth.name = y.name → s.heap.size = sz → Zw p l e rm s m args below meth c 0 0 (MQ below Qc args s mc ms (va_A ws sz)) D maxL (some (va_A ws sz)) ws lv 0 []) :
    Met l y (wsG y b maxL ret) rm (PE D κ av ws sz) Qc mc ms (va_A ws sz) := by
  refine Met.ofW (cc := b) (maxL := maxL) (ret := ret) hy rfl ?_
  intro p e s m args below meth c s₁ B hml hv
  obtain ⟨rfl, hsz, hP, hK, hD⟩ := hv
  have hts := atoms_spec (ws := wsG y b maxL ret) B.pre
  have hl := lv_entry av (n := maxL) hlen
  rw [hlv] at hl
  rw [lg_entry_eq]
  exact body p e s m av.toArray below meth c ⟨B.exec, B.bytes, hml, findClass_of_methodNamed B.named, fun w hw => hts w (List.mem_cons_of_mem _ hw), hK⟩ B.returns B.notSynchronized (name_of_methodNamed B.named B.method).1 hsz s.heap [] _ ⟨hP, hD.self, va_S.rf, fun q h => Or.inr (by rw [← hsz]; exact h)⟩ hl
