def wp_SeamCell_isFromTo (p0 : Int32) (p1 : Int32) (p2 : Int32) (post : Int32 → Prop) : Prop :=
  ((p0 < p1 → (post (0 : Int32))) ∧ (¬ p0 < p1 → ((p2 < p0 → (post (0 : Int32))) ∧ (¬ p2 < p0 → (post (1 : Int32))))))
abbrev rm_SeamCell_isFromTo : Room := { frames := 0, cells := 0, slots := 0, locals := 0 }
set_option maxHeartbeats 4000000 in
set_option maxRecDepth 100000 in
theorem c_SeamCell_isFromTo (l : Launch) (D : va_G) (κ : KT) (p0 : Int32) (p1 : Int32) (p2 : Int32) (post : Int32 → Prop) (h : wp_SeamCell_isFromTo p0 p1 p2 post) : Met l y_SeamCell_isFromTo (wsG y_SeamCell_isFromTo b_SeamCell_isFromTo 3 (some .boolean)) rm_SeamCell_isFromTo (PP D κ [.int p0, .int p1, .int p2] []) (vp_Si post) 0 0 (fun _ => False) := by
  refine zp_start [(0, .int p0), (1, .int p1), (2, .int p2)] rfl (Nat.le_of_ble_eq_true rfl) rfl ?_
  intro p e s m args below meth c C hr hlk
  unfold wp_SeamCell_isFromTo at h
  refine z_iload C d_SeamCell_isFromTo_0 0 rfl ?_
  refine z_iload C d_SeamCell_isFromTo_1 1 rfl ?_
  refine z_icmp_lt C d_SeamCell_isFromTo_2 (fun c_1 => ?_) (fun c_1 => ?_)
  · replace h := h.1 c_1
    refine z_k C d_SeamCell_isFromTo_14 ?_
    exact zp_zret C hr hlk (Or.inl rfl) d_SeamCell_isFromTo_15 h
  · replace h := h.2 c_1
    refine z_iload C d_SeamCell_isFromTo_5 0 rfl ?_
    refine z_iload C d_SeamCell_isFromTo_6 2 rfl ?_
    refine z_icmp_gt C d_SeamCell_isFromTo_7 (fun c_2 => ?_) (fun c_2 => ?_)
    · replace h := h.1 c_2
      refine z_k C d_SeamCell_isFromTo_14 ?_
      exact zp_zret C hr hlk (Or.inl rfl) d_SeamCell_isFromTo_15 h
    · replace h := h.2 c_2
      refine z_k C d_SeamCell_isFromTo_10 ?_
      refine z_goto C d_SeamCell_isFromTo_11 ?_
      exact zp_zret C hr hlk (Or.inr rfl) d_SeamCell_isFromTo_15 h
def wp_SeamCell_square (p0 : Int32) (post : Int32 → Prop) : Prop :=
  (post (p0 * p0))
abbrev rm_SeamCell_square : Room := { frames := 0, cells := 0, slots := 0, locals := 0 }
set_option maxHeartbeats 4000000 in
set_option maxRecDepth 100000 in
theorem c_SeamCell_square (l : Launch) (D : va_G) (κ : KT) (p0 : Int32) (post : Int32 → Prop) (h : wp_SeamCell_square p0 post) : Met l y_SeamCell_square (wsG y_SeamCell_square b_SeamCell_square 1 (some .int)) rm_SeamCell_square (PP D κ [.int p0] []) (vp_Si post) 0 0 (fun _ => False) := by
  refine zp_start [(0, .int p0)] rfl (Nat.le_of_ble_eq_true rfl) rfl ?_
  intro p e s m args below meth c C hr hlk
  unfold wp_SeamCell_square at h
  refine z_iload C d_SeamCell_square_0 0 rfl ?_
  refine z_iload C d_SeamCell_square_1 0 rfl ?_
  refine z_imul C d_SeamCell_square_2 ?_
  exact zp_iret C hr hlk d_SeamCell_square_3 h
def wp_SeamCell_cutUp (p0 : Int32) (p1 : Int32) (post : Int32 → Prop) : Prop :=
  (((1 : Int32) ≤ p1 → ((¬ p1 = 0) ∧ (post (((p0 + p1) - (1 : Int32)) / p1)))) ∧ (¬ (1 : Int32) ≤ p1 → (post (0 : Int32))))
abbrev rm_SeamCell_cutUp : Room := { frames := 0, cells := 0, slots := 0, locals := 0 }
set_option maxHeartbeats 4000000 in
set_option maxRecDepth 100000 in
theorem c_SeamCell_cutUp (l : Launch) (D : va_G) (κ : KT) (p0 : Int32) (p1 : Int32) (post : Int32 → Prop) (h : wp_SeamCell_cutUp p0 p1 post) : Met l y_SeamCell_cutUp (wsG y_SeamCell_cutUp b_SeamCell_cutUp 2 (some .int)) rm_SeamCell_cutUp (PP D κ [.int p0, .int p1] []) (vp_Si post) 0 0 (fun _ => False) := by
  refine zp_start [(0, .int p0), (1, .int p1)] rfl (Nat.le_of_ble_eq_true rfl) rfl ?_
  intro p e s m args below meth c C hr hlk
  unfold wp_SeamCell_cutUp at h
  refine z_iload C d_SeamCell_cutUp_0 1 rfl ?_
  refine z_k C d_SeamCell_cutUp_1 ?_
  refine z_icmp_ge C d_SeamCell_cutUp_2 (fun c_1 => ?_) (fun c_1 => ?_)
  · replace h := h.1 c_1
    refine z_iload C d_SeamCell_cutUp_9 0 rfl ?_
    refine z_iload C d_SeamCell_cutUp_10 1 rfl ?_
    refine z_iadd C d_SeamCell_cutUp_11 ?_
    refine z_k C d_SeamCell_cutUp_12 ?_
    refine z_isub C d_SeamCell_cutUp_13 ?_
    refine z_iload C d_SeamCell_cutUp_14 1 rfl ?_
    refine z_idiv C d_SeamCell_cutUp_15 h.1 ?_
    replace h := h.2
    exact zp_iret C hr hlk d_SeamCell_cutUp_16 h
  · replace h := h.2 c_1
    refine z_k C d_SeamCell_cutUp_5 ?_
    refine z_goto C d_SeamCell_cutUp_6 ?_
    exact zp_iret C hr hlk d_SeamCell_cutUp_16 h
def wp_SeamCell_cutDown (p0 : Int32) (p1 : Int32) (post : Int32 → Prop) : Prop :=
  (((1 : Int32) ≤ p1 → ((¬ p1 = 0) ∧ (post (p0 / p1)))) ∧ (¬ (1 : Int32) ≤ p1 → (post (0 : Int32))))
abbrev rm_SeamCell_cutDown : Room := { frames := 0, cells := 0, slots := 0, locals := 0 }
set_option maxHeartbeats 4000000 in
set_option maxRecDepth 100000 in
theorem c_SeamCell_cutDown (l : Launch) (D : va_G) (κ : KT) (p0 : Int32) (p1 : Int32) (post : Int32 → Prop) (h : wp_SeamCell_cutDown p0 p1 post) : Met l y_SeamCell_cutDown (wsG y_SeamCell_cutDown b_SeamCell_cutDown 2 (some .int)) rm_SeamCell_cutDown (PP D κ [.int p0, .int p1] []) (vp_Si post) 0 0 (fun _ => False) := by
  refine zp_start [(0, .int p0), (1, .int p1)] rfl (Nat.le_of_ble_eq_true rfl) rfl ?_
  intro p e s m args below meth c C hr hlk
  unfold wp_SeamCell_cutDown at h
  refine z_iload C d_SeamCell_cutDown_0 1 rfl ?_
  refine z_k C d_SeamCell_cutDown_1 ?_
  refine z_icmp_ge C d_SeamCell_cutDown_2 (fun c_1 => ?_) (fun c_1 => ?_)
  · replace h := h.1 c_1
    refine z_iload C d_SeamCell_cutDown_9 0 rfl ?_
    refine z_iload C d_SeamCell_cutDown_10 1 rfl ?_
    refine z_idiv C d_SeamCell_cutDown_11 h.1 ?_
    replace h := h.2
    exact zp_iret C hr hlk d_SeamCell_cutDown_12 h
  · replace h := h.2 c_1
    refine z_k C d_SeamCell_cutDown_5 ?_
    refine z_goto C d_SeamCell_cutDown_6 ?_
    exact zp_iret C hr hlk d_SeamCell_cutDown_12 h
def wp_SeamCell_areFromTo (p0 : Int32) (p1 : Int32) (p2 : Int32) (p3 : Int32) (p4 : Int32) (p5 : Int32) (post : Int32 → Prop) : Prop :=
  (wp_SeamCell_isFromTo p0 p4 p5 (fun r_1 => ((r_1 = 0 → (post (0 : Int32))) ∧ (¬ r_1 = 0 → (wp_SeamCell_isFromTo p1 p4 p5 (fun r_3 => ((r_3 = 0 → (post (0 : Int32))) ∧ (¬ r_3 = 0 → (wp_SeamCell_isFromTo p2 p4 p5 (fun r_5 => ((r_5 = 0 → (post (0 : Int32))) ∧ (¬ r_5 = 0 → (wp_SeamCell_isFromTo p3 p4 p5 (fun r_7 => ((r_7 = 0 → (post (0 : Int32))) ∧ (¬ r_7 = 0 → (post (1 : Int32))))))))))))))))))
abbrev rm_SeamCell_areFromTo : Room := { frames := 1, cells := 0, slots := 0, locals := 22 }
set_option maxHeartbeats 4000000 in
set_option maxRecDepth 100000 in
theorem c_SeamCell_areFromTo (l : Launch) (D : va_G) (κ : KT) (p0 : Int32) (p1 : Int32) (p2 : Int32) (p3 : Int32) (p4 : Int32) (p5 : Int32) (post : Int32 → Prop) (h : wp_SeamCell_areFromTo p0 p1 p2 p3 p4 p5 post) : Met l y_SeamCell_areFromTo (wsG y_SeamCell_areFromTo b_SeamCell_areFromTo 6 (some .boolean)) rm_SeamCell_areFromTo (PP D κ [.int p0, .int p1, .int p2, .int p3, .int p4, .int p5] []) (vp_Si post) 0 0 (fun _ => False) := by
  refine zp_start [(0, .int p0), (1, .int p1), (2, .int p2), (3, .int p3), (4, .int p4), (5, .int p5)] rfl (Nat.le_of_ble_eq_true rfl) rfl ?_
  intro p e s m args below meth c C hr hlk
  unfold wp_SeamCell_areFromTo at h
  refine z_iload C d_SeamCell_areFromTo_0 0 rfl ?_
  refine z_iload C d_SeamCell_areFromTo_1 4 rfl ?_
  refine z_iload C d_SeamCell_areFromTo_3 5 rfl ?_
  refine z_spi C (rest := []) (c_SeamCell_isFromTo l D κ p0 p4 p5 _ h) cs_SeamCell_62 ⟨rfl, rfl⟩ ⟨⟨Nat.le_of_ble_eq_true rfl, Nat.le_of_ble_eq_true rfl⟩, Nat.le_of_ble_eq_true rfl, Nat.le_of_ble_eq_true rfl⟩ [] rfl rfl rfl (Nat.le_of_ble_eq_true rfl) d_SeamCell_areFromTo_5 (fun r_1 h => ?_)
  refine z_if_eq C d_SeamCell_areFromTo_8 (fun c_2 => ?_) (fun c_2 => ?_)
  · replace h := h.1 c_2
    refine z_k C d_SeamCell_areFromTo_48 ?_
    exact zp_zret C hr hlk (Or.inl rfl) d_SeamCell_areFromTo_49 h
  · replace h := h.2 c_2
    refine z_iload C d_SeamCell_areFromTo_11 1 rfl ?_
    refine z_iload C d_SeamCell_areFromTo_12 4 rfl ?_
    refine z_iload C d_SeamCell_areFromTo_14 5 rfl ?_
    refine z_spi C (rest := []) (c_SeamCell_isFromTo l D κ p1 p4 p5 _ h) cs_SeamCell_62 ⟨rfl, rfl⟩ ⟨⟨Nat.le_of_ble_eq_true rfl, Nat.le_of_ble_eq_true rfl⟩, Nat.le_of_ble_eq_true rfl, Nat.le_of_ble_eq_true rfl⟩ [] rfl rfl rfl (Nat.le_of_ble_eq_true rfl) d_SeamCell_areFromTo_16 (fun r_3 h => ?_)
    refine z_if_eq C d_SeamCell_areFromTo_19 (fun c_4 => ?_) (fun c_4 => ?_)
    · replace h := h.1 c_4
      refine z_k C d_SeamCell_areFromTo_48 ?_
      exact zp_zret C hr hlk (Or.inl rfl) d_SeamCell_areFromTo_49 h
    · replace h := h.2 c_4
      refine z_iload C d_SeamCell_areFromTo_22 2 rfl ?_
      refine z_iload C d_SeamCell_areFromTo_23 4 rfl ?_
      refine z_iload C d_SeamCell_areFromTo_25 5 rfl ?_
      refine z_spi C (rest := []) (c_SeamCell_isFromTo l D κ p2 p4 p5 _ h) cs_SeamCell_62 ⟨rfl, rfl⟩ ⟨⟨Nat.le_of_ble_eq_true rfl, Nat.le_of_ble_eq_true rfl⟩, Nat.le_of_ble_eq_true rfl, Nat.le_of_ble_eq_true rfl⟩ [] rfl rfl rfl (Nat.le_of_ble_eq_true rfl) d_SeamCell_areFromTo_27 (fun r_5 h => ?_)
      refine z_if_eq C d_SeamCell_areFromTo_30 (fun c_6 => ?_) (fun c_6 => ?_)
      · replace h := h.1 c_6
        refine z_k C d_SeamCell_areFromTo_48 ?_
        exact zp_zret C hr hlk (Or.inl rfl) d_SeamCell_areFromTo_49 h
      · replace h := h.2 c_6
        refine z_iload C d_SeamCell_areFromTo_33 3 rfl ?_
        refine z_iload C d_SeamCell_areFromTo_34 4 rfl ?_
        refine z_iload C d_SeamCell_areFromTo_36 5 rfl ?_
        refine z_spi C (rest := []) (c_SeamCell_isFromTo l D κ p3 p4 p5 _ h) cs_SeamCell_62 ⟨rfl, rfl⟩ ⟨⟨Nat.le_of_ble_eq_true rfl, Nat.le_of_ble_eq_true rfl⟩, Nat.le_of_ble_eq_true rfl, Nat.le_of_ble_eq_true rfl⟩ [] rfl rfl rfl (Nat.le_of_ble_eq_true rfl) d_SeamCell_areFromTo_38 (fun r_7 h => ?_)
        refine z_if_eq C d_SeamCell_areFromTo_41 (fun c_8 => ?_) (fun c_8 => ?_)
        · replace h := h.1 c_8
          refine z_k C d_SeamCell_areFromTo_48 ?_
          exact zp_zret C hr hlk (Or.inl rfl) d_SeamCell_areFromTo_49 h
        · replace h := h.2 c_8
          refine z_k C d_SeamCell_areFromTo_44 ?_
          refine z_goto C d_SeamCell_areFromTo_45 ?_
          exact zp_zret C hr hlk (Or.inr rfl) d_SeamCell_areFromTo_49 h
def wpB_SeamCell_rootUp_2 (p0 : Int32) (post : Int32 → Prop) (ih_2 : Int32 → Prop) (x1_1 : Int32) : Prop :=
  (((300 : Int32) ≤ x1_1 → (post x1_1)) ∧ (¬ (300 : Int32) ≤ x1_1 → (wp_SeamCell_square x1_1 (fun r_3 => ((p0 ≤ r_3 → (post x1_1)) ∧ (¬ p0 ≤ r_3 → (∀ x1_5 : Int32, x1_5 = x1_1 + (1 : Int32) → (ih_2 x1_5))))))))
noncomputable def wpL_SeamCell_rootUp_2 (p0 : Int32) (post : Int32 → Prop) : Nat → Int32 → Prop := fun n => @Nat.rec (fun _ => Int32 → Prop) (fun _ => False) (fun _ ih_2 => wpB_SeamCell_rootUp_2 p0 post ih_2) n
def wp_SeamCell_rootUp (p0 : Int32) (post : Int32 → Prop) : Prop :=
  (∃ n : Nat, wpL_SeamCell_rootUp_2 p0 post n (0 : Int32))
abbrev rm_SeamCell_rootUp : Room := { frames := 1, cells := 0, slots := 0, locals := 20 }
set_option maxHeartbeats 4000000 in
set_option maxRecDepth 100000 in
theorem c_SeamCell_rootUp (l : Launch) (D : va_G) (κ : KT) (p0 : Int32) (post : Int32 → Prop) (h : wp_SeamCell_rootUp p0 post) : Met l y_SeamCell_rootUp (wsG y_SeamCell_rootUp b_SeamCell_rootUp 2 (some .int)) rm_SeamCell_rootUp (PP D κ [.int p0] []) (vp_Si post) 0 0 (fun _ => False) := by
  refine zp_start [(0, .int p0)] rfl (Nat.le_of_ble_eq_true rfl) rfl ?_
  intro p e s m args below meth c C hr hlk
  unfold wp_SeamCell_rootUp at h
  refine z_k C d_SeamCell_rootUp_0 ?_
  refine z_istore C [(1, .int (0 : Int32)), (0, .int p0)] d_SeamCell_rootUp_1 rfl rfl ?_
  obtain ⟨n_2, h⟩ := h
  have LP_2 : ∀ (n : Nat) (x1_1 : Int32), wpL_SeamCell_rootUp_2 p0 post n x1_1 → Zw p l e rm_SeamCell_rootUp s m args below meth c 0 0 (MQ below (vp_Si post) args s 0 0 (fun _ => False)) D 2 none [] [(0, .int p0), (1, .int x1_1)] 2 [] := by
    intro n
    induction n with
    | zero => intro x1_1 h; exact False.elim h
    | succ nn_2 IH_2 =>
      intro x1_1 h
      have h : wpB_SeamCell_rootUp_2 p0 post (wpL_SeamCell_rootUp_2 p0 post nn_2) x1_1 := h
      unfold wpB_SeamCell_rootUp_2 at h
      refine z_iload C d_SeamCell_rootUp_2 1 rfl ?_
      refine z_k C d_SeamCell_rootUp_3 ?_
      refine z_icmp_ge C d_SeamCell_rootUp_6 (fun c_2 => ?_) (fun c_2 => ?_)
      · replace h := h.1 c_2
        refine z_iload C d_SeamCell_rootUp_23 1 rfl ?_
        exact zp_iret C hr hlk d_SeamCell_rootUp_24 h
      · replace h := h.2 c_2
        refine z_iload C d_SeamCell_rootUp_9 1 rfl ?_
        refine z_spi C (rest := []) (c_SeamCell_square l D κ x1_1 _ h) cs_SeamCell_263 ⟨rfl, rfl⟩ ⟨⟨Nat.le_of_ble_eq_true rfl, Nat.le_of_ble_eq_true rfl⟩, Nat.le_of_ble_eq_true rfl, Nat.le_of_ble_eq_true rfl⟩ [] rfl rfl rfl (Nat.le_of_ble_eq_true rfl) d_SeamCell_rootUp_10 (fun r_3 h => ?_)
        refine z_iload C d_SeamCell_rootUp_13 0 rfl ?_
        refine z_icmp_ge C d_SeamCell_rootUp_14 (fun c_4 => ?_) (fun c_4 => ?_)
        · replace h := h.1 c_4
          refine z_iload C d_SeamCell_rootUp_23 1 rfl ?_
          exact zp_iret C hr hlk d_SeamCell_rootUp_24 h
        · replace h := h.2 c_4
          obtain ⟨x1_5, ex1_5⟩ : ∃ y : Int32, y = x1_1 + (1 : Int32) := ⟨_, rfl⟩
          replace h := h x1_5 ex1_5
          refine z_iinc C [(1, .int x1_5), (0, .int p0)] d_SeamCell_rootUp_17 (j := 1) rfl (by rw [ex1_5]; rfl) rfl rfl ?_
          refine z_goto C d_SeamCell_rootUp_20 ?_
          refine z_sub [1, 0] [(0, .int p0), (1, .int x1_5)] rfl ?_
          exact IH_2 x1_5 h
  refine z_sub [1, 0] [(0, .int p0), (1, .int (0 : Int32))] rfl ?_
  exact LP_2 n_2 (0 : Int32) h
def wpB_Arrays_fill_5 (fa_n : Nat) (p1 : Int32) (post : (Nat → Int32) → Prop) (x3_1 : Int32) (ih_5 : (Nat → Int32) → Int32 → Prop) (fa_2 : Nat → Int32) (x2_3 : Int32) : Prop :=
  ((x3_1 ≤ x2_3 → (post fa_2)) ∧ (¬ x3_1 ≤ x2_3 → (vp_in x2_3 fa_n ∧ (∀ g_5 : Nat → Int32, g_5 = upd fa_2 (x2_3.toNatClampNeg) p1 → (∀ x2_6 : Int32, x2_6 = x2_3 + (1 : Int32) → (ih_5 g_5 x2_6))))))
noncomputable def wpL_Arrays_fill_5 (fa_n : Nat) (p1 : Int32) (post : (Nat → Int32) → Prop) (x3_1 : Int32) : Nat → (Nat → Int32) → Int32 → Prop := fun n => @Nat.rec (fun _ => (Nat → Int32) → Int32 → Prop) (fun _ _ => False) (fun _ ih_5 => wpB_Arrays_fill_5 fa_n p1 post x3_1 ih_5) n
def wp_Arrays_fill (fa_n : Nat) (fa : Nat → Int32) (p1 : Int32) (post : (Nat → Int32) → Prop) : Prop :=
  (∀ x3_1 : Int32, x3_1 = Int32.ofNat fa_n → (∃ n : Nat, wpL_Arrays_fill_5 fa_n p1 post x3_1 n fa (0 : Int32)))
abbrev rm_Arrays_fill : Room := { frames := 0, cells := 0, slots := 0, locals := 0 }
set_option maxHeartbeats 4000000 in
set_option maxRecDepth 100000 in
theorem c_Arrays_fill (l : Launch) (D : va_G) (κ : KT) (h_fa : Nat) (fa_n : Nat) (fa : Nat → Int32) (p1 : Int32) (sz : Nat) (post : (Nat → Int32) → Prop) (h : wp_Arrays_fill fa_n fa p1 post) : Met l y_fill (wsG y_fill b_fill 4 none) rm_Arrays_fill (PE D κ [.ref h_fa, .int p1] [(h_fa, cI κ fa_n fa)] sz) (va_Qv (fun (u : (Nat → Int32)) => post u) (QB D [(h_fa, cI κ fa_n fa)] sz (fun (u : (Nat → Int32)) => [(h_fa, cI κ fa_n u)])) (va_A [(h_fa, cI κ fa_n fa)] sz)) 0 0 (va_A [(h_fa, cI κ fa_n fa)] sz) := by
  refine ze_start [(0, .ref h_fa), (1, .int p1)] rfl (Nat.le_of_ble_eq_true rfl) rfl ?_
  intro p e s m args below meth c C hr hlk hnm hsz
  subst hsz
  unfold wp_Arrays_fill at h
  refine z_k C d_Arrays_fill_0 ?_
  refine z_istore C [(2, .int (0 : Int32)), (0, .ref h_fa), (1, .int p1)] d_Arrays_fill_1 rfl rfl ?_
  refine z_aload C d_Arrays_fill_2 1 rfl ?_
  refine z_alen C 0 0 rfl rfl d_Arrays_fill_3 ?_
  refine z_topi (fun x3_1 ex3_1 => ?_)
  replace h := h x3_1 ex3_1
  refine z_istore C [(3, .int x3_1), (2, .int (0 : Int32)), (0, .ref h_fa), (1, .int p1)] d_Arrays_fill_4 rfl rfl ?_
  obtain ⟨n_5, h⟩ := h
  have LP_5 : ∀ (n : Nat) (fa_2 : Nat → Int32) (x2_3 : Int32), wpL_Arrays_fill_5 fa_n p1 post x3_1 n fa_2 x2_3 → Zw p l e rm_Arrays_fill s m args below meth c 0 0 (MQ below (va_Qv (fun (u : (Nat → Int32)) => post u) (QB D [(h_fa, cI κ fa_n fa)] s.heap.size (fun (u : (Nat → Int32)) => [(h_fa, cI κ fa_n u)])) (va_A [(h_fa, cI κ fa_n fa)] s.heap.size)) args s 0 0 (va_A [(h_fa, cI κ fa_n fa)] s.heap.size)) D 4 (some (va_A [(h_fa, cI κ fa_n fa)] s.heap.size)) [(h_fa, cI κ fa_n fa_2)] [(0, .ref h_fa), (1, .int p1), (2, .int x2_3), (3, .int x3_1)] 5 [] := by
    intro n
    induction n with
    | zero => intro fa_2 x2_3 h; exact False.elim h
    | succ nn_5 IH_5 =>
      intro fa_2 x2_3 h
      have h : wpB_Arrays_fill_5 fa_n p1 post x3_1 (wpL_Arrays_fill_5 fa_n p1 post x3_1 nn_5) fa_2 x2_3 := h
      unfold wpB_Arrays_fill_5 at h
      refine z_iload C d_Arrays_fill_5 2 rfl ?_
      refine z_iload C d_Arrays_fill_6 3 rfl ?_
      refine z_icmp_ge C d_Arrays_fill_7 (fun c_4 => ?_) (fun c_4 => ?_)
      · replace h := h.1 c_4
        exact ze_vret C fa_2 hr hlk rfl d_Arrays_fill_20 h
      · replace h := h.2 c_4
        refine z_aload C d_Arrays_fill_10 0 rfl ?_
        refine z_iload C d_Arrays_fill_11 2 rfl ?_
        refine z_iload C d_Arrays_fill_12 1 rfl ?_
        obtain ⟨g_5, eg_5⟩ : ∃ y : Nat → Int32, y = upd fa_2 (x2_3.toNatClampNeg) p1 := ⟨_, rfl⟩
        refine z_iast C 0 rfl h.1 [(h_fa, cI κ fa_n g_5)] (by rw [eg_5]; rfl) d_Arrays_fill_13 ?_
        replace h := h.2 g_5 eg_5
        obtain ⟨x2_6, ex2_6⟩ : ∃ y : Int32, y = x2_3 + (1 : Int32) := ⟨_, rfl⟩
        replace h := h x2_6 ex2_6
        refine z_iinc C [(2, .int x2_6), (0, .ref h_fa), (1, .int p1), (3, .int x3_1)] d_Arrays_fill_14 (j := 2) rfl (by rw [ex2_6]; rfl) rfl rfl ?_
        refine z_goto C d_Arrays_fill_17 ?_
        refine z_sub [1, 2, 0, 3] [(0, .ref h_fa), (1, .int p1), (2, .int x2_6), (3, .int x3_1)] rfl ?_
        exact IH_5 g_5 x2_6 h
  refine z_sub [2, 3, 1, 0] [(0, .ref h_fa), (1, .int p1), (2, .int (0 : Int32)), (3, .int x3_1)] rfl ?_
  exact LP_5 n_5 fa (0 : Int32) h
def wp_Cell_xOf (ce_middleX : Int32) (ce_shiftX : Int32) (p0 : Int32) (p1 : Int32) (p2 : Int32) (post : Int32 → Prop) : Prop :=
  ((¬ p2 = 0 → ((¬ p2 = (1 : Int32) → ((¬ p2 = (2 : Int32) → (post ((ce_middleX + p1) + ce_shiftX))) ∧ (p2 = (2 : Int32) → (∀ x4_4 : Int32, x4_4 = -p0 → (post ((ce_middleX + x4_4) + ce_shiftX)))))) ∧ (p2 = (1 : Int32) → (∀ x4_5 : Int32, x4_5 = -p1 → (post ((ce_middleX + x4_5) + ce_shiftX)))))) ∧ (p2 = 0 → (post ((ce_middleX + p0) + ce_shiftX))))
abbrev rm_Cell_xOf : Room := { frames := 0, cells := 0, slots := 0, locals := 0 }
set_option maxHeartbeats 4000000 in
set_option maxRecDepth 100000 in
theorem c_Cell_xOf (l : Launch) (D : va_G) (κ : KT) (h_ce : Nat) (h_ce_barX0 : Nat) (h_ce_barY0 : Nat) (h_ce_barX1 : Nat) (h_ce_barY1 : Nat) (ce_middleX : Int32) (ce_middleY : Int32) (ce_shiftX : Int32) (ce_shiftY : Int32) (ce_linkA : Int32) (ce_linkB : Int32) (ce_flatness : Int32) (ce_barCount : Int32) (p0 : Int32) (p1 : Int32) (p2 : Int32) (post : Int32 → Prop) (h : wp_Cell_xOf ce_middleX ce_shiftX p0 p1 p2 post) : Met l y_Cell_xOf (wsG y_Cell_xOf b_Cell_xOf 5 (some .int)) rm_Cell_xOf (PP D κ [.ref h_ce, .int p0, .int p1, .int p2] [(h_ce, .inr (1, [.int ce_middleX, .int ce_middleY, .int ce_shiftX, .int ce_shiftY, .int ce_linkA, .int ce_linkB, .int ce_flatness, .int ce_barCount, .ref h_ce_barX0, .ref h_ce_barY0, .ref h_ce_barX1, .ref h_ce_barY1]))]) (vp_Si post) 0 0 (fun _ => False) := by
  refine zp_start [(0, .ref h_ce), (1, .int p0), (2, .int p1), (3, .int p2)] rfl (Nat.le_of_ble_eq_true rfl) rfl ?_
  intro p e s m args below meth c C hr hlk
  unfold wp_Cell_xOf at h
  refine z_iload C d_Cell_xOf_0 3 rfl ?_
  refine z_if_ne C d_Cell_xOf_1 (fun c_1 => ?_) (fun c_1 => ?_)
  · replace h := h.1 c_1
    refine z_iload C d_Cell_xOf_8 3 rfl ?_
    refine z_k C d_Cell_xOf_9 ?_
    refine z_icmp_ne C d_Cell_xOf_10 (fun c_2 => ?_) (fun c_2 => ?_)
    · replace h := h.1 c_2
      refine z_iload C d_Cell_xOf_18 3 rfl ?_
      refine z_k C d_Cell_xOf_19 ?_
      refine z_icmp_ne C d_Cell_xOf_20 (fun c_3 => ?_) (fun c_3 => ?_)
      · replace h := h.1 c_3
        refine z_iload C d_Cell_xOf_28 2 rfl ?_
        refine z_istore C [(4, .int p1), (0, .ref h_ce), (1, .int p0), (2, .int p1), (3, .int p2)] d_Cell_xOf_29 rfl rfl ?_
        refine z_aload C d_Cell_xOf_31 1 rfl ?_
        refine z_get C fl_Cell_37 0 rfl rfl d_Cell_xOf_32 ?_
        refine z_iload C d_Cell_xOf_35 0 rfl ?_
        refine z_iadd C d_Cell_xOf_37 ?_
        refine z_aload C d_Cell_xOf_38 1 rfl ?_
        refine z_get C fl_Cell_40 0 rfl rfl d_Cell_xOf_39 ?_
        refine z_iadd C d_Cell_xOf_42 ?_
        exact zp_iret C hr hlk d_Cell_xOf_43 h
      · replace h := h.2 c_3
        refine z_iload C d_Cell_xOf_23 1 rfl ?_
        refine z_ineg C d_Cell_xOf_24 ?_
        refine z_goto C d_Cell_xOf_25 ?_
        refine z_topi (fun x4_4 ex4_4 => ?_)
        replace h := h x4_4 ex4_4
        refine z_istore C [(4, .int x4_4), (0, .ref h_ce), (1, .int p0), (2, .int p1), (3, .int p2)] d_Cell_xOf_29 rfl rfl ?_
        refine z_aload C d_Cell_xOf_31 1 rfl ?_
        refine z_get C fl_Cell_37 0 rfl rfl d_Cell_xOf_32 ?_
        refine z_iload C d_Cell_xOf_35 0 rfl ?_
        refine z_iadd C d_Cell_xOf_37 ?_
        refine z_aload C d_Cell_xOf_38 1 rfl ?_
        refine z_get C fl_Cell_40 0 rfl rfl d_Cell_xOf_39 ?_
        refine z_iadd C d_Cell_xOf_42 ?_
        exact zp_iret C hr hlk d_Cell_xOf_43 h
    · replace h := h.2 c_2
      refine z_iload C d_Cell_xOf_13 2 rfl ?_
      refine z_ineg C d_Cell_xOf_14 ?_
      refine z_goto C d_Cell_xOf_15 ?_
      refine z_topi (fun x4_5 ex4_5 => ?_)
      replace h := h x4_5 ex4_5
      refine z_istore C [(4, .int x4_5), (0, .ref h_ce), (1, .int p0), (2, .int p1), (3, .int p2)] d_Cell_xOf_29 rfl rfl ?_
      refine z_aload C d_Cell_xOf_31 1 rfl ?_
      refine z_get C fl_Cell_37 0 rfl rfl d_Cell_xOf_32 ?_
      refine z_iload C d_Cell_xOf_35 0 rfl ?_
      refine z_iadd C d_Cell_xOf_37 ?_
      refine z_aload C d_Cell_xOf_38 1 rfl ?_
      refine z_get C fl_Cell_40 0 rfl rfl d_Cell_xOf_39 ?_
      refine z_iadd C d_Cell_xOf_42 ?_
      exact zp_iret C hr hlk d_Cell_xOf_43 h
  · replace h := h.2 c_1
    refine z_iload C d_Cell_xOf_4 1 rfl ?_
    refine z_goto C d_Cell_xOf_5 ?_
    refine z_istore C [(4, .int p0), (0, .ref h_ce), (1, .int p0), (2, .int p1), (3, .int p2)] d_Cell_xOf_29 rfl rfl ?_
    refine z_aload C d_Cell_xOf_31 1 rfl ?_
    refine z_get C fl_Cell_37 0 rfl rfl d_Cell_xOf_32 ?_
    refine z_iload C d_Cell_xOf_35 0 rfl ?_
    refine z_iadd C d_Cell_xOf_37 ?_
    refine z_aload C d_Cell_xOf_38 1 rfl ?_
    refine z_get C fl_Cell_40 0 rfl rfl d_Cell_xOf_39 ?_
    refine z_iadd C d_Cell_xOf_42 ?_
    exact zp_iret C hr hlk d_Cell_xOf_43 h
def wp_Cell_yOf (ce_middleY : Int32) (ce_shiftY : Int32) (p0 : Int32) (p1 : Int32) (p2 : Int32) (post : Int32 → Prop) : Prop :=
  ((¬ p2 = 0 → ((¬ p2 = (1 : Int32) → ((¬ p2 = (2 : Int32) → (∀ x4_4 : Int32, x4_4 = -p0 → (post ((ce_middleY + x4_4) + ce_shiftY)))) ∧ (p2 = (2 : Int32) → (∀ x4_5 : Int32, x4_5 = -p1 → (post ((ce_middleY + x4_5) + ce_shiftY)))))) ∧ (p2 = (1 : Int32) → (post ((ce_middleY + p0) + ce_shiftY))))) ∧ (p2 = 0 → (post ((ce_middleY + p1) + ce_shiftY))))
abbrev rm_Cell_yOf : Room := { frames := 0, cells := 0, slots := 0, locals := 0 }
set_option maxHeartbeats 4000000 in
set_option maxRecDepth 100000 in
theorem c_Cell_yOf (l : Launch) (D : va_G) (κ : KT) (h_ce : Nat) (h_ce_barX0 : Nat) (h_ce_barY0 : Nat) (h_ce_barX1 : Nat) (h_ce_barY1 : Nat) (ce_middleX : Int32) (ce_middleY : Int32) (ce_shiftX : Int32) (ce_shiftY : Int32) (ce_linkA : Int32) (ce_linkB : Int32) (ce_flatness : Int32) (ce_barCount : Int32) (p0 : Int32) (p1 : Int32) (p2 : Int32) (post : Int32 → Prop) (h : wp_Cell_yOf ce_middleY ce_shiftY p0 p1 p2 post) : Met l y_Cell_yOf (wsG y_Cell_yOf b_Cell_yOf 5 (some .int)) rm_Cell_yOf (PP D κ [.ref h_ce, .int p0, .int p1, .int p2] [(h_ce, .inr (1, [.int ce_middleX, .int ce_middleY, .int ce_shiftX, .int ce_shiftY, .int ce_linkA, .int ce_linkB, .int ce_flatness, .int ce_barCount, .ref h_ce_barX0, .ref h_ce_barY0, .ref h_ce_barX1, .ref h_ce_barY1]))]) (vp_Si post) 0 0 (fun _ => False) := by
  refine zp_start [(0, .ref h_ce), (1, .int p0), (2, .int p1), (3, .int p2)] rfl (Nat.le_of_ble_eq_true rfl) rfl ?_
  intro p e s m args below meth c C hr hlk
  unfold wp_Cell_yOf at h
  refine z_iload C d_Cell_yOf_0 3 rfl ?_
  refine z_if_ne C d_Cell_yOf_1 (fun c_1 => ?_) (fun c_1 => ?_)
  · replace h := h.1 c_1
    refine z_iload C d_Cell_yOf_8 3 rfl ?_
    refine z_k C d_Cell_yOf_9 ?_
    refine z_icmp_ne C d_Cell_yOf_10 (fun c_2 => ?_) (fun c_2 => ?_)
    · replace h := h.1 c_2
      refine z_iload C d_Cell_yOf_17 3 rfl ?_
      refine z_k C d_Cell_yOf_18 ?_
      refine z_icmp_ne C d_Cell_yOf_19 (fun c_3 => ?_) (fun c_3 => ?_)
      · replace h := h.1 c_3
        refine z_iload C d_Cell_yOf_27 1 rfl ?_
        refine z_ineg C d_Cell_yOf_28 ?_
        refine z_topi (fun x4_4 ex4_4 => ?_)
        replace h := h x4_4 ex4_4
        refine z_istore C [(4, .int x4_4), (0, .ref h_ce), (1, .int p0), (2, .int p1), (3, .int p2)] d_Cell_yOf_29 rfl rfl ?_
        refine z_aload C d_Cell_yOf_31 1 rfl ?_
        refine z_get C fl_Cell_43 0 rfl rfl d_Cell_yOf_32 ?_
        refine z_iload C d_Cell_yOf_35 0 rfl ?_
        refine z_iadd C d_Cell_yOf_37 ?_
        refine z_aload C d_Cell_yOf_38 1 rfl ?_
        refine z_get C fl_Cell_46 0 rfl rfl d_Cell_yOf_39 ?_
        refine z_iadd C d_Cell_yOf_42 ?_
        exact zp_iret C hr hlk d_Cell_yOf_43 h
      · replace h := h.2 c_3
        refine z_iload C d_Cell_yOf_22 2 rfl ?_
        refine z_ineg C d_Cell_yOf_23 ?_
        refine z_goto C d_Cell_yOf_24 ?_
        refine z_topi (fun x4_5 ex4_5 => ?_)
        replace h := h x4_5 ex4_5
        refine z_istore C [(4, .int x4_5), (0, .ref h_ce), (1, .int p0), (2, .int p1), (3, .int p2)] d_Cell_yOf_29 rfl rfl ?_
        refine z_aload C d_Cell_yOf_31 1 rfl ?_
        refine z_get C fl_Cell_43 0 rfl rfl d_Cell_yOf_32 ?_
        refine z_iload C d_Cell_yOf_35 0 rfl ?_
        refine z_iadd C d_Cell_yOf_37 ?_
        refine z_aload C d_Cell_yOf_38 1 rfl ?_
        refine z_get C fl_Cell_46 0 rfl rfl d_Cell_yOf_39 ?_
        refine z_iadd C d_Cell_yOf_42 ?_
        exact zp_iret C hr hlk d_Cell_yOf_43 h
    · replace h := h.2 c_2
      refine z_iload C d_Cell_yOf_13 1 rfl ?_
      refine z_goto C d_Cell_yOf_14 ?_
      refine z_istore C [(4, .int p0), (0, .ref h_ce), (1, .int p0), (2, .int p1), (3, .int p2)] d_Cell_yOf_29 rfl rfl ?_
      refine z_aload C d_Cell_yOf_31 1 rfl ?_
      refine z_get C fl_Cell_43 0 rfl rfl d_Cell_yOf_32 ?_
      refine z_iload C d_Cell_yOf_35 0 rfl ?_
      refine z_iadd C d_Cell_yOf_37 ?_
      refine z_aload C d_Cell_yOf_38 1 rfl ?_
      refine z_get C fl_Cell_46 0 rfl rfl d_Cell_yOf_39 ?_
      refine z_iadd C d_Cell_yOf_42 ?_
      exact zp_iret C hr hlk d_Cell_yOf_43 h
  · replace h := h.2 c_1
    refine z_iload C d_Cell_yOf_4 2 rfl ?_
    refine z_goto C d_Cell_yOf_5 ?_
    refine z_istore C [(4, .int p1), (0, .ref h_ce), (1, .int p0), (2, .int p1), (3, .int p2)] d_Cell_yOf_29 rfl rfl ?_
    refine z_aload C d_Cell_yOf_31 1 rfl ?_
    refine z_get C fl_Cell_43 0 rfl rfl d_Cell_yOf_32 ?_
    refine z_iload C d_Cell_yOf_35 0 rfl ?_
    refine z_iadd C d_Cell_yOf_37 ?_
    refine z_aload C d_Cell_yOf_38 1 rfl ?_
    refine z_get C fl_Cell_46 0 rfl rfl d_Cell_yOf_39 ?_
    refine z_iadd C d_Cell_yOf_42 ?_
    exact zp_iret C hr hlk d_Cell_yOf_43 h
def wp_Cell_isFlat (ce_flatness : Int32) (p0 : Int32) (p1 : Int32) (p2 : Int32) (p3 : Int32) (post : Int32 → Prop) : Prop :=
  (((ce_flatness * (iabs (p2 - p0))) < ((iabs (p3 - p1)) * (100 : Int32)) → (post (0 : Int32))) ∧ (¬ (ce_flatness * (iabs (p2 - p0))) < ((iabs (p3 - p1)) * (100 : Int32)) → (post (1 : Int32))))
abbrev rm_Cell_isFlat : Room := { frames := 1, cells := 0, slots := 0, locals := 21 }
set_option maxHeartbeats 4000000 in
set_option maxRecDepth 100000 in
theorem c_Cell_isFlat (l : Launch) (D : va_G) (κ : KT) (h_ce : Nat) (h_ce_barX0 : Nat) (h_ce_barY0 : Nat) (h_ce_barX1 : Nat) (h_ce_barY1 : Nat) (ce_middleX : Int32) (ce_middleY : Int32) (ce_shiftX : Int32) (ce_shiftY : Int32) (ce_linkA : Int32) (ce_linkB : Int32) (ce_flatness : Int32) (ce_barCount : Int32) (p0 : Int32) (p1 : Int32) (p2 : Int32) (p3 : Int32) (post : Int32 → Prop) (h : wp_Cell_isFlat ce_flatness p0 p1 p2 p3 post) : Met l y_Cell_isFlat (wsG y_Cell_isFlat b_Cell_isFlat 5 (some .boolean)) rm_Cell_isFlat (PP D κ [.ref h_ce, .int p0, .int p1, .int p2, .int p3] [(h_ce, .inr (1, [.int ce_middleX, .int ce_middleY, .int ce_shiftX, .int ce_shiftY, .int ce_linkA, .int ce_linkB, .int ce_flatness, .int ce_barCount, .ref h_ce_barX0, .ref h_ce_barY0, .ref h_ce_barX1, .ref h_ce_barY1]))]) (vp_Si post) 0 0 (fun _ => False) := by
  refine zp_start [(0, .ref h_ce), (1, .int p0), (2, .int p1), (3, .int p2), (4, .int p3)] rfl (Nat.le_of_ble_eq_true rfl) rfl ?_
  intro p e s m args below meth c C hr hlk
  unfold wp_Cell_isFlat at h
  refine z_iload C d_Cell_isFlat_0 4 rfl ?_
  refine z_iload C d_Cell_isFlat_2 2 rfl ?_
  refine z_isub C d_Cell_isFlat_3 ?_
  refine z_mabs C cm_Cell_49 (Nat.le_of_ble_eq_true rfl) (Nat.le_of_ble_eq_true rfl) ⟨Nat.le_of_ble_eq_true rfl, Nat.le_of_ble_eq_true rfl⟩ d_Cell_isFlat_4 ?_
  refine z_k C d_Cell_isFlat_7 ?_
  refine z_imul C d_Cell_isFlat_9 ?_
  refine z_aload C d_Cell_isFlat_10 0 rfl ?_
  refine z_get C fl_Cell_18 0 rfl rfl d_Cell_isFlat_11 ?_
  refine z_iload C d_Cell_isFlat_14 3 rfl ?_
  refine z_iload C d_Cell_isFlat_15 1 rfl ?_
  refine z_isub C d_Cell_isFlat_16 ?_
  refine z_mabs C cm_Cell_49 (Nat.le_of_ble_eq_true rfl) (Nat.le_of_ble_eq_true rfl) ⟨Nat.le_of_ble_eq_true rfl, Nat.le_of_ble_eq_true rfl⟩ d_Cell_isFlat_17 ?_
  refine z_imul C d_Cell_isFlat_20 ?_
  refine z_icmp_gt C d_Cell_isFlat_21 (fun c_1 => ?_) (fun c_1 => ?_)
  · replace h := h.1 c_1
    refine z_k C d_Cell_isFlat_28 ?_
    exact zp_zret C hr hlk (Or.inl rfl) d_Cell_isFlat_29 h
  · replace h := h.2 c_1
    refine z_k C d_Cell_isFlat_24 ?_
    refine z_goto C d_Cell_isFlat_25 ?_
    exact zp_zret C hr hlk (Or.inr rfl) d_Cell_isFlat_29 h
def wp_Cell_isWithin (ce_linkA : Int32) (ce_linkB : Int32) (p0 : Int32) (p1 : Int32) (p2 : Int32) (p3 : Int32) (post : Int32 → Prop) : Prop :=
  (wp_SeamCell_square p0 (fun r_1 => (wp_SeamCell_square p1 (fun r_2 => (∀ x5_3 : Int32, x5_3 = r_1 + r_2 → (wp_SeamCell_square p2 (fun r_4 => (wp_SeamCell_square p3 (fun r_5 => (∀ x6_6 : Int32, x6_6 = r_4 + r_5 → (wp_SeamCell_square (ce_linkA + ce_linkB) (fun r_7 => (((imax x5_3 x6_6) ≤ r_7 → (∀ x7_9 : Int32, x7_9 = p2 - p0 → (∀ x8_10 : Int32, x8_10 = p3 - p1 → (∀ x9_11 : Int32, x9_11 = -((p0 * x7_9) + (p1 * x8_10)) → (wp_SeamCell_square x7_9 (fun r_12 => (wp_SeamCell_square x8_10 (fun r_13 => (∀ x10_14 : Int32, x10_14 = r_12 + r_13 → (wp_SeamCell_square (ce_linkA - ce_linkB) (fun r_15 => ((0 < x9_11 → ((x9_11 < x10_14 → (∀ x12_18 : Int64, x12_18 = (p0.toInt64 * x8_10.toInt64) - (p1.toInt64 * x7_9.toInt64) → (((lg_cmp (x12_18 * x12_18) (r_15.toInt64 * x10_14.toInt64)) < 0 → (post (0 : Int32))) ∧ (¬ (lg_cmp (x12_18 * x12_18) (r_15.toInt64 * x10_14.toInt64)) < 0 → (post (1 : Int32)))))) ∧ (¬ x9_11 < x10_14 → ((x6_6 < r_15 → (post (0 : Int32))) ∧ (¬ x6_6 < r_15 → (post (1 : Int32))))))) ∧ (¬ 0 < x9_11 → ((x5_3 < r_15 → (post (0 : Int32))) ∧ (¬ x5_3 < r_15 → (post (1 : Int32))))))))))))))))) ∧ (¬ (imax x5_3 x6_6) ≤ r_7 → (post (0 : Int32))))))))))))))))
abbrev rm_Cell_isWithin : Room := { frames := 1, cells := 0, slots := 0, locals := 21 }
set_option maxHeartbeats 4000000 in
set_option maxRecDepth 100000 in
theorem c_Cell_isWithin (l : Launch) (D : va_G) (κ : KT) (h_ce : Nat) (h_ce_barX0 : Nat) (h_ce_barY0 : Nat) (h_ce_barX1 : Nat) (h_ce_barY1 : Nat) (ce_middleX : Int32) (ce_middleY : Int32) (ce_shiftX : Int32) (ce_shiftY : Int32) (ce_linkA : Int32) (ce_linkB : Int32) (ce_flatness : Int32) (ce_barCount : Int32) (p0 : Int32) (p1 : Int32) (p2 : Int32) (p3 : Int32) (post : Int32 → Prop) (h : wp_Cell_isWithin ce_linkA ce_linkB p0 p1 p2 p3 post) : Met l y_Cell_isWithin (wsG y_Cell_isWithin b_Cell_isWithin 14 (some .boolean)) rm_Cell_isWithin (PP D κ [.ref h_ce, .int p0, .int p1, .int p2, .int p3] [(h_ce, .inr (1, [.int ce_middleX, .int ce_middleY, .int ce_shiftX, .int ce_shiftY, .int ce_linkA, .int ce_linkB, .int ce_flatness, .int ce_barCount, .ref h_ce_barX0, .ref h_ce_barY0, .ref h_ce_barX1, .ref h_ce_barY1]))]) (vp_Si post) 0 0 (fun _ => False) := by
  refine zp_start [(0, .ref h_ce), (1, .int p0), (2, .int p1), (3, .int p2), (4, .int p3)] rfl (Nat.le_of_ble_eq_true rfl) rfl ?_
  intro p e s m args below meth c C hr hlk
  unfold wp_Cell_isWithin at h
  refine z_iload C d_Cell_isWithin_0 1 rfl ?_
  refine z_npi C (rest := []) (c_SeamCell_square l D κ p0 _ h) cn_Cell_55 ⟨rfl, rfl⟩ ⟨⟨Nat.le_of_ble_eq_true rfl, Nat.le_of_ble_eq_true rfl⟩, Nat.le_of_ble_eq_true rfl, Nat.le_of_ble_eq_true rfl⟩ [] rfl rfl rfl (Nat.le_of_ble_eq_true rfl) d_Cell_isWithin_1 (fun r_1 h => ?_)
  refine z_iload C d_Cell_isWithin_4 2 rfl ?_
  refine z_npi C (rest := [.int r_1]) (c_SeamCell_square l D κ p1 _ h) cn_Cell_55 ⟨rfl, rfl⟩ ⟨⟨Nat.le_of_ble_eq_true rfl, Nat.le_of_ble_eq_true rfl⟩, Nat.le_of_ble_eq_true rfl, Nat.le_of_ble_eq_true rfl⟩ [] rfl rfl rfl (Nat.le_of_ble_eq_true rfl) d_Cell_isWithin_5 (fun r_2 h => ?_)
  refine z_iadd C d_Cell_isWithin_8 ?_
  refine z_topi (fun x5_3 ex5_3 => ?_)
  replace h := h x5_3 ex5_3
  refine z_istore C [(5, .int x5_3), (0, .ref h_ce), (1, .int p0), (2, .int p1), (3, .int p2), (4, .int p3)] d_Cell_isWithin_9 rfl rfl ?_
  refine z_iload C d_Cell_isWithin_11 4 rfl ?_
  refine z_npi C (rest := []) (c_SeamCell_square l D κ p2 _ h) cn_Cell_55 ⟨rfl, rfl⟩ ⟨⟨Nat.le_of_ble_eq_true rfl, Nat.le_of_ble_eq_true rfl⟩, Nat.le_of_ble_eq_true rfl, Nat.le_of_ble_eq_true rfl⟩ [] rfl rfl rfl (Nat.le_of_ble_eq_true rfl) d_Cell_isWithin_12 (fun r_4 h => ?_)
  refine z_iload C d_Cell_isWithin_15 5 rfl ?_
  refine z_npi C (rest := [.int r_4]) (c_SeamCell_square l D κ p3 _ h) cn_Cell_55 ⟨rfl, rfl⟩ ⟨⟨Nat.le_of_ble_eq_true rfl, Nat.le_of_ble_eq_true rfl⟩, Nat.le_of_ble_eq_true rfl, Nat.le_of_ble_eq_true rfl⟩ [] rfl rfl rfl (Nat.le_of_ble_eq_true rfl) d_Cell_isWithin_17 (fun r_5 h => ?_)
  refine z_iadd C d_Cell_isWithin_20 ?_
  refine z_topi (fun x6_6 ex6_6 => ?_)
  replace h := h x6_6 ex6_6
  refine z_istore C [(6, .int x6_6), (5, .int x5_3), (0, .ref h_ce), (1, .int p0), (2, .int p1), (3, .int p2), (4, .int p3)] d_Cell_isWithin_21 rfl rfl ?_
  refine z_iload C d_Cell_isWithin_23 1 rfl ?_
  refine z_iload C d_Cell_isWithin_25 0 rfl ?_
  refine z_mmax C cm_Cell_58 (Nat.le_of_ble_eq_true rfl) (Nat.le_of_ble_eq_true rfl) ⟨Nat.le_of_ble_eq_true rfl, Nat.le_of_ble_eq_true rfl⟩ d_Cell_isWithin_27 ?_
  refine z_aload C d_Cell_isWithin_30 2 rfl ?_
  refine z_get C fl_Cell_9 0 rfl rfl d_Cell_isWithin_31 ?_
  refine z_aload C d_Cell_isWithin_34 2 rfl ?_
  refine z_get C fl_Cell_15 0 rfl rfl d_Cell_isWithin_35 ?_
  refine z_iadd C d_Cell_isWithin_38 ?_
  refine z_npi C (rest := [.int (imax x5_3 x6_6)]) (c_SeamCell_square l D κ (ce_linkA + ce_linkB) _ h) cn_Cell_55 ⟨rfl, rfl⟩ ⟨⟨Nat.le_of_ble_eq_true rfl, Nat.le_of_ble_eq_true rfl⟩, Nat.le_of_ble_eq_true rfl, Nat.le_of_ble_eq_true rfl⟩ [] rfl rfl rfl (Nat.le_of_ble_eq_true rfl) d_Cell_isWithin_39 (fun r_7 h => ?_)
  refine z_icmp_le C d_Cell_isWithin_42 (fun c_8 => ?_) (fun c_8 => ?_)
  · replace h := h.1 c_8
    refine z_iload C d_Cell_isWithin_47 5 rfl ?_
    refine z_iload C d_Cell_isWithin_48 3 rfl ?_
    refine z_isub C d_Cell_isWithin_49 ?_
    refine z_topi (fun x7_9 ex7_9 => ?_)
    replace h := h x7_9 ex7_9
    refine z_istore C [(7, .int x7_9), (6, .int x6_6), (5, .int x5_3), (0, .ref h_ce), (1, .int p0), (2, .int p1), (3, .int p2), (4, .int p3)] d_Cell_isWithin_50 rfl rfl ?_
    refine z_iload C d_Cell_isWithin_52 7 rfl ?_
    refine z_iload C d_Cell_isWithin_54 5 rfl ?_
    refine z_isub C d_Cell_isWithin_55 ?_
    refine z_topi (fun x8_10 ex8_10 => ?_)
    replace h := h x8_10 ex8_10
    refine z_istore C [(8, .int x8_10), (7, .int x7_9), (6, .int x6_6), (5, .int x5_3), (0, .ref h_ce), (1, .int p0), (2, .int p1), (3, .int p2), (4, .int p3)] d_Cell_isWithin_56 rfl rfl ?_
    refine z_iload C d_Cell_isWithin_58 5 rfl ?_
    refine z_iload C d_Cell_isWithin_59 1 rfl ?_
    refine z_imul C d_Cell_isWithin_61 ?_
    refine z_iload C d_Cell_isWithin_62 6 rfl ?_
    refine z_iload C d_Cell_isWithin_63 0 rfl ?_
    refine z_imul C d_Cell_isWithin_65 ?_
    refine z_iadd C d_Cell_isWithin_66 ?_
    refine z_ineg C d_Cell_isWithin_67 ?_
    refine z_topi (fun x9_11 ex9_11 => ?_)
    replace h := h x9_11 ex9_11
    refine z_istore C [(9, .int x9_11), (8, .int x8_10), (7, .int x7_9), (6, .int x6_6), (5, .int x5_3), (0, .ref h_ce), (1, .int p0), (2, .int p1), (3, .int p2), (4, .int p3)] d_Cell_isWithin_68 rfl rfl ?_
    refine z_iload C d_Cell_isWithin_70 2 rfl ?_
    refine z_npi C (rest := []) (c_SeamCell_square l D κ x7_9 _ h) cn_Cell_55 ⟨rfl, rfl⟩ ⟨⟨Nat.le_of_ble_eq_true rfl, Nat.le_of_ble_eq_true rfl⟩, Nat.le_of_ble_eq_true rfl, Nat.le_of_ble_eq_true rfl⟩ [] rfl rfl rfl (Nat.le_of_ble_eq_true rfl) d_Cell_isWithin_72 (fun r_12 h => ?_)
    refine z_iload C d_Cell_isWithin_75 1 rfl ?_
    refine z_npi C (rest := [.int r_12]) (c_SeamCell_square l D κ x8_10 _ h) cn_Cell_55 ⟨rfl, rfl⟩ ⟨⟨Nat.le_of_ble_eq_true rfl, Nat.le_of_ble_eq_true rfl⟩, Nat.le_of_ble_eq_true rfl, Nat.le_of_ble_eq_true rfl⟩ [] rfl rfl rfl (Nat.le_of_ble_eq_true rfl) d_Cell_isWithin_77 (fun r_13 h => ?_)
    refine z_iadd C d_Cell_isWithin_80 ?_
    refine z_topi (fun x10_14 ex10_14 => ?_)
    replace h := h x10_14 ex10_14
    refine z_istore C [(10, .int x10_14), (9, .int x9_11), (8, .int x8_10), (7, .int x7_9), (6, .int x6_6), (5, .int x5_3), (0, .ref h_ce), (1, .int p0), (2, .int p1), (3, .int p2), (4, .int p3)] d_Cell_isWithin_81 rfl rfl ?_
    refine z_aload C d_Cell_isWithin_83 6 rfl ?_
    refine z_get C fl_Cell_9 0 rfl rfl d_Cell_isWithin_84 ?_
    refine z_aload C d_Cell_isWithin_87 6 rfl ?_
    refine z_get C fl_Cell_15 0 rfl rfl d_Cell_isWithin_88 ?_
    refine z_isub C d_Cell_isWithin_91 ?_
    refine z_npi C (rest := []) (c_SeamCell_square l D κ (ce_linkA - ce_linkB) _ h) cn_Cell_55 ⟨rfl, rfl⟩ ⟨⟨Nat.le_of_ble_eq_true rfl, Nat.le_of_ble_eq_true rfl⟩, Nat.le_of_ble_eq_true rfl, Nat.le_of_ble_eq_true rfl⟩ [] rfl rfl rfl (Nat.le_of_ble_eq_true rfl) d_Cell_isWithin_92 (fun r_15 h => ?_)
    refine z_istore C [(11, .int r_15), (10, .int x10_14), (9, .int x9_11), (8, .int x8_10), (7, .int x7_9), (6, .int x6_6), (5, .int x5_3), (0, .ref h_ce), (1, .int p0), (2, .int p1), (3, .int p2), (4, .int p3)] d_Cell_isWithin_95 rfl rfl ?_
    refine z_iload C d_Cell_isWithin_97 2 rfl ?_
    refine z_if_gt C d_Cell_isWithin_99 (fun c_16 => ?_) (fun c_16 => ?_)
    · replace h := h.1 c_16
      refine z_iload C d_Cell_isWithin_115 2 rfl ?_
      refine z_iload C d_Cell_isWithin_117 1 rfl ?_
      refine z_icmp_lt C d_Cell_isWithin_119 (fun c_17 => ?_) (fun c_17 => ?_)
      · replace h := h.1 c_17
        refine z_iload C d_Cell_isWithin_135 8 rfl ?_
        refine z_i2l C d_Cell_isWithin_136 ?_
        refine z_iload C d_Cell_isWithin_137 3 rfl ?_
        refine z_i2l C d_Cell_isWithin_139 ?_
        refine z_lmul C d_Cell_isWithin_140 ?_
        refine z_iload C d_Cell_isWithin_141 9 rfl ?_
        refine z_i2l C d_Cell_isWithin_142 ?_
        refine z_iload C d_Cell_isWithin_143 4 rfl ?_
        refine z_i2l C d_Cell_isWithin_145 ?_
        refine z_lmul C d_Cell_isWithin_146 ?_
        refine z_lsub C d_Cell_isWithin_147 ?_
        refine z_topl (fun x12_18 ex12_18 => ?_)
        replace h := h x12_18 ex12_18
        refine z_lstore C [(12, .long x12_18), (11, .int r_15), (10, .int x10_14), (9, .int x9_11), (8, .int x8_10), (7, .int x7_9), (6, .int x6_6), (5, .int x5_3), (0, .ref h_ce), (1, .int p0), (2, .int p1), (3, .int p2), (4, .int p3)] d_Cell_isWithin_148 rfl rfl ?_
        refine z_lload C d_Cell_isWithin_150 0 rfl ?_
        refine z_lload C d_Cell_isWithin_152 0 rfl ?_
        refine z_lmul C d_Cell_isWithin_154 ?_
        refine z_iload C d_Cell_isWithin_155 1 rfl ?_
        refine z_i2l C d_Cell_isWithin_157 ?_
        refine z_iload C d_Cell_isWithin_158 2 rfl ?_
        refine z_i2l C d_Cell_isWithin_160 ?_
        refine z_lmul C d_Cell_isWithin_161 ?_
        refine z_lcmp C d_Cell_isWithin_162 ?_
        refine z_if_lt C d_Cell_isWithin_163 (fun c_19 => ?_) (fun c_19 => ?_)
        · replace h := h.1 c_19
          refine z_k C d_Cell_isWithin_170 ?_
          exact zp_zret C hr hlk (Or.inl rfl) d_Cell_isWithin_171 h
        · replace h := h.2 c_19
          refine z_k C d_Cell_isWithin_166 ?_
          refine z_goto C d_Cell_isWithin_167 ?_
          exact zp_zret C hr hlk (Or.inr rfl) d_Cell_isWithin_171 h
      · replace h := h.2 c_17
        refine z_iload C d_Cell_isWithin_122 5 rfl ?_
        refine z_iload C d_Cell_isWithin_124 0 rfl ?_
        refine z_icmp_lt C d_Cell_isWithin_126 (fun c_20 => ?_) (fun c_20 => ?_)
        · replace h := h.1 c_20
          refine z_k C d_Cell_isWithin_133 ?_
          exact zp_zret C hr hlk (Or.inl rfl) d_Cell_isWithin_134 h
        · replace h := h.2 c_20
          refine z_k C d_Cell_isWithin_129 ?_
          refine z_goto C d_Cell_isWithin_130 ?_
          exact zp_zret C hr hlk (Or.inr rfl) d_Cell_isWithin_134 h
    · replace h := h.2 c_16
      refine z_iload C d_Cell_isWithin_102 6 rfl ?_
      refine z_iload C d_Cell_isWithin_104 0 rfl ?_
      refine z_icmp_lt C d_Cell_isWithin_106 (fun c_21 => ?_) (fun c_21 => ?_)
      · replace h := h.1 c_21
        refine z_k C d_Cell_isWithin_113 ?_
        exact zp_zret C hr hlk (Or.inl rfl) d_Cell_isWithin_114 h
      · replace h := h.2 c_21
        refine z_k C d_Cell_isWithin_109 ?_
        refine z_goto C d_Cell_isWithin_110 ?_
        exact zp_zret C hr hlk (Or.inr rfl) d_Cell_isWithin_114 h
  · replace h := h.2 c_8
    refine z_k C d_Cell_isWithin_45 ?_
    exact zp_zret C hr hlk (Or.inl rfl) d_Cell_isWithin_46 h
def wp_Cell_putBar (ce_barCount : Int32) (ce_barX0 : Nat → Int32) (ce_barY0 : Nat → Int32) (ce_barX1 : Nat → Int32) (ce_barY1 : Nat → Int32) (p0 : Int32) (p1 : Int32) (p2 : Int32) (p3 : Int32) (post : Int32 → (Nat → Int32) → (Nat → Int32) → (Nat → Int32) → (Nat → Int32) → Prop) : Prop :=
  ((ce_barCount < (4 : Int32) → (vp_in ce_barCount 4 ∧ (∀ g_2 : Nat → Int32, g_2 = upd ce_barX0 (ce_barCount.toNatClampNeg) p0 → (vp_in ce_barCount 4 ∧ (∀ g_3 : Nat → Int32, g_3 = upd ce_barY0 (ce_barCount.toNatClampNeg) p1 → (vp_in ce_barCount 4 ∧ (∀ g_4 : Nat → Int32, g_4 = upd ce_barX1 (ce_barCount.toNatClampNeg) p2 → (vp_in ce_barCount 4 ∧ (∀ g_5 : Nat → Int32, g_5 = upd ce_barY1 (ce_barCount.toNatClampNeg) p3 → (∀ f_6 : Int32, f_6 = ce_barCount + (1 : Int32) → (post f_6 g_2 g_3 g_4 g_5))))))))))) ∧ (¬ ce_barCount < (4 : Int32) → (post ce_barCount ce_barX0 ce_barY0 ce_barX1 ce_barY1)))
abbrev rm_Cell_putBar : Room := { frames := 0, cells := 0, slots := 0, locals := 0 }
set_option maxHeartbeats 4000000 in
set_option maxRecDepth 100000 in
theorem c_Cell_putBar (l : Launch) (D : va_G) (κ : KT) (h_ce : Nat) (h_ce_barX0 : Nat) (h_ce_barY0 : Nat) (h_ce_barX1 : Nat) (h_ce_barY1 : Nat) (ce_middleX : Int32) (ce_middleY : Int32) (ce_shiftX : Int32) (ce_shiftY : Int32) (ce_linkA : Int32) (ce_linkB : Int32) (ce_flatness : Int32) (ce_barCount : Int32) (ce_barX0 : Nat → Int32) (ce_barY0 : Nat → Int32) (ce_barX1 : Nat → Int32) (ce_barY1 : Nat → Int32) (p0 : Int32) (p1 : Int32) (p2 : Int32) (p3 : Int32) (sz : Nat) (post : Int32 → (Nat → Int32) → (Nat → Int32) → (Nat → Int32) → (Nat → Int32) → Prop) (h : wp_Cell_putBar ce_barCount ce_barX0 ce_barY0 ce_barX1 ce_barY1 p0 p1 p2 p3 post) : Met l y_Cell_putBar (wsG y_Cell_putBar b_Cell_putBar 5 none) rm_Cell_putBar (PE D κ [.ref h_ce, .int p0, .int p1, .int p2, .int p3] [(h_ce, .inr (1, [.int ce_middleX, .int ce_middleY, .int ce_shiftX, .int ce_shiftY, .int ce_linkA, .int ce_linkB, .int ce_flatness, .int ce_barCount, .ref h_ce_barX0, .ref h_ce_barY0, .ref h_ce_barX1, .ref h_ce_barY1])), (h_ce_barX0, cI κ 4 ce_barX0), (h_ce_barY0, cI κ 4 ce_barY0), (h_ce_barX1, cI κ 4 ce_barX1), (h_ce_barY1, cI κ 4 ce_barY1)] sz) (va_Qv (fun (u : (Int32) × (Nat → Int32) × (Nat → Int32) × (Nat → Int32) × (Nat → Int32)) => post u.1 u.2.1 u.2.2.1 u.2.2.2.1 u.2.2.2.2) (QB D [(h_ce, .inr (1, [.int ce_middleX, .int ce_middleY, .int ce_shiftX, .int ce_shiftY, .int ce_linkA, .int ce_linkB, .int ce_flatness, .int ce_barCount, .ref h_ce_barX0, .ref h_ce_barY0, .ref h_ce_barX1, .ref h_ce_barY1])), (h_ce_barX0, cI κ 4 ce_barX0), (h_ce_barY0, cI κ 4 ce_barY0), (h_ce_barX1, cI κ 4 ce_barX1), (h_ce_barY1, cI κ 4 ce_barY1)] sz (fun (u : (Int32) × (Nat → Int32) × (Nat → Int32) × (Nat → Int32) × (Nat → Int32)) => [(h_ce, .inr (1, [.int ce_middleX, .int ce_middleY, .int ce_shiftX, .int ce_shiftY, .int ce_linkA, .int ce_linkB, .int ce_flatness, .int u.1, .ref h_ce_barX0, .ref h_ce_barY0, .ref h_ce_barX1, .ref h_ce_barY1])), (h_ce_barX0, cI κ 4 u.2.1), (h_ce_barY0, cI κ 4 u.2.2.1), (h_ce_barX1, cI κ 4 u.2.2.2.1), (h_ce_barY1, cI κ 4 u.2.2.2.2)])) (va_A [(h_ce, .inr (1, [.int ce_middleX, .int ce_middleY, .int ce_shiftX, .int ce_shiftY, .int ce_linkA, .int ce_linkB, .int ce_flatness, .int ce_barCount, .ref h_ce_barX0, .ref h_ce_barY0, .ref h_ce_barX1, .ref h_ce_barY1])), (h_ce_barX0, cI κ 4 ce_barX0), (h_ce_barY0, cI κ 4 ce_barY0), (h_ce_barX1, cI κ 4 ce_barX1), (h_ce_barY1, cI κ 4 ce_barY1)] sz)) 0 0 (va_A [(h_ce, .inr (1, [.int ce_middleX, .int ce_middleY, .int ce_shiftX, .int ce_shiftY, .int ce_linkA, .int ce_linkB, .int ce_flatness, .int ce_barCount, .ref h_ce_barX0, .ref h_ce_barY0, .ref h_ce_barX1, .ref h_ce_barY1])), (h_ce_barX0, cI κ 4 ce_barX0), (h_ce_barY0, cI κ 4 ce_barY0), (h_ce_barX1, cI κ 4 ce_barX1), (h_ce_barY1, cI κ 4 ce_barY1)] sz) := by
  refine ze_start [(0, .ref h_ce), (1, .int p0), (2, .int p1), (3, .int p2), (4, .int p3)] rfl (Nat.le_of_ble_eq_true rfl) rfl ?_
  intro p e s m args below meth c C hr hlk hnm hsz
  subst hsz
  unfold wp_Cell_putBar at h
  refine z_aload C d_Cell_putBar_0 0 rfl ?_
  refine z_get C fl_Cell_34 0 rfl rfl d_Cell_putBar_1 ?_
  refine z_k C d_Cell_putBar_4 ?_
  refine z_icmp_lt C d_Cell_putBar_5 (fun c_1 => ?_) (fun c_1 => ?_)
  · replace h := h.1 c_1
    refine z_aload C d_Cell_putBar_9 0 rfl ?_
    refine z_get C fl_Cell_21 0 rfl rfl d_Cell_putBar_10 ?_
    refine z_aload C d_Cell_putBar_13 0 rfl ?_
    refine z_get C fl_Cell_34 0 rfl rfl d_Cell_putBar_14 ?_
    refine z_iload C d_Cell_putBar_17 1 rfl ?_
    obtain ⟨g_2, eg_2⟩ : ∃ y : Nat → Int32, y = upd ce_barX0 (ce_barCount.toNatClampNeg) p0 := ⟨_, rfl⟩
    refine z_iast C 1 rfl h.1 [(h_ce, .inr (1, [.int ce_middleX, .int ce_middleY, .int ce_shiftX, .int ce_shiftY, .int ce_linkA, .int ce_linkB, .int ce_flatness, .int ce_barCount, .ref h_ce_barX0, .ref h_ce_barY0, .ref h_ce_barX1, .ref h_ce_barY1])), (h_ce_barX0, cI κ 4 g_2), (h_ce_barY0, cI κ 4 ce_barY0), (h_ce_barX1, cI κ 4 ce_barX1), (h_ce_barY1, cI κ 4 ce_barY1)] (by rw [eg_2]; rfl) d_Cell_putBar_18 ?_
    replace h := h.2 g_2 eg_2
    refine z_aload C d_Cell_putBar_19 0 rfl ?_
    refine z_get C fl_Cell_25 0 rfl rfl d_Cell_putBar_20 ?_
    refine z_aload C d_Cell_putBar_23 0 rfl ?_
    refine z_get C fl_Cell_34 0 rfl rfl d_Cell_putBar_24 ?_
    refine z_iload C d_Cell_putBar_27 2 rfl ?_
    obtain ⟨g_3, eg_3⟩ : ∃ y : Nat → Int32, y = upd ce_barY0 (ce_barCount.toNatClampNeg) p1 := ⟨_, rfl⟩
    refine z_iast C 2 rfl h.1 [(h_ce, .inr (1, [.int ce_middleX, .int ce_middleY, .int ce_shiftX, .int ce_shiftY, .int ce_linkA, .int ce_linkB, .int ce_flatness, .int ce_barCount, .ref h_ce_barX0, .ref h_ce_barY0, .ref h_ce_barX1, .ref h_ce_barY1])), (h_ce_barX0, cI κ 4 g_2), (h_ce_barY0, cI κ 4 g_3), (h_ce_barX1, cI κ 4 ce_barX1), (h_ce_barY1, cI κ 4 ce_barY1)] (by rw [eg_3]; rfl) d_Cell_putBar_28 ?_
    replace h := h.2 g_3 eg_3
    refine z_aload C d_Cell_putBar_29 0 rfl ?_
    refine z_get C fl_Cell_28 0 rfl rfl d_Cell_putBar_30 ?_
    refine z_aload C d_Cell_putBar_33 0 rfl ?_
    refine z_get C fl_Cell_34 0 rfl rfl d_Cell_putBar_34 ?_
    refine z_iload C d_Cell_putBar_37 3 rfl ?_
    obtain ⟨g_4, eg_4⟩ : ∃ y : Nat → Int32, y = upd ce_barX1 (ce_barCount.toNatClampNeg) p2 := ⟨_, rfl⟩
    refine z_iast C 3 rfl h.1 [(h_ce, .inr (1, [.int ce_middleX, .int ce_middleY, .int ce_shiftX, .int ce_shiftY, .int ce_linkA, .int ce_linkB, .int ce_flatness, .int ce_barCount, .ref h_ce_barX0, .ref h_ce_barY0, .ref h_ce_barX1, .ref h_ce_barY1])), (h_ce_barX0, cI κ 4 g_2), (h_ce_barY0, cI κ 4 g_3), (h_ce_barX1, cI κ 4 g_4), (h_ce_barY1, cI κ 4 ce_barY1)] (by rw [eg_4]; rfl) d_Cell_putBar_38 ?_
    replace h := h.2 g_4 eg_4
    refine z_aload C d_Cell_putBar_39 0 rfl ?_
    refine z_get C fl_Cell_31 0 rfl rfl d_Cell_putBar_40 ?_
    refine z_aload C d_Cell_putBar_43 0 rfl ?_
    refine z_get C fl_Cell_34 0 rfl rfl d_Cell_putBar_44 ?_
    refine z_iload C d_Cell_putBar_47 4 rfl ?_
    obtain ⟨g_5, eg_5⟩ : ∃ y : Nat → Int32, y = upd ce_barY1 (ce_barCount.toNatClampNeg) p3 := ⟨_, rfl⟩
    refine z_iast C 4 rfl h.1 [(h_ce, .inr (1, [.int ce_middleX, .int ce_middleY, .int ce_shiftX, .int ce_shiftY, .int ce_linkA, .int ce_linkB, .int ce_flatness, .int ce_barCount, .ref h_ce_barX0, .ref h_ce_barY0, .ref h_ce_barX1, .ref h_ce_barY1])), (h_ce_barX0, cI κ 4 g_2), (h_ce_barY0, cI κ 4 g_3), (h_ce_barX1, cI κ 4 g_4), (h_ce_barY1, cI κ 4 g_5)] (by rw [eg_5]; rfl) d_Cell_putBar_49 ?_
    replace h := h.2 g_5 eg_5
    refine z_aload C d_Cell_putBar_50 0 rfl ?_
    refine z_dup C d_Cell_putBar_51 rfl ?_
    refine z_get C fl_Cell_34 0 rfl rfl d_Cell_putBar_52 ?_
    refine z_k C d_Cell_putBar_55 ?_
    refine z_iadd C d_Cell_putBar_56 ?_
    refine z_topi (fun f_6 ef_6 => ?_)
    replace h := h f_6 ef_6
    refine z_put C fp_Cell_34 0 rfl rfl rfl rfl [(h_ce, .inr (1, [.int ce_middleX, .int ce_middleY, .int ce_shiftX, .int ce_shiftY, .int ce_linkA, .int ce_linkB, .int ce_flatness, .int f_6, .ref h_ce_barX0, .ref h_ce_barY0, .ref h_ce_barX1, .ref h_ce_barY1])), (h_ce_barX0, cI κ 4 g_2), (h_ce_barY0, cI κ 4 g_3), (h_ce_barX1, cI κ 4 g_4), (h_ce_barY1, cI κ 4 g_5)] rfl d_Cell_putBar_57 ?_
    exact ze_vret C (f_6, g_2, g_3, g_4, g_5) hr hlk rfl d_Cell_putBar_60 h
  · replace h := h.2 c_1
    exact ze_vret C (ce_barCount, ce_barX0, ce_barY0, ce_barX1, ce_barY1) hr hlk rfl d_Cell_putBar_8 h
def wp_Cell_entersBar (ce_barX0 : Nat → Int32) (ce_barY0 : Nat → Int32) (ce_barX1 : Nat → Int32) (ce_barY1 : Nat → Int32) (p0 : Int32) (p1 : Int32) (p2 : Int32) (p3 : Int32) (p4 : Int32) (post : Int32 → Prop) : Prop :=
  (vp_in p0 4 ∧ (((imax p1 p3) ≤ (ce_barX0 (p0.toNatClampNeg)) → (post (0 : Int32))) ∧ (¬ (imax p1 p3) ≤ (ce_barX0 (p0.toNatClampNeg)) → (vp_in p0 4 ∧ (((imin p1 p3) < (ce_barX1 (p0.toNatClampNeg)) → (vp_in p0 4 ∧ (((imax p2 p4) ≤ (ce_barY0 (p0.toNatClampNeg)) → (post (0 : Int32))) ∧ (¬ (imax p2 p4) ≤ (ce_barY0 (p0.toNatClampNeg)) → (vp_in p0 4 ∧ (((imin p2 p4) < (ce_barY1 (p0.toNatClampNeg)) → (∀ x6_5 : Int32, x6_5 = p3 - p1 → (∀ x7_6 : Int32, x7_6 = p4 - p2 → ((¬ x6_5 = 0 → (vp_in p0 4 ∧ (vp_in p0 4 ∧ (∀ x8_8 : Int32, x8_8 = (x6_5 * ((ce_barY0 (p0.toNatClampNeg)) - p2)) - (x7_6 * ((ce_barX0 (p0.toNatClampNeg)) - p1)) → (vp_in p0 4 ∧ (vp_in p0 4 ∧ (∀ x9_9 : Int32, x9_9 = (x6_5 * ((ce_barY0 (p0.toNatClampNeg)) - p2)) - (x7_6 * ((ce_barX1 (p0.toNatClampNeg)) - p1)) → (vp_in p0 4 ∧ (vp_in p0 4 ∧ (∀ x10_10 : Int32, x10_10 = (x6_5 * ((ce_barY1 (p0.toNatClampNeg)) - p2)) - (x7_6 * ((ce_barX0 (p0.toNatClampNeg)) - p1)) → (vp_in p0 4 ∧ (vp_in p0 4 ∧ (∀ x11_11 : Int32, x11_11 = (x6_5 * ((ce_barY1 (p0.toNatClampNeg)) - p2)) - (x7_6 * ((ce_barX1 (p0.toNatClampNeg)) - p1)) → (∀ x12_12 : Int32, x12_12 = imax (imax x8_8 x9_9) (imax x10_10 x11_11) → (∀ x13_13 : Int32, x13_13 = imin (imin x8_8 x9_9) (imin x10_10 x11_11) → ((0 ≤ x13_13 → (post (0 : Int32))) ∧ (¬ 0 ≤ x13_13 → ((x12_12 ≤ 0 → (post (0 : Int32))) ∧ (¬ x12_12 ≤ 0 → (post (1 : Int32))))))))))))))))))))) ∧ (x6_5 = 0 → ((¬ x7_6 = 0 → (vp_in p0 4 ∧ (vp_in p0 4 ∧ (∀ x8_17 : Int32, x8_17 = (x6_5 * ((ce_barY0 (p0.toNatClampNeg)) - p2)) - (x7_6 * ((ce_barX0 (p0.toNatClampNeg)) - p1)) → (vp_in p0 4 ∧ (vp_in p0 4 ∧ (∀ x9_18 : Int32, x9_18 = (x6_5 * ((ce_barY0 (p0.toNatClampNeg)) - p2)) - (x7_6 * ((ce_barX1 (p0.toNatClampNeg)) - p1)) → (vp_in p0 4 ∧ (vp_in p0 4 ∧ (∀ x10_19 : Int32, x10_19 = (x6_5 * ((ce_barY1 (p0.toNatClampNeg)) - p2)) - (x7_6 * ((ce_barX0 (p0.toNatClampNeg)) - p1)) → (vp_in p0 4 ∧ (vp_in p0 4 ∧ (∀ x11_20 : Int32, x11_20 = (x6_5 * ((ce_barY1 (p0.toNatClampNeg)) - p2)) - (x7_6 * ((ce_barX1 (p0.toNatClampNeg)) - p1)) → (∀ x12_21 : Int32, x12_21 = imax (imax x8_17 x9_18) (imax x10_19 x11_20) → (∀ x13_22 : Int32, x13_22 = imin (imin x8_17 x9_18) (imin x10_19 x11_20) → ((0 ≤ x13_22 → (post (0 : Int32))) ∧ (¬ 0 ≤ x13_22 → ((x12_21 ≤ 0 → (post (0 : Int32))) ∧ (¬ x12_21 ≤ 0 → (post (1 : Int32))))))))))))))))))))) ∧ (x7_6 = 0 → (post (1 : Int32))))))))) ∧ (¬ (imin p2 p4) < (ce_barY1 (p0.toNatClampNeg)) → (post (0 : Int32))))))))) ∧ (¬ (imin p1 p3) < (ce_barX1 (p0.toNatClampNeg)) → (post (0 : Int32))))))))
abbrev rm_Cell_entersBar : Room := { frames := 1, cells := 0, slots := 0, locals := 21 }
set_option maxHeartbeats 4000000 in
set_option maxRecDepth 100000 in
theorem c_Cell_entersBar (l : Launch) (D : va_G) (κ : KT) (h_ce : Nat) (h_ce_barX0 : Nat) (h_ce_barY0 : Nat) (h_ce_barX1 : Nat) (h_ce_barY1 : Nat) (ce_middleX : Int32) (ce_middleY : Int32) (ce_shiftX : Int32) (ce_shiftY : Int32) (ce_linkA : Int32) (ce_linkB : Int32) (ce_flatness : Int32) (ce_barCount : Int32) (ce_barX0 : Nat → Int32) (ce_barY0 : Nat → Int32) (ce_barX1 : Nat → Int32) (ce_barY1 : Nat → Int32) (p0 : Int32) (p1 : Int32) (p2 : Int32) (p3 : Int32) (p4 : Int32) (post : Int32 → Prop) (h : wp_Cell_entersBar ce_barX0 ce_barY0 ce_barX1 ce_barY1 p0 p1 p2 p3 p4 post) : Met l y_Cell_entersBar (wsG y_Cell_entersBar b_Cell_entersBar 14 (some .boolean)) rm_Cell_entersBar (PP D κ [.ref h_ce, .int p0, .int p1, .int p2, .int p3, .int p4] [(h_ce, .inr (1, [.int ce_middleX, .int ce_middleY, .int ce_shiftX, .int ce_shiftY, .int ce_linkA, .int ce_linkB, .int ce_flatness, .int ce_barCount, .ref h_ce_barX0, .ref h_ce_barY0, .ref h_ce_barX1, .ref h_ce_barY1])), (h_ce_barX0, cI κ 4 ce_barX0), (h_ce_barY0, cI κ 4 ce_barY0), (h_ce_barX1, cI κ 4 ce_barX1), (h_ce_barY1, cI κ 4 ce_barY1)]) (vp_Si post) 0 0 (fun _ => False) := by
  refine zp_start [(0, .ref h_ce), (1, .int p0), (2, .int p1), (3, .int p2), (4, .int p3), (5, .int p4)] rfl (Nat.le_of_ble_eq_true rfl) rfl ?_
  intro p e s m args below meth c C hr hlk
  unfold wp_Cell_entersBar at h
  refine z_iload C d_Cell_entersBar_0 2 rfl ?_
  refine z_iload C d_Cell_entersBar_1 4 rfl ?_
  refine z_mmax C cm_Cell_58 (Nat.le_of_ble_eq_true rfl) (Nat.le_of_ble_eq_true rfl) ⟨Nat.le_of_ble_eq_true rfl, Nat.le_of_ble_eq_true rfl⟩ d_Cell_entersBar_3 ?_
  refine z_aload C d_Cell_entersBar_6 0 rfl ?_
  refine z_get C fl_Cell_21 0 rfl rfl d_Cell_entersBar_7 ?_
  refine z_iload C d_Cell_entersBar_10 1 rfl ?_
  refine z_iald C 1 rfl h.1 d_Cell_entersBar_11 ?_
  replace h := h.2
  refine z_icmp_le C d_Cell_entersBar_12 (fun c_1 => ?_) (fun c_1 => ?_)
  · replace h := h.1 c_1
    refine z_k C d_Cell_entersBar_30 ?_
    exact zp_zret C hr hlk (Or.inl rfl) d_Cell_entersBar_31 h
  · replace h := h.2 c_1
    refine z_iload C d_Cell_entersBar_15 2 rfl ?_
    refine z_iload C d_Cell_entersBar_16 4 rfl ?_
    refine z_mmin C cm_Cell_66 (Nat.le_of_ble_eq_true rfl) (Nat.le_of_ble_eq_true rfl) ⟨Nat.le_of_ble_eq_true rfl, Nat.le_of_ble_eq_true rfl⟩ d_Cell_entersBar_18 ?_
    refine z_aload C d_Cell_entersBar_21 0 rfl ?_
    refine z_get C fl_Cell_28 0 rfl rfl d_Cell_entersBar_22 ?_
    refine z_iload C d_Cell_entersBar_25 1 rfl ?_
    refine z_iald C 3 rfl h.1 d_Cell_entersBar_26 ?_
    replace h := h.2
    refine z_icmp_lt C d_Cell_entersBar_27 (fun c_2 => ?_) (fun c_2 => ?_)
    · replace h := h.1 c_2
      refine z_iload C d_Cell_entersBar_32 3 rfl ?_
      refine z_iload C d_Cell_entersBar_33 5 rfl ?_
      refine z_mmax C cm_Cell_58 (Nat.le_of_ble_eq_true rfl) (Nat.le_of_ble_eq_true rfl) ⟨Nat.le_of_ble_eq_true rfl, Nat.le_of_ble_eq_true rfl⟩ d_Cell_entersBar_35 ?_
      refine z_aload C d_Cell_entersBar_38 0 rfl ?_
      refine z_get C fl_Cell_25 0 rfl rfl d_Cell_entersBar_39 ?_
      refine z_iload C d_Cell_entersBar_42 1 rfl ?_
      refine z_iald C 2 rfl h.1 d_Cell_entersBar_43 ?_
      replace h := h.2
      refine z_icmp_le C d_Cell_entersBar_44 (fun c_3 => ?_) (fun c_3 => ?_)
      · replace h := h.1 c_3
        refine z_k C d_Cell_entersBar_62 ?_
        exact zp_zret C hr hlk (Or.inl rfl) d_Cell_entersBar_63 h
      · replace h := h.2 c_3
        refine z_iload C d_Cell_entersBar_47 3 rfl ?_
        refine z_iload C d_Cell_entersBar_48 5 rfl ?_
        refine z_mmin C cm_Cell_66 (Nat.le_of_ble_eq_true rfl) (Nat.le_of_ble_eq_true rfl) ⟨Nat.le_of_ble_eq_true rfl, Nat.le_of_ble_eq_true rfl⟩ d_Cell_entersBar_50 ?_
        refine z_aload C d_Cell_entersBar_53 0 rfl ?_
        refine z_get C fl_Cell_31 0 rfl rfl d_Cell_entersBar_54 ?_
        refine z_iload C d_Cell_entersBar_57 1 rfl ?_
        refine z_iald C 4 rfl h.1 d_Cell_entersBar_58 ?_
        replace h := h.2
        refine z_icmp_lt C d_Cell_entersBar_59 (fun c_4 => ?_) (fun c_4 => ?_)
        · replace h := h.1 c_4
          refine z_iload C d_Cell_entersBar_64 4 rfl ?_
          refine z_iload C d_Cell_entersBar_66 2 rfl ?_
          refine z_isub C d_Cell_entersBar_67 ?_
          refine z_topi (fun x6_5 ex6_5 => ?_)
          replace h := h x6_5 ex6_5
          refine z_istore C [(6, .int x6_5), (0, .ref h_ce), (1, .int p0), (2, .int p1), (3, .int p2), (4, .int p3), (5, .int p4)] d_Cell_entersBar_68 rfl rfl ?_
          refine z_iload C d_Cell_entersBar_70 6 rfl ?_
          refine z_iload C d_Cell_entersBar_72 4 rfl ?_
          refine z_isub C d_Cell_entersBar_73 ?_
          refine z_topi (fun x7_6 ex7_6 => ?_)
          replace h := h x7_6 ex7_6
          refine z_istore C [(7, .int x7_6), (6, .int x6_5), (0, .ref h_ce), (1, .int p0), (2, .int p1), (3, .int p2), (4, .int p3), (5, .int p4)] d_Cell_entersBar_74 rfl rfl ?_
          refine z_iload C d_Cell_entersBar_76 1 rfl ?_
          refine z_if_ne C d_Cell_entersBar_78 (fun c_7 => ?_) (fun c_7 => ?_)
          · replace h := h.1 c_7
            refine z_iload C d_Cell_entersBar_88 1 rfl ?_
            refine z_aload C d_Cell_entersBar_90 2 rfl ?_
            refine z_get C fl_Cell_25 0 rfl rfl d_Cell_entersBar_91 ?_
            refine z_iload C d_Cell_entersBar_94 3 rfl ?_
            refine z_iald C 2 rfl h.1 d_Cell_entersBar_95 ?_
            replace h := h.2
            refine z_iload C d_Cell_entersBar_96 5 rfl ?_
            refine z_isub C d_Cell_entersBar_97 ?_
            refine z_imul C d_Cell_entersBar_98 ?_
            refine z_iload C d_Cell_entersBar_99 0 rfl ?_
            refine z_aload C d_Cell_entersBar_101 2 rfl ?_
            refine z_get C fl_Cell_21 0 rfl rfl d_Cell_entersBar_102 ?_
            refine z_iload C d_Cell_entersBar_105 3 rfl ?_
            refine z_iald C 1 rfl h.1 d_Cell_entersBar_106 ?_
            replace h := h.2
            refine z_iload C d_Cell_entersBar_107 4 rfl ?_
            refine z_isub C d_Cell_entersBar_108 ?_
            refine z_imul C d_Cell_entersBar_109 ?_
            refine z_isub C d_Cell_entersBar_110 ?_
            refine z_topi (fun x8_8 ex8_8 => ?_)
            replace h := h x8_8 ex8_8
            refine z_istore C [(8, .int x8_8), (7, .int x7_6), (6, .int x6_5), (0, .ref h_ce), (1, .int p0), (2, .int p1), (3, .int p2), (4, .int p3), (5, .int p4)] d_Cell_entersBar_111 rfl rfl ?_
            refine z_iload C d_Cell_entersBar_113 2 rfl ?_
            refine z_aload C d_Cell_entersBar_115 3 rfl ?_
            refine z_get C fl_Cell_25 0 rfl rfl d_Cell_entersBar_116 ?_
            refine z_iload C d_Cell_entersBar_119 4 rfl ?_
            refine z_iald C 2 rfl h.1 d_Cell_entersBar_120 ?_
            replace h := h.2
            refine z_iload C d_Cell_entersBar_121 6 rfl ?_
            refine z_isub C d_Cell_entersBar_122 ?_
            refine z_imul C d_Cell_entersBar_123 ?_
            refine z_iload C d_Cell_entersBar_124 1 rfl ?_
            refine z_aload C d_Cell_entersBar_126 3 rfl ?_
            refine z_get C fl_Cell_28 0 rfl rfl d_Cell_entersBar_127 ?_
            refine z_iload C d_Cell_entersBar_130 4 rfl ?_
            refine z_iald C 3 rfl h.1 d_Cell_entersBar_131 ?_
            replace h := h.2
            refine z_iload C d_Cell_entersBar_132 5 rfl ?_
            refine z_isub C d_Cell_entersBar_133 ?_
            refine z_imul C d_Cell_entersBar_134 ?_
            refine z_isub C d_Cell_entersBar_135 ?_
            refine z_topi (fun x9_9 ex9_9 => ?_)
            replace h := h x9_9 ex9_9
            refine z_istore C [(9, .int x9_9), (8, .int x8_8), (7, .int x7_6), (6, .int x6_5), (0, .ref h_ce), (1, .int p0), (2, .int p1), (3, .int p2), (4, .int p3), (5, .int p4)] d_Cell_entersBar_136 rfl rfl ?_
            refine z_iload C d_Cell_entersBar_138 3 rfl ?_
            refine z_aload C d_Cell_entersBar_140 4 rfl ?_
            refine z_get C fl_Cell_31 0 rfl rfl d_Cell_entersBar_141 ?_
            refine z_iload C d_Cell_entersBar_144 5 rfl ?_
            refine z_iald C 4 rfl h.1 d_Cell_entersBar_145 ?_
            replace h := h.2
            refine z_iload C d_Cell_entersBar_146 7 rfl ?_
            refine z_isub C d_Cell_entersBar_147 ?_
            refine z_imul C d_Cell_entersBar_148 ?_
            refine z_iload C d_Cell_entersBar_149 2 rfl ?_
            refine z_aload C d_Cell_entersBar_151 4 rfl ?_
            refine z_get C fl_Cell_21 0 rfl rfl d_Cell_entersBar_152 ?_
            refine z_iload C d_Cell_entersBar_155 5 rfl ?_
            refine z_iald C 1 rfl h.1 d_Cell_entersBar_156 ?_
            replace h := h.2
            refine z_iload C d_Cell_entersBar_157 6 rfl ?_
            refine z_isub C d_Cell_entersBar_158 ?_
            refine z_imul C d_Cell_entersBar_159 ?_
            refine z_isub C d_Cell_entersBar_160 ?_
            refine z_topi (fun x10_10 ex10_10 => ?_)
            replace h := h x10_10 ex10_10
            refine z_istore C [(10, .int x10_10), (9, .int x9_9), (8, .int x8_8), (7, .int x7_6), (6, .int x6_5), (0, .ref h_ce), (1, .int p0), (2, .int p1), (3, .int p2), (4, .int p3), (5, .int p4)] d_Cell_entersBar_161 rfl rfl ?_
            refine z_iload C d_Cell_entersBar_163 4 rfl ?_
            refine z_aload C d_Cell_entersBar_165 5 rfl ?_
            refine z_get C fl_Cell_31 0 rfl rfl d_Cell_entersBar_166 ?_
            refine z_iload C d_Cell_entersBar_169 6 rfl ?_
            refine z_iald C 4 rfl h.1 d_Cell_entersBar_170 ?_
            replace h := h.2
            refine z_iload C d_Cell_entersBar_171 8 rfl ?_
            refine z_isub C d_Cell_entersBar_172 ?_
            refine z_imul C d_Cell_entersBar_173 ?_
            refine z_iload C d_Cell_entersBar_174 3 rfl ?_
            refine z_aload C d_Cell_entersBar_176 5 rfl ?_
            refine z_get C fl_Cell_28 0 rfl rfl d_Cell_entersBar_177 ?_
            refine z_iload C d_Cell_entersBar_180 6 rfl ?_
            refine z_iald C 3 rfl h.1 d_Cell_entersBar_181 ?_
            replace h := h.2
            refine z_iload C d_Cell_entersBar_182 7 rfl ?_
            refine z_isub C d_Cell_entersBar_183 ?_
            refine z_imul C d_Cell_entersBar_184 ?_
            refine z_isub C d_Cell_entersBar_185 ?_
            refine z_topi (fun x11_11 ex11_11 => ?_)
            replace h := h x11_11 ex11_11
            refine z_istore C [(11, .int x11_11), (10, .int x10_10), (9, .int x9_9), (8, .int x8_8), (7, .int x7_6), (6, .int x6_5), (0, .ref h_ce), (1, .int p0), (2, .int p1), (3, .int p2), (4, .int p3), (5, .int p4)] d_Cell_entersBar_186 rfl rfl ?_
            refine z_iload C d_Cell_entersBar_188 3 rfl ?_
            refine z_iload C d_Cell_entersBar_190 2 rfl ?_
            refine z_mmax C cm_Cell_58 (Nat.le_of_ble_eq_true rfl) (Nat.le_of_ble_eq_true rfl) ⟨Nat.le_of_ble_eq_true rfl, Nat.le_of_ble_eq_true rfl⟩ d_Cell_entersBar_192 ?_
            refine z_iload C d_Cell_entersBar_195 1 rfl ?_
            refine z_iload C d_Cell_entersBar_197 0 rfl ?_
            refine z_mmax C cm_Cell_58 (Nat.le_of_ble_eq_true rfl) (Nat.le_of_ble_eq_true rfl) ⟨Nat.le_of_ble_eq_true rfl, Nat.le_of_ble_eq_true rfl⟩ d_Cell_entersBar_199 ?_
            refine z_mmax C cm_Cell_58 (Nat.le_of_ble_eq_true rfl) (Nat.le_of_ble_eq_true rfl) ⟨Nat.le_of_ble_eq_true rfl, Nat.le_of_ble_eq_true rfl⟩ d_Cell_entersBar_202 ?_
            refine z_topi (fun x12_12 ex12_12 => ?_)
            replace h := h x12_12 ex12_12
            refine z_istore C [(12, .int x12_12), (11, .int x11_11), (10, .int x10_10), (9, .int x9_9), (8, .int x8_8), (7, .int x7_6), (6, .int x6_5), (0, .ref h_ce), (1, .int p0), (2, .int p1), (3, .int p2), (4, .int p3), (5, .int p4)] d_Cell_entersBar_205 rfl rfl ?_
            refine z_iload C d_Cell_entersBar_207 4 rfl ?_
            refine z_iload C d_Cell_entersBar_209 3 rfl ?_
            refine z_mmin C cm_Cell_66 (Nat.le_of_ble_eq_true rfl) (Nat.le_of_ble_eq_true rfl) ⟨Nat.le_of_ble_eq_true rfl, Nat.le_of_ble_eq_true rfl⟩ d_Cell_entersBar_211 ?_
            refine z_iload C d_Cell_entersBar_214 2 rfl ?_
            refine z_iload C d_Cell_entersBar_216 1 rfl ?_
            refine z_mmin C cm_Cell_66 (Nat.le_of_ble_eq_true rfl) (Nat.le_of_ble_eq_true rfl) ⟨Nat.le_of_ble_eq_true rfl, Nat.le_of_ble_eq_true rfl⟩ d_Cell_entersBar_218 ?_
            refine z_mmin C cm_Cell_66 (Nat.le_of_ble_eq_true rfl) (Nat.le_of_ble_eq_true rfl) ⟨Nat.le_of_ble_eq_true rfl, Nat.le_of_ble_eq_true rfl⟩ d_Cell_entersBar_221 ?_
            refine z_topi (fun x13_13 ex13_13 => ?_)
            replace h := h x13_13 ex13_13
            refine z_istore C [(13, .int x13_13), (12, .int x12_12), (11, .int x11_11), (10, .int x10_10), (9, .int x9_9), (8, .int x8_8), (7, .int x7_6), (6, .int x6_5), (0, .ref h_ce), (1, .int p0), (2, .int p1), (3, .int p2), (4, .int p3), (5, .int p4)] d_Cell_entersBar_224 rfl rfl ?_
            refine z_iload C d_Cell_entersBar_226 0 rfl ?_
            refine z_if_ge C d_Cell_entersBar_228 (fun c_14 => ?_) (fun c_14 => ?_)
            · replace h := h.1 c_14
              refine z_k C d_Cell_entersBar_240 ?_
              exact zp_zret C hr hlk (Or.inl rfl) d_Cell_entersBar_241 h
            · replace h := h.2 c_14
              refine z_iload C d_Cell_entersBar_231 1 rfl ?_
              refine z_if_le C d_Cell_entersBar_233 (fun c_15 => ?_) (fun c_15 => ?_)
              · replace h := h.1 c_15
                refine z_k C d_Cell_entersBar_240 ?_
                exact zp_zret C hr hlk (Or.inl rfl) d_Cell_entersBar_241 h
              · replace h := h.2 c_15
                refine z_k C d_Cell_entersBar_236 ?_
                refine z_goto C d_Cell_entersBar_237 ?_
                exact zp_zret C hr hlk (Or.inr rfl) d_Cell_entersBar_241 h
          · replace h := h.2 c_7
            refine z_iload C d_Cell_entersBar_81 0 rfl ?_
            refine z_if_ne C d_Cell_entersBar_83 (fun c_16 => ?_) (fun c_16 => ?_)
            · replace h := h.1 c_16
              refine z_iload C d_Cell_entersBar_88 1 rfl ?_
              refine z_aload C d_Cell_entersBar_90 2 rfl ?_
              refine z_get C fl_Cell_25 0 rfl rfl d_Cell_entersBar_91 ?_
              refine z_iload C d_Cell_entersBar_94 3 rfl ?_
              refine z_iald C 2 rfl h.1 d_Cell_entersBar_95 ?_
              replace h := h.2
              refine z_iload C d_Cell_entersBar_96 5 rfl ?_
              refine z_isub C d_Cell_entersBar_97 ?_
              refine z_imul C d_Cell_entersBar_98 ?_
              refine z_iload C d_Cell_entersBar_99 0 rfl ?_
              refine z_aload C d_Cell_entersBar_101 2 rfl ?_
              refine z_get C fl_Cell_21 0 rfl rfl d_Cell_entersBar_102 ?_
              refine z_iload C d_Cell_entersBar_105 3 rfl ?_
              refine z_iald C 1 rfl h.1 d_Cell_entersBar_106 ?_
              replace h := h.2
              refine z_iload C d_Cell_entersBar_107 4 rfl ?_
              refine z_isub C d_Cell_entersBar_108 ?_
              refine z_imul C d_Cell_entersBar_109 ?_
              refine z_isub C d_Cell_entersBar_110 ?_
              refine z_topi (fun x8_17 ex8_17 => ?_)
              replace h := h x8_17 ex8_17
              refine z_istore C [(8, .int x8_17), (7, .int x7_6), (6, .int x6_5), (0, .ref h_ce), (1, .int p0), (2, .int p1), (3, .int p2), (4, .int p3), (5, .int p4)] d_Cell_entersBar_111 rfl rfl ?_
              refine z_iload C d_Cell_entersBar_113 2 rfl ?_
              refine z_aload C d_Cell_entersBar_115 3 rfl ?_
              refine z_get C fl_Cell_25 0 rfl rfl d_Cell_entersBar_116 ?_
              refine z_iload C d_Cell_entersBar_119 4 rfl ?_
              refine z_iald C 2 rfl h.1 d_Cell_entersBar_120 ?_
              replace h := h.2
              refine z_iload C d_Cell_entersBar_121 6 rfl ?_
              refine z_isub C d_Cell_entersBar_122 ?_
              refine z_imul C d_Cell_entersBar_123 ?_
              refine z_iload C d_Cell_entersBar_124 1 rfl ?_
              refine z_aload C d_Cell_entersBar_126 3 rfl ?_
              refine z_get C fl_Cell_28 0 rfl rfl d_Cell_entersBar_127 ?_
              refine z_iload C d_Cell_entersBar_130 4 rfl ?_
              refine z_iald C 3 rfl h.1 d_Cell_entersBar_131 ?_
              replace h := h.2
              refine z_iload C d_Cell_entersBar_132 5 rfl ?_
              refine z_isub C d_Cell_entersBar_133 ?_
              refine z_imul C d_Cell_entersBar_134 ?_
              refine z_isub C d_Cell_entersBar_135 ?_
              refine z_topi (fun x9_18 ex9_18 => ?_)
              replace h := h x9_18 ex9_18
              refine z_istore C [(9, .int x9_18), (8, .int x8_17), (7, .int x7_6), (6, .int x6_5), (0, .ref h_ce), (1, .int p0), (2, .int p1), (3, .int p2), (4, .int p3), (5, .int p4)] d_Cell_entersBar_136 rfl rfl ?_
              refine z_iload C d_Cell_entersBar_138 3 rfl ?_
              refine z_aload C d_Cell_entersBar_140 4 rfl ?_
              refine z_get C fl_Cell_31 0 rfl rfl d_Cell_entersBar_141 ?_
              refine z_iload C d_Cell_entersBar_144 5 rfl ?_
              refine z_iald C 4 rfl h.1 d_Cell_entersBar_145 ?_
              replace h := h.2
              refine z_iload C d_Cell_entersBar_146 7 rfl ?_
              refine z_isub C d_Cell_entersBar_147 ?_
              refine z_imul C d_Cell_entersBar_148 ?_
              refine z_iload C d_Cell_entersBar_149 2 rfl ?_
              refine z_aload C d_Cell_entersBar_151 4 rfl ?_
              refine z_get C fl_Cell_21 0 rfl rfl d_Cell_entersBar_152 ?_
              refine z_iload C d_Cell_entersBar_155 5 rfl ?_
              refine z_iald C 1 rfl h.1 d_Cell_entersBar_156 ?_
              replace h := h.2
              refine z_iload C d_Cell_entersBar_157 6 rfl ?_
              refine z_isub C d_Cell_entersBar_158 ?_
              refine z_imul C d_Cell_entersBar_159 ?_
              refine z_isub C d_Cell_entersBar_160 ?_
              refine z_topi (fun x10_19 ex10_19 => ?_)
              replace h := h x10_19 ex10_19
              refine z_istore C [(10, .int x10_19), (9, .int x9_18), (8, .int x8_17), (7, .int x7_6), (6, .int x6_5), (0, .ref h_ce), (1, .int p0), (2, .int p1), (3, .int p2), (4, .int p3), (5, .int p4)] d_Cell_entersBar_161 rfl rfl ?_
              refine z_iload C d_Cell_entersBar_163 4 rfl ?_
              refine z_aload C d_Cell_entersBar_165 5 rfl ?_
              refine z_get C fl_Cell_31 0 rfl rfl d_Cell_entersBar_166 ?_
              refine z_iload C d_Cell_entersBar_169 6 rfl ?_
              refine z_iald C 4 rfl h.1 d_Cell_entersBar_170 ?_
              replace h := h.2
              refine z_iload C d_Cell_entersBar_171 8 rfl ?_
              refine z_isub C d_Cell_entersBar_172 ?_
              refine z_imul C d_Cell_entersBar_173 ?_
              refine z_iload C d_Cell_entersBar_174 3 rfl ?_
              refine z_aload C d_Cell_entersBar_176 5 rfl ?_
              refine z_get C fl_Cell_28 0 rfl rfl d_Cell_entersBar_177 ?_
              refine z_iload C d_Cell_entersBar_180 6 rfl ?_
              refine z_iald C 3 rfl h.1 d_Cell_entersBar_181 ?_
              replace h := h.2
              refine z_iload C d_Cell_entersBar_182 7 rfl ?_
              refine z_isub C d_Cell_entersBar_183 ?_
              refine z_imul C d_Cell_entersBar_184 ?_
              refine z_isub C d_Cell_entersBar_185 ?_
              refine z_topi (fun x11_20 ex11_20 => ?_)
              replace h := h x11_20 ex11_20
              refine z_istore C [(11, .int x11_20), (10, .int x10_19), (9, .int x9_18), (8, .int x8_17), (7, .int x7_6), (6, .int x6_5), (0, .ref h_ce), (1, .int p0), (2, .int p1), (3, .int p2), (4, .int p3), (5, .int p4)] d_Cell_entersBar_186 rfl rfl ?_
              refine z_iload C d_Cell_entersBar_188 3 rfl ?_
              refine z_iload C d_Cell_entersBar_190 2 rfl ?_
              refine z_mmax C cm_Cell_58 (Nat.le_of_ble_eq_true rfl) (Nat.le_of_ble_eq_true rfl) ⟨Nat.le_of_ble_eq_true rfl, Nat.le_of_ble_eq_true rfl⟩ d_Cell_entersBar_192 ?_
              refine z_iload C d_Cell_entersBar_195 1 rfl ?_
              refine z_iload C d_Cell_entersBar_197 0 rfl ?_
              refine z_mmax C cm_Cell_58 (Nat.le_of_ble_eq_true rfl) (Nat.le_of_ble_eq_true rfl) ⟨Nat.le_of_ble_eq_true rfl, Nat.le_of_ble_eq_true rfl⟩ d_Cell_entersBar_199 ?_
              refine z_mmax C cm_Cell_58 (Nat.le_of_ble_eq_true rfl) (Nat.le_of_ble_eq_true rfl) ⟨Nat.le_of_ble_eq_true rfl, Nat.le_of_ble_eq_true rfl⟩ d_Cell_entersBar_202 ?_
              refine z_topi (fun x12_21 ex12_21 => ?_)
              replace h := h x12_21 ex12_21
              refine z_istore C [(12, .int x12_21), (11, .int x11_20), (10, .int x10_19), (9, .int x9_18), (8, .int x8_17), (7, .int x7_6), (6, .int x6_5), (0, .ref h_ce), (1, .int p0), (2, .int p1), (3, .int p2), (4, .int p3), (5, .int p4)] d_Cell_entersBar_205 rfl rfl ?_
              refine z_iload C d_Cell_entersBar_207 4 rfl ?_
              refine z_iload C d_Cell_entersBar_209 3 rfl ?_
              refine z_mmin C cm_Cell_66 (Nat.le_of_ble_eq_true rfl) (Nat.le_of_ble_eq_true rfl) ⟨Nat.le_of_ble_eq_true rfl, Nat.le_of_ble_eq_true rfl⟩ d_Cell_entersBar_211 ?_
              refine z_iload C d_Cell_entersBar_214 2 rfl ?_
              refine z_iload C d_Cell_entersBar_216 1 rfl ?_
              refine z_mmin C cm_Cell_66 (Nat.le_of_ble_eq_true rfl) (Nat.le_of_ble_eq_true rfl) ⟨Nat.le_of_ble_eq_true rfl, Nat.le_of_ble_eq_true rfl⟩ d_Cell_entersBar_218 ?_
              refine z_mmin C cm_Cell_66 (Nat.le_of_ble_eq_true rfl) (Nat.le_of_ble_eq_true rfl) ⟨Nat.le_of_ble_eq_true rfl, Nat.le_of_ble_eq_true rfl⟩ d_Cell_entersBar_221 ?_
              refine z_topi (fun x13_22 ex13_22 => ?_)
              replace h := h x13_22 ex13_22
              refine z_istore C [(13, .int x13_22), (12, .int x12_21), (11, .int x11_20), (10, .int x10_19), (9, .int x9_18), (8, .int x8_17), (7, .int x7_6), (6, .int x6_5), (0, .ref h_ce), (1, .int p0), (2, .int p1), (3, .int p2), (4, .int p3), (5, .int p4)] d_Cell_entersBar_224 rfl rfl ?_
              refine z_iload C d_Cell_entersBar_226 0 rfl ?_
              refine z_if_ge C d_Cell_entersBar_228 (fun c_23 => ?_) (fun c_23 => ?_)
              · replace h := h.1 c_23
                refine z_k C d_Cell_entersBar_240 ?_
                exact zp_zret C hr hlk (Or.inl rfl) d_Cell_entersBar_241 h
              · replace h := h.2 c_23
                refine z_iload C d_Cell_entersBar_231 1 rfl ?_
                refine z_if_le C d_Cell_entersBar_233 (fun c_24 => ?_) (fun c_24 => ?_)
                · replace h := h.1 c_24
                  refine z_k C d_Cell_entersBar_240 ?_
                  exact zp_zret C hr hlk (Or.inl rfl) d_Cell_entersBar_241 h
                · replace h := h.2 c_24
                  refine z_k C d_Cell_entersBar_236 ?_
                  refine z_goto C d_Cell_entersBar_237 ?_
                  exact zp_zret C hr hlk (Or.inr rfl) d_Cell_entersBar_241 h
            · replace h := h.2 c_16
              refine z_k C d_Cell_entersBar_86 ?_
              exact zp_zret C hr hlk (Or.inr rfl) d_Cell_entersBar_87 h
        · replace h := h.2 c_4
          refine z_k C d_Cell_entersBar_62 ?_
          exact zp_zret C hr hlk (Or.inl rfl) d_Cell_entersBar_63 h
    · replace h := h.2 c_2
      refine z_k C d_Cell_entersBar_30 ?_
      exact zp_zret C hr hlk (Or.inl rfl) d_Cell_entersBar_31 h
def wpB_Cell_isFree_3 (ce_barCount : Int32) (ce_barX0 : Nat → Int32) (ce_barY0 : Nat → Int32) (ce_barX1 : Nat → Int32) (ce_barY1 : Nat → Int32) (p0 : Int32) (p1 : Int32) (p2 : Int32) (p3 : Int32) (post : Int32 → Prop) (ih_3 : Int32 → Prop) (x5_1 : Int32) : Prop :=
  ((ce_barCount ≤ x5_1 → (post (1 : Int32))) ∧ (¬ ce_barCount ≤ x5_1 → (wp_Cell_entersBar ce_barX0 ce_barY0 ce_barX1 ce_barY1 x5_1 p0 p1 p2 p3 (fun r_3 => ((r_3 = 0 → (∀ x5_5 : Int32, x5_5 = x5_1 + (1 : Int32) → (ih_3 x5_5))) ∧ (¬ r_3 = 0 → (post (0 : Int32))))))))
noncomputable def wpL_Cell_isFree_3 (ce_barCount : Int32) (ce_barX0 : Nat → Int32) (ce_barY0 : Nat → Int32) (ce_barX1 : Nat → Int32) (ce_barY1 : Nat → Int32) (p0 : Int32) (p1 : Int32) (p2 : Int32) (p3 : Int32) (post : Int32 → Prop) : Nat → Int32 → Prop := fun n => @Nat.rec (fun _ => Int32 → Prop) (fun _ => False) (fun _ ih_3 => wpB_Cell_isFree_3 ce_barCount ce_barX0 ce_barY0 ce_barX1 ce_barY1 p0 p1 p2 p3 post ih_3) n
def wp_Cell_isFree (ce_barCount : Int32) (ce_barX0 : Nat → Int32) (ce_barY0 : Nat → Int32) (ce_barX1 : Nat → Int32) (ce_barY1 : Nat → Int32) (p0 : Int32) (p1 : Int32) (p2 : Int32) (p3 : Int32) (post : Int32 → Prop) : Prop :=
  (∃ n : Nat, wpL_Cell_isFree_3 ce_barCount ce_barX0 ce_barY0 ce_barX1 ce_barY1 p0 p1 p2 p3 post n (0 : Int32))
abbrev rm_Cell_isFree : Room := { frames := 2, cells := 0, slots := 0, locals := 54 }
set_option maxHeartbeats 4000000 in
set_option maxRecDepth 100000 in
theorem c_Cell_isFree (l : Launch) (D : va_G) (κ : KT) (h_ce : Nat) (h_ce_barX0 : Nat) (h_ce_barY0 : Nat) (h_ce_barX1 : Nat) (h_ce_barY1 : Nat) (ce_middleX : Int32) (ce_middleY : Int32) (ce_shiftX : Int32) (ce_shiftY : Int32) (ce_linkA : Int32) (ce_linkB : Int32) (ce_flatness : Int32) (ce_barCount : Int32) (ce_barX0 : Nat → Int32) (ce_barY0 : Nat → Int32) (ce_barX1 : Nat → Int32) (ce_barY1 : Nat → Int32) (p0 : Int32) (p1 : Int32) (p2 : Int32) (p3 : Int32) (post : Int32 → Prop) (h : wp_Cell_isFree ce_barCount ce_barX0 ce_barY0 ce_barX1 ce_barY1 p0 p1 p2 p3 post) : Met l y_Cell_isFree (wsG y_Cell_isFree b_Cell_isFree 6 (some .boolean)) rm_Cell_isFree (PP D κ [.ref h_ce, .int p0, .int p1, .int p2, .int p3] [(h_ce, .inr (1, [.int ce_middleX, .int ce_middleY, .int ce_shiftX, .int ce_shiftY, .int ce_linkA, .int ce_linkB, .int ce_flatness, .int ce_barCount, .ref h_ce_barX0, .ref h_ce_barY0, .ref h_ce_barX1, .ref h_ce_barY1])), (h_ce_barX0, cI κ 4 ce_barX0), (h_ce_barY0, cI κ 4 ce_barY0), (h_ce_barX1, cI κ 4 ce_barX1), (h_ce_barY1, cI κ 4 ce_barY1)]) (vp_Si post) 0 0 (fun _ => False) := by
  refine zp_start [(0, .ref h_ce), (1, .int p0), (2, .int p1), (3, .int p2), (4, .int p3)] rfl (Nat.le_of_ble_eq_true rfl) rfl ?_
  intro p e s m args below meth c C hr hlk
  unfold wp_Cell_isFree at h
  refine z_k C d_Cell_isFree_0 ?_
  refine z_istore C [(5, .int (0 : Int32)), (0, .ref h_ce), (1, .int p0), (2, .int p1), (3, .int p2), (4, .int p3)] d_Cell_isFree_1 rfl rfl ?_
  obtain ⟨n_3, h⟩ := h
  have LP_3 : ∀ (n : Nat) (x5_1 : Int32), wpL_Cell_isFree_3 ce_barCount ce_barX0 ce_barY0 ce_barX1 ce_barY1 p0 p1 p2 p3 post n x5_1 → Zw p l e rm_Cell_isFree s m args below meth c 0 0 (MQ below (vp_Si post) args s 0 0 (fun _ => False)) D 6 none [(h_ce, .inr (1, [.int ce_middleX, .int ce_middleY, .int ce_shiftX, .int ce_shiftY, .int ce_linkA, .int ce_linkB, .int ce_flatness, .int ce_barCount, .ref h_ce_barX0, .ref h_ce_barY0, .ref h_ce_barX1, .ref h_ce_barY1])), (h_ce_barX0, cI κ 4 ce_barX0), (h_ce_barY0, cI κ 4 ce_barY0), (h_ce_barX1, cI κ 4 ce_barX1), (h_ce_barY1, cI κ 4 ce_barY1)] [(0, .ref h_ce), (1, .int p0), (2, .int p1), (3, .int p2), (4, .int p3), (5, .int x5_1)] 3 [] := by
    intro n
    induction n with
    | zero => intro x5_1 h; exact False.elim h
    | succ nn_3 IH_3 =>
      intro x5_1 h
      have h : wpB_Cell_isFree_3 ce_barCount ce_barX0 ce_barY0 ce_barX1 ce_barY1 p0 p1 p2 p3 post (wpL_Cell_isFree_3 ce_barCount ce_barX0 ce_barY0 ce_barX1 ce_barY1 p0 p1 p2 p3 post nn_3) x5_1 := h
      unfold wpB_Cell_isFree_3 at h
      refine z_iload C d_Cell_isFree_3 5 rfl ?_
      refine z_aload C d_Cell_isFree_5 0 rfl ?_
      refine z_get C fl_Cell_34 0 rfl rfl d_Cell_isFree_6 ?_
      refine z_icmp_ge C d_Cell_isFree_9 (fun c_2 => ?_) (fun c_2 => ?_)
      · replace h := h.1 c_2
        refine z_k C d_Cell_isFree_34 ?_
        exact zp_zret C hr hlk (Or.inr rfl) d_Cell_isFree_35 h
      · replace h := h.2 c_2
        refine z_aload C d_Cell_isFree_12 0 rfl ?_
        refine z_iload C d_Cell_isFree_13 5 rfl ?_
        refine z_iload C d_Cell_isFree_15 1 rfl ?_
        refine z_iload C d_Cell_isFree_16 2 rfl ?_
        refine z_iload C d_Cell_isFree_17 3 rfl ?_
        refine z_iload C d_Cell_isFree_18 4 rfl ?_
        refine z_vpi C (rest := []) (c_Cell_entersBar l D κ h_ce h_ce_barX0 h_ce_barY0 h_ce_barX1 h_ce_barY1 ce_middleX ce_middleY ce_shiftX ce_shiftY ce_linkA ce_linkB ce_flatness ce_barCount ce_barX0 ce_barY0 ce_barX1 ce_barY1 x5_1 p0 p1 p2 p3 _ h) cv_Cell_62 ⟨rfl, rfl⟩ ⟨⟨Nat.le_of_ble_eq_true rfl, Nat.le_of_ble_eq_true rfl⟩, Nat.le_of_ble_eq_true rfl, Nat.le_of_ble_eq_true rfl⟩ 0 rfl [0, 1, 2, 3, 4] rfl rfl rfl (Nat.le_of_ble_eq_true rfl) d_Cell_isFree_20 (fun r_3 h => ?_)
        refine z_if_eq C d_Cell_isFree_23 (fun c_4 => ?_) (fun c_4 => ?_)
        · replace h := h.1 c_4
          obtain ⟨x5_5, ex5_5⟩ : ∃ y : Int32, y = x5_1 + (1 : Int32) := ⟨_, rfl⟩
          replace h := h x5_5 ex5_5
          refine z_iinc C [(5, .int x5_5), (0, .ref h_ce), (1, .int p0), (2, .int p1), (3, .int p2), (4, .int p3)] d_Cell_isFree_28 (j := 5) rfl (by rw [ex5_5]; rfl) rfl rfl ?_
          refine z_goto C d_Cell_isFree_31 ?_
          refine z_sub [1, 2, 3, 4, 5, 0] [(0, .ref h_ce), (1, .int p0), (2, .int p1), (3, .int p2), (4, .int p3), (5, .int x5_5)] rfl ?_
          exact IH_3 x5_5 h
        · replace h := h.2 c_4
          refine z_k C d_Cell_isFree_26 ?_
          exact zp_zret C hr hlk (Or.inl rfl) d_Cell_isFree_27 h
  refine z_sub [1, 2, 3, 4, 5, 0] [(0, .ref h_ce), (1, .int p0), (2, .int p1), (3, .int p2), (4, .int p3), (5, .int (0 : Int32))] rfl ?_
  exact LP_3 n_3 (0 : Int32) h
def wp_Seam_draw (p0 : Int32) (p1 : Int32) (p2 : Int32) (p3 : Int32) (p4 : Int32) (p5 : Int32) (post : Int32 → Int32 → Int32 → Int32 → Int32 → Int32 → Int32 → Prop) : Prop :=
  (wp_SeamCell_square (p2 - p0) (fun r_1 => (wp_SeamCell_square (p3 - p1) (fun r_2 => (wp_SeamCell_rootUp (r_1 + r_2) (fun r_3 => (wp_SeamCell_cutUp r_3 p4 (fun r_4 => (post p0 p1 p2 p3 r_3 r_4 p5)))))))))
abbrev rm_Seam_draw : Room := { frames := 2, cells := 0, slots := 0, locals := 41 }
set_option maxHeartbeats 4000000 in
set_option maxRecDepth 100000 in
theorem c_Seam_draw (l : Launch) (D : va_G) (κ : KT) (h_s1 : Nat) (s1_x0 : Int32) (s1_y0 : Int32) (s1_x1 : Int32) (s1_y1 : Int32) (s1_length : Int32) (s1_time : Int32) (s1_heat : Int32) (p0 : Int32) (p1 : Int32) (p2 : Int32) (p3 : Int32) (p4 : Int32) (p5 : Int32) (sz : Nat) (post : Int32 → Int32 → Int32 → Int32 → Int32 → Int32 → Int32 → Prop) (h : wp_Seam_draw p0 p1 p2 p3 p4 p5 post) : Met l y_Seam_draw (wsG y_Seam_draw b_Seam_draw 7 none) rm_Seam_draw (PE D κ [.ref h_s1, .int p0, .int p1, .int p2, .int p3, .int p4, .int p5] [(h_s1, .inr (6, [.int s1_x0, .int s1_y0, .int s1_x1, .int s1_y1, .int s1_length, .int s1_time, .int s1_heat]))] sz) (va_Qv (fun (u : (Int32) × (Int32) × (Int32) × (Int32) × (Int32) × (Int32) × (Int32)) => post u.1 u.2.1 u.2.2.1 u.2.2.2.1 u.2.2.2.2.1 u.2.2.2.2.2.1 u.2.2.2.2.2.2) (QB D [(h_s1, .inr (6, [.int s1_x0, .int s1_y0, .int s1_x1, .int s1_y1, .int s1_length, .int s1_time, .int s1_heat]))] sz (fun (u : (Int32) × (Int32) × (Int32) × (Int32) × (Int32) × (Int32) × (Int32)) => [(h_s1, .inr (6, [.int u.1, .int u.2.1, .int u.2.2.1, .int u.2.2.2.1, .int u.2.2.2.2.1, .int u.2.2.2.2.2.1, .int u.2.2.2.2.2.2]))])) (va_A [(h_s1, .inr (6, [.int s1_x0, .int s1_y0, .int s1_x1, .int s1_y1, .int s1_length, .int s1_time, .int s1_heat]))] sz)) 0 0 (va_A [(h_s1, .inr (6, [.int s1_x0, .int s1_y0, .int s1_x1, .int s1_y1, .int s1_length, .int s1_time, .int s1_heat]))] sz) := by
  refine ze_start [(0, .ref h_s1), (1, .int p0), (2, .int p1), (3, .int p2), (4, .int p3), (5, .int p4), (6, .int p5)] rfl (Nat.le_of_ble_eq_true rfl) rfl ?_
  intro p e s m args below meth c C hr hlk hnm hsz
  subst hsz
  unfold wp_Seam_draw at h
  refine z_aload C d_Seam_draw_0 0 rfl ?_
  refine z_iload C d_Seam_draw_1 1 rfl ?_
  refine z_put C fp_Seam_7 0 rfl rfl rfl rfl [(h_s1, .inr (6, [.int p0, .int s1_y0, .int s1_x1, .int s1_y1, .int s1_length, .int s1_time, .int s1_heat]))] rfl d_Seam_draw_2 ?_
  refine z_aload C d_Seam_draw_5 0 rfl ?_
  refine z_iload C d_Seam_draw_6 2 rfl ?_
  refine z_put C fp_Seam_13 0 rfl rfl rfl rfl [(h_s1, .inr (6, [.int p0, .int p1, .int s1_x1, .int s1_y1, .int s1_length, .int s1_time, .int s1_heat]))] rfl d_Seam_draw_7 ?_
  refine z_aload C d_Seam_draw_10 0 rfl ?_
  refine z_iload C d_Seam_draw_11 3 rfl ?_
  refine z_put C fp_Seam_16 0 rfl rfl rfl rfl [(h_s1, .inr (6, [.int p0, .int p1, .int p2, .int s1_y1, .int s1_length, .int s1_time, .int s1_heat]))] rfl d_Seam_draw_12 ?_
  refine z_aload C d_Seam_draw_15 0 rfl ?_
  refine z_iload C d_Seam_draw_16 4 rfl ?_
  refine z_put C fp_Seam_19 0 rfl rfl rfl rfl [(h_s1, .inr (6, [.int p0, .int p1, .int p2, .int p3, .int s1_length, .int s1_time, .int s1_heat]))] rfl d_Seam_draw_18 ?_
  refine z_aload C d_Seam_draw_21 0 rfl ?_
  refine z_iload C d_Seam_draw_22 3 rfl ?_
  refine z_iload C d_Seam_draw_23 1 rfl ?_
  refine z_isub C d_Seam_draw_24 ?_
  refine z_npi C (rest := [.ref h_s1]) (c_SeamCell_square l D κ (p2 - p0) _ h) cn_Seam_22 ⟨rfl, rfl⟩ ⟨⟨Nat.le_of_ble_eq_true rfl, Nat.le_of_ble_eq_true rfl⟩, Nat.le_of_ble_eq_true rfl, Nat.le_of_ble_eq_true rfl⟩ [] rfl rfl rfl (Nat.le_of_ble_eq_true rfl) d_Seam_draw_25 (fun r_1 h => ?_)
  refine z_iload C d_Seam_draw_28 4 rfl ?_
  refine z_iload C d_Seam_draw_30 2 rfl ?_
  refine z_isub C d_Seam_draw_31 ?_
  refine z_npi C (rest := [.int r_1, .ref h_s1]) (c_SeamCell_square l D κ (p3 - p1) _ h) cn_Seam_22 ⟨rfl, rfl⟩ ⟨⟨Nat.le_of_ble_eq_true rfl, Nat.le_of_ble_eq_true rfl⟩, Nat.le_of_ble_eq_true rfl, Nat.le_of_ble_eq_true rfl⟩ [] rfl rfl rfl (Nat.le_of_ble_eq_true rfl) d_Seam_draw_32 (fun r_2 h => ?_)
  refine z_iadd C d_Seam_draw_35 ?_
  refine z_npi C (rest := [.ref h_s1]) (c_SeamCell_rootUp l D κ (r_1 + r_2) _ h) cn_Seam_28 ⟨rfl, rfl⟩ ⟨⟨Nat.le_of_ble_eq_true rfl, Nat.le_of_ble_eq_true rfl⟩, Nat.le_of_ble_eq_true rfl, Nat.le_of_ble_eq_true rfl⟩ [] rfl rfl rfl (Nat.le_of_ble_eq_true rfl) d_Seam_draw_36 (fun r_3 h => ?_)
  refine z_put C fp_Seam_31 0 rfl rfl rfl rfl [(h_s1, .inr (6, [.int p0, .int p1, .int p2, .int p3, .int r_3, .int s1_time, .int s1_heat]))] rfl d_Seam_draw_39 ?_
  refine z_aload C d_Seam_draw_42 0 rfl ?_
  refine z_aload C d_Seam_draw_43 0 rfl ?_
  refine z_get C fl_Seam_31 0 rfl rfl d_Seam_draw_44 ?_
  refine z_iload C d_Seam_draw_47 5 rfl ?_
  refine z_npi C (rest := [.ref h_s1]) (c_SeamCell_cutUp l D κ r_3 p4 _ h) cn_Seam_34 ⟨rfl, rfl⟩ ⟨⟨Nat.le_of_ble_eq_true rfl, Nat.le_of_ble_eq_true rfl⟩, Nat.le_of_ble_eq_true rfl, Nat.le_of_ble_eq_true rfl⟩ [] rfl rfl rfl (Nat.le_of_ble_eq_true rfl) d_Seam_draw_49 (fun r_4 h => ?_)
  refine z_put C fp_Seam_38 0 rfl rfl rfl rfl [(h_s1, .inr (6, [.int p0, .int p1, .int p2, .int p3, .int r_3, .int r_4, .int s1_heat]))] rfl d_Seam_draw_52 ?_
  refine z_aload C d_Seam_draw_55 0 rfl ?_
  refine z_iload C d_Seam_draw_56 6 rfl ?_
  refine z_put C fp_Seam_41 0 rfl rfl rfl rfl [(h_s1, .inr (6, [.int p0, .int p1, .int p2, .int p3, .int r_3, .int r_4, .int p5]))] rfl d_Seam_draw_58 ?_
  exact ze_vret C (p0, p1, p2, p3, r_3, r_4, p5) hr hlk rfl d_Seam_draw_61 h
def wp_Part_has (pt_count : Int32) (p0 : Int32) (post : Int32 → Prop) : Prop :=
  ((p0 < 0 → (post (0 : Int32))) ∧ (¬ p0 < 0 → ((pt_count ≤ p0 → (post (0 : Int32))) ∧ (¬ pt_count ≤ p0 → (post (1 : Int32))))))
abbrev rm_Part_has : Room := { frames := 0, cells := 0, slots := 0, locals := 0 }
set_option maxHeartbeats 4000000 in
set_option maxRecDepth 100000 in
theorem c_Part_has (l : Launch) (D : va_G) (κ : KT) (h_pt : Nat) (h_ce : Nat) (h_pt_seams : Nat) (pt_count : Int32) (pt_gap : Int32) (p0 : Int32) (post : Int32 → Prop) (h : wp_Part_has pt_count p0 post) : Met l y_Part_has (wsG y_Part_has b_Part_has 2 (some .boolean)) rm_Part_has (PP D κ [.ref h_pt, .int p0] [(h_pt, .inr (4, [.ref h_ce, .ref h_pt_seams, .int pt_count, .int pt_gap]))]) (vp_Si post) 0 0 (fun _ => False) := by
  refine zp_start [(0, .ref h_pt), (1, .int p0)] rfl (Nat.le_of_ble_eq_true rfl) rfl ?_
  intro p e s m args below meth c C hr hlk
  unfold wp_Part_has at h
  refine z_iload C d_Part_has_0 1 rfl ?_
  refine z_if_lt C d_Part_has_1 (fun c_1 => ?_) (fun c_1 => ?_)
  · replace h := h.1 c_1
    refine z_k C d_Part_has_16 ?_
    exact zp_zret C hr hlk (Or.inl rfl) d_Part_has_17 h
  · replace h := h.2 c_1
    refine z_iload C d_Part_has_4 1 rfl ?_
    refine z_aload C d_Part_has_5 0 rfl ?_
    refine z_get C fl_Part_26 0 rfl rfl d_Part_has_6 ?_
    refine z_icmp_ge C d_Part_has_9 (fun c_2 => ?_) (fun c_2 => ?_)
    · replace h := h.1 c_2
      refine z_k C d_Part_has_16 ?_
      exact zp_zret C hr hlk (Or.inl rfl) d_Part_has_17 h
    · replace h := h.2 c_2
      refine z_k C d_Part_has_12 ?_
      refine z_goto C d_Part_has_13 ?_
      exact zp_zret C hr hlk (Or.inr rfl) d_Part_has_17 h
def wp_Part_endX (ce_middleX : Int32) (ce_shiftX : Int32) (sm_x0 : Nat → Int32) (sm_y0 : Nat → Int32) (sm_x1 : Nat → Int32) (sm_y1 : Nat → Int32) (p0 : Int32) (p1 : Int32) (p2 : Int32) (post : Int32 → Prop) : Prop :=
  (vp_in p0 8 ∧ ((¬ p1 = 0 → (wp_Cell_xOf ce_middleX ce_shiftX (sm_x1 p0.toNatClampNeg) (sm_y1 p0.toNatClampNeg) p2 (fun r_3 => (post r_3)))) ∧ (p1 = 0 → (wp_Cell_xOf ce_middleX ce_shiftX (sm_x0 p0.toNatClampNeg) (sm_y0 p0.toNatClampNeg) p2 (fun r_4 => (post r_4))))))
abbrev rm_Part_endX : Room := { frames := 1, cells := 0, slots := 0, locals := 24 }
set_option maxHeartbeats 4000000 in
set_option maxRecDepth 100000 in
theorem c_Part_endX (l : Launch) (D : va_G) (κ : KT) (h_ce : Nat) (h_ce_barX0 : Nat) (h_ce_barY0 : Nat) (h_ce_barX1 : Nat) (h_ce_barY1 : Nat) (h_pt : Nat) (h_pt_seams : Nat) (h_sm : Nat → Nat) (ce_middleX : Int32) (ce_middleY : Int32) (ce_shiftX : Int32) (ce_shiftY : Int32) (ce_linkA : Int32) (ce_linkB : Int32) (ce_flatness : Int32) (ce_barCount : Int32) (pt_count : Int32) (pt_gap : Int32) (sm_x0 : Nat → Int32) (sm_y0 : Nat → Int32) (sm_x1 : Nat → Int32) (sm_y1 : Nat → Int32) (sm_length : Nat → Int32) (sm_time : Nat → Int32) (sm_heat : Nat → Int32) (p0 : Int32) (p1 : Int32) (p2 : Int32) (post : Int32 → Prop) (h : wp_Part_endX ce_middleX ce_shiftX sm_x0 sm_y0 sm_x1 sm_y1 p0 p1 p2 post) : Met l y_Part_endX (wsG y_Part_endX b_Part_endX 5 (some .int)) rm_Part_endX (PP D κ [.ref h_pt, .int p0, .int p1, .int p2] [(h_ce, .inr (1, [.int ce_middleX, .int ce_middleY, .int ce_shiftX, .int ce_shiftY, .int ce_linkA, .int ce_linkB, .int ce_flatness, .int ce_barCount, .ref h_ce_barX0, .ref h_ce_barY0, .ref h_ce_barX1, .ref h_ce_barY1])), (h_pt, .inr (4, [.ref h_ce, .ref h_pt_seams, .int pt_count, .int pt_gap])), (h_pt_seams, cS κ 8 (fun i => some (h_sm i))), (h_sm 0, .inr (6, [.int (sm_x0 0), .int (sm_y0 0), .int (sm_x1 0), .int (sm_y1 0), .int (sm_length 0), .int (sm_time 0), .int (sm_heat 0)])), (h_sm 1, .inr (6, [.int (sm_x0 1), .int (sm_y0 1), .int (sm_x1 1), .int (sm_y1 1), .int (sm_length 1), .int (sm_time 1), .int (sm_heat 1)])), (h_sm 2, .inr (6, [.int (sm_x0 2), .int (sm_y0 2), .int (sm_x1 2), .int (sm_y1 2), .int (sm_length 2), .int (sm_time 2), .int (sm_heat 2)])), (h_sm 3, .inr (6, [.int (sm_x0 3), .int (sm_y0 3), .int (sm_x1 3), .int (sm_y1 3), .int (sm_length 3), .int (sm_time 3), .int (sm_heat 3)])), (h_sm 4, .inr (6, [.int (sm_x0 4), .int (sm_y0 4), .int (sm_x1 4), .int (sm_y1 4), .int (sm_length 4), .int (sm_time 4), .int (sm_heat 4)])), (h_sm 5, .inr (6, [.int (sm_x0 5), .int (sm_y0 5), .int (sm_x1 5), .int (sm_y1 5), .int (sm_length 5), .int (sm_time 5), .int (sm_heat 5)])), (h_sm 6, .inr (6, [.int (sm_x0 6), .int (sm_y0 6), .int (sm_x1 6), .int (sm_y1 6), .int (sm_length 6), .int (sm_time 6), .int (sm_heat 6)])), (h_sm 7, .inr (6, [.int (sm_x0 7), .int (sm_y0 7), .int (sm_x1 7), .int (sm_y1 7), .int (sm_length 7), .int (sm_time 7), .int (sm_heat 7)]))]) (vp_Si post) 0 0 (fun _ => False) := by
  refine zp_start [(0, .ref h_pt), (1, .int p0), (2, .int p1), (3, .int p2)] rfl (Nat.le_of_ble_eq_true rfl) rfl ?_
  intro p e s m args below meth c C hr hlk
  unfold wp_Part_endX at h
  refine z_aload C d_Part_endX_0 0 rfl ?_
  refine z_get C fl_Part_11 1 rfl rfl d_Part_endX_1 ?_
  refine z_iload C d_Part_endX_4 1 rfl ?_
  have a_1 := h.1
  refine z_aald C 2 rfl a_1 rfl d_Part_endX_5 ?_
  replace h := h.2
  refine z_astore C [(4, .ref (h_sm (p0.toNatClampNeg))), (0, .ref h_pt), (1, .int p0), (2, .int p1), (3, .int p2)] d_Part_endX_6 rfl rfl ?_
  refine z_iload C d_Part_endX_8 3 rfl ?_
  refine z_if_ne C d_Part_endX_9 (fun c_2 => ?_) (fun c_2 => ?_)
  · replace h := h.1 c_2
    refine z_aload C d_Part_endX_33 1 rfl ?_
    refine z_get C fl_Part_21 1 rfl rfl d_Part_endX_34 ?_
    refine z_aload C d_Part_endX_37 0 rfl ?_
    refine z_getP8 C fl_Part_41 3 h_sm (fun j => [.int (sm_x0 j), .int (sm_y0 j), .int (sm_x1 j), .int (sm_y1 j), .int (sm_length j), .int (sm_time j), .int (sm_heat j)]) p0.toNatClampNeg (vp_lt a_1) rfl rfl rfl rfl rfl rfl rfl rfl rfl d_Part_endX_39 ?_
    refine z_aload C d_Part_endX_42 0 rfl ?_
    refine z_getP8 C fl_Part_44 3 h_sm (fun j => [.int (sm_x0 j), .int (sm_y0 j), .int (sm_x1 j), .int (sm_y1 j), .int (sm_length j), .int (sm_time j), .int (sm_heat j)]) p0.toNatClampNeg (vp_lt a_1) rfl rfl rfl rfl rfl rfl rfl rfl rfl d_Part_endX_44 ?_
    refine z_iload C d_Part_endX_47 4 rfl ?_
    refine z_vpi C (rest := []) (c_Cell_xOf l D κ h_ce h_ce_barX0 h_ce_barY0 h_ce_barX1 h_ce_barY1 ce_middleX ce_middleY ce_shiftX ce_shiftY ce_linkA ce_linkB ce_flatness ce_barCount (sm_x1 p0.toNatClampNeg) (sm_y1 p0.toNatClampNeg) p2 _ h) cv_Part_35 ⟨rfl, rfl⟩ ⟨⟨Nat.le_of_ble_eq_true rfl, Nat.le_of_ble_eq_true rfl⟩, Nat.le_of_ble_eq_true rfl, Nat.le_of_ble_eq_true rfl⟩ 0 rfl [0] rfl rfl rfl (Nat.le_of_ble_eq_true rfl) d_Part_endX_48 (fun r_3 h => ?_)
    exact zp_iret C hr hlk d_Part_endX_51 h
  · replace h := h.2 c_2
    refine z_aload C d_Part_endX_12 1 rfl ?_
    refine z_get C fl_Part_21 1 rfl rfl d_Part_endX_13 ?_
    refine z_aload C d_Part_endX_16 0 rfl ?_
    refine z_getP8 C fl_Part_29 3 h_sm (fun j => [.int (sm_x0 j), .int (sm_y0 j), .int (sm_x1 j), .int (sm_y1 j), .int (sm_length j), .int (sm_time j), .int (sm_heat j)]) p0.toNatClampNeg (vp_lt a_1) rfl rfl rfl rfl rfl rfl rfl rfl rfl d_Part_endX_18 ?_
    refine z_aload C d_Part_endX_21 0 rfl ?_
    refine z_getP8 C fl_Part_32 3 h_sm (fun j => [.int (sm_x0 j), .int (sm_y0 j), .int (sm_x1 j), .int (sm_y1 j), .int (sm_length j), .int (sm_time j), .int (sm_heat j)]) p0.toNatClampNeg (vp_lt a_1) rfl rfl rfl rfl rfl rfl rfl rfl rfl d_Part_endX_23 ?_
    refine z_iload C d_Part_endX_26 4 rfl ?_
    refine z_vpi C (rest := []) (c_Cell_xOf l D κ h_ce h_ce_barX0 h_ce_barY0 h_ce_barX1 h_ce_barY1 ce_middleX ce_middleY ce_shiftX ce_shiftY ce_linkA ce_linkB ce_flatness ce_barCount (sm_x0 p0.toNatClampNeg) (sm_y0 p0.toNatClampNeg) p2 _ h) cv_Part_35 ⟨rfl, rfl⟩ ⟨⟨Nat.le_of_ble_eq_true rfl, Nat.le_of_ble_eq_true rfl⟩, Nat.le_of_ble_eq_true rfl, Nat.le_of_ble_eq_true rfl⟩ 0 rfl [0] rfl rfl rfl (Nat.le_of_ble_eq_true rfl) d_Part_endX_27 (fun r_4 h => ?_)
    refine z_goto C d_Part_endX_30 ?_
    exact zp_iret C hr hlk d_Part_endX_51 h
def wp_Part_endY (ce_middleY : Int32) (ce_shiftY : Int32) (sm_x0 : Nat → Int32) (sm_y0 : Nat → Int32) (sm_x1 : Nat → Int32) (sm_y1 : Nat → Int32) (p0 : Int32) (p1 : Int32) (p2 : Int32) (post : Int32 → Prop) : Prop :=
  (vp_in p0 8 ∧ ((¬ p1 = 0 → (wp_Cell_yOf ce_middleY ce_shiftY (sm_x1 p0.toNatClampNeg) (sm_y1 p0.toNatClampNeg) p2 (fun r_3 => (post r_3)))) ∧ (p1 = 0 → (wp_Cell_yOf ce_middleY ce_shiftY (sm_x0 p0.toNatClampNeg) (sm_y0 p0.toNatClampNeg) p2 (fun r_4 => (post r_4))))))
abbrev rm_Part_endY : Room := { frames := 1, cells := 0, slots := 0, locals := 24 }
set_option maxHeartbeats 4000000 in
set_option maxRecDepth 100000 in
theorem c_Part_endY (l : Launch) (D : va_G) (κ : KT) (h_ce : Nat) (h_ce_barX0 : Nat) (h_ce_barY0 : Nat) (h_ce_barX1 : Nat) (h_ce_barY1 : Nat) (h_pt : Nat) (h_pt_seams : Nat) (h_sm : Nat → Nat) (ce_middleX : Int32) (ce_middleY : Int32) (ce_shiftX : Int32) (ce_shiftY : Int32) (ce_linkA : Int32) (ce_linkB : Int32) (ce_flatness : Int32) (ce_barCount : Int32) (pt_count : Int32) (pt_gap : Int32) (sm_x0 : Nat → Int32) (sm_y0 : Nat → Int32) (sm_x1 : Nat → Int32) (sm_y1 : Nat → Int32) (sm_length : Nat → Int32) (sm_time : Nat → Int32) (sm_heat : Nat → Int32) (p0 : Int32) (p1 : Int32) (p2 : Int32) (post : Int32 → Prop) (h : wp_Part_endY ce_middleY ce_shiftY sm_x0 sm_y0 sm_x1 sm_y1 p0 p1 p2 post) : Met l y_Part_endY (wsG y_Part_endY b_Part_endY 5 (some .int)) rm_Part_endY (PP D κ [.ref h_pt, .int p0, .int p1, .int p2] [(h_ce, .inr (1, [.int ce_middleX, .int ce_middleY, .int ce_shiftX, .int ce_shiftY, .int ce_linkA, .int ce_linkB, .int ce_flatness, .int ce_barCount, .ref h_ce_barX0, .ref h_ce_barY0, .ref h_ce_barX1, .ref h_ce_barY1])), (h_pt, .inr (4, [.ref h_ce, .ref h_pt_seams, .int pt_count, .int pt_gap])), (h_pt_seams, cS κ 8 (fun i => some (h_sm i))), (h_sm 0, .inr (6, [.int (sm_x0 0), .int (sm_y0 0), .int (sm_x1 0), .int (sm_y1 0), .int (sm_length 0), .int (sm_time 0), .int (sm_heat 0)])), (h_sm 1, .inr (6, [.int (sm_x0 1), .int (sm_y0 1), .int (sm_x1 1), .int (sm_y1 1), .int (sm_length 1), .int (sm_time 1), .int (sm_heat 1)])), (h_sm 2, .inr (6, [.int (sm_x0 2), .int (sm_y0 2), .int (sm_x1 2), .int (sm_y1 2), .int (sm_length 2), .int (sm_time 2), .int (sm_heat 2)])), (h_sm 3, .inr (6, [.int (sm_x0 3), .int (sm_y0 3), .int (sm_x1 3), .int (sm_y1 3), .int (sm_length 3), .int (sm_time 3), .int (sm_heat 3)])), (h_sm 4, .inr (6, [.int (sm_x0 4), .int (sm_y0 4), .int (sm_x1 4), .int (sm_y1 4), .int (sm_length 4), .int (sm_time 4), .int (sm_heat 4)])), (h_sm 5, .inr (6, [.int (sm_x0 5), .int (sm_y0 5), .int (sm_x1 5), .int (sm_y1 5), .int (sm_length 5), .int (sm_time 5), .int (sm_heat 5)])), (h_sm 6, .inr (6, [.int (sm_x0 6), .int (sm_y0 6), .int (sm_x1 6), .int (sm_y1 6), .int (sm_length 6), .int (sm_time 6), .int (sm_heat 6)])), (h_sm 7, .inr (6, [.int (sm_x0 7), .int (sm_y0 7), .int (sm_x1 7), .int (sm_y1 7), .int (sm_length 7), .int (sm_time 7), .int (sm_heat 7)]))]) (vp_Si post) 0 0 (fun _ => False) := by
  refine zp_start [(0, .ref h_pt), (1, .int p0), (2, .int p1), (3, .int p2)] rfl (Nat.le_of_ble_eq_true rfl) rfl ?_
  intro p e s m args below meth c C hr hlk
  unfold wp_Part_endY at h
  refine z_aload C d_Part_endY_0 0 rfl ?_
  refine z_get C fl_Part_11 1 rfl rfl d_Part_endY_1 ?_
  refine z_iload C d_Part_endY_4 1 rfl ?_
  have a_1 := h.1
  refine z_aald C 2 rfl a_1 rfl d_Part_endY_5 ?_
  replace h := h.2
  refine z_astore C [(4, .ref (h_sm (p0.toNatClampNeg))), (0, .ref h_pt), (1, .int p0), (2, .int p1), (3, .int p2)] d_Part_endY_6 rfl rfl ?_
  refine z_iload C d_Part_endY_8 3 rfl ?_
  refine z_if_ne C d_Part_endY_9 (fun c_2 => ?_) (fun c_2 => ?_)
  · replace h := h.1 c_2
    refine z_aload C d_Part_endY_33 1 rfl ?_
    refine z_get C fl_Part_21 1 rfl rfl d_Part_endY_34 ?_
    refine z_aload C d_Part_endY_37 0 rfl ?_
    refine z_getP8 C fl_Part_41 3 h_sm (fun j => [.int (sm_x0 j), .int (sm_y0 j), .int (sm_x1 j), .int (sm_y1 j), .int (sm_length j), .int (sm_time j), .int (sm_heat j)]) p0.toNatClampNeg (vp_lt a_1) rfl rfl rfl rfl rfl rfl rfl rfl rfl d_Part_endY_39 ?_
    refine z_aload C d_Part_endY_42 0 rfl ?_
    refine z_getP8 C fl_Part_44 3 h_sm (fun j => [.int (sm_x0 j), .int (sm_y0 j), .int (sm_x1 j), .int (sm_y1 j), .int (sm_length j), .int (sm_time j), .int (sm_heat j)]) p0.toNatClampNeg (vp_lt a_1) rfl rfl rfl rfl rfl rfl rfl rfl rfl d_Part_endY_44 ?_
    refine z_iload C d_Part_endY_47 4 rfl ?_
    refine z_vpi C (rest := []) (c_Cell_yOf l D κ h_ce h_ce_barX0 h_ce_barY0 h_ce_barX1 h_ce_barY1 ce_middleX ce_middleY ce_shiftX ce_shiftY ce_linkA ce_linkB ce_flatness ce_barCount (sm_x1 p0.toNatClampNeg) (sm_y1 p0.toNatClampNeg) p2 _ h) cv_Part_47 ⟨rfl, rfl⟩ ⟨⟨Nat.le_of_ble_eq_true rfl, Nat.le_of_ble_eq_true rfl⟩, Nat.le_of_ble_eq_true rfl, Nat.le_of_ble_eq_true rfl⟩ 0 rfl [0] rfl rfl rfl (Nat.le_of_ble_eq_true rfl) d_Part_endY_48 (fun r_3 h => ?_)
    exact zp_iret C hr hlk d_Part_endY_51 h
  · replace h := h.2 c_2
    refine z_aload C d_Part_endY_12 1 rfl ?_
    refine z_get C fl_Part_21 1 rfl rfl d_Part_endY_13 ?_
    refine z_aload C d_Part_endY_16 0 rfl ?_
    refine z_getP8 C fl_Part_29 3 h_sm (fun j => [.int (sm_x0 j), .int (sm_y0 j), .int (sm_x1 j), .int (sm_y1 j), .int (sm_length j), .int (sm_time j), .int (sm_heat j)]) p0.toNatClampNeg (vp_lt a_1) rfl rfl rfl rfl rfl rfl rfl rfl rfl d_Part_endY_18 ?_
    refine z_aload C d_Part_endY_21 0 rfl ?_
    refine z_getP8 C fl_Part_32 3 h_sm (fun j => [.int (sm_x0 j), .int (sm_y0 j), .int (sm_x1 j), .int (sm_y1 j), .int (sm_length j), .int (sm_time j), .int (sm_heat j)]) p0.toNatClampNeg (vp_lt a_1) rfl rfl rfl rfl rfl rfl rfl rfl rfl d_Part_endY_23 ?_
    refine z_iload C d_Part_endY_26 4 rfl ?_
    refine z_vpi C (rest := []) (c_Cell_yOf l D κ h_ce h_ce_barX0 h_ce_barY0 h_ce_barX1 h_ce_barY1 ce_middleX ce_middleY ce_shiftX ce_shiftY ce_linkA ce_linkB ce_flatness ce_barCount (sm_x0 p0.toNatClampNeg) (sm_y0 p0.toNatClampNeg) p2 _ h) cv_Part_47 ⟨rfl, rfl⟩ ⟨⟨Nat.le_of_ble_eq_true rfl, Nat.le_of_ble_eq_true rfl⟩, Nat.le_of_ble_eq_true rfl, Nat.le_of_ble_eq_true rfl⟩ 0 rfl [0] rfl rfl rfl (Nat.le_of_ble_eq_true rfl) d_Part_endY_27 (fun r_4 h => ?_)
    refine z_goto C d_Part_endY_30 ?_
    exact zp_iret C hr hlk d_Part_endY_51 h
def wp_Part_lacksAt (ce_middleX : Int32) (ce_middleY : Int32) (ce_shiftX : Int32) (ce_shiftY : Int32) (ce_linkA : Int32) (ce_linkB : Int32) (ce_flatness : Int32) (ce_barCount : Int32) (ce_barX0 : Nat → Int32) (ce_barY0 : Nat → Int32) (ce_barX1 : Nat → Int32) (ce_barY1 : Nat → Int32) (sm_x0 : Nat → Int32) (sm_y0 : Nat → Int32) (sm_x1 : Nat → Int32) (sm_y1 : Nat → Int32) (p0 : Int32) (p1 : Int32) (post : Int32 → Prop) : Prop :=
  (wp_Part_endX ce_middleX ce_shiftX sm_x0 sm_y0 sm_x1 sm_y1 p0 (0 : Int32) p1 (fun r_1 => (wp_Part_endY ce_middleY ce_shiftY sm_x0 sm_y0 sm_x1 sm_y1 p0 (0 : Int32) p1 (fun r_2 => (wp_Part_endX ce_middleX ce_shiftX sm_x0 sm_y0 sm_x1 sm_y1 p0 (1 : Int32) p1 (fun r_3 => (wp_Part_endY ce_middleY ce_shiftY sm_x0 sm_y0 sm_x1 sm_y1 p0 (1 : Int32) p1 (fun r_4 => (wp_Cell_isWithin ce_linkA ce_linkB r_1 r_2 r_3 r_4 (fun r_5 => ((¬ r_5 = 0 → (wp_Cell_isFree ce_barCount ce_barX0 ce_barY0 ce_barX1 ce_barY1 r_1 r_2 r_3 r_4 (fun r_7 => ((¬ r_7 = 0 → (wp_Cell_isFlat ce_flatness r_1 r_2 r_3 r_4 (fun r_9 => ((¬ r_9 = 0 → (post (0 : Int32))) ∧ (r_9 = 0 → (∀ x7_11 : Int32, x7_11 = (0 : Int32) + (4 : Int32) → (post x7_11))))))) ∧ (r_7 = 0 → (∀ x7_12 : Int32, x7_12 = (0 : Int32) + (2 : Int32) → (wp_Cell_isFlat ce_flatness r_1 r_2 r_3 r_4 (fun r_13 => ((¬ r_13 = 0 → (post x7_12)) ∧ (r_13 = 0 → (∀ x7_15 : Int32, x7_15 = x7_12 + (4 : Int32) → (post x7_15)))))))))))) ∧ (r_5 = 0 → (∀ x7_16 : Int32, x7_16 = (0 : Int32) + (1 : Int32) → (wp_Cell_isFree ce_barCount ce_barX0 ce_barY0 ce_barX1 ce_barY1 r_1 r_2 r_3 r_4 (fun r_17 => ((¬ r_17 = 0 → (wp_Cell_isFlat ce_flatness r_1 r_2 r_3 r_4 (fun r_19 => ((¬ r_19 = 0 → (post x7_16)) ∧ (r_19 = 0 → (∀ x7_21 : Int32, x7_21 = x7_16 + (4 : Int32) → (post x7_21))))))) ∧ (r_17 = 0 → (∀ x7_22 : Int32, x7_22 = x7_16 + (2 : Int32) → (wp_Cell_isFlat ce_flatness r_1 r_2 r_3 r_4 (fun r_23 => ((¬ r_23 = 0 → (post x7_22)) ∧ (r_23 = 0 → (∀ x7_25 : Int32, x7_25 = x7_22 + (4 : Int32) → (post x7_25))))))))))))))))))))))))
abbrev rm_Part_lacksAt : Room := { frames := 3, cells := 0, slots := 0, locals := 79 }
set_option maxHeartbeats 4000000 in
set_option maxRecDepth 100000 in
theorem c_Part_lacksAt (l : Launch) (D : va_G) (κ : KT) (h_ce : Nat) (h_ce_barX0 : Nat) (h_ce_barY0 : Nat) (h_ce_barX1 : Nat) (h_ce_barY1 : Nat) (h_pt : Nat) (h_pt_seams : Nat) (h_sm : Nat → Nat) (ce_middleX : Int32) (ce_middleY : Int32) (ce_shiftX : Int32) (ce_shiftY : Int32) (ce_linkA : Int32) (ce_linkB : Int32) (ce_flatness : Int32) (ce_barCount : Int32) (ce_barX0 : Nat → Int32) (ce_barY0 : Nat → Int32) (ce_barX1 : Nat → Int32) (ce_barY1 : Nat → Int32) (pt_count : Int32) (pt_gap : Int32) (sm_x0 : Nat → Int32) (sm_y0 : Nat → Int32) (sm_x1 : Nat → Int32) (sm_y1 : Nat → Int32) (sm_length : Nat → Int32) (sm_time : Nat → Int32) (sm_heat : Nat → Int32) (p0 : Int32) (p1 : Int32) (post : Int32 → Prop) (h : wp_Part_lacksAt ce_middleX ce_middleY ce_shiftX ce_shiftY ce_linkA ce_linkB ce_flatness ce_barCount ce_barX0 ce_barY0 ce_barX1 ce_barY1 sm_x0 sm_y0 sm_x1 sm_y1 p0 p1 post) : Met l y_Part_lacksAt (wsG y_Part_lacksAt b_Part_lacksAt 8 (some .int)) rm_Part_lacksAt (PP D κ [.ref h_pt, .int p0, .int p1] [(h_ce, .inr (1, [.int ce_middleX, .int ce_middleY, .int ce_shiftX, .int ce_shiftY, .int ce_linkA, .int ce_linkB, .int ce_flatness, .int ce_barCount, .ref h_ce_barX0, .ref h_ce_barY0, .ref h_ce_barX1, .ref h_ce_barY1])), (h_ce_barX0, cI κ 4 ce_barX0), (h_ce_barY0, cI κ 4 ce_barY0), (h_ce_barX1, cI κ 4 ce_barX1), (h_ce_barY1, cI κ 4 ce_barY1), (h_pt, .inr (4, [.ref h_ce, .ref h_pt_seams, .int pt_count, .int pt_gap])), (h_pt_seams, cS κ 8 (fun i => some (h_sm i))), (h_sm 0, .inr (6, [.int (sm_x0 0), .int (sm_y0 0), .int (sm_x1 0), .int (sm_y1 0), .int (sm_length 0), .int (sm_time 0), .int (sm_heat 0)])), (h_sm 1, .inr (6, [.int (sm_x0 1), .int (sm_y0 1), .int (sm_x1 1), .int (sm_y1 1), .int (sm_length 1), .int (sm_time 1), .int (sm_heat 1)])), (h_sm 2, .inr (6, [.int (sm_x0 2), .int (sm_y0 2), .int (sm_x1 2), .int (sm_y1 2), .int (sm_length 2), .int (sm_time 2), .int (sm_heat 2)])), (h_sm 3, .inr (6, [.int (sm_x0 3), .int (sm_y0 3), .int (sm_x1 3), .int (sm_y1 3), .int (sm_length 3), .int (sm_time 3), .int (sm_heat 3)])), (h_sm 4, .inr (6, [.int (sm_x0 4), .int (sm_y0 4), .int (sm_x1 4), .int (sm_y1 4), .int (sm_length 4), .int (sm_time 4), .int (sm_heat 4)])), (h_sm 5, .inr (6, [.int (sm_x0 5), .int (sm_y0 5), .int (sm_x1 5), .int (sm_y1 5), .int (sm_length 5), .int (sm_time 5), .int (sm_heat 5)])), (h_sm 6, .inr (6, [.int (sm_x0 6), .int (sm_y0 6), .int (sm_x1 6), .int (sm_y1 6), .int (sm_length 6), .int (sm_time 6), .int (sm_heat 6)])), (h_sm 7, .inr (6, [.int (sm_x0 7), .int (sm_y0 7), .int (sm_x1 7), .int (sm_y1 7), .int (sm_length 7), .int (sm_time 7), .int (sm_heat 7)]))]) (vp_Si post) 0 0 (fun _ => False) := by
  refine zp_start [(0, .ref h_pt), (1, .int p0), (2, .int p1)] rfl (Nat.le_of_ble_eq_true rfl) rfl ?_
  intro p e s m args below meth c C hr hlk
  unfold wp_Part_lacksAt at h
  refine z_aload C d_Part_lacksAt_0 0 rfl ?_
  refine z_iload C d_Part_lacksAt_1 1 rfl ?_
  refine z_k C d_Part_lacksAt_2 ?_
  refine z_iload C d_Part_lacksAt_3 2 rfl ?_
  refine z_vpi C (rest := []) (c_Part_endX l D κ h_ce h_ce_barX0 h_ce_barY0 h_ce_barX1 h_ce_barY1 h_pt h_pt_seams h_sm ce_middleX ce_middleY ce_shiftX ce_shiftY ce_linkA ce_linkB ce_flatness ce_barCount pt_count pt_gap sm_x0 sm_y0 sm_x1 sm_y1 sm_length sm_time sm_heat p0 (0 : Int32) p1 _ h) cv_Part_50 ⟨rfl, rfl⟩ ⟨⟨Nat.le_of_ble_eq_true rfl, Nat.le_of_ble_eq_true rfl⟩, Nat.le_of_ble_eq_true rfl, Nat.le_of_ble_eq_true rfl⟩ 5 rfl [0, 5, 6, 7, 8, 9, 10, 11, 12, 13, 14] rfl rfl rfl (Nat.le_of_ble_eq_true rfl) d_Part_lacksAt_4 (fun r_1 h => ?_)
  refine z_istore C [(3, .int r_1), (0, .ref h_pt), (1, .int p0), (2, .int p1)] d_Part_lacksAt_7 rfl rfl ?_
  refine z_aload C d_Part_lacksAt_8 1 rfl ?_
  refine z_iload C d_Part_lacksAt_9 2 rfl ?_
  refine z_k C d_Part_lacksAt_10 ?_
  refine z_iload C d_Part_lacksAt_11 3 rfl ?_
  refine z_vpi C (rest := []) (c_Part_endY l D κ h_ce h_ce_barX0 h_ce_barY0 h_ce_barX1 h_ce_barY1 h_pt h_pt_seams h_sm ce_middleX ce_middleY ce_shiftX ce_shiftY ce_linkA ce_linkB ce_flatness ce_barCount pt_count pt_gap sm_x0 sm_y0 sm_x1 sm_y1 sm_length sm_time sm_heat p0 (0 : Int32) p1 _ h) cv_Part_53 ⟨rfl, rfl⟩ ⟨⟨Nat.le_of_ble_eq_true rfl, Nat.le_of_ble_eq_true rfl⟩, Nat.le_of_ble_eq_true rfl, Nat.le_of_ble_eq_true rfl⟩ 5 rfl [0, 5, 6, 7, 8, 9, 10, 11, 12, 13, 14] rfl rfl rfl (Nat.le_of_ble_eq_true rfl) d_Part_lacksAt_12 (fun r_2 h => ?_)
  refine z_istore C [(4, .int r_2), (3, .int r_1), (0, .ref h_pt), (1, .int p0), (2, .int p1)] d_Part_lacksAt_15 rfl rfl ?_
  refine z_aload C d_Part_lacksAt_17 2 rfl ?_
  refine z_iload C d_Part_lacksAt_18 3 rfl ?_
  refine z_k C d_Part_lacksAt_19 ?_
  refine z_iload C d_Part_lacksAt_20 4 rfl ?_
  refine z_vpi C (rest := []) (c_Part_endX l D κ h_ce h_ce_barX0 h_ce_barY0 h_ce_barX1 h_ce_barY1 h_pt h_pt_seams h_sm ce_middleX ce_middleY ce_shiftX ce_shiftY ce_linkA ce_linkB ce_flatness ce_barCount pt_count pt_gap sm_x0 sm_y0 sm_x1 sm_y1 sm_length sm_time sm_heat p0 (1 : Int32) p1 _ h) cv_Part_50 ⟨rfl, rfl⟩ ⟨⟨Nat.le_of_ble_eq_true rfl, Nat.le_of_ble_eq_true rfl⟩, Nat.le_of_ble_eq_true rfl, Nat.le_of_ble_eq_true rfl⟩ 5 rfl [0, 5, 6, 7, 8, 9, 10, 11, 12, 13, 14] rfl rfl rfl (Nat.le_of_ble_eq_true rfl) d_Part_lacksAt_21 (fun r_3 h => ?_)
  refine z_istore C [(5, .int r_3), (4, .int r_2), (3, .int r_1), (0, .ref h_pt), (1, .int p0), (2, .int p1)] d_Part_lacksAt_24 rfl rfl ?_
  refine z_aload C d_Part_lacksAt_26 3 rfl ?_
  refine z_iload C d_Part_lacksAt_27 4 rfl ?_
  refine z_k C d_Part_lacksAt_28 ?_
  refine z_iload C d_Part_lacksAt_29 5 rfl ?_
  refine z_vpi C (rest := []) (c_Part_endY l D κ h_ce h_ce_barX0 h_ce_barY0 h_ce_barX1 h_ce_barY1 h_pt h_pt_seams h_sm ce_middleX ce_middleY ce_shiftX ce_shiftY ce_linkA ce_linkB ce_flatness ce_barCount pt_count pt_gap sm_x0 sm_y0 sm_x1 sm_y1 sm_length sm_time sm_heat p0 (1 : Int32) p1 _ h) cv_Part_53 ⟨rfl, rfl⟩ ⟨⟨Nat.le_of_ble_eq_true rfl, Nat.le_of_ble_eq_true rfl⟩, Nat.le_of_ble_eq_true rfl, Nat.le_of_ble_eq_true rfl⟩ 5 rfl [0, 5, 6, 7, 8, 9, 10, 11, 12, 13, 14] rfl rfl rfl (Nat.le_of_ble_eq_true rfl) d_Part_lacksAt_30 (fun r_4 h => ?_)
  refine z_istore C [(6, .int r_4), (5, .int r_3), (4, .int r_2), (3, .int r_1), (0, .ref h_pt), (1, .int p0), (2, .int p1)] d_Part_lacksAt_33 rfl rfl ?_
  refine z_k C d_Part_lacksAt_35 ?_
  refine z_istore C [(7, .int (0 : Int32)), (6, .int r_4), (5, .int r_3), (4, .int r_2), (3, .int r_1), (0, .ref h_pt), (1, .int p0), (2, .int p1)] d_Part_lacksAt_36 rfl rfl ?_
  refine z_aload C d_Part_lacksAt_38 5 rfl ?_
  refine z_get C fl_Part_21 5 rfl rfl d_Part_lacksAt_39 ?_
  refine z_iload C d_Part_lacksAt_42 4 rfl ?_
  refine z_iload C d_Part_lacksAt_43 3 rfl ?_
  refine z_iload C d_Part_lacksAt_45 2 rfl ?_
  refine z_iload C d_Part_lacksAt_47 1 rfl ?_
  refine z_vpi C (rest := []) (c_Cell_isWithin l D κ h_ce h_ce_barX0 h_ce_barY0 h_ce_barX1 h_ce_barY1 ce_middleX ce_middleY ce_shiftX ce_shiftY ce_linkA ce_linkB ce_flatness ce_barCount r_1 r_2 r_3 r_4 _ h) cv_Part_56 ⟨rfl, rfl⟩ ⟨⟨Nat.le_of_ble_eq_true rfl, Nat.le_of_ble_eq_true rfl⟩, Nat.le_of_ble_eq_true rfl, Nat.le_of_ble_eq_true rfl⟩ 0 rfl [0] rfl rfl rfl (Nat.le_of_ble_eq_true rfl) d_Part_lacksAt_49 (fun r_5 h => ?_)
  refine z_if_ne C d_Part_lacksAt_52 (fun c_6 => ?_) (fun c_6 => ?_)
  · replace h := h.1 c_6
    refine z_aload C d_Part_lacksAt_58 5 rfl ?_
    refine z_get C fl_Part_21 5 rfl rfl d_Part_lacksAt_59 ?_
    refine z_iload C d_Part_lacksAt_62 4 rfl ?_
    refine z_iload C d_Part_lacksAt_63 3 rfl ?_
    refine z_iload C d_Part_lacksAt_65 2 rfl ?_
    refine z_iload C d_Part_lacksAt_67 1 rfl ?_
    refine z_vpi C (rest := []) (c_Cell_isFree l D κ h_ce h_ce_barX0 h_ce_barY0 h_ce_barX1 h_ce_barY1 ce_middleX ce_middleY ce_shiftX ce_shiftY ce_linkA ce_linkB ce_flatness ce_barCount ce_barX0 ce_barY0 ce_barX1 ce_barY1 r_1 r_2 r_3 r_4 _ h) cv_Part_60 ⟨rfl, rfl⟩ ⟨⟨Nat.le_of_ble_eq_true rfl, Nat.le_of_ble_eq_true rfl⟩, Nat.le_of_ble_eq_true rfl, Nat.le_of_ble_eq_true rfl⟩ 0 rfl [0, 1, 2, 3, 4] rfl rfl rfl (Nat.le_of_ble_eq_true rfl) d_Part_lacksAt_69 (fun r_7 h => ?_)
    refine z_if_ne C d_Part_lacksAt_72 (fun c_8 => ?_) (fun c_8 => ?_)
    · replace h := h.1 c_8
      refine z_aload C d_Part_lacksAt_78 5 rfl ?_
      refine z_get C fl_Part_21 5 rfl rfl d_Part_lacksAt_79 ?_
      refine z_iload C d_Part_lacksAt_82 4 rfl ?_
      refine z_iload C d_Part_lacksAt_83 3 rfl ?_
      refine z_iload C d_Part_lacksAt_85 2 rfl ?_
      refine z_iload C d_Part_lacksAt_87 1 rfl ?_
      refine z_vpi C (rest := []) (c_Cell_isFlat l D κ h_ce h_ce_barX0 h_ce_barY0 h_ce_barX1 h_ce_barY1 ce_middleX ce_middleY ce_shiftX ce_shiftY ce_linkA ce_linkB ce_flatness ce_barCount r_1 r_2 r_3 r_4 _ h) cv_Part_63 ⟨rfl, rfl⟩ ⟨⟨Nat.le_of_ble_eq_true rfl, Nat.le_of_ble_eq_true rfl⟩, Nat.le_of_ble_eq_true rfl, Nat.le_of_ble_eq_true rfl⟩ 0 rfl [0] rfl rfl rfl (Nat.le_of_ble_eq_true rfl) d_Part_lacksAt_89 (fun r_9 h => ?_)
      refine z_if_ne C d_Part_lacksAt_92 (fun c_10 => ?_) (fun c_10 => ?_)
      · replace h := h.1 c_10
        refine z_iload C d_Part_lacksAt_98 0 rfl ?_
        exact zp_iret C hr hlk d_Part_lacksAt_100 h
      · replace h := h.2 c_10
        obtain ⟨x7_11, ex7_11⟩ : ∃ y : Int32, y = (0 : Int32) + (4 : Int32) := ⟨_, rfl⟩
        replace h := h x7_11 ex7_11
        refine z_iinc C [(7, .int x7_11), (6, .int r_4), (5, .int r_3), (4, .int r_2), (3, .int r_1), (0, .ref h_pt), (1, .int p0), (2, .int p1)] d_Part_lacksAt_95 (j := 0) rfl (by rw [ex7_11]; rfl) rfl rfl ?_
        refine z_iload C d_Part_lacksAt_98 0 rfl ?_
        exact zp_iret C hr hlk d_Part_lacksAt_100 h
    · replace h := h.2 c_8
      obtain ⟨x7_12, ex7_12⟩ : ∃ y : Int32, y = (0 : Int32) + (2 : Int32) := ⟨_, rfl⟩
      replace h := h x7_12 ex7_12
      refine z_iinc C [(7, .int x7_12), (6, .int r_4), (5, .int r_3), (4, .int r_2), (3, .int r_1), (0, .ref h_pt), (1, .int p0), (2, .int p1)] d_Part_lacksAt_75 (j := 0) rfl (by rw [ex7_12]; rfl) rfl rfl ?_
      refine z_aload C d_Part_lacksAt_78 5 rfl ?_
      refine z_get C fl_Part_21 5 rfl rfl d_Part_lacksAt_79 ?_
      refine z_iload C d_Part_lacksAt_82 4 rfl ?_
      refine z_iload C d_Part_lacksAt_83 3 rfl ?_
      refine z_iload C d_Part_lacksAt_85 2 rfl ?_
      refine z_iload C d_Part_lacksAt_87 1 rfl ?_
      refine z_vpi C (rest := []) (c_Cell_isFlat l D κ h_ce h_ce_barX0 h_ce_barY0 h_ce_barX1 h_ce_barY1 ce_middleX ce_middleY ce_shiftX ce_shiftY ce_linkA ce_linkB ce_flatness ce_barCount r_1 r_2 r_3 r_4 _ h) cv_Part_63 ⟨rfl, rfl⟩ ⟨⟨Nat.le_of_ble_eq_true rfl, Nat.le_of_ble_eq_true rfl⟩, Nat.le_of_ble_eq_true rfl, Nat.le_of_ble_eq_true rfl⟩ 0 rfl [0] rfl rfl rfl (Nat.le_of_ble_eq_true rfl) d_Part_lacksAt_89 (fun r_13 h => ?_)
      refine z_if_ne C d_Part_lacksAt_92 (fun c_14 => ?_) (fun c_14 => ?_)
      · replace h := h.1 c_14
        refine z_iload C d_Part_lacksAt_98 0 rfl ?_
        exact zp_iret C hr hlk d_Part_lacksAt_100 h
      · replace h := h.2 c_14
        obtain ⟨x7_15, ex7_15⟩ : ∃ y : Int32, y = x7_12 + (4 : Int32) := ⟨_, rfl⟩
        replace h := h x7_15 ex7_15
        refine z_iinc C [(7, .int x7_15), (6, .int r_4), (5, .int r_3), (4, .int r_2), (3, .int r_1), (0, .ref h_pt), (1, .int p0), (2, .int p1)] d_Part_lacksAt_95 (j := 0) rfl (by rw [ex7_15]; rfl) rfl rfl ?_
        refine z_iload C d_Part_lacksAt_98 0 rfl ?_
        exact zp_iret C hr hlk d_Part_lacksAt_100 h
  · replace h := h.2 c_6
    obtain ⟨x7_16, ex7_16⟩ : ∃ y : Int32, y = (0 : Int32) + (1 : Int32) := ⟨_, rfl⟩
    replace h := h x7_16 ex7_16
    refine z_iinc C [(7, .int x7_16), (6, .int r_4), (5, .int r_3), (4, .int r_2), (3, .int r_1), (0, .ref h_pt), (1, .int p0), (2, .int p1)] d_Part_lacksAt_55 (j := 0) rfl (by rw [ex7_16]; rfl) rfl rfl ?_
    refine z_aload C d_Part_lacksAt_58 5 rfl ?_
    refine z_get C fl_Part_21 5 rfl rfl d_Part_lacksAt_59 ?_
    refine z_iload C d_Part_lacksAt_62 4 rfl ?_
    refine z_iload C d_Part_lacksAt_63 3 rfl ?_
    refine z_iload C d_Part_lacksAt_65 2 rfl ?_
    refine z_iload C d_Part_lacksAt_67 1 rfl ?_
    refine z_vpi C (rest := []) (c_Cell_isFree l D κ h_ce h_ce_barX0 h_ce_barY0 h_ce_barX1 h_ce_barY1 ce_middleX ce_middleY ce_shiftX ce_shiftY ce_linkA ce_linkB ce_flatness ce_barCount ce_barX0 ce_barY0 ce_barX1 ce_barY1 r_1 r_2 r_3 r_4 _ h) cv_Part_60 ⟨rfl, rfl⟩ ⟨⟨Nat.le_of_ble_eq_true rfl, Nat.le_of_ble_eq_true rfl⟩, Nat.le_of_ble_eq_true rfl, Nat.le_of_ble_eq_true rfl⟩ 0 rfl [0, 1, 2, 3, 4] rfl rfl rfl (Nat.le_of_ble_eq_true rfl) d_Part_lacksAt_69 (fun r_17 h => ?_)
    refine z_if_ne C d_Part_lacksAt_72 (fun c_18 => ?_) (fun c_18 => ?_)
    · replace h := h.1 c_18
      refine z_aload C d_Part_lacksAt_78 5 rfl ?_
      refine z_get C fl_Part_21 5 rfl rfl d_Part_lacksAt_79 ?_
      refine z_iload C d_Part_lacksAt_82 4 rfl ?_
      refine z_iload C d_Part_lacksAt_83 3 rfl ?_
      refine z_iload C d_Part_lacksAt_85 2 rfl ?_
      refine z_iload C d_Part_lacksAt_87 1 rfl ?_
      refine z_vpi C (rest := []) (c_Cell_isFlat l D κ h_ce h_ce_barX0 h_ce_barY0 h_ce_barX1 h_ce_barY1 ce_middleX ce_middleY ce_shiftX ce_shiftY ce_linkA ce_linkB ce_flatness ce_barCount r_1 r_2 r_3 r_4 _ h) cv_Part_63 ⟨rfl, rfl⟩ ⟨⟨Nat.le_of_ble_eq_true rfl, Nat.le_of_ble_eq_true rfl⟩, Nat.le_of_ble_eq_true rfl, Nat.le_of_ble_eq_true rfl⟩ 0 rfl [0] rfl rfl rfl (Nat.le_of_ble_eq_true rfl) d_Part_lacksAt_89 (fun r_19 h => ?_)
      refine z_if_ne C d_Part_lacksAt_92 (fun c_20 => ?_) (fun c_20 => ?_)
      · replace h := h.1 c_20
        refine z_iload C d_Part_lacksAt_98 0 rfl ?_
        exact zp_iret C hr hlk d_Part_lacksAt_100 h
      · replace h := h.2 c_20
        obtain ⟨x7_21, ex7_21⟩ : ∃ y : Int32, y = x7_16 + (4 : Int32) := ⟨_, rfl⟩
        replace h := h x7_21 ex7_21
        refine z_iinc C [(7, .int x7_21), (6, .int r_4), (5, .int r_3), (4, .int r_2), (3, .int r_1), (0, .ref h_pt), (1, .int p0), (2, .int p1)] d_Part_lacksAt_95 (j := 0) rfl (by rw [ex7_21]; rfl) rfl rfl ?_
        refine z_iload C d_Part_lacksAt_98 0 rfl ?_
        exact zp_iret C hr hlk d_Part_lacksAt_100 h
    · replace h := h.2 c_18
      obtain ⟨x7_22, ex7_22⟩ : ∃ y : Int32, y = x7_16 + (2 : Int32) := ⟨_, rfl⟩
      replace h := h x7_22 ex7_22
      refine z_iinc C [(7, .int x7_22), (6, .int r_4), (5, .int r_3), (4, .int r_2), (3, .int r_1), (0, .ref h_pt), (1, .int p0), (2, .int p1)] d_Part_lacksAt_75 (j := 0) rfl (by rw [ex7_22]; rfl) rfl rfl ?_
      refine z_aload C d_Part_lacksAt_78 5 rfl ?_
      refine z_get C fl_Part_21 5 rfl rfl d_Part_lacksAt_79 ?_
      refine z_iload C d_Part_lacksAt_82 4 rfl ?_
      refine z_iload C d_Part_lacksAt_83 3 rfl ?_
      refine z_iload C d_Part_lacksAt_85 2 rfl ?_
      refine z_iload C d_Part_lacksAt_87 1 rfl ?_
      refine z_vpi C (rest := []) (c_Cell_isFlat l D κ h_ce h_ce_barX0 h_ce_barY0 h_ce_barX1 h_ce_barY1 ce_middleX ce_middleY ce_shiftX ce_shiftY ce_linkA ce_linkB ce_flatness ce_barCount r_1 r_2 r_3 r_4 _ h) cv_Part_63 ⟨rfl, rfl⟩ ⟨⟨Nat.le_of_ble_eq_true rfl, Nat.le_of_ble_eq_true rfl⟩, Nat.le_of_ble_eq_true rfl, Nat.le_of_ble_eq_true rfl⟩ 0 rfl [0] rfl rfl rfl (Nat.le_of_ble_eq_true rfl) d_Part_lacksAt_89 (fun r_23 h => ?_)
      refine z_if_ne C d_Part_lacksAt_92 (fun c_24 => ?_) (fun c_24 => ?_)
      · replace h := h.1 c_24
        refine z_iload C d_Part_lacksAt_98 0 rfl ?_
        exact zp_iret C hr hlk d_Part_lacksAt_100 h
      · replace h := h.2 c_24
        obtain ⟨x7_25, ex7_25⟩ : ∃ y : Int32, y = x7_22 + (4 : Int32) := ⟨_, rfl⟩
        replace h := h x7_25 ex7_25
        refine z_iinc C [(7, .int x7_25), (6, .int r_4), (5, .int r_3), (4, .int r_2), (3, .int r_1), (0, .ref h_pt), (1, .int p0), (2, .int p1)] d_Part_lacksAt_95 (j := 0) rfl (by rw [ex7_25]; rfl) rfl rfl ?_
        refine z_iload C d_Part_lacksAt_98 0 rfl ?_
        exact zp_iret C hr hlk d_Part_lacksAt_100 h
def wpB_Part_quarterOf_2 (ce_middleX : Int32) (ce_middleY : Int32) (ce_shiftX : Int32) (ce_shiftY : Int32) (ce_linkA : Int32) (ce_linkB : Int32) (ce_flatness : Int32) (ce_barCount : Int32) (ce_barX0 : Nat → Int32) (ce_barY0 : Nat → Int32) (ce_barX1 : Nat → Int32) (ce_barY1 : Nat → Int32) (sm_x0 : Nat → Int32) (sm_y0 : Nat → Int32) (sm_x1 : Nat → Int32) (sm_y1 : Nat → Int32) (p0 : Int32) (post : Int32 → Prop) (ih_2 : Int32 → Prop) (x2_1 : Int32) : Prop :=
  (((4 : Int32) ≤ x2_1 → (post (-6 : Int32))) ∧ (¬ (4 : Int32) ≤ x2_1 → (wp_Part_lacksAt ce_middleX ce_middleY ce_shiftX ce_shiftY ce_linkA ce_linkB ce_flatness ce_barCount ce_barX0 ce_barY0 ce_barX1 ce_barY1 sm_x0 sm_y0 sm_x1 sm_y1 p0 x2_1 (fun r_3 => ((¬ r_3 = 0 → (∀ x2_5 : Int32, x2_5 = x2_1 + (1 : Int32) → (ih_2 x2_5))) ∧ (r_3 = 0 → (post x2_1)))))))
noncomputable def wpL_Part_quarterOf_2 (ce_middleX : Int32) (ce_middleY : Int32) (ce_shiftX : Int32) (ce_shiftY : Int32) (ce_linkA : Int32) (ce_linkB : Int32) (ce_flatness : Int32) (ce_barCount : Int32) (ce_barX0 : Nat → Int32) (ce_barY0 : Nat → Int32) (ce_barX1 : Nat → Int32) (ce_barY1 : Nat → Int32) (sm_x0 : Nat → Int32) (sm_y0 : Nat → Int32) (sm_x1 : Nat → Int32) (sm_y1 : Nat → Int32) (p0 : Int32) (post : Int32 → Prop) : Nat → Int32 → Prop := fun n => @Nat.rec (fun _ => Int32 → Prop) (fun _ => False) (fun _ ih_2 => wpB_Part_quarterOf_2 ce_middleX ce_middleY ce_shiftX ce_shiftY ce_linkA ce_linkB ce_flatness ce_barCount ce_barX0 ce_barY0 ce_barX1 ce_barY1 sm_x0 sm_y0 sm_x1 sm_y1 p0 post ih_2) n
def wp_Part_quarterOf (ce_middleX : Int32) (ce_middleY : Int32) (ce_shiftX : Int32) (ce_shiftY : Int32) (ce_linkA : Int32) (ce_linkB : Int32) (ce_flatness : Int32) (ce_barCount : Int32) (ce_barX0 : Nat → Int32) (ce_barY0 : Nat → Int32) (ce_barX1 : Nat → Int32) (ce_barY1 : Nat → Int32) (sm_x0 : Nat → Int32) (sm_y0 : Nat → Int32) (sm_x1 : Nat → Int32) (sm_y1 : Nat → Int32) (p0 : Int32) (post : Int32 → Prop) : Prop :=
  (∃ n : Nat, wpL_Part_quarterOf_2 ce_middleX ce_middleY ce_shiftX ce_shiftY ce_linkA ce_linkB ce_flatness ce_barCount ce_barX0 ce_barY0 ce_barX1 ce_barY1 sm_x0 sm_y0 sm_x1 sm_y1 p0 post n (0 : Int32))
abbrev rm_Part_quarterOf : Room := { frames := 4, cells := 0, slots := 0, locals := 106 }
set_option maxHeartbeats 4000000 in
set_option maxRecDepth 100000 in
theorem c_Part_quarterOf (l : Launch) (D : va_G) (κ : KT) (h_ce : Nat) (h_ce_barX0 : Nat) (h_ce_barY0 : Nat) (h_ce_barX1 : Nat) (h_ce_barY1 : Nat) (h_pt : Nat) (h_pt_seams : Nat) (h_sm : Nat → Nat) (ce_middleX : Int32) (ce_middleY : Int32) (ce_shiftX : Int32) (ce_shiftY : Int32) (ce_linkA : Int32) (ce_linkB : Int32) (ce_flatness : Int32) (ce_barCount : Int32) (ce_barX0 : Nat → Int32) (ce_barY0 : Nat → Int32) (ce_barX1 : Nat → Int32) (ce_barY1 : Nat → Int32) (pt_count : Int32) (pt_gap : Int32) (sm_x0 : Nat → Int32) (sm_y0 : Nat → Int32) (sm_x1 : Nat → Int32) (sm_y1 : Nat → Int32) (sm_length : Nat → Int32) (sm_time : Nat → Int32) (sm_heat : Nat → Int32) (p0 : Int32) (post : Int32 → Prop) (h : wp_Part_quarterOf ce_middleX ce_middleY ce_shiftX ce_shiftY ce_linkA ce_linkB ce_flatness ce_barCount ce_barX0 ce_barY0 ce_barX1 ce_barY1 sm_x0 sm_y0 sm_x1 sm_y1 p0 post) : Met l y_Part_quarterOf (wsG y_Part_quarterOf b_Part_quarterOf 3 (some .int)) rm_Part_quarterOf (PP D κ [.ref h_pt, .int p0] [(h_ce, .inr (1, [.int ce_middleX, .int ce_middleY, .int ce_shiftX, .int ce_shiftY, .int ce_linkA, .int ce_linkB, .int ce_flatness, .int ce_barCount, .ref h_ce_barX0, .ref h_ce_barY0, .ref h_ce_barX1, .ref h_ce_barY1])), (h_ce_barX0, cI κ 4 ce_barX0), (h_ce_barY0, cI κ 4 ce_barY0), (h_ce_barX1, cI κ 4 ce_barX1), (h_ce_barY1, cI κ 4 ce_barY1), (h_pt, .inr (4, [.ref h_ce, .ref h_pt_seams, .int pt_count, .int pt_gap])), (h_pt_seams, cS κ 8 (fun i => some (h_sm i))), (h_sm 0, .inr (6, [.int (sm_x0 0), .int (sm_y0 0), .int (sm_x1 0), .int (sm_y1 0), .int (sm_length 0), .int (sm_time 0), .int (sm_heat 0)])), (h_sm 1, .inr (6, [.int (sm_x0 1), .int (sm_y0 1), .int (sm_x1 1), .int (sm_y1 1), .int (sm_length 1), .int (sm_time 1), .int (sm_heat 1)])), (h_sm 2, .inr (6, [.int (sm_x0 2), .int (sm_y0 2), .int (sm_x1 2), .int (sm_y1 2), .int (sm_length 2), .int (sm_time 2), .int (sm_heat 2)])), (h_sm 3, .inr (6, [.int (sm_x0 3), .int (sm_y0 3), .int (sm_x1 3), .int (sm_y1 3), .int (sm_length 3), .int (sm_time 3), .int (sm_heat 3)])), (h_sm 4, .inr (6, [.int (sm_x0 4), .int (sm_y0 4), .int (sm_x1 4), .int (sm_y1 4), .int (sm_length 4), .int (sm_time 4), .int (sm_heat 4)])), (h_sm 5, .inr (6, [.int (sm_x0 5), .int (sm_y0 5), .int (sm_x1 5), .int (sm_y1 5), .int (sm_length 5), .int (sm_time 5), .int (sm_heat 5)])), (h_sm 6, .inr (6, [.int (sm_x0 6), .int (sm_y0 6), .int (sm_x1 6), .int (sm_y1 6), .int (sm_length 6), .int (sm_time 6), .int (sm_heat 6)])), (h_sm 7, .inr (6, [.int (sm_x0 7), .int (sm_y0 7), .int (sm_x1 7), .int (sm_y1 7), .int (sm_length 7), .int (sm_time 7), .int (sm_heat 7)]))]) (vp_Si post) 0 0 (fun _ => False) := by
  refine zp_start [(0, .ref h_pt), (1, .int p0)] rfl (Nat.le_of_ble_eq_true rfl) rfl ?_
  intro p e s m args below meth c C hr hlk
  unfold wp_Part_quarterOf at h
  refine z_k C d_Part_quarterOf_0 ?_
  refine z_istore C [(2, .int (0 : Int32)), (0, .ref h_pt), (1, .int p0)] d_Part_quarterOf_1 rfl rfl ?_
  obtain ⟨n_2, h⟩ := h
  have LP_2 : ∀ (n : Nat) (x2_1 : Int32), wpL_Part_quarterOf_2 ce_middleX ce_middleY ce_shiftX ce_shiftY ce_linkA ce_linkB ce_flatness ce_barCount ce_barX0 ce_barY0 ce_barX1 ce_barY1 sm_x0 sm_y0 sm_x1 sm_y1 p0 post n x2_1 → Zw p l e rm_Part_quarterOf s m args below meth c 0 0 (MQ below (vp_Si post) args s 0 0 (fun _ => False)) D 3 none [(h_ce, .inr (1, [.int ce_middleX, .int ce_middleY, .int ce_shiftX, .int ce_shiftY, .int ce_linkA, .int ce_linkB, .int ce_flatness, .int ce_barCount, .ref h_ce_barX0, .ref h_ce_barY0, .ref h_ce_barX1, .ref h_ce_barY1])), (h_ce_barX0, cI κ 4 ce_barX0), (h_ce_barY0, cI κ 4 ce_barY0), (h_ce_barX1, cI κ 4 ce_barX1), (h_ce_barY1, cI κ 4 ce_barY1), (h_pt, .inr (4, [.ref h_ce, .ref h_pt_seams, .int pt_count, .int pt_gap])), (h_pt_seams, cS κ 8 (fun i => some (h_sm i))), (h_sm 0, .inr (6, [.int (sm_x0 0), .int (sm_y0 0), .int (sm_x1 0), .int (sm_y1 0), .int (sm_length 0), .int (sm_time 0), .int (sm_heat 0)])), (h_sm 1, .inr (6, [.int (sm_x0 1), .int (sm_y0 1), .int (sm_x1 1), .int (sm_y1 1), .int (sm_length 1), .int (sm_time 1), .int (sm_heat 1)])), (h_sm 2, .inr (6, [.int (sm_x0 2), .int (sm_y0 2), .int (sm_x1 2), .int (sm_y1 2), .int (sm_length 2), .int (sm_time 2), .int (sm_heat 2)])), (h_sm 3, .inr (6, [.int (sm_x0 3), .int (sm_y0 3), .int (sm_x1 3), .int (sm_y1 3), .int (sm_length 3), .int (sm_time 3), .int (sm_heat 3)])), (h_sm 4, .inr (6, [.int (sm_x0 4), .int (sm_y0 4), .int (sm_x1 4), .int (sm_y1 4), .int (sm_length 4), .int (sm_time 4), .int (sm_heat 4)])), (h_sm 5, .inr (6, [.int (sm_x0 5), .int (sm_y0 5), .int (sm_x1 5), .int (sm_y1 5), .int (sm_length 5), .int (sm_time 5), .int (sm_heat 5)])), (h_sm 6, .inr (6, [.int (sm_x0 6), .int (sm_y0 6), .int (sm_x1 6), .int (sm_y1 6), .int (sm_length 6), .int (sm_time 6), .int (sm_heat 6)])), (h_sm 7, .inr (6, [.int (sm_x0 7), .int (sm_y0 7), .int (sm_x1 7), .int (sm_y1 7), .int (sm_length 7), .int (sm_time 7), .int (sm_heat 7)]))] [(0, .ref h_pt), (1, .int p0), (2, .int x2_1)] 2 [] := by
    intro n
    induction n with
    | zero => intro x2_1 h; exact False.elim h
    | succ nn_2 IH_2 =>
      intro x2_1 h
      have h : wpB_Part_quarterOf_2 ce_middleX ce_middleY ce_shiftX ce_shiftY ce_linkA ce_linkB ce_flatness ce_barCount ce_barX0 ce_barY0 ce_barX1 ce_barY1 sm_x0 sm_y0 sm_x1 sm_y1 p0 post (wpL_Part_quarterOf_2 ce_middleX ce_middleY ce_shiftX ce_shiftY ce_linkA ce_linkB ce_flatness ce_barCount ce_barX0 ce_barY0 ce_barX1 ce_barY1 sm_x0 sm_y0 sm_x1 sm_y1 p0 post nn_2) x2_1 := h
      unfold wpB_Part_quarterOf_2 at h
      refine z_iload C d_Part_quarterOf_2 2 rfl ?_
      refine z_k C d_Part_quarterOf_3 ?_
      refine z_icmp_ge C d_Part_quarterOf_4 (fun c_2 => ?_) (fun c_2 => ?_)
      · replace h := h.1 c_2
        refine z_k C d_Part_quarterOf_24 ?_
        exact zp_iret C hr hlk d_Part_quarterOf_26 h
      · replace h := h.2 c_2
        refine z_aload C d_Part_quarterOf_7 0 rfl ?_
        refine z_iload C d_Part_quarterOf_8 1 rfl ?_
        refine z_iload C d_Part_quarterOf_9 2 rfl ?_
        refine z_vpi C (rest := []) (c_Part_lacksAt l D κ h_ce h_ce_barX0 h_ce_barY0 h_ce_barX1 h_ce_barY1 h_pt h_pt_seams h_sm ce_middleX ce_middleY ce_shiftX ce_shiftY ce_linkA ce_linkB ce_flatness ce_barCount ce_barX0 ce_barY0 ce_barX1 ce_barY1 pt_count pt_gap sm_x0 sm_y0 sm_x1 sm_y1 sm_length sm_time sm_heat p0 x2_1 _ h) cv_Part_66 ⟨rfl, rfl⟩ ⟨⟨Nat.le_of_ble_eq_true rfl, Nat.le_of_ble_eq_true rfl⟩, Nat.le_of_ble_eq_true rfl, Nat.le_of_ble_eq_true rfl⟩ 5 rfl [0, 1, 2, 3, 4, 5, 6, 7, 8, 9, 10, 11, 12, 13, 14] rfl rfl rfl (Nat.le_of_ble_eq_true rfl) d_Part_quarterOf_10 (fun r_3 h => ?_)
        refine z_if_ne C d_Part_quarterOf_13 (fun c_4 => ?_) (fun c_4 => ?_)
        · replace h := h.1 c_4
          obtain ⟨x2_5, ex2_5⟩ : ∃ y : Int32, y = x2_1 + (1 : Int32) := ⟨_, rfl⟩
          replace h := h x2_5 ex2_5
          refine z_iinc C [(2, .int x2_5), (0, .ref h_pt), (1, .int p0)] d_Part_quarterOf_18 (j := 2) rfl (by rw [ex2_5]; rfl) rfl rfl ?_
          refine z_goto C d_Part_quarterOf_21 ?_
          refine z_sub [1, 2, 0] [(0, .ref h_pt), (1, .int p0), (2, .int x2_5)] rfl ?_
          exact IH_2 x2_5 h
        · replace h := h.2 c_4
          refine z_iload C d_Part_quarterOf_16 2 rfl ?_
          exact zp_iret C hr hlk d_Part_quarterOf_17 h
  refine z_sub [1, 2, 0] [(0, .ref h_pt), (1, .int p0), (2, .int (0 : Int32))] rfl ?_
  exact LP_2 n_2 (0 : Int32) h
def wpB_Part_allHaveQuarters_2 (ce_middleX : Int32) (ce_middleY : Int32) (ce_shiftX : Int32) (ce_shiftY : Int32) (ce_linkA : Int32) (ce_linkB : Int32) (ce_flatness : Int32) (ce_barCount : Int32) (ce_barX0 : Nat → Int32) (ce_barY0 : Nat → Int32) (ce_barX1 : Nat → Int32) (ce_barY1 : Nat → Int32) (pt_count : Int32) (sm_x0 : Nat → Int32) (sm_y0 : Nat → Int32) (sm_x1 : Nat → Int32) (sm_y1 : Nat → Int32) (post : Int32 → Prop) (ih_2 : Int32 → Prop) (x1_1 : Int32) : Prop :=
  ((pt_count ≤ x1_1 → (post (1 : Int32))) ∧ (¬ pt_count ≤ x1_1 → (wp_Part_quarterOf ce_middleX ce_middleY ce_shiftX ce_shiftY ce_linkA ce_linkB ce_flatness ce_barCount ce_barX0 ce_barY0 ce_barX1 ce_barY1 sm_x0 sm_y0 sm_x1 sm_y1 x1_1 (fun r_3 => ((¬ r_3 = (-6 : Int32) → (∀ x1_5 : Int32, x1_5 = x1_1 + (1 : Int32) → (ih_2 x1_5))) ∧ (r_3 = (-6 : Int32) → (post (0 : Int32))))))))
noncomputable def wpL_Part_allHaveQuarters_2 (ce_middleX : Int32) (ce_middleY : Int32) (ce_shiftX : Int32) (ce_shiftY : Int32) (ce_linkA : Int32) (ce_linkB : Int32) (ce_flatness : Int32) (ce_barCount : Int32) (ce_barX0 : Nat → Int32) (ce_barY0 : Nat → Int32) (ce_barX1 : Nat → Int32) (ce_barY1 : Nat → Int32) (pt_count : Int32) (sm_x0 : Nat → Int32) (sm_y0 : Nat → Int32) (sm_x1 : Nat → Int32) (sm_y1 : Nat → Int32) (post : Int32 → Prop) : Nat → Int32 → Prop := fun n => @Nat.rec (fun _ => Int32 → Prop) (fun _ => False) (fun _ ih_2 => wpB_Part_allHaveQuarters_2 ce_middleX ce_middleY ce_shiftX ce_shiftY ce_linkA ce_linkB ce_flatness ce_barCount ce_barX0 ce_barY0 ce_barX1 ce_barY1 pt_count sm_x0 sm_y0 sm_x1 sm_y1 post ih_2) n
def wp_Part_allHaveQuarters (ce_middleX : Int32) (ce_middleY : Int32) (ce_shiftX : Int32) (ce_shiftY : Int32) (ce_linkA : Int32) (ce_linkB : Int32) (ce_flatness : Int32) (ce_barCount : Int32) (ce_barX0 : Nat → Int32) (ce_barY0 : Nat → Int32) (ce_barX1 : Nat → Int32) (ce_barY1 : Nat → Int32) (pt_count : Int32) (sm_x0 : Nat → Int32) (sm_y0 : Nat → Int32) (sm_x1 : Nat → Int32) (sm_y1 : Nat → Int32) (post : Int32 → Prop) : Prop :=
  (∃ n : Nat, wpL_Part_allHaveQuarters_2 ce_middleX ce_middleY ce_shiftX ce_shiftY ce_linkA ce_linkB ce_flatness ce_barCount ce_barX0 ce_barY0 ce_barX1 ce_barY1 pt_count sm_x0 sm_y0 sm_x1 sm_y1 post n (0 : Int32))
abbrev rm_Part_allHaveQuarters : Room := { frames := 5, cells := 0, slots := 0, locals := 128 }
set_option maxHeartbeats 4000000 in
set_option maxRecDepth 100000 in
theorem c_Part_allHaveQuarters (l : Launch) (D : va_G) (κ : KT) (h_ce : Nat) (h_ce_barX0 : Nat) (h_ce_barY0 : Nat) (h_ce_barX1 : Nat) (h_ce_barY1 : Nat) (h_pt : Nat) (h_pt_seams : Nat) (h_sm : Nat → Nat) (ce_middleX : Int32) (ce_middleY : Int32) (ce_shiftX : Int32) (ce_shiftY : Int32) (ce_linkA : Int32) (ce_linkB : Int32) (ce_flatness : Int32) (ce_barCount : Int32) (ce_barX0 : Nat → Int32) (ce_barY0 : Nat → Int32) (ce_barX1 : Nat → Int32) (ce_barY1 : Nat → Int32) (pt_count : Int32) (pt_gap : Int32) (sm_x0 : Nat → Int32) (sm_y0 : Nat → Int32) (sm_x1 : Nat → Int32) (sm_y1 : Nat → Int32) (sm_length : Nat → Int32) (sm_time : Nat → Int32) (sm_heat : Nat → Int32) (post : Int32 → Prop) (h : wp_Part_allHaveQuarters ce_middleX ce_middleY ce_shiftX ce_shiftY ce_linkA ce_linkB ce_flatness ce_barCount ce_barX0 ce_barY0 ce_barX1 ce_barY1 pt_count sm_x0 sm_y0 sm_x1 sm_y1 post) : Met l y_Part_allHaveQuarters (wsG y_Part_allHaveQuarters b_Part_allHaveQuarters 2 (some .boolean)) rm_Part_allHaveQuarters (PP D κ [.ref h_pt] [(h_ce, .inr (1, [.int ce_middleX, .int ce_middleY, .int ce_shiftX, .int ce_shiftY, .int ce_linkA, .int ce_linkB, .int ce_flatness, .int ce_barCount, .ref h_ce_barX0, .ref h_ce_barY0, .ref h_ce_barX1, .ref h_ce_barY1])), (h_ce_barX0, cI κ 4 ce_barX0), (h_ce_barY0, cI κ 4 ce_barY0), (h_ce_barX1, cI κ 4 ce_barX1), (h_ce_barY1, cI κ 4 ce_barY1), (h_pt, .inr (4, [.ref h_ce, .ref h_pt_seams, .int pt_count, .int pt_gap])), (h_pt_seams, cS κ 8 (fun i => some (h_sm i))), (h_sm 0, .inr (6, [.int (sm_x0 0), .int (sm_y0 0), .int (sm_x1 0), .int (sm_y1 0), .int (sm_length 0), .int (sm_time 0), .int (sm_heat 0)])), (h_sm 1, .inr (6, [.int (sm_x0 1), .int (sm_y0 1), .int (sm_x1 1), .int (sm_y1 1), .int (sm_length 1), .int (sm_time 1), .int (sm_heat 1)])), (h_sm 2, .inr (6, [.int (sm_x0 2), .int (sm_y0 2), .int (sm_x1 2), .int (sm_y1 2), .int (sm_length 2), .int (sm_time 2), .int (sm_heat 2)])), (h_sm 3, .inr (6, [.int (sm_x0 3), .int (sm_y0 3), .int (sm_x1 3), .int (sm_y1 3), .int (sm_length 3), .int (sm_time 3), .int (sm_heat 3)])), (h_sm 4, .inr (6, [.int (sm_x0 4), .int (sm_y0 4), .int (sm_x1 4), .int (sm_y1 4), .int (sm_length 4), .int (sm_time 4), .int (sm_heat 4)])), (h_sm 5, .inr (6, [.int (sm_x0 5), .int (sm_y0 5), .int (sm_x1 5), .int (sm_y1 5), .int (sm_length 5), .int (sm_time 5), .int (sm_heat 5)])), (h_sm 6, .inr (6, [.int (sm_x0 6), .int (sm_y0 6), .int (sm_x1 6), .int (sm_y1 6), .int (sm_length 6), .int (sm_time 6), .int (sm_heat 6)])), (h_sm 7, .inr (6, [.int (sm_x0 7), .int (sm_y0 7), .int (sm_x1 7), .int (sm_y1 7), .int (sm_length 7), .int (sm_time 7), .int (sm_heat 7)]))]) (vp_Si post) 0 0 (fun _ => False) := by
  refine zp_start [(0, .ref h_pt)] rfl (Nat.le_of_ble_eq_true rfl) rfl ?_
  intro p e s m args below meth c C hr hlk
  unfold wp_Part_allHaveQuarters at h
  refine z_k C d_Part_allHaveQuarters_0 ?_
  refine z_istore C [(1, .int (0 : Int32)), (0, .ref h_pt)] d_Part_allHaveQuarters_1 rfl rfl ?_
  obtain ⟨n_2, h⟩ := h
  have LP_2 : ∀ (n : Nat) (x1_1 : Int32), wpL_Part_allHaveQuarters_2 ce_middleX ce_middleY ce_shiftX ce_shiftY ce_linkA ce_linkB ce_flatness ce_barCount ce_barX0 ce_barY0 ce_barX1 ce_barY1 pt_count sm_x0 sm_y0 sm_x1 sm_y1 post n x1_1 → Zw p l e rm_Part_allHaveQuarters s m args below meth c 0 0 (MQ below (vp_Si post) args s 0 0 (fun _ => False)) D 2 none [(h_ce, .inr (1, [.int ce_middleX, .int ce_middleY, .int ce_shiftX, .int ce_shiftY, .int ce_linkA, .int ce_linkB, .int ce_flatness, .int ce_barCount, .ref h_ce_barX0, .ref h_ce_barY0, .ref h_ce_barX1, .ref h_ce_barY1])), (h_ce_barX0, cI κ 4 ce_barX0), (h_ce_barY0, cI κ 4 ce_barY0), (h_ce_barX1, cI κ 4 ce_barX1), (h_ce_barY1, cI κ 4 ce_barY1), (h_pt, .inr (4, [.ref h_ce, .ref h_pt_seams, .int pt_count, .int pt_gap])), (h_pt_seams, cS κ 8 (fun i => some (h_sm i))), (h_sm 0, .inr (6, [.int (sm_x0 0), .int (sm_y0 0), .int (sm_x1 0), .int (sm_y1 0), .int (sm_length 0), .int (sm_time 0), .int (sm_heat 0)])), (h_sm 1, .inr (6, [.int (sm_x0 1), .int (sm_y0 1), .int (sm_x1 1), .int (sm_y1 1), .int (sm_length 1), .int (sm_time 1), .int (sm_heat 1)])), (h_sm 2, .inr (6, [.int (sm_x0 2), .int (sm_y0 2), .int (sm_x1 2), .int (sm_y1 2), .int (sm_length 2), .int (sm_time 2), .int (sm_heat 2)])), (h_sm 3, .inr (6, [.int (sm_x0 3), .int (sm_y0 3), .int (sm_x1 3), .int (sm_y1 3), .int (sm_length 3), .int (sm_time 3), .int (sm_heat 3)])), (h_sm 4, .inr (6, [.int (sm_x0 4), .int (sm_y0 4), .int (sm_x1 4), .int (sm_y1 4), .int (sm_length 4), .int (sm_time 4), .int (sm_heat 4)])), (h_sm 5, .inr (6, [.int (sm_x0 5), .int (sm_y0 5), .int (sm_x1 5), .int (sm_y1 5), .int (sm_length 5), .int (sm_time 5), .int (sm_heat 5)])), (h_sm 6, .inr (6, [.int (sm_x0 6), .int (sm_y0 6), .int (sm_x1 6), .int (sm_y1 6), .int (sm_length 6), .int (sm_time 6), .int (sm_heat 6)])), (h_sm 7, .inr (6, [.int (sm_x0 7), .int (sm_y0 7), .int (sm_x1 7), .int (sm_y1 7), .int (sm_length 7), .int (sm_time 7), .int (sm_heat 7)]))] [(0, .ref h_pt), (1, .int x1_1)] 2 [] := by
    intro n
    induction n with
    | zero => intro x1_1 h; exact False.elim h
    | succ nn_2 IH_2 =>
      intro x1_1 h
      have h : wpB_Part_allHaveQuarters_2 ce_middleX ce_middleY ce_shiftX ce_shiftY ce_linkA ce_linkB ce_flatness ce_barCount ce_barX0 ce_barY0 ce_barX1 ce_barY1 pt_count sm_x0 sm_y0 sm_x1 sm_y1 post (wpL_Part_allHaveQuarters_2 ce_middleX ce_middleY ce_shiftX ce_shiftY ce_linkA ce_linkB ce_flatness ce_barCount ce_barX0 ce_barY0 ce_barX1 ce_barY1 pt_count sm_x0 sm_y0 sm_x1 sm_y1 post nn_2) x1_1 := h
      unfold wpB_Part_allHaveQuarters_2 at h
      refine z_iload C d_Part_allHaveQuarters_2 1 rfl ?_
      refine z_aload C d_Part_allHaveQuarters_3 0 rfl ?_
      refine z_get C fl_Part_26 5 rfl rfl d_Part_allHaveQuarters_4 ?_
      refine z_icmp_ge C d_Part_allHaveQuarters_7 (fun c_2 => ?_) (fun c_2 => ?_)
      · replace h := h.1 c_2
        refine z_k C d_Part_allHaveQuarters_28 ?_
        exact zp_zret C hr hlk (Or.inr rfl) d_Part_allHaveQuarters_29 h
      · replace h := h.2 c_2
        refine z_aload C d_Part_allHaveQuarters_10 0 rfl ?_
        refine z_iload C d_Part_allHaveQuarters_11 1 rfl ?_
        refine z_vpi C (rest := []) (c_Part_quarterOf l D κ h_ce h_ce_barX0 h_ce_barY0 h_ce_barX1 h_ce_barY1 h_pt h_pt_seams h_sm ce_middleX ce_middleY ce_shiftX ce_shiftY ce_linkA ce_linkB ce_flatness ce_barCount ce_barX0 ce_barY0 ce_barX1 ce_barY1 pt_count pt_gap sm_x0 sm_y0 sm_x1 sm_y1 sm_length sm_time sm_heat x1_1 _ h) cv_Part_70 ⟨rfl, rfl⟩ ⟨⟨Nat.le_of_ble_eq_true rfl, Nat.le_of_ble_eq_true rfl⟩, Nat.le_of_ble_eq_true rfl, Nat.le_of_ble_eq_true rfl⟩ 5 rfl [0, 1, 2, 3, 4, 5, 6, 7, 8, 9, 10, 11, 12, 13, 14] rfl rfl rfl (Nat.le_of_ble_eq_true rfl) d_Part_allHaveQuarters_12 (fun r_3 h => ?_)
        refine z_k C d_Part_allHaveQuarters_15 ?_
        refine z_icmp_ne C d_Part_allHaveQuarters_17 (fun c_4 => ?_) (fun c_4 => ?_)
        · replace h := h.1 c_4
          obtain ⟨x1_5, ex1_5⟩ : ∃ y : Int32, y = x1_1 + (1 : Int32) := ⟨_, rfl⟩
          replace h := h x1_5 ex1_5
          refine z_iinc C [(1, .int x1_5), (0, .ref h_pt)] d_Part_allHaveQuarters_22 (j := 1) rfl (by rw [ex1_5]; rfl) rfl rfl ?_
          refine z_goto C d_Part_allHaveQuarters_25 ?_
          refine z_sub [1, 0] [(0, .ref h_pt), (1, .int x1_5)] rfl ?_
          exact IH_2 x1_5 h
        · replace h := h.2 c_4
          refine z_k C d_Part_allHaveQuarters_20 ?_
          exact zp_zret C hr hlk (Or.inl rfl) d_Part_allHaveQuarters_21 h
  refine z_sub [1, 0] [(0, .ref h_pt), (1, .int (0 : Int32))] rfl ?_
  exact LP_2 n_2 (0 : Int32) h
def wp_Part_areClose (pt_gap : Int32) (p0 : Int32) (p1 : Int32) (p2 : Int32) (p3 : Int32) (post : Int32 → Prop) : Prop :=
  (wp_SeamCell_square (p0 - p2) (fun r_1 => (wp_SeamCell_square (p1 - p3) (fun r_2 => (wp_SeamCell_square pt_gap (fun r_3 => ((r_3 < (r_1 + r_2) → (post (0 : Int32))) ∧ (¬ r_3 < (r_1 + r_2) → (post (1 : Int32))))))))))
abbrev rm_Part_areClose : Room := { frames := 1, cells := 0, slots := 0, locals := 20 }
set_option maxHeartbeats 4000000 in
set_option maxRecDepth 100000 in
theorem c_Part_areClose (l : Launch) (D : va_G) (κ : KT) (h_pt : Nat) (h_ce : Nat) (h_pt_seams : Nat) (pt_count : Int32) (pt_gap : Int32) (p0 : Int32) (p1 : Int32) (p2 : Int32) (p3 : Int32) (post : Int32 → Prop) (h : wp_Part_areClose pt_gap p0 p1 p2 p3 post) : Met l y_Part_areClose (wsG y_Part_areClose b_Part_areClose 5 (some .boolean)) rm_Part_areClose (PP D κ [.ref h_pt, .int p0, .int p1, .int p2, .int p3] [(h_pt, .inr (4, [.ref h_ce, .ref h_pt_seams, .int pt_count, .int pt_gap]))]) (vp_Si post) 0 0 (fun _ => False) := by
  refine zp_start [(0, .ref h_pt), (1, .int p0), (2, .int p1), (3, .int p2), (4, .int p3)] rfl (Nat.le_of_ble_eq_true rfl) rfl ?_
  intro p e s m args below meth c C hr hlk
  unfold wp_Part_areClose at h
  refine z_iload C d_Part_areClose_0 1 rfl ?_
  refine z_iload C d_Part_areClose_1 3 rfl ?_
  refine z_isub C d_Part_areClose_2 ?_
  refine z_npi C (rest := []) (c_SeamCell_square l D κ (p0 - p2) _ h) cn_Part_77 ⟨rfl, rfl⟩ ⟨⟨Nat.le_of_ble_eq_true rfl, Nat.le_of_ble_eq_true rfl⟩, Nat.le_of_ble_eq_true rfl, Nat.le_of_ble_eq_true rfl⟩ [] rfl rfl rfl (Nat.le_of_ble_eq_true rfl) d_Part_areClose_3 (fun r_1 h => ?_)
  refine z_iload C d_Part_areClose_6 2 rfl ?_
  refine z_iload C d_Part_areClose_7 4 rfl ?_
  refine z_isub C d_Part_areClose_9 ?_
  refine z_npi C (rest := [.int r_1]) (c_SeamCell_square l D κ (p1 - p3) _ h) cn_Part_77 ⟨rfl, rfl⟩ ⟨⟨Nat.le_of_ble_eq_true rfl, Nat.le_of_ble_eq_true rfl⟩, Nat.le_of_ble_eq_true rfl, Nat.le_of_ble_eq_true rfl⟩ [] rfl rfl rfl (Nat.le_of_ble_eq_true rfl) d_Part_areClose_10 (fun r_2 h => ?_)
  refine z_iadd C d_Part_areClose_13 ?_
  refine z_aload C d_Part_areClose_14 0 rfl ?_
  refine z_get C fl_Part_17 0 rfl rfl d_Part_areClose_15 ?_
  refine z_npi C (rest := [.int (r_1 + r_2)]) (c_SeamCell_square l D κ pt_gap _ h) cn_Part_77 ⟨rfl, rfl⟩ ⟨⟨Nat.le_of_ble_eq_true rfl, Nat.le_of_ble_eq_true rfl⟩, Nat.le_of_ble_eq_true rfl, Nat.le_of_ble_eq_true rfl⟩ [] rfl rfl rfl (Nat.le_of_ble_eq_true rfl) d_Part_areClose_18 (fun r_3 h => ?_)
  refine z_icmp_gt C d_Part_areClose_21 (fun c_4 => ?_) (fun c_4 => ?_)
  · replace h := h.1 c_4
    refine z_k C d_Part_areClose_28 ?_
    exact zp_zret C hr hlk (Or.inl rfl) d_Part_areClose_29 h
  · replace h := h.2 c_4
    refine z_k C d_Part_areClose_24 ?_
    refine z_goto C d_Part_areClose_25 ?_
    exact zp_zret C hr hlk (Or.inr rfl) d_Part_areClose_29 h
def wp_Part_areNear (pt_gap : Int32) (sm_x0 : Nat → Int32) (sm_y0 : Nat → Int32) (sm_x1 : Nat → Int32) (sm_y1 : Nat → Int32) (p0 : Int32) (p1 : Int32) (post : Int32 → Prop) : Prop :=
  (vp_in p0 8 ∧ (vp_in p1 8 ∧ (wp_Part_areClose pt_gap (sm_x0 p0.toNatClampNeg) (sm_y0 p0.toNatClampNeg) (sm_x0 p1.toNatClampNeg) (sm_y0 p1.toNatClampNeg) (fun r_3 => ((¬ r_3 = 0 → (post (1 : Int32))) ∧ (r_3 = 0 → (wp_Part_areClose pt_gap (sm_x0 p0.toNatClampNeg) (sm_y0 p0.toNatClampNeg) (sm_x1 p1.toNatClampNeg) (sm_y1 p1.toNatClampNeg) (fun r_5 => ((¬ r_5 = 0 → (post (1 : Int32))) ∧ (r_5 = 0 → (wp_Part_areClose pt_gap (sm_x1 p0.toNatClampNeg) (sm_y1 p0.toNatClampNeg) (sm_x0 p1.toNatClampNeg) (sm_y0 p1.toNatClampNeg) (fun r_7 => ((¬ r_7 = 0 → (post (1 : Int32))) ∧ (r_7 = 0 → (wp_Part_areClose pt_gap (sm_x1 p0.toNatClampNeg) (sm_y1 p0.toNatClampNeg) (sm_x1 p1.toNatClampNeg) (sm_y1 p1.toNatClampNeg) (fun r_9 => ((r_9 = 0 → (post (0 : Int32))) ∧ (¬ r_9 = 0 → (post (1 : Int32))))))))))))))))))))
abbrev rm_Part_areNear : Room := { frames := 2, cells := 0, slots := 0, locals := 44 }
set_option maxHeartbeats 4000000 in
set_option maxRecDepth 100000 in
theorem c_Part_areNear (l : Launch) (D : va_G) (κ : KT) (h_pt : Nat) (h_ce : Nat) (h_pt_seams : Nat) (h_sm : Nat → Nat) (pt_count : Int32) (pt_gap : Int32) (sm_x0 : Nat → Int32) (sm_y0 : Nat → Int32) (sm_x1 : Nat → Int32) (sm_y1 : Nat → Int32) (sm_length : Nat → Int32) (sm_time : Nat → Int32) (sm_heat : Nat → Int32) (p0 : Int32) (p1 : Int32) (post : Int32 → Prop) (h : wp_Part_areNear pt_gap sm_x0 sm_y0 sm_x1 sm_y1 p0 p1 post) : Met l y_Part_areNear (wsG y_Part_areNear b_Part_areNear 5 (some .boolean)) rm_Part_areNear (PP D κ [.ref h_pt, .int p0, .int p1] [(h_pt, .inr (4, [.ref h_ce, .ref h_pt_seams, .int pt_count, .int pt_gap])), (h_pt_seams, cS κ 8 (fun i => some (h_sm i))), (h_sm 0, .inr (6, [.int (sm_x0 0), .int (sm_y0 0), .int (sm_x1 0), .int (sm_y1 0), .int (sm_length 0), .int (sm_time 0), .int (sm_heat 0)])), (h_sm 1, .inr (6, [.int (sm_x0 1), .int (sm_y0 1), .int (sm_x1 1), .int (sm_y1 1), .int (sm_length 1), .int (sm_time 1), .int (sm_heat 1)])), (h_sm 2, .inr (6, [.int (sm_x0 2), .int (sm_y0 2), .int (sm_x1 2), .int (sm_y1 2), .int (sm_length 2), .int (sm_time 2), .int (sm_heat 2)])), (h_sm 3, .inr (6, [.int (sm_x0 3), .int (sm_y0 3), .int (sm_x1 3), .int (sm_y1 3), .int (sm_length 3), .int (sm_time 3), .int (sm_heat 3)])), (h_sm 4, .inr (6, [.int (sm_x0 4), .int (sm_y0 4), .int (sm_x1 4), .int (sm_y1 4), .int (sm_length 4), .int (sm_time 4), .int (sm_heat 4)])), (h_sm 5, .inr (6, [.int (sm_x0 5), .int (sm_y0 5), .int (sm_x1 5), .int (sm_y1 5), .int (sm_length 5), .int (sm_time 5), .int (sm_heat 5)])), (h_sm 6, .inr (6, [.int (sm_x0 6), .int (sm_y0 6), .int (sm_x1 6), .int (sm_y1 6), .int (sm_length 6), .int (sm_time 6), .int (sm_heat 6)])), (h_sm 7, .inr (6, [.int (sm_x0 7), .int (sm_y0 7), .int (sm_x1 7), .int (sm_y1 7), .int (sm_length 7), .int (sm_time 7), .int (sm_heat 7)]))]) (vp_Si post) 0 0 (fun _ => False) := by
  refine zp_start [(0, .ref h_pt), (1, .int p0), (2, .int p1)] rfl (Nat.le_of_ble_eq_true rfl) rfl ?_
  intro p e s m args below meth c C hr hlk
  unfold wp_Part_areNear at h
  refine z_aload C d_Part_areNear_0 0 rfl ?_
  refine z_get C fl_Part_11 0 rfl rfl d_Part_areNear_1 ?_
  refine z_iload C d_Part_areNear_4 1 rfl ?_
  have a_1 := h.1
  refine z_aald C 1 rfl a_1 rfl d_Part_areNear_5 ?_
  replace h := h.2
  refine z_astore C [(3, .ref (h_sm (p0.toNatClampNeg))), (0, .ref h_pt), (1, .int p0), (2, .int p1)] d_Part_areNear_6 rfl rfl ?_
  refine z_aload C d_Part_areNear_7 1 rfl ?_
  refine z_get C fl_Part_11 0 rfl rfl d_Part_areNear_8 ?_
  refine z_iload C d_Part_areNear_11 3 rfl ?_
  have a_2 := h.1
  refine z_aald C 1 rfl a_2 rfl d_Part_areNear_12 ?_
  replace h := h.2
  refine z_astore C [(4, .ref (h_sm (p1.toNatClampNeg))), (3, .ref (h_sm (p0.toNatClampNeg))), (0, .ref h_pt), (1, .int p0), (2, .int p1)] d_Part_areNear_13 rfl rfl ?_
  refine z_aload C d_Part_areNear_15 2 rfl ?_
  refine z_aload C d_Part_areNear_16 1 rfl ?_
  refine z_getP8 C fl_Part_29 2 h_sm (fun j => [.int (sm_x0 j), .int (sm_y0 j), .int (sm_x1 j), .int (sm_y1 j), .int (sm_length j), .int (sm_time j), .int (sm_heat j)]) p0.toNatClampNeg (vp_lt a_1) rfl rfl rfl rfl rfl rfl rfl rfl rfl d_Part_areNear_17 ?_
  refine z_aload C d_Part_areNear_20 1 rfl ?_
  refine z_getP8 C fl_Part_32 2 h_sm (fun j => [.int (sm_x0 j), .int (sm_y0 j), .int (sm_x1 j), .int (sm_y1 j), .int (sm_length j), .int (sm_time j), .int (sm_heat j)]) p0.toNatClampNeg (vp_lt a_1) rfl rfl rfl rfl rfl rfl rfl rfl rfl d_Part_areNear_21 ?_
  refine z_aload C d_Part_areNear_24 0 rfl ?_
  refine z_getP8 C fl_Part_29 2 h_sm (fun j => [.int (sm_x0 j), .int (sm_y0 j), .int (sm_x1 j), .int (sm_y1 j), .int (sm_length j), .int (sm_time j), .int (sm_heat j)]) p1.toNatClampNeg (vp_lt a_2) rfl rfl rfl rfl rfl rfl rfl rfl rfl d_Part_areNear_26 ?_
  refine z_aload C d_Part_areNear_29 0 rfl ?_
  refine z_getP8 C fl_Part_32 2 h_sm (fun j => [.int (sm_x0 j), .int (sm_y0 j), .int (sm_x1 j), .int (sm_y1 j), .int (sm_length j), .int (sm_time j), .int (sm_heat j)]) p1.toNatClampNeg (vp_lt a_2) rfl rfl rfl rfl rfl rfl rfl rfl rfl d_Part_areNear_31 ?_
  refine z_vpi C (rest := []) (c_Part_areClose l D κ h_pt h_ce h_pt_seams pt_count pt_gap (sm_x0 p0.toNatClampNeg) (sm_y0 p0.toNatClampNeg) (sm_x0 p1.toNatClampNeg) (sm_y0 p1.toNatClampNeg) _ h) cv_Part_74 ⟨rfl, rfl⟩ ⟨⟨Nat.le_of_ble_eq_true rfl, Nat.le_of_ble_eq_true rfl⟩, Nat.le_of_ble_eq_true rfl, Nat.le_of_ble_eq_true rfl⟩ 0 rfl [0] rfl rfl rfl (Nat.le_of_ble_eq_true rfl) d_Part_areNear_34 (fun r_3 h => ?_)
  refine z_if_ne C d_Part_areNear_37 (fun c_4 => ?_) (fun c_4 => ?_)
  · replace h := h.1 c_4
    refine z_k C d_Part_areNear_115 ?_
    refine z_goto C d_Part_areNear_116 ?_
    exact zp_zret C hr hlk (Or.inr rfl) d_Part_areNear_120 h
  · replace h := h.2 c_4
    refine z_aload C d_Part_areNear_40 2 rfl ?_
    refine z_aload C d_Part_areNear_41 1 rfl ?_
    refine z_getP8 C fl_Part_29 2 h_sm (fun j => [.int (sm_x0 j), .int (sm_y0 j), .int (sm_x1 j), .int (sm_y1 j), .int (sm_length j), .int (sm_time j), .int (sm_heat j)]) p0.toNatClampNeg (vp_lt a_1) rfl rfl rfl rfl rfl rfl rfl rfl rfl d_Part_areNear_42 ?_
    refine z_aload C d_Part_areNear_45 1 rfl ?_
    refine z_getP8 C fl_Part_32 2 h_sm (fun j => [.int (sm_x0 j), .int (sm_y0 j), .int (sm_x1 j), .int (sm_y1 j), .int (sm_length j), .int (sm_time j), .int (sm_heat j)]) p0.toNatClampNeg (vp_lt a_1) rfl rfl rfl rfl rfl rfl rfl rfl rfl d_Part_areNear_46 ?_
    refine z_aload C d_Part_areNear_49 0 rfl ?_
    refine z_getP8 C fl_Part_41 2 h_sm (fun j => [.int (sm_x0 j), .int (sm_y0 j), .int (sm_x1 j), .int (sm_y1 j), .int (sm_length j), .int (sm_time j), .int (sm_heat j)]) p1.toNatClampNeg (vp_lt a_2) rfl rfl rfl rfl rfl rfl rfl rfl rfl d_Part_areNear_51 ?_
    refine z_aload C d_Part_areNear_54 0 rfl ?_
    refine z_getP8 C fl_Part_44 2 h_sm (fun j => [.int (sm_x0 j), .int (sm_y0 j), .int (sm_x1 j), .int (sm_y1 j), .int (sm_length j), .int (sm_time j), .int (sm_heat j)]) p1.toNatClampNeg (vp_lt a_2) rfl rfl rfl rfl rfl rfl rfl rfl rfl d_Part_areNear_56 ?_
    refine z_vpi C (rest := []) (c_Part_areClose l D κ h_pt h_ce h_pt_seams pt_count pt_gap (sm_x0 p0.toNatClampNeg) (sm_y0 p0.toNatClampNeg) (sm_x1 p1.toNatClampNeg) (sm_y1 p1.toNatClampNeg) _ h) cv_Part_74 ⟨rfl, rfl⟩ ⟨⟨Nat.le_of_ble_eq_true rfl, Nat.le_of_ble_eq_true rfl⟩, Nat.le_of_ble_eq_true rfl, Nat.le_of_ble_eq_true rfl⟩ 0 rfl [0] rfl rfl rfl (Nat.le_of_ble_eq_true rfl) d_Part_areNear_59 (fun r_5 h => ?_)
    refine z_if_ne C d_Part_areNear_62 (fun c_6 => ?_) (fun c_6 => ?_)
    · replace h := h.1 c_6
      refine z_k C d_Part_areNear_115 ?_
      refine z_goto C d_Part_areNear_116 ?_
      exact zp_zret C hr hlk (Or.inr rfl) d_Part_areNear_120 h
    · replace h := h.2 c_6
      refine z_aload C d_Part_areNear_65 2 rfl ?_
      refine z_aload C d_Part_areNear_66 1 rfl ?_
      refine z_getP8 C fl_Part_41 2 h_sm (fun j => [.int (sm_x0 j), .int (sm_y0 j), .int (sm_x1 j), .int (sm_y1 j), .int (sm_length j), .int (sm_time j), .int (sm_heat j)]) p0.toNatClampNeg (vp_lt a_1) rfl rfl rfl rfl rfl rfl rfl rfl rfl d_Part_areNear_67 ?_
      refine z_aload C d_Part_areNear_70 1 rfl ?_
      refine z_getP8 C fl_Part_44 2 h_sm (fun j => [.int (sm_x0 j), .int (sm_y0 j), .int (sm_x1 j), .int (sm_y1 j), .int (sm_length j), .int (sm_time j), .int (sm_heat j)]) p0.toNatClampNeg (vp_lt a_1) rfl rfl rfl rfl rfl rfl rfl rfl rfl d_Part_areNear_71 ?_
      refine z_aload C d_Part_areNear_74 0 rfl ?_
      refine z_getP8 C fl_Part_29 2 h_sm (fun j => [.int (sm_x0 j), .int (sm_y0 j), .int (sm_x1 j), .int (sm_y1 j), .int (sm_length j), .int (sm_time j), .int (sm_heat j)]) p1.toNatClampNeg (vp_lt a_2) rfl rfl rfl rfl rfl rfl rfl rfl rfl d_Part_areNear_76 ?_
      refine z_aload C d_Part_areNear_79 0 rfl ?_
      refine z_getP8 C fl_Part_32 2 h_sm (fun j => [.int (sm_x0 j), .int (sm_y0 j), .int (sm_x1 j), .int (sm_y1 j), .int (sm_length j), .int (sm_time j), .int (sm_heat j)]) p1.toNatClampNeg (vp_lt a_2) rfl rfl rfl rfl rfl rfl rfl rfl rfl d_Part_areNear_81 ?_
      refine z_vpi C (rest := []) (c_Part_areClose l D κ h_pt h_ce h_pt_seams pt_count pt_gap (sm_x1 p0.toNatClampNeg) (sm_y1 p0.toNatClampNeg) (sm_x0 p1.toNatClampNeg) (sm_y0 p1.toNatClampNeg) _ h) cv_Part_74 ⟨rfl, rfl⟩ ⟨⟨Nat.le_of_ble_eq_true rfl, Nat.le_of_ble_eq_true rfl⟩, Nat.le_of_ble_eq_true rfl, Nat.le_of_ble_eq_true rfl⟩ 0 rfl [0] rfl rfl rfl (Nat.le_of_ble_eq_true rfl) d_Part_areNear_84 (fun r_7 h => ?_)
      refine z_if_ne C d_Part_areNear_87 (fun c_8 => ?_) (fun c_8 => ?_)
      · replace h := h.1 c_8
        refine z_k C d_Part_areNear_115 ?_
        refine z_goto C d_Part_areNear_116 ?_
        exact zp_zret C hr hlk (Or.inr rfl) d_Part_areNear_120 h
      · replace h := h.2 c_8
        refine z_aload C d_Part_areNear_90 2 rfl ?_
        refine z_aload C d_Part_areNear_91 1 rfl ?_
        refine z_getP8 C fl_Part_41 2 h_sm (fun j => [.int (sm_x0 j), .int (sm_y0 j), .int (sm_x1 j), .int (sm_y1 j), .int (sm_length j), .int (sm_time j), .int (sm_heat j)]) p0.toNatClampNeg (vp_lt a_1) rfl rfl rfl rfl rfl rfl rfl rfl rfl d_Part_areNear_92 ?_
        refine z_aload C d_Part_areNear_95 1 rfl ?_
        refine z_getP8 C fl_Part_44 2 h_sm (fun j => [.int (sm_x0 j), .int (sm_y0 j), .int (sm_x1 j), .int (sm_y1 j), .int (sm_length j), .int (sm_time j), .int (sm_heat j)]) p0.toNatClampNeg (vp_lt a_1) rfl rfl rfl rfl rfl rfl rfl rfl rfl d_Part_areNear_96 ?_
        refine z_aload C d_Part_areNear_99 0 rfl ?_
        refine z_getP8 C fl_Part_41 2 h_sm (fun j => [.int (sm_x0 j), .int (sm_y0 j), .int (sm_x1 j), .int (sm_y1 j), .int (sm_length j), .int (sm_time j), .int (sm_heat j)]) p1.toNatClampNeg (vp_lt a_2) rfl rfl rfl rfl rfl rfl rfl rfl rfl d_Part_areNear_101 ?_
        refine z_aload C d_Part_areNear_104 0 rfl ?_
        refine z_getP8 C fl_Part_44 2 h_sm (fun j => [.int (sm_x0 j), .int (sm_y0 j), .int (sm_x1 j), .int (sm_y1 j), .int (sm_length j), .int (sm_time j), .int (sm_heat j)]) p1.toNatClampNeg (vp_lt a_2) rfl rfl rfl rfl rfl rfl rfl rfl rfl d_Part_areNear_106 ?_
        refine z_vpi C (rest := []) (c_Part_areClose l D κ h_pt h_ce h_pt_seams pt_count pt_gap (sm_x1 p0.toNatClampNeg) (sm_y1 p0.toNatClampNeg) (sm_x1 p1.toNatClampNeg) (sm_y1 p1.toNatClampNeg) _ h) cv_Part_74 ⟨rfl, rfl⟩ ⟨⟨Nat.le_of_ble_eq_true rfl, Nat.le_of_ble_eq_true rfl⟩, Nat.le_of_ble_eq_true rfl, Nat.le_of_ble_eq_true rfl⟩ 0 rfl [0] rfl rfl rfl (Nat.le_of_ble_eq_true rfl) d_Part_areNear_109 (fun r_9 h => ?_)
        refine z_if_eq C d_Part_areNear_112 (fun c_10 => ?_) (fun c_10 => ?_)
        · replace h := h.1 c_10
          refine z_k C d_Part_areNear_119 ?_
          exact zp_zret C hr hlk (Or.inl rfl) d_Part_areNear_120 h
        · replace h := h.2 c_10
          refine z_k C d_Part_areNear_115 ?_
          refine z_goto C d_Part_areNear_116 ?_
          exact zp_zret C hr hlk (Or.inr rfl) d_Part_areNear_120 h
def wp_Pace_turnTicks (pa_turn : Int32) (p0 : Int32) (p1 : Int32) (post : Int32 → Prop) : Prop :=
  (∀ x3_1 : Int32, x3_1 = iabs (p0 - p1) → (post (pa_turn * (imin x3_1 ((4 : Int32) - x3_1)))))
abbrev rm_Pace_turnTicks : Room := { frames := 1, cells := 0, slots := 0, locals := 21 }
set_option maxHeartbeats 4000000 in
set_option maxRecDepth 100000 in
theorem c_Pace_turnTicks (l : Launch) (D : va_G) (κ : KT) (h_pa : Nat) (h_ce : Nat) (pa_turn : Int32) (pa_travel : Int32) (pa_lift : Int32) (pa_cool : Int32) (pa_homeX : Int32) (pa_homeY : Int32) (p0 : Int32) (p1 : Int32) (post : Int32 → Prop) (h : wp_Pace_turnTicks pa_turn p0 p1 post) : Met l y_Pace_turnTicks (wsG y_Pace_turnTicks b_Pace_turnTicks 4 (some .int)) rm_Pace_turnTicks (PP D κ [.ref h_pa, .int p0, .int p1] [(h_pa, .inr (3, [.ref h_ce, .int pa_turn, .int pa_travel, .int pa_lift, .int pa_cool, .int pa_homeX, .int pa_homeY]))]) (vp_Si post) 0 0 (fun _ => False) := by
  refine zp_start [(0, .ref h_pa), (1, .int p0), (2, .int p1)] rfl (Nat.le_of_ble_eq_true rfl) rfl ?_
  intro p e s m args below meth c C hr hlk
  unfold wp_Pace_turnTicks at h
  refine z_iload C d_Pace_turnTicks_0 1 rfl ?_
  refine z_iload C d_Pace_turnTicks_1 2 rfl ?_
  refine z_isub C d_Pace_turnTicks_2 ?_
  refine z_mabs C cm_Pace_34 (Nat.le_of_ble_eq_true rfl) (Nat.le_of_ble_eq_true rfl) ⟨Nat.le_of_ble_eq_true rfl, Nat.le_of_ble_eq_true rfl⟩ d_Pace_turnTicks_3 ?_
  refine z_topi (fun x3_1 ex3_1 => ?_)
  replace h := h x3_1 ex3_1
  refine z_istore C [(3, .int x3_1), (0, .ref h_pa), (1, .int p0), (2, .int p1)] d_Pace_turnTicks_6 rfl rfl ?_
  refine z_aload C d_Pace_turnTicks_7 1 rfl ?_
  refine z_get C fl_Pace_9 0 rfl rfl d_Pace_turnTicks_8 ?_
  refine z_iload C d_Pace_turnTicks_11 0 rfl ?_
  refine z_k C d_Pace_turnTicks_12 ?_
  refine z_iload C d_Pace_turnTicks_13 0 rfl ?_
  refine z_isub C d_Pace_turnTicks_14 ?_
  refine z_mmin C cm_Pace_40 (Nat.le_of_ble_eq_true rfl) (Nat.le_of_ble_eq_true rfl) ⟨Nat.le_of_ble_eq_true rfl, Nat.le_of_ble_eq_true rfl⟩ d_Pace_turnTicks_15 ?_
  refine z_imul C d_Pace_turnTicks_18 ?_
  exact zp_iret C hr hlk d_Pace_turnTicks_19 h
def wp_Pace_goTicks (ce_barCount : Int32) (ce_barX0 : Nat → Int32) (ce_barY0 : Nat → Int32) (ce_barX1 : Nat → Int32) (ce_barY1 : Nat → Int32) (pa_travel : Int32) (pa_lift : Int32) (p0 : Int32) (p1 : Int32) (p2 : Int32) (p3 : Int32) (post : Int32 → Prop) : Prop :=
  (wp_SeamCell_cutUp (imax (iabs (p2 - p0)) (iabs (p3 - p1))) pa_travel (fun r_1 => (wp_Cell_isFree ce_barCount ce_barX0 ce_barY0 ce_barX1 ce_barY1 p0 p1 p2 p3 (fun r_2 => ((r_2 = 0 → (post (r_1 + ((2 : Int32) * pa_lift)))) ∧ (¬ r_2 = 0 → (post r_1)))))))
abbrev rm_Pace_goTicks : Room := { frames := 3, cells := 0, slots := 0, locals := 79 }
set_option maxHeartbeats 4000000 in
set_option maxRecDepth 100000 in
theorem c_Pace_goTicks (l : Launch) (D : va_G) (κ : KT) (h_ce : Nat) (h_ce_barX0 : Nat) (h_ce_barY0 : Nat) (h_ce_barX1 : Nat) (h_ce_barY1 : Nat) (h_pa : Nat) (ce_middleX : Int32) (ce_middleY : Int32) (ce_shiftX : Int32) (ce_shiftY : Int32) (ce_linkA : Int32) (ce_linkB : Int32) (ce_flatness : Int32) (ce_barCount : Int32) (ce_barX0 : Nat → Int32) (ce_barY0 : Nat → Int32) (ce_barX1 : Nat → Int32) (ce_barY1 : Nat → Int32) (pa_turn : Int32) (pa_travel : Int32) (pa_lift : Int32) (pa_cool : Int32) (pa_homeX : Int32) (pa_homeY : Int32) (p0 : Int32) (p1 : Int32) (p2 : Int32) (p3 : Int32) (post : Int32 → Prop) (h : wp_Pace_goTicks ce_barCount ce_barX0 ce_barY0 ce_barX1 ce_barY1 pa_travel pa_lift p0 p1 p2 p3 post) : Met l y_Pace_goTicks (wsG y_Pace_goTicks b_Pace_goTicks 6 (some .int)) rm_Pace_goTicks (PP D κ [.ref h_pa, .int p0, .int p1, .int p2, .int p3] [(h_ce, .inr (1, [.int ce_middleX, .int ce_middleY, .int ce_shiftX, .int ce_shiftY, .int ce_linkA, .int ce_linkB, .int ce_flatness, .int ce_barCount, .ref h_ce_barX0, .ref h_ce_barY0, .ref h_ce_barX1, .ref h_ce_barY1])), (h_ce_barX0, cI κ 4 ce_barX0), (h_ce_barY0, cI κ 4 ce_barY0), (h_ce_barX1, cI κ 4 ce_barX1), (h_ce_barY1, cI κ 4 ce_barY1), (h_pa, .inr (3, [.ref h_ce, .int pa_turn, .int pa_travel, .int pa_lift, .int pa_cool, .int pa_homeX, .int pa_homeY]))]) (vp_Si post) 0 0 (fun _ => False) := by
  refine zp_start [(0, .ref h_pa), (1, .int p0), (2, .int p1), (3, .int p2), (4, .int p3)] rfl (Nat.le_of_ble_eq_true rfl) rfl ?_
  intro p e s m args below meth c C hr hlk
  unfold wp_Pace_goTicks at h
  refine z_iload C d_Pace_goTicks_0 3 rfl ?_
  refine z_iload C d_Pace_goTicks_1 1 rfl ?_
  refine z_isub C d_Pace_goTicks_2 ?_
  refine z_mabs C cm_Pace_34 (Nat.le_of_ble_eq_true rfl) (Nat.le_of_ble_eq_true rfl) ⟨Nat.le_of_ble_eq_true rfl, Nat.le_of_ble_eq_true rfl⟩ d_Pace_goTicks_3 ?_
  refine z_iload C d_Pace_goTicks_6 4 rfl ?_
  refine z_iload C d_Pace_goTicks_8 2 rfl ?_
  refine z_isub C d_Pace_goTicks_9 ?_
  refine z_mabs C cm_Pace_34 (Nat.le_of_ble_eq_true rfl) (Nat.le_of_ble_eq_true rfl) ⟨Nat.le_of_ble_eq_true rfl, Nat.le_of_ble_eq_true rfl⟩ d_Pace_goTicks_10 ?_
  refine z_mmax C cm_Pace_44 (Nat.le_of_ble_eq_true rfl) (Nat.le_of_ble_eq_true rfl) ⟨Nat.le_of_ble_eq_true rfl, Nat.le_of_ble_eq_true rfl⟩ d_Pace_goTicks_13 ?_
  refine z_aload C d_Pace_goTicks_16 0 rfl ?_
  refine z_get C fl_Pace_15 5 rfl rfl d_Pace_goTicks_17 ?_
  refine z_npi C (rest := []) (c_SeamCell_cutUp l D κ (imax (iabs (p2 - p0)) (iabs (p3 - p1))) pa_travel _ h) cn_Pace_47 ⟨rfl, rfl⟩ ⟨⟨Nat.le_of_ble_eq_true rfl, Nat.le_of_ble_eq_true rfl⟩, Nat.le_of_ble_eq_true rfl, Nat.le_of_ble_eq_true rfl⟩ [] rfl rfl rfl (Nat.le_of_ble_eq_true rfl) d_Pace_goTicks_20 (fun r_1 h => ?_)
  refine z_istore C [(5, .int r_1), (0, .ref h_pa), (1, .int p0), (2, .int p1), (3, .int p2), (4, .int p3)] d_Pace_goTicks_23 rfl rfl ?_
  refine z_aload C d_Pace_goTicks_25 1 rfl ?_
  refine z_get C fl_Pace_30 5 rfl rfl d_Pace_goTicks_26 ?_
  refine z_iload C d_Pace_goTicks_29 2 rfl ?_
  refine z_iload C d_Pace_goTicks_30 3 rfl ?_
  refine z_iload C d_Pace_goTicks_31 4 rfl ?_
  refine z_iload C d_Pace_goTicks_32 5 rfl ?_
  refine z_vpi C (rest := []) (c_Cell_isFree l D κ h_ce h_ce_barX0 h_ce_barY0 h_ce_barX1 h_ce_barY1 ce_middleX ce_middleY ce_shiftX ce_shiftY ce_linkA ce_linkB ce_flatness ce_barCount ce_barX0 ce_barY0 ce_barX1 ce_barY1 p0 p1 p2 p3 _ h) cv_Pace_50 ⟨rfl, rfl⟩ ⟨⟨Nat.le_of_ble_eq_true rfl, Nat.le_of_ble_eq_true rfl⟩, Nat.le_of_ble_eq_true rfl, Nat.le_of_ble_eq_true rfl⟩ 0 rfl [0, 1, 2, 3, 4] rfl rfl rfl (Nat.le_of_ble_eq_true rfl) d_Pace_goTicks_34 (fun r_2 h => ?_)
  refine z_if_eq C d_Pace_goTicks_37 (fun c_3 => ?_) (fun c_3 => ?_)
  · replace h := h.1 c_3
    refine z_iload C d_Pace_goTicks_45 0 rfl ?_
    refine z_k C d_Pace_goTicks_47 ?_
    refine z_aload C d_Pace_goTicks_48 1 rfl ?_
    refine z_get C fl_Pace_18 5 rfl rfl d_Pace_goTicks_49 ?_
    refine z_imul C d_Pace_goTicks_52 ?_
    refine z_iadd C d_Pace_goTicks_53 ?_
    exact zp_iret C hr hlk d_Pace_goTicks_54 h
  · replace h := h.2 c_3
    refine z_iload C d_Pace_goTicks_40 0 rfl ?_
    refine z_goto C d_Pace_goTicks_42 ?_
    exact zp_iret C hr hlk d_Pace_goTicks_54 h
def wp_Pace_restTicks (pa_cool : Int32) (p0 : Int32) (post : Int32 → Prop) : Prop :=
  (wp_SeamCell_cutDown p0 pa_cool (fun r_1 => (post r_1)))
abbrev rm_Pace_restTicks : Room := { frames := 1, cells := 0, slots := 0, locals := 21 }
set_option maxHeartbeats 4000000 in
set_option maxRecDepth 100000 in
theorem c_Pace_restTicks (l : Launch) (D : va_G) (κ : KT) (h_pa : Nat) (h_ce : Nat) (pa_turn : Int32) (pa_travel : Int32) (pa_lift : Int32) (pa_cool : Int32) (pa_homeX : Int32) (pa_homeY : Int32) (p0 : Int32) (post : Int32 → Prop) (h : wp_Pace_restTicks pa_cool p0 post) : Met l y_Pace_restTicks (wsG y_Pace_restTicks b_Pace_restTicks 2 (some .int)) rm_Pace_restTicks (PP D κ [.ref h_pa, .int p0] [(h_pa, .inr (3, [.ref h_ce, .int pa_turn, .int pa_travel, .int pa_lift, .int pa_cool, .int pa_homeX, .int pa_homeY]))]) (vp_Si post) 0 0 (fun _ => False) := by
  refine zp_start [(0, .ref h_pa), (1, .int p0)] rfl (Nat.le_of_ble_eq_true rfl) rfl ?_
  intro p e s m args below meth c C hr hlk
  unfold wp_Pace_restTicks at h
  refine z_iload C d_Pace_restTicks_0 1 rfl ?_
  refine z_aload C d_Pace_restTicks_1 0 rfl ?_
  refine z_get C fl_Pace_21 0 rfl rfl d_Pace_restTicks_2 ?_
  refine z_npi C (rest := []) (c_SeamCell_cutDown l D κ p0 pa_cool _ h) cn_Pace_56 ⟨rfl, rfl⟩ ⟨⟨Nat.le_of_ble_eq_true rfl, Nat.le_of_ble_eq_true rfl⟩, Nat.le_of_ble_eq_true rfl, Nat.le_of_ble_eq_true rfl⟩ [] rfl rfl rfl (Nat.le_of_ble_eq_true rfl) d_Pace_restTicks_5 (fun r_1 h => ?_)
  exact zp_iret C hr hlk d_Pace_restTicks_8 h
