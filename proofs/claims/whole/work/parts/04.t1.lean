def wp_SeamCell_isFromTo (p0 : Int32) (p1 : Int32) (p2 : Int32) (post : Int32 → Prop) : Prop :=
  ((p0 < p1 → (post (0 : Int32))) ∧ (¬ p0 < p1 → ((p2 < p0 → (post (0 : Int32))) ∧ (¬ p2 < p0 → (post (1 : Int32))))))
abbrev rm_SeamCell_isFromTo : Room := { frames := 0, cells := 0, slots := 0, locals := 0 }
set_option maxHeartbeats 4000000 in
set_option maxRecDepth 100000 in
theorem c_SeamCell_isFromTo (l : Launch) (D : va_G) (κ : KT) (p0 : Int32) (p1 : Int32) (p2 : Int32) (post : Int32 → Prop) (h : wp_SeamCell_isFromTo p0 p1 p2 post) : Met l y_SeamCell_isFromTo (wsG y_SeamCell_isFromTo b_SeamCell_isFromTo 3 (some .boolean)) rm_SeamCell_isFromTo (PP D κ [.int p0, .int p1, .int p2] []) (vp_Si post) 0 0 (fun _ => False) := by
  refine zp_start [(0, .int p0), (1, .int p1), (2, .int p2)] rfl (Nat.le_of_ble_eq_true rfl) rfl ?_
  intro p e s m args below meth c C hr hlk
  unfold wp_SeamCell_isFromTo at h
  refine z_iload C d_SeamCell_isFromTo_0 0 rfl ?_
  refine z_iload C d_SeamCell_isFromTo_1 1 rfl ?_
  refine z_icmp_lt C d_SeamCell_isFromTo_2 (fun c_1 => ?_) (fun c_1 => ?_)
  · replace h := h.1 c_1
    refine z_k C d_SeamCell_isFromTo_14 ?_
    exact zp_zret C hr hlk (Or.inl rfl) d_SeamCell_isFromTo_15 h
  · replace h := h.2 c_1
    refine z_iload C d_SeamCell_isFromTo_5 0 rfl ?_
    refine z_iload C d_SeamCell_isFromTo_6 2 rfl ?_
    refine z_icmp_gt C d_SeamCell_isFromTo_7 (fun c_2 => ?_) (fun c_2 => ?_)
    · replace h := h.1 c_2
      refine z_k C d_SeamCell_isFromTo_14 ?_
      exact zp_zret C hr hlk (Or.inl rfl) d_SeamCell_isFromTo_15 h
    · replace h := h.2 c_2
      refine z_k C d_SeamCell_isFromTo_10 ?_
      refine z_goto C d_SeamCell_isFromTo_11 ?_
      exact zp_zret C hr hlk (Or.inr rfl) d_SeamCell_isFromTo_15 h
def wp_SeamCell_square (p0 : Int32) (post : Int32 → Prop) : Prop :=
  (post (p0 * p0))
abbrev rm_SeamCell_square : Room := { frames := 0, cells := 0, slots := 0, locals := 0 }
set_option maxHeartbeats 4000000 in
set_option maxRecDepth 100000 in
theorem c_SeamCell_square (l : Launch) (D : va_G) (κ : KT) (p0 : Int32) (post : Int32 → Prop) (h : wp_SeamCell_square p0 post) : Met l y_SeamCell_square (wsG y_SeamCell_square b_SeamCell_square 1 (some .int)) rm_SeamCell_square (PP D κ [.int p0] []) (vp_Si post) 0 0 (fun _ => False) := by
  refine zp_start [(0, .int p0)] rfl (Nat.le_of_ble_eq_true rfl) rfl ?_
  intro p e s m args below meth c C hr hlk
  unfold wp_SeamCell_square at h
  refine z_iload C d_SeamCell_square_0 0 rfl ?_
  refine z_iload C d_SeamCell_square_1 0 rfl ?_
  refine z_imul C d_SeamCell_square_2 ?_
  exact zp_iret C hr hlk d_SeamCell_square_3 h
def wp_SeamCell_cutUp (p0 : Int32) (p1 : Int32) (post : Int32 → Prop) : Prop :=
  (((1 : Int32) ≤ p1 → ((¬ p1 = 0) ∧ (post (((p0 + p1) - (1 : Int32)) / p1)))) ∧ (¬ (1 : Int32) ≤ p1 → (post (0 : Int32))))
abbrev rm_SeamCell_cutUp : Room := { frames := 0, cells := 0, slots := 0, locals := 0 }
set_option maxHeartbeats 4000000 in
set_option maxRecDepth 100000 in
theorem c_SeamCell_cutUp (l : Launch) (D : va_G) (κ : KT) (p0 : Int32) (p1 : Int32) (post : Int32 → Prop) (h : wp_SeamCell_cutUp p0 p1 post) : Met l y_SeamCell_cutUp (wsG y_SeamCell_cutUp b_SeamCell_cutUp 2 (some .int)) rm_SeamCell_cutUp (PP D κ [.int p0, .int p1] []) (vp_Si post) 0 0 (fun _ => False) := by
  refine zp_start [(0, .int p0), (1, .int p1)] rfl (Nat.le_of_ble_eq_true rfl) rfl ?_
  intro p e s m args below meth c C hr hlk
  unfold wp_SeamCell_cutUp at h
  refine z_iload C d_SeamCell_cutUp_0 1 rfl ?_
  refine z_k C d_SeamCell_cutUp_1 ?_
  refine z_icmp_ge C d_SeamCell_cutUp_2 (fun c_1 => ?_) (fun c_1 => ?_)
  · replace h := h.1 c_1
    refine z_iload C d_SeamCell_cutUp_9 0 rfl ?_
    refine z_iload C d_SeamCell_cutUp_10 1 rfl ?_
    refine z_iadd C d_SeamCell_cutUp_11 ?_
    refine z_k C d_SeamCell_cutUp_12 ?_
    refine z_isub C d_SeamCell_cutUp_13 ?_
    refine z_iload C d_SeamCell_cutUp_14 1 rfl ?_
    refine z_idiv C d_SeamCell_cutUp_15 h.1 ?_
    replace h := h.2
    exact zp_iret C hr hlk d_SeamCell_cutUp_16 h
  · replace h := h.2 c_1
    refine z_k C d_SeamCell_cutUp_5 ?_
    refine z_goto C d_SeamCell_cutUp_6 ?_
    exact zp_iret C hr hlk d_SeamCell_cutUp_16 h
def wp_SeamCell_cutDown (p0 : Int32) (p1 : Int32) (post : Int32 → Prop) : Prop :=
  (((1 : Int32) ≤ p1 → ((¬ p1 = 0) ∧ (post (p0 / p1)))) ∧ (¬ (1 : Int32) ≤ p1 → (post (0 : Int32))))
abbrev rm_SeamCell_cutDown : Room := { frames := 0, cells := 0, slots := 0, locals := 0 }
set_option maxHeartbeats 4000000 in
set_option maxRecDepth 100000 in
theorem c_SeamCell_cutDown (l : Launch) (D : va_G) (κ : KT) (p0 : Int32) (p1 : Int32) (post : Int32 → Prop) (h : wp_SeamCell_cutDown p0 p1 post) : Met l y_SeamCell_cutDown (wsG y_SeamCell_cutDown b_SeamCell_cutDown 2 (some .int)) rm_SeamCell_cutDown (PP D κ [.int p0, .int p1] []) (vp_Si post) 0 0 (fun _ => False) := by
  refine zp_start [(0, .int p0), (1, .int p1)] rfl (Nat.le_of_ble_eq_true rfl) rfl ?_
  intro p e s m args below meth c C hr hlk
  unfold wp_SeamCell_cutDown at h
  refine z_iload C d_SeamCell_cutDown_0 1 rfl ?_
  refine z_k C d_SeamCell_cutDown_1 ?_
  refine z_icmp_ge C d_SeamCell_cutDown_2 (fun c_1 => ?_) (fun c_1 => ?_)
  · replace h := h.1 c_1
    refine z_iload C d_SeamCell_cutDown_9 0 rfl ?_
    refine z_iload C d_SeamCell_cutDown_10 1 rfl ?_
    refine z_idiv C d_SeamCell_cutDown_11 h.1 ?_
    replace h := h.2
    exact zp_iret C hr hlk d_SeamCell_cutDown_12 h
  · replace h := h.2 c_1
    refine z_k C d_SeamCell_cutDown_5 ?_
    refine z_goto C d_SeamCell_cutDown_6 ?_
    exact zp_iret C hr hlk d_SeamCell_cutDown_12 h
def wp_SeamCell_areFromTo (p0 : Int32) (p1 : Int32) (p2 : Int32) (p3 : Int32) (p4 : Int32) (p5 : Int32) (post : Int32 → Prop) : Prop :=
  (wp_SeamCell_isFromTo p0 p4 p5 (fun r_1 => ((r_1 = 0 → (post (0 : Int32))) ∧ (¬ r_1 = 0 → (wp_SeamCell_isFromTo p1 p4 p5 (fun r_3 => ((r_3 = 0 → (post (0 : Int32))) ∧ (¬ r_3 = 0 → (wp_SeamCell_isFromTo p2 p4 p5 (fun r_5 => ((r_5 = 0 → (post (0 : Int32))) ∧ (¬ r_5 = 0 → (wp_SeamCell_isFromTo p3 p4 p5 (fun r_7 => ((r_7 = 0 → (post (0 : Int32))) ∧ (¬ r_7 = 0 → (post (1 : Int32))))))))))))))))))
abbrev rm_SeamCell_areFromTo : Room := { frames := 1, cells := 0, slots := 0, locals := 22 }
set_option maxHeartbeats 4000000 in
set_option maxRecDepth 100000 in
theorem c_SeamCell_areFromTo (l : Launch) (D : va_G) (κ : KT) (p0 : Int32) (p1 : Int32) (p2 : Int32) (p3 : Int32) (p4 : Int32) (p5 : Int32) (post : Int32 → Prop) (h : wp_SeamCell_areFromTo p0 p1 p2 p3 p4 p5 post) : Met l y_SeamCell_areFromTo (wsG y_SeamCell_areFromTo b_SeamCell_areFromTo 6 (some .boolean)) rm_SeamCell_areFromTo (PP D κ [.int p0, .int p1, .int p2, .int p3, .int p4, .int p5] []) (vp_Si post) 0 0 (fun _ => False) := by
  refine zp_start [(0, .int p0), (1, .int p1), (2, .int p2), (3, .int p3), (4, .int p4), (5, .int p5)] rfl (Nat.le_of_ble_eq_true rfl) rfl ?_
  intro p e s m args below meth c C hr hlk
  unfold wp_SeamCell_areFromTo at h
  refine z_iload C d_SeamCell_areFromTo_0 0 rfl ?_
  refine z_iload C d_SeamCell_areFromTo_1 4 rfl ?_
  refine z_iload C d_SeamCell_areFromTo_3 5 rfl ?_
  refine z_spi C (rest := []) (c_SeamCell_isFromTo l D κ p0 p4 p5 _ h) cs_SeamCell_62 ⟨rfl, rfl⟩ ⟨⟨Nat.le_of_ble_eq_true rfl, Nat.le_of_ble_eq_true rfl⟩, Nat.le_of_ble_eq_true rfl, Nat.le_of_ble_eq_true rfl⟩ [] rfl rfl rfl (Nat.le_of_ble_eq_true rfl) d_SeamCell_areFromTo_5 (fun r_1 h => ?_)
  refine z_if_eq C d_SeamCell_areFromTo_8 (fun c_2 => ?_) (fun c_2 => ?_)
  · replace h := h.1 c_2
    refine z_k C d_SeamCell_areFromTo_48 ?_
    exact zp_zret C hr hlk (Or.inl rfl) d_SeamCell_areFromTo_49 h
  · replace h := h.2 c_2
    refine z_iload C d_SeamCell_areFromTo_11 1 rfl ?_
    refine z_iload C d_SeamCell_areFromTo_12 4 rfl ?_
    refine z_iload C d_SeamCell_areFromTo_14 5 rfl ?_
    refine z_spi C (rest := []) (c_SeamCell_isFromTo l D κ p1 p4 p5 _ h) cs_SeamCell_62 ⟨rfl, rfl⟩ ⟨⟨Nat.le_of_ble_eq_true rfl, Nat.le_of_ble_eq_true rfl⟩, Nat.le_of_ble_eq_true rfl, Nat.le_of_ble_eq_true rfl⟩ [] rfl rfl rfl (Nat.le_of_ble_eq_true rfl) d_SeamCell_areFromTo_16 (fun r_3 h => ?_)
    refine z_if_eq C d_SeamCell_areFromTo_19 (fun c_4 => ?_) (fun c_4 => ?_)
    · replace h := h.1 c_4
      refine z_k C d_SeamCell_areFromTo_48 ?_
      exact zp_zret C hr hlk (Or.inl rfl) d_SeamCell_areFromTo_49 h
    · replace h := h.2 c_4
      refine z_iload C d_SeamCell_areFromTo_22 2 rfl ?_
      refine z_iload C d_SeamCell_areFromTo_23 4 rfl ?_
      refine z_iload C d_SeamCell_areFromTo_25 5 rfl ?_
      refine z_spi C (rest := []) (c_SeamCell_isFromTo l D κ p2 p4 p5 _ h) cs_SeamCell_62 ⟨rfl, rfl⟩ ⟨⟨Nat.le_of_ble_eq_true rfl, Nat.le_of_ble_eq_true rfl⟩, Nat.le_of_ble_eq_true rfl, Nat.le_of_ble_eq_true rfl⟩ [] rfl rfl rfl (Nat.le_of_ble_eq_true rfl) d_SeamCell_areFromTo_27 (fun r_5 h => ?_)
      refine z_if_eq C d_SeamCell_areFromTo_30 (fun c_6 => ?_) (fun c_6 => ?_)
      · replace h := h.1 c_6
        refine z_k C d_SeamCell_areFromTo_48 ?_
        exact zp_zret C hr hlk (Or.inl rfl) d_SeamCell_areFromTo_49 h
      · replace h := h.2 c_6
        refine z_iload C d_SeamCell_areFromTo_33 3 rfl ?_
        refine z_iload C d_SeamCell_areFromTo_34 4 rfl ?_
        refine z_iload C d_SeamCell_areFromTo_36 5 rfl ?_
        refine z_spi C (rest := []) (c_SeamCell_isFromTo l D κ p3 p4 p5 _ h) cs_SeamCell_62 ⟨rfl, rfl⟩ ⟨⟨Nat.le_of_ble_eq_true rfl, Nat.le_of_ble_eq_true rfl⟩, Nat.le_of_ble_eq_true rfl, Nat.le_of_ble_eq_true rfl⟩ [] rfl rfl rfl (Nat.le_of_ble_eq_true rfl) d_SeamCell_areFromTo_38 (fun r_7 h => ?_)
        refine z_if_eq C d_SeamCell_areFromTo_41 (fun c_8 => ?_) (fun c_8 => ?_)
        · replace h := h.1 c_8
          refine z_k C d_SeamCell_areFromTo_48 ?_
          exact zp_zret C hr hlk (Or.inl rfl) d_SeamCell_areFromTo_49 h
        · replace h := h.2 c_8
          refine z_k C d_SeamCell_areFromTo_44 ?_
          refine z_goto C d_SeamCell_areFromTo_45 ?_
          exact zp_zret C hr hlk (Or.inr rfl) d_SeamCell_areFromTo_49 h
def wpB_SeamCell_rootUp_2 (p0 : Int32) (post : Int32 → Prop) (ih_2 : Int32 → Prop) (x1_1 : Int32) : Prop :=
  (((300 : Int32) ≤ x1_1 → (post x1_1)) ∧ (¬ (300 : Int32) ≤ x1_1 → (wp_SeamCell_square x1_1 (fun r_3 => ((p0 ≤ r_3 → (post x1_1)) ∧ (¬ p0 ≤ r_3 → (∀ x1_5 : Int32, x1_5 = x1_1 + (1 : Int32) → (ih_2 x1_5))))))))
noncomputable def wpL_SeamCell_rootUp_2 (p0 : Int32) (post : Int32 → Prop) : Nat → Int32 → Prop := fun n => @Nat.rec (fun _ => Int32 → Prop) (fun _ => False) (fun _ ih_2 => wpB_SeamCell_rootUp_2 p0 post ih_2) n
def wp_SeamCell_rootUp (p0 : Int32) (post : Int32 → Prop) : Prop :=
  (∃ n : Nat, wpL_SeamCell_rootUp_2 p0 post n (0 : Int32))
abbrev rm_SeamCell_rootUp : Room := { frames := 1, cells := 0, slots := 0, locals := 20 }
set_option maxHeartbeats 4000000 in
set_option maxRecDepth 100000 in
theorem c_SeamCell_rootUp (l : Launch) (D : va_G) (κ : KT) (p0 : Int32) (post : Int32 → Prop) (h : wp_SeamCell_rootUp p0 post) : Met l y_SeamCell_rootUp (wsG y_SeamCell_rootUp b_SeamCell_rootUp 2 (some .int)) rm_SeamCell_rootUp (PP D κ [.int p0] []) (vp_Si post) 0 0 (fun _ => False) := by
  refine zp_start [(0, .int p0)] rfl (Nat.le_of_ble_eq_true rfl) rfl ?_
  intro p e s m args below meth c C hr hlk
  unfold wp_SeamCell_rootUp at h
  refine z_k C d_SeamCell_rootUp_0 ?_
  refine z_istore C [(1, .int (0 : Int32)), (0, .int p0)] d_SeamCell_rootUp_1 rfl rfl ?_
  obtain ⟨n_2, h⟩ := h
  have LP_2 : ∀ (n : Nat) (x1_1 : Int32), wpL_SeamCell_rootUp_2 p0 post n x1_1 → Zw p l e rm_SeamCell_rootUp s m args below meth c 0 0 (MQ below (vp_Si post) args s 0 0 (fun _ => False)) D 2 none [] [(0, .int p0), (1, .int x1_1)] 2 [] := by
    intro n
    induction n with
    | zero => intro x1_1 h; exact False.elim h
    | succ nn_2 IH_2 =>
      intro x1_1 h
      have h : wpB_SeamCell_rootUp_2 p0 post (wpL_SeamCell_rootUp_2 p0 post nn_2) x1_1 := h
      unfold wpB_SeamCell_rootUp_2 at h
      refine z_iload C d_SeamCell_rootUp_2 1 rfl ?_
      refine z_k C d_SeamCell_rootUp_3 ?_
      refine z_icmp_ge C d_SeamCell_rootUp_6 (fun c_2 => ?_) (fun c_2 => ?_)
      · replace h := h.1 c_2
        refine z_iload C d_SeamCell_rootUp_23 1 rfl ?_
        exact zp_iret C hr hlk d_SeamCell_rootUp_24 h
      · replace h := h.2 c_2
        refine z_iload C d_SeamCell_rootUp_9 1 rfl ?_
        refine z_spi C (rest := []) (c_SeamCell_square l D κ x1_1 _ h) cs_SeamCell_263 ⟨rfl, rfl⟩ ⟨⟨Nat.le_of_ble_eq_true rfl, Nat.le_of_ble_eq_true rfl⟩, Nat.le_of_ble_eq_true rfl, Nat.le_of_ble_eq_true rfl⟩ [] rfl rfl rfl (Nat.le_of_ble_eq_true rfl) d_SeamCell_rootUp_10 (fun r_3 h => ?_)
        refine z_iload C d_SeamCell_rootUp_13 0 rfl ?_
        refine z_icmp_ge C d_SeamCell_rootUp_14 (fun c_4 => ?_) (fun c_4 => ?_)
        · replace h := h.1 c_4
          refine z_iload C d_SeamCell_rootUp_23 1 rfl ?_
          exact zp_iret C hr hlk d_SeamCell_rootUp_24 h
        · replace h := h.2 c_4
          obtain ⟨x1_5, ex1_5⟩ : ∃ y : Int32, y = x1_1 + (1 : Int32) := ⟨_, rfl⟩
          replace h := h x1_5 ex1_5
          refine z_iinc C [(1, .int x1_5), (0, .int p0)] d_SeamCell_rootUp_17 (j := 1) rfl (by rw [ex1_5]; rfl) rfl rfl ?_
          refine z_goto C d_SeamCell_rootUp_20 ?_
          refine z_sub [1, 0] [(0, .int p0), (1, .int x1_5)] rfl ?_
          exact IH_2 x1_5 h
  refine z_sub [1, 0] [(0, .int p0), (1, .int (0 : Int32))] rfl ?_
  exact LP_2 n_2 (0 : Int32) h
def wp_Cell_xOf (ce_middleX : Int32) (ce_shiftX : Int32) (p0 : Int32) (p1 : Int32) (p2 : Int32) (post : Int32 → Prop) : Prop :=
  ((¬ p2 = 0 → ((¬ p2 = (1 : Int32) → ((¬ p2 = (2 : Int32) → (post ((ce_middleX + p1) + ce_shiftX))) ∧ (p2 = (2 : Int32) → (∀ x4_4 : Int32, x4_4 = -p0 → (post ((ce_middleX + x4_4) + ce_shiftX)))))) ∧ (p2 = (1 : Int32) → (∀ x4_5 : Int32, x4_5 = -p1 → (post ((ce_middleX + x4_5) + ce_shiftX)))))) ∧ (p2 = 0 → (post ((ce_middleX + p0) + ce_shiftX))))
abbrev rm_Cell_xOf : Room := { frames := 0, cells := 0, slots := 0, locals := 0 }
set_option maxHeartbeats 4000000 in
set_option maxRecDepth 100000 in
theorem c_Cell_xOf (l : Launch) (D : va_G) (κ : KT) (h_ce : Nat) (h_ce_barX0 : Nat) (h_ce_barY0 : Nat) (h_ce_barX1 : Nat) (h_ce_barY1 : Nat) (ce_middleX : Int32) (ce_middleY : Int32) (ce_shiftX : Int32) (ce_shiftY : Int32) (ce_linkA : Int32) (ce_linkB : Int32) (ce_flatness : Int32) (ce_barCount : Int32) (p0 : Int32) (p1 : Int32) (p2 : Int32) (post : Int32 → Prop) (h : wp_Cell_xOf ce_middleX ce_shiftX p0 p1 p2 post) : Met l y_Cell_xOf (wsG y_Cell_xOf b_Cell_xOf 5 (some .int)) rm_Cell_xOf (PP D κ [.ref h_ce, .int p0, .int p1, .int p2] [(h_ce, .inr (1, [.int ce_middleX, .int ce_middleY, .int ce_shiftX, .int ce_shiftY, .int ce_linkA, .int ce_linkB, .int ce_flatness, .int ce_barCount, .ref h_ce_barX0, .ref h_ce_barY0, .ref h_ce_barX1, .ref h_ce_barY1]))]) (vp_Si post) 0 0 (fun _ => False) := by
  refine zp_start [(0, .ref h_ce), (1, .int p0), (2, .int p1), (3, .int p2)] rfl (Nat.le_of_ble_eq_true rfl) rfl ?_
  intro p e s m args below meth c C hr hlk
  unfold wp_Cell_xOf at h
  refine z_iload C d_Cell_xOf_0 3 rfl ?_
  refine z_if_ne C d_Cell_xOf_1 (fun c_1 => ?_) (fun c_1 => ?_)
  · replace h := h.1 c_1
    refine z_iload C d_Cell_xOf_8 3 rfl ?_
    refine z_k C d_Cell_xOf_9 ?_
    refine z_icmp_ne C d_Cell_xOf_10 (fun c_2 => ?_) (fun c_2 => ?_)
    · replace h := h.1 c_2
      refine z_iload C d_Cell_xOf_18 3 rfl ?_
      refine z_k C d_Cell_xOf_19 ?_
      refine z_icmp_ne C d_Cell_xOf_20 (fun c_3 => ?_) (fun c_3 => ?_)
      · replace h := h.1 c_3
        refine z_iload C d_Cell_xOf_28 2 rfl ?_
        refine z_istore C [(4, .int p1), (0, .ref h_ce), (1, .int p0), (2, .int p1), (3, .int p2)] d_Cell_xOf_29 rfl rfl ?_
        refine z_aload C d_Cell_xOf_31 1 rfl ?_
        refine z_get C fl_Cell_37 0 rfl rfl d_Cell_xOf_32 ?_
        refine z_iload C d_Cell_xOf_35 0 rfl ?_
        refine z_iadd C d_Cell_xOf_37 ?_
        refine z_aload C d_Cell_xOf_38 1 rfl ?_
        refine z_get C fl_Cell_40 0 rfl rfl d_Cell_xOf_39 ?_
        refine z_iadd C d_Cell_xOf_42 ?_
        exact zp_iret C hr hlk d_Cell_xOf_43 h
      · replace h := h.2 c_3
        refine z_iload C d_Cell_xOf_23 1 rfl ?_
        refine z_ineg C d_Cell_xOf_24 ?_
        refine z_goto C d_Cell_xOf_25 ?_
        refine z_topi (fun x4_4 ex4_4 => ?_)
        replace h := h x4_4 ex4_4
        refine z_istore C [(4, .int x4_4), (0, .ref h_ce), (1, .int p0), (2, .int p1), (3, .int p2)] d_Cell_xOf_29 rfl rfl ?_
        refine z_aload C d_Cell_xOf_31 1 rfl ?_
        refine z_get C fl_Cell_37 0 rfl rfl d_Cell_xOf_32 ?_
        refine z_iload C d_Cell_xOf_35 0 rfl ?_
        refine z_iadd C d_Cell_xOf_37 ?_
        refine z_aload C d_Cell_xOf_38 1 rfl ?_
        refine z_get C fl_Cell_40 0 rfl rfl d_Cell_xOf_39 ?_
        refine z_iadd C d_Cell_xOf_42 ?_
        exact zp_iret C hr hlk d_Cell_xOf_43 h
    · replace h := h.2 c_2
      refine z_iload C d_Cell_xOf_13 2 rfl ?_
      refine z_ineg C d_Cell_xOf_14 ?_
      refine z_goto C d_Cell_xOf_15 ?_
      refine z_topi (fun x4_5 ex4_5 => ?_)
      replace h := h x4_5 ex4_5
      refine z_istore C [(4, .int x4_5), (0, .ref h_ce), (1, .int p0), (2, .int p1), (3, .int p2)] d_Cell_xOf_29 rfl rfl ?_
      refine z_aload C d_Cell_xOf_31 1 rfl ?_
      refine z_get C fl_Cell_37 0 rfl rfl d_Cell_xOf_32 ?_
      refine z_iload C d_Cell_xOf_35 0 rfl ?_
      refine z_iadd C d_Cell_xOf_37 ?_
      refine z_aload C d_Cell_xOf_38 1 rfl ?_
      refine z_get C fl_Cell_40 0 rfl rfl d_Cell_xOf_39 ?_
      refine z_iadd C d_Cell_xOf_42 ?_
      exact zp_iret C hr hlk d_Cell_xOf_43 h
  · replace h := h.2 c_1
    refine z_iload C d_Cell_xOf_4 1 rfl ?_
    refine z_goto C d_Cell_xOf_5 ?_
    refine z_istore C [(4, .int p0), (0, .ref h_ce), (1, .int p0), (2, .int p1), (3, .int p2)] d_Cell_xOf_29 rfl rfl ?_
    refine z_aload C d_Cell_xOf_31 1 rfl ?_
    refine z_get C fl_Cell_37 0 rfl rfl d_Cell_xOf_32 ?_
    refine z_iload C d_Cell_xOf_35 0 rfl ?_
    refine z_iadd C d_Cell_xOf_37 ?_
    refine z_aload C d_Cell_xOf_38 1 rfl ?_
    refine z_get C fl_Cell_40 0 rfl rfl d_Cell_xOf_39 ?_
    refine z_iadd C d_Cell_xOf_42 ?_
    exact zp_iret C hr hlk d_Cell_xOf_43 h
def wp_Cell_yOf (ce_middleY : Int32) (ce_shiftY : Int32) (p0 : Int32) (p1 : Int32) (p2 : Int32) (post : Int32 → Prop) : Prop :=
  ((¬ p2 = 0 → ((¬ p2 = (1 : Int32) → ((¬ p2 = (2 : Int32) → (∀ x4_4 : Int32, x4_4 = -p0 → (post ((ce_middleY + x4_4) + ce_shiftY)))) ∧ (p2 = (2 : Int32) → (∀ x4_5 : Int32, x4_5 = -p1 → (post ((ce_middleY + x4_5) + ce_shiftY)))))) ∧ (p2 = (1 : Int32) → (post ((ce_middleY + p0) + ce_shiftY))))) ∧ (p2 = 0 → (post ((ce_middleY + p1) + ce_shiftY))))
abbrev rm_Cell_yOf : Room := { frames := 0, cells := 0, slots := 0, locals := 0 }
set_option maxHeartbeats 4000000 in
set_option maxRecDepth 100000 in
theorem c_Cell_yOf (l : Launch) (D : va_G) (κ : KT) (h_ce : Nat) (h_ce_barX0 : Nat) (h_ce_barY0 : Nat) (h_ce_barX1 : Nat) (h_ce_barY1 : Nat) (ce_middleX : Int32) (ce_middleY : Int32) (ce_shiftX : Int32) (ce_shiftY : Int32) (ce_linkA : Int32) (ce_linkB : Int32) (ce_flatness : Int32) (ce_barCount : Int32) (p0 : Int32) (p1 : Int32) (p2 : Int32) (post : Int32 → Prop) (h : wp_Cell_yOf ce_middleY ce_shiftY p0 p1 p2 post) : Met l y_Cell_yOf (wsG y_Cell_yOf b_Cell_yOf 5 (some .int)) rm_Cell_yOf (PP D κ [.ref h_ce, .int p0, .int p1, .int p2] [(h_ce, .inr (1, [.int ce_middleX, .int ce_middleY, .int ce_shiftX, .int ce_shiftY, .int ce_linkA, .int ce_linkB, .int ce_flatness, .int ce_barCount, .ref h_ce_barX0, .ref h_ce_barY0, .ref h_ce_barX1, .ref h_ce_barY1]))]) (vp_Si post) 0 0 (fun _ => False) := by
  refine zp_start [(0, .ref h_ce), (1, .int p0), (2, .int p1), (3, .int p2)] rfl (Nat.le_of_ble_eq_true rfl) rfl ?_
  intro p e s m args below meth c C hr hlk
  unfold wp_Cell_yOf at h
  refine z_iload C d_Cell_yOf_0 3 rfl ?_
  refine z_if_ne C d_Cell_yOf_1 (fun c_1 => ?_) (fun c_1 => ?_)
  · replace h := h.1 c_1
    refine z_iload C d_Cell_yOf_8 3 rfl ?_
    refine z_k C d_Cell_yOf_9 ?_
    refine z_icmp_ne C d_Cell_yOf_10 (fun c_2 => ?_) (fun c_2 => ?_)
    · replace h := h.1 c_2
      refine z_iload C d_Cell_yOf_17 3 rfl ?_
      refine z_k C d_Cell_yOf_18 ?_
      refine z_icmp_ne C d_Cell_yOf_19 (fun c_3 => ?_) (fun c_3 => ?_)
      · replace h := h.1 c_3
        refine z_iload C d_Cell_yOf_27 1 rfl ?_
        refine z_ineg C d_Cell_yOf_28 ?_
        refine z_topi (fun x4_4 ex4_4 => ?_)
        replace h := h x4_4 ex4_4
        refine z_istore C [(4, .int x4_4), (0, .ref h_ce), (1, .int p0), (2, .int p1), (3, .int p2)] d_Cell_yOf_29 rfl rfl ?_
        refine z_aload C d_Cell_yOf_31 1 rfl ?_
        refine z_get C fl_Cell_43 0 rfl rfl d_Cell_yOf_32 ?_
        refine z_iload C d_Cell_yOf_35 0 rfl ?_
        refine z_iadd C d_Cell_yOf_37 ?_
        refine z_aload C d_Cell_yOf_38 1 rfl ?_
        refine z_get C fl_Cell_46 0 rfl rfl d_Cell_yOf_39 ?_
        refine z_iadd C d_Cell_yOf_42 ?_
        exact zp_iret C hr hlk d_Cell_yOf_43 h
      · replace h := h.2 c_3
        refine z_iload C d_Cell_yOf_22 2 rfl ?_
        refine z_ineg C d_Cell_yOf_23 ?_
        refine z_goto C d_Cell_yOf_24 ?_
        refine z_topi (fun x4_5 ex4_5 => ?_)
        replace h := h x4_5 ex4_5
        refine z_istore C [(4, .int x4_5), (0, .ref h_ce), (1, .int p0), (2, .int p1), (3, .int p2)] d_Cell_yOf_29 rfl rfl ?_
        refine z_aload C d_Cell_yOf_31 1 rfl ?_
        refine z_get C fl_Cell_43 0 rfl rfl d_Cell_yOf_32 ?_
        refine z_iload C d_Cell_yOf_35 0 rfl ?_
        refine z_iadd C d_Cell_yOf_37 ?_
        refine z_aload C d_Cell_yOf_38 1 rfl ?_
        refine z_get C fl_Cell_46 0 rfl rfl d_Cell_yOf_39 ?_
        refine z_iadd C d_Cell_yOf_42 ?_
        exact zp_iret C hr hlk d_Cell_yOf_43 h
    · replace h := h.2 c_2
      refine z_iload C d_Cell_yOf_13 1 rfl ?_
      refine z_goto C d_Cell_yOf_14 ?_
      refine z_istore C [(4, .int p0), (0, .ref h_ce), (1, .int p0), (2, .int p1), (3, .int p2)] d_Cell_yOf_29 rfl rfl ?_
      refine z_aload C d_Cell_yOf_31 1 rfl ?_
      refine z_get C fl_Cell_43 0 rfl rfl d_Cell_yOf_32 ?_
      refine z_iload C d_Cell_yOf_35 0 rfl ?_
      refine z_iadd C d_Cell_yOf_37 ?_
      refine z_aload C d_Cell_yOf_38 1 rfl ?_
      refine z_get C fl_Cell_46 0 rfl rfl d_Cell_yOf_39 ?_
      refine z_iadd C d_Cell_yOf_42 ?_
      exact zp_iret C hr hlk d_Cell_yOf_43 h
  · replace h := h.2 c_1
    refine z_iload C d_Cell_yOf_4 2 rfl ?_
    refine z_goto C d_Cell_yOf_5 ?_
    refine z_istore C [(4, .int p1), (0, .ref h_ce), (1, .int p0), (2, .int p1), (3, .int p2)] d_Cell_yOf_29 rfl rfl ?_
    refine z_aload C d_Cell_yOf_31 1 rfl ?_
    refine z_get C fl_Cell_43 0 rfl rfl d_Cell_yOf_32 ?_
    refine z_iload C d_Cell_yOf_35 0 rfl ?_
    refine z_iadd C d_Cell_yOf_37 ?_
    refine z_aload C d_Cell_yOf_38 1 rfl ?_
    refine z_get C fl_Cell_46 0 rfl rfl d_Cell_yOf_39 ?_
    refine z_iadd C d_Cell_yOf_42 ?_
    exact zp_iret C hr hlk d_Cell_yOf_43 h
def wp_Cell_isFlat (ce_flatness : Int32) (p0 : Int32) (p1 : Int32) (p2 : Int32) (p3 : Int32) (post : Int32 → Prop) : Prop :=
  (((ce_flatness * (iabs (p2 - p0))) < ((iabs (p3 - p1)) * (100 : Int32)) → (post (0 : Int32))) ∧ (¬ (ce_flatness * (iabs (p2 - p0))) < ((iabs (p3 - p1)) * (100 : Int32)) → (post (1 : Int32))))
abbrev rm_Cell_isFlat : Room := { frames := 1, cells := 0, slots := 0, locals := 21 }
set_option maxHeartbeats 4000000 in
set_option maxRecDepth 100000 in
theorem c_Cell_isFlat (l : Launch) (D : va_G) (κ : KT) (h_ce : Nat) (h_ce_barX0 : Nat) (h_ce_barY0 : Nat) (h_ce_barX1 : Nat) (h_ce_barY1 : Nat) (ce_middleX : Int32) (ce_middleY : Int32) (ce_shiftX : Int32) (ce_shiftY : Int32) (ce_linkA : Int32) (ce_linkB : Int32) (ce_flatness : Int32) (ce_barCount : Int32) (p0 : Int32) (p1 : Int32) (p2 : Int32) (p3 : Int32) (post : Int32 → Prop) (h : wp_Cell_isFlat ce_flatness p0 p1 p2 p3 post) : Met l y_Cell_isFlat (wsG y_Cell_isFlat b_Cell_isFlat 5 (some .boolean)) rm_Cell_isFlat (PP D κ [.ref h_ce, .int p0, .int p1, .int p2, .int p3] [(h_ce, .inr (1, [.int ce_middleX, .int ce_middleY, .int ce_shiftX, .int ce_shiftY, .int ce_linkA, .int ce_linkB, .int ce_flatness, .int ce_barCount, .ref h_ce_barX0, .ref h_ce_barY0, .ref h_ce_barX1, .ref h_ce_barY1]))]) (vp_Si post) 0 0 (fun _ => False) := by
  refine zp_start [(0, .ref h_ce), (1, .int p0), (2, .int p1), (3, .int p2), (4, .int p3)] rfl (Nat.le_of_ble_eq_true rfl) rfl ?_
  intro p e s m args below meth c C hr hlk
  unfold wp_Cell_isFlat at h
  refine z_iload C d_Cell_isFlat_0 4 rfl ?_
  refine z_iload C d_Cell_isFlat_2 2 rfl ?_
  refine z_isub C d_Cell_isFlat_3 ?_
  refine z_mabs C cm_Cell_49 (Nat.le_of_ble_eq_true rfl) (Nat.le_of_ble_eq_true rfl) ⟨Nat.le_of_ble_eq_true rfl, Nat.le_of_ble_eq_true rfl⟩ d_Cell_isFlat_4 ?_
  refine z_k C d_Cell_isFlat_7 ?_
  refine z_imul C d_Cell_isFlat_9 ?_
  refine z_aload C d_Cell_isFlat_10 0 rfl ?_
  refine z_get C fl_Cell_18 0 rfl rfl d_Cell_isFlat_11 ?_
  refine z_iload C d_Cell_isFlat_14 3 rfl ?_
  refine z_iload C d_Cell_isFlat_15 1 rfl ?_
  refine z_isub C d_Cell_isFlat_16 ?_
  refine z_mabs C cm_Cell_49 (Nat.le_of_ble_eq_true rfl) (Nat.le_of_ble_eq_true rfl) ⟨Nat.le_of_ble_eq_true rfl, Nat.le_of_ble_eq_true rfl⟩ d_Cell_isFlat_17 ?_
  refine z_imul C d_Cell_isFlat_20 ?_
  refine z_icmp_gt C d_Cell_isFlat_21 (fun c_1 => ?_) (fun c_1 => ?_)
  · replace h := h.1 c_1
    refine z_k C d_Cell_isFlat_28 ?_
    exact zp_zret C hr hlk (Or.inl rfl) d_Cell_isFlat_29 h
  · replace h := h.2 c_1
    refine z_k C d_Cell_isFlat_24 ?_
    refine z_goto C d_Cell_isFlat_25 ?_
    exact zp_zret C hr hlk (Or.inr rfl) d_Cell_isFlat_29 h
def wp_Cell_isWithin (ce_linkA : Int32) (ce_linkB : Int32) (p0 : Int32) (p1 : Int32) (p2 : Int32) (p3 : Int32) (post : Int32 → Prop) : Prop :=
  (wp_SeamCell_square p0 (fun r_1 => (wp_SeamCell_square p1 (fun r_2 => (∀ x5_3 : Int32, x5_3 = r_1 + r_2 → (wp_SeamCell_square p2 (fun r_4 => (wp_SeamCell_square p3 (fun r_5 => (∀ x6_6 : Int32, x6_6 = r_4 + r_5 → (wp_SeamCell_square (ce_linkA + ce_linkB) (fun r_7 => (((imax x5_3 x6_6) ≤ r_7 → (∀ x7_9 : Int32, x7_9 = p2 - p0 → (∀ x8_10 : Int32, x8_10 = p3 - p1 → (∀ x9_11 : Int32, x9_11 = -((p0 * x7_9) + (p1 * x8_10)) → (wp_SeamCell_square x7_9 (fun r_12 => (wp_SeamCell_square x8_10 (fun r_13 => (∀ x10_14 : Int32, x10_14 = r_12 + r_13 → (wp_SeamCell_square (ce_linkA - ce_linkB) (fun r_15 => ((0 < x9_11 → ((x9_11 < x10_14 → (∀ x12_18 : Int64, x12_18 = (p0.toInt64 * x8_10.toInt64) - (p1.toInt64 * x7_9.toInt64) → (((lg_cmp (x12_18 * x12_18) (r_15.toInt64 * x10_14.toInt64)) < 0 → (post (0 : Int32))) ∧ (¬ (lg_cmp (x12_18 * x12_18) (r_15.toInt64 * x10_14.toInt64)) < 0 → (post (1 : Int32)))))) ∧ (¬ x9_11 < x10_14 → ((x6_6 < r_15 → (post (0 : Int32))) ∧ (¬ x6_6 < r_15 → (post (1 : Int32))))))) ∧ (¬ 0 < x9_11 → ((x5_3 < r_15 → (post (0 : Int32))) ∧ (¬ x5_3 < r_15 → (post (1 : Int32))))))))))))))))) ∧ (¬ (imax x5_3 x6_6) ≤ r_7 → (post (0 : Int32))))))))))))))))
abbrev rm_Cell_isWithin : Room := { frames := 1, cells := 0, slots := 0, locals := 21 }
set_option maxHeartbeats 4000000 in
set_option maxRecDepth 100000 in
theorem c_Cell_isWithin (l : Launch) (D : va_G) (κ : KT) (h_ce : Nat) (h_ce_barX0 : Nat) (h_ce_barY0 : Nat) (h_ce_barX1 : Nat) (h_ce_barY1 : Nat) (ce_middleX : Int32) (ce_middleY : Int32) (ce_shiftX : Int32) (ce_shiftY : Int32) (ce_linkA : Int32) (ce_linkB : Int32) (ce_flatness : Int32) (ce_barCount : Int32) (p0 : Int32) (p1 : Int32) (p2 : Int32) (p3 : Int32) (post : Int32 → Prop) (h : wp_Cell_isWithin ce_linkA ce_linkB p0 p1 p2 p3 post) : Met l y_Cell_isWithin (wsG y_Cell_isWithin b_Cell_isWithin 14 (some .boolean)) rm_Cell_isWithin (PP D κ [.ref h_ce, .int p0, .int p1, .int p2, .int p3] [(h_ce, .inr (1, [.int ce_middleX, .int ce_middleY, .int ce_shiftX, .int ce_shiftY, .int ce_linkA, .int ce_linkB, .int ce_flatness, .int ce_barCount, .ref h_ce_barX0, .ref h_ce_barY0, .ref h_ce_barX1, .ref h_ce_barY1]))]) (vp_Si post) 0 0 (fun _ => False) := by
  refine zp_start [(0, .ref h_ce), (1, .int p0), (2, .int p1), (3, .int p2), (4, .int p3)] rfl (Nat.le_of_ble_eq_true rfl) rfl ?_
  intro p e s m args below meth c C hr hlk
  unfold wp_Cell_isWithin at h
  refine z_iload C d_Cell_isWithin_0 1 rfl ?_
  refine z_npi C (rest := []) (c_SeamCell_square l D κ p0 _ h) cn_Cell_55 ⟨rfl, rfl⟩ ⟨⟨Nat.le_of_ble_eq_true rfl, Nat.le_of_ble_eq_true rfl⟩, Nat.le_of_ble_eq_true rfl, Nat.le_of_ble_eq_true rfl⟩ [] rfl rfl rfl (Nat.le_of_ble_eq_true rfl) d_Cell_isWithin_1 (fun r_1 h => ?_)
  refine z_iload C d_Cell_isWithin_4 2 rfl ?_
  refine z_npi C (rest := [.int r_1]) (c_SeamCell_square l D κ p1 _ h) cn_Cell_55 ⟨rfl, rfl⟩ ⟨⟨Nat.le_of_ble_eq_true rfl, Nat.le_of_ble_eq_true rfl⟩, Nat.le_of_ble_eq_true rfl, Nat.le_of_ble_eq_true rfl⟩ [] rfl rfl rfl (Nat.le_of_ble_eq_true rfl) d_Cell_isWithin_5 (fun r_2 h => ?_)
  refine z_iadd C d_Cell_isWithin_8 ?_
  refine z_topi (fun x5_3 ex5_3 => ?_)
  replace h := h x5_3 ex5_3
  refine z_istore C [(5, .int x5_3), (0, .ref h_ce), (1, .int p0), (2, .int p1), (3, .int p2), (4, .int p3)] d_Cell_isWithin_9 rfl rfl ?_
  refine z_iload C d_Cell_isWithin_11 4 rfl ?_
  refine z_npi C (rest := []) (c_SeamCell_square l D κ p2 _ h) cn_Cell_55 ⟨rfl, rfl⟩ ⟨⟨Nat.le_of_ble_eq_true rfl, Nat.le_of_ble_eq_true rfl⟩, Nat.le_of_ble_eq_true rfl, Nat.le_of_ble_eq_true rfl⟩ [] rfl rfl rfl (Nat.le_of_ble_eq_true rfl) d_Cell_isWithin_12 (fun r_4 h => ?_)
  refine z_iload C d_Cell_isWithin_15 5 rfl ?_
  refine z_npi C (rest := [.int r_4]) (c_SeamCell_square l D κ p3 _ h) cn_Cell_55 ⟨rfl, rfl⟩ ⟨⟨Nat.le_of_ble_eq_true rfl, Nat.le_of_ble_eq_true rfl⟩, Nat.le_of_ble_eq_true rfl, Nat.le_of_ble_eq_true rfl⟩ [] rfl rfl rfl (Nat.le_of_ble_eq_true rfl) d_Cell_isWithin_17 (fun r_5 h => ?_)
  refine z_iadd C d_Cell_isWithin_20 ?_
  refine z_topi (fun x6_6 ex6_6 => ?_)
  replace h := h x6_6 ex6_6
  refine z_istore C [(6, .int x6_6), (5, .int x5_3), (0, .ref h_ce), (1, .int p0), (2, .int p1), (3, .int p2), (4, .int p3)] d_Cell_isWithin_21 rfl rfl ?_
  refine z_iload C d_Cell_isWithin_23 1 rfl ?_
  refine z_iload C d_Cell_isWithin_25 0 rfl ?_
  refine z_mmax C cm_Cell_58 (Nat.le_of_ble_eq_true rfl) (Nat.le_of_ble_eq_true rfl) ⟨Nat.le_of_ble_eq_true rfl, Nat.le_of_ble_eq_true rfl⟩ d_Cell_isWithin_27 ?_
  refine z_aload C d_Cell_isWithin_30 2 rfl ?_
  refine z_get C fl_Cell_9 0 rfl rfl d_Cell_isWithin_31 ?_
  refine z_aload C d_Cell_isWithin_34 2 rfl ?_
  refine z_get C fl_Cell_15 0 rfl rfl d_Cell_isWithin_35 ?_
  refine z_iadd C d_Cell_isWithin_38 ?_
  refine z_npi C (rest := [.int (imax x5_3 x6_6)]) (c_SeamCell_square l D κ (ce_linkA + ce_linkB) _ h) cn_Cell_55 ⟨rfl, rfl⟩ ⟨⟨Nat.le_of_ble_eq_true rfl, Nat.le_of_ble_eq_true rfl⟩, Nat.le_of_ble_eq_true rfl, Nat.le_of_ble_eq_true rfl⟩ [] rfl rfl rfl (Nat.le_of_ble_eq_true rfl) d_Cell_isWithin_39 (fun r_7 h => ?_)
  refine z_icmp_le C d_Cell_isWithin_42 (fun c_8 => ?_) (fun c_8 => ?_)
  · replace h := h.1 c_8
    refine z_iload C d_Cell_isWithin_47 5 rfl ?_
    refine z_iload C d_Cell_isWithin_48 3 rfl ?_
    refine z_isub C d_Cell_isWithin_49 ?_
    refine z_topi (fun x7_9 ex7_9 => ?_)
    replace h := h x7_9 ex7_9
    refine z_istore C [(7, .int x7_9), (6, .int x6_6), (5, .int x5_3), (0, .ref h_ce), (1, .int p0), (2, .int p1), (3, .int p2), (4, .int p3)] d_Cell_isWithin_50 rfl rfl ?_
    refine z_iload C d_Cell_isWithin_52 7 rfl ?_
    refine z_iload C d_Cell_isWithin_54 5 rfl ?_
    refine z_isub C d_Cell_isWithin_55 ?_
    refine z_topi (fun x8_10 ex8_10 => ?_)
    replace h := h x8_10 ex8_10
    refine z_istore C [(8, .int x8_10), (7, .int x7_9), (6, .int x6_6), (5, .int x5_3), (0, .ref h_ce), (1, .int p0), (2, .int p1), (3, .int p2), (4, .int p3)] d_Cell_isWithin_56 rfl rfl ?_
    refine z_iload C d_Cell_isWithin_58 5 rfl ?_
    refine z_iload C d_Cell_isWithin_59 1 rfl ?_
    refine z_imul C d_Cell_isWithin_61 ?_
    refine z_iload C d_Cell_isWithin_62 6 rfl ?_
    refine z_iload C d_Cell_isWithin_63 0 rfl ?_
    refine z_imul C d_Cell_isWithin_65 ?_
    refine z_iadd C d_Cell_isWithin_66 ?_
    refine z_ineg C d_Cell_isWithin_67 ?_
    refine z_topi (fun x9_11 ex9_11 => ?_)
    replace h := h x9_11 ex9_11
    refine z_istore C [(9, .int x9_11), (8, .int x8_10), (7, .int x7_9), (6, .int x6_6), (5, .int x5_3), (0, .ref h_ce), (1, .int p0), (2, .int p1), (3, .int p2), (4, .int p3)] d_Cell_isWithin_68 rfl rfl ?_
    refine z_iload C d_Cell_isWithin_70 2 rfl ?_
    refine z_npi C (rest := []) (c_SeamCell_square l D κ x7_9 _ h) cn_Cell_55 ⟨rfl, rfl⟩ ⟨⟨Nat.le_of_ble_eq_true rfl, Nat.le_of_ble_eq_true rfl⟩, Nat.le_of_ble_eq_true rfl, Nat.le_of_ble_eq_true rfl⟩ [] rfl rfl rfl (Nat.le_of_ble_eq_true rfl) d_Cell_isWithin_72 (fun r_12 h => ?_)
    refine z_iload C d_Cell_isWithin_75 1 rfl ?_
    refine z_npi C (rest := [.int r_12]) (c_SeamCell_square l D κ x8_10 _ h) cn_Cell_55 ⟨rfl, rfl⟩ ⟨⟨Nat.le_of_ble_eq_true rfl, Nat.le_of_ble_eq_true rfl⟩, Nat.le_of_ble_eq_true rfl, Nat.le_of_ble_eq_true rfl⟩ [] rfl rfl rfl (Nat.le_of_ble_eq_true rfl) d_Cell_isWithin_77 (fun r_13 h => ?_)
    refine z_iadd C d_Cell_isWithin_80 ?_
    refine z_topi (fun x10_14 ex10_14 => ?_)
    replace h := h x10_14 ex10_14
    refine z_istore C [(10, .int x10_14), (9, .int x9_11), (8, .int x8_10), (7, .int x7_9), (6, .int x6_6), (5, .int x5_3), (0, .ref h_ce), (1, .int p0), (2, .int p1), (3, .int p2), (4, .int p3)] d_Cell_isWithin_81 rfl rfl ?_
    refine z_aload C d_Cell_isWithin_83 6 rfl ?_
    refine z_get C fl_Cell_9 0 rfl rfl d_Cell_isWithin_84 ?_
    refine z_aload C d_Cell_isWithin_87 6 rfl ?_
    refine z_get C fl_Cell_15 0 rfl rfl d_Cell_isWithin_88 ?_
    refine z_isub C d_Cell_isWithin_91 ?_
    refine z_npi C (rest := []) (c_SeamCell_square l D κ (ce_linkA - ce_linkB) _ h) cn_Cell_55 ⟨rfl, rfl⟩ ⟨⟨Nat.le_of_ble_eq_true rfl, Nat.le_of_ble_eq_true rfl⟩, Nat.le_of_ble_eq_true rfl, Nat.le_of_ble_eq_true rfl⟩ [] rfl rfl rfl (Nat.le_of_ble_eq_true rfl) d_Cell_isWithin_92 (fun r_15 h => ?_)
    refine z_istore C [(11, .int r_15), (10, .int x10_14), (9, .int x9_11), (8, .int x8_10), (7, .int x7_9), (6, .int x6_6), (5, .int x5_3), (0, .ref h_ce), (1, .int p0), (2, .int p1), (3, .int p2), (4, .int p3)] d_Cell_isWithin_95 rfl rfl ?_
    refine z_iload C d_Cell_isWithin_97 2 rfl ?_
    refine z_if_gt C d_Cell_isWithin_99 (fun c_16 => ?_) (fun c_16 => ?_)
    · replace h := h.1 c_16
      refine z_iload C d_Cell_isWithin_115 2 rfl ?_
      refine z_iload C d_Cell_isWithin_117 1 rfl ?_
      refine z_icmp_lt C d_Cell_isWithin_119 (fun c_17 => ?_) (fun c_17 => ?_)
      · replace h := h.1 c_17
        refine z_iload C d_Cell_isWithin_135 8 rfl ?_
        refine z_i2l C d_Cell_isWithin_136 ?_
        refine z_iload C d_Cell_isWithin_137 3 rfl ?_
        refine z_i2l C d_Cell_isWithin_139 ?_
        refine z_lmul C d_Cell_isWithin_140 ?_
        refine z_iload C d_Cell_isWithin_141 9 rfl ?_
        refine z_i2l C d_Cell_isWithin_142 ?_
        refine z_iload C d_Cell_isWithin_143 4 rfl ?_
        refine z_i2l C d_Cell_isWithin_145 ?_
        refine z_lmul C d_Cell_isWithin_146 ?_
        refine z_lsub C d_Cell_isWithin_147 ?_
        refine z_topl (fun x12_18 ex12_18 => ?_)
        replace h := h x12_18 ex12_18
        refine z_lstore C [(12, .long x12_18), (11, .int r_15), (10, .int x10_14), (9, .int x9_11), (8, .int x8_10), (7, .int x7_9), (6, .int x6_6), (5, .int x5_3), (0, .ref h_ce), (1, .int p0), (2, .int p1), (3, .int p2), (4, .int p3)] d_Cell_isWithin_148 rfl rfl ?_
        refine z_lload C d_Cell_isWithin_150 0 rfl ?_
        refine z_lload C d_Cell_isWithin_152 0 rfl ?_
        refine z_lmul C d_Cell_isWithin_154 ?_
        refine z_iload C d_Cell_isWithin_155 1 rfl ?_
        refine z_i2l C d_Cell_isWithin_157 ?_
        refine z_iload C d_Cell_isWithin_158 2 rfl ?_
        refine z_i2l C d_Cell_isWithin_160 ?_
        refine z_lmul C d_Cell_isWithin_161 ?_
        refine z_lcmp C d_Cell_isWithin_162 ?_
        refine z_if_lt C d_Cell_isWithin_163 (fun c_19 => ?_) (fun c_19 => ?_)
        · replace h := h.1 c_19
          refine z_k C d_Cell_isWithin_170 ?_
          exact zp_zret C hr hlk (Or.inl rfl) d_Cell_isWithin_171 h
        · replace h := h.2 c_19
          refine z_k C d_Cell_isWithin_166 ?_
          refine z_goto C d_Cell_isWithin_167 ?_
          exact zp_zret C hr hlk (Or.inr rfl) d_Cell_isWithin_171 h
      · replace h := h.2 c_17
        refine z_iload C d_Cell_isWithin_122 5 rfl ?_
        refine z_iload C d_Cell_isWithin_124 0 rfl ?_
        refine z_icmp_lt C d_Cell_isWithin_126 (fun c_20 => ?_) (fun c_20 => ?_)
        · replace h := h.1 c_20
          refine z_k C d_Cell_isWithin_133 ?_
          exact zp_zret C hr hlk (Or.inl rfl) d_Cell_isWithin_134 h
        · replace h := h.2 c_20
          refine z_k C d_Cell_isWithin_129 ?_
          refine z_goto C d_Cell_isWithin_130 ?_
          exact zp_zret C hr hlk (Or.inr rfl) d_Cell_isWithin_134 h
    · replace h := h.2 c_16
      refine z_iload C d_Cell_isWithin_102 6 rfl ?_
      refine z_iload C d_Cell_isWithin_104 0 rfl ?_
      refine z_icmp_lt C d_Cell_isWithin_106 (fun c_21 => ?_) (fun c_21 => ?_)
      · replace h := h.1 c_21
        refine z_k C d_Cell_isWithin_113 ?_
        exact zp_zret C hr hlk (Or.inl rfl) d_Cell_isWithin_114 h
      · replace h := h.2 c_21
        refine z_k C d_Cell_isWithin_109 ?_
        refine z_goto C d_Cell_isWithin_110 ?_
        exact zp_zret C hr hlk (Or.inr rfl) d_Cell_isWithin_114 h
  · replace h := h.2 c_8
    refine z_k C d_Cell_isWithin_45 ?_
    exact zp_zret C hr hlk (Or.inl rfl) d_Cell_isWithin_46 h
def wp_Cell_putBar (ce_barCount : Int32) (ce_barX0 : Nat → Int32) (ce_barY0 : Nat → Int32) (ce_barX1 : Nat → Int32) (ce_barY1 : Nat → Int32) (p0 : Int32) (p1 : Int32) (p2 : Int32) (p3 : Int32) (post : Int32 → (Nat → Int32) → (Nat → Int32) → (Nat → Int32) → (Nat → Int32) → Prop) : Prop :=
  ((ce_barCount < (4 : Int32) → (vp_in ce_barCount 4 ∧ (∀ g_2 : Nat → Int32, g_2 = upd ce_barX0 (ce_barCount.toNatClampNeg) p0 → (vp_in ce_barCount 4 ∧ (∀ g_3 : Nat → Int32, g_3 = upd ce_barY0 (ce_barCount.toNatClampNeg) p1 → (vp_in ce_barCount 4 ∧ (∀ g_4 : Nat → Int32, g_4 = upd ce_barX1 (ce_barCount.toNatClampNeg) p2 → (vp_in ce_barCount 4 ∧ (∀ g_5 : Nat → Int32, g_5 = upd ce_barY1 (ce_barCount.toNatClampNeg) p3 → (∀ f_6 : Int32, f_6 = ce_barCount + (1 : Int32) → (post f_6 g_2 g_3 g_4 g_5))))))))))) ∧ (¬ ce_barCount < (4 : Int32) → (post ce_barCount ce_barX0 ce_barY0 ce_barX1 ce_barY1)))
abbrev rm_Cell_putBar : Room := { frames := 0, cells := 0, slots := 0, locals := 0 }
set_option maxHeartbeats 4000000 in
set_option maxRecDepth 100000 in
theorem c_Cell_putBar (l : Launch) (D : va_G) (κ : KT) (h_ce : Nat) (h_ce_barX0 : Nat) (h_ce_barY0 : Nat) (h_ce_barX1 : Nat) (h_ce_barY1 : Nat) (ce_middleX : Int32) (ce_middleY : Int32) (ce_shiftX : Int32) (ce_shiftY : Int32) (ce_linkA : Int32) (ce_linkB : Int32) (ce_flatness : Int32) (ce_barCount : Int32) (ce_barX0 : Nat → Int32) (ce_barY0 : Nat → Int32) (ce_barX1 : Nat → Int32) (ce_barY1 : Nat → Int32) (p0 : Int32) (p1 : Int32) (p2 : Int32) (p3 : Int32) (sz : Nat) (post : Int32 → (Nat → Int32) → (Nat → Int32) → (Nat → Int32) → (Nat → Int32) → Prop) (h : wp_Cell_putBar ce_barCount ce_barX0 ce_barY0 ce_barX1 ce_barY1 p0 p1 p2 p3 post) : Met l y_Cell_putBar (wsG y_Cell_putBar b_Cell_putBar 5 none) rm_Cell_putBar (PE D κ [.ref h_ce, .int p0, .int p1, .int p2, .int p3] [(h_ce, .inr (1, [.int ce_middleX, .int ce_middleY, .int ce_shiftX, .int ce_shiftY, .int ce_linkA, .int ce_linkB, .int ce_flatness, .int ce_barCount, .ref h_ce_barX0, .ref h_ce_barY0, .ref h_ce_barX1, .ref h_ce_barY1])), (h_ce_barX0, cI κ 4 ce_barX0), (h_ce_barY0, cI κ 4 ce_barY0), (h_ce_barX1, cI κ 4 ce_barX1), (h_ce_barY1, cI κ 4 ce_barY1)] sz) (va_Qv (fun (u : (Int32) × (Nat → Int32) × (Nat → Int32) × (Nat → Int32) × (Nat → Int32)) => post u.1 u.2.1 u.2.2.1 u.2.2.2.1 u.2.2.2.2) (QB D [(h_ce, .inr (1, [.int ce_middleX, .int ce_middleY, .int ce_shiftX, .int ce_shiftY, .int ce_linkA, .int ce_linkB, .int ce_flatness, .int ce_barCount, .ref h_ce_barX0, .ref h_ce_barY0, .ref h_ce_barX1, .ref h_ce_barY1])), (h_ce_barX0, cI κ 4 ce_barX0), (h_ce_barY0, cI κ 4 ce_barY0), (h_ce_barX1, cI κ 4 ce_barX1), (h_ce_barY1, cI κ 4 ce_barY1)] sz (fun (u : (Int32) × (Nat → Int32) × (Nat → Int32) × (Nat → Int32) × (Nat → Int32)) => [(h_ce, .inr (1, [.int ce_middleX, .int ce_middleY, .int ce_shiftX, .int ce_shiftY, .int ce_linkA, .int ce_linkB, .int ce_flatness, .int u.1, .ref h_ce_barX0, .ref h_ce_barY0, .ref h_ce_barX1, .ref h_ce_barY1])), (h_ce_barX0, cI κ 4 u.2.1), (h_ce_barY0, cI κ 4 u.2.2.1), (h_ce_barX1, cI κ 4 u.2.2.2.1), (h_ce_barY1, cI κ 4 u.2.2.2.2)])) (va_A [(h_ce, .inr (1, [.int ce_middleX, .int ce_middleY, .int ce_shiftX, .int ce_shiftY, .int ce_linkA, .int ce_linkB, .int ce_flatness, .int ce_barCount, .ref h_ce_barX0, .ref h_ce_barY0, .ref h_ce_barX1, .ref h_ce_barY1])), (h_ce_barX0, cI κ 4 ce_barX0), (h_ce_barY0, cI κ 4 ce_barY0), (h_ce_barX1, cI κ 4 ce_barX1), (h_ce_barY1, cI κ 4 ce_barY1)] sz)) 0 0 (va_A [(h_ce, .inr (1, [.int ce_middleX, .int ce_middleY, .int ce_shiftX, .int ce_shiftY, .int ce_linkA, .int ce_linkB, .int ce_flatness, .int ce_barCount, .ref h_ce_barX0, .ref h_ce_barY0, .ref h_ce_barX1, .ref h_ce_barY1])), (h_ce_barX0, cI κ 4 ce_barX0), (h_ce_barY0, cI κ 4 ce_barY0), (h_ce_barX1, cI κ 4 ce_barX1), (h_ce_barY1, cI κ 4 ce_barY1)] sz) := by
  refine ze_start [(0, .ref h_ce), (1, .int p0), (2, .int p1), (3, .int p2), (4, .int p3)] rfl (Nat.le_of_ble_eq_true rfl) rfl ?_
  intro p e s m args below meth c C hr hlk hnm hsz
  subst hsz
  unfold wp_Cell_putBar at h
  refine z_aload C d_Cell_putBar_0 0 rfl ?_
  refine z_get C fl_Cell_34 0 rfl rfl d_Cell_putBar_1 ?_
  refine z_k C d_Cell_putBar_4 ?_
  refine z_icmp_lt C d_Cell_putBar_5 (fun c_1 => ?_) (fun c_1 => ?_)
  · replace h := h.1 c_1
    refine z_aload C d_Cell_putBar_9 0 rfl ?_
    refine z_get C fl_Cell_21 0 rfl rfl d_Cell_putBar_10 ?_
    refine z_aload C d_Cell_putBar_13 0 rfl ?_
    refine z_get C fl_Cell_34 0 rfl rfl d_Cell_putBar_14 ?_
    refine z_iload C d_Cell_putBar_17 1 rfl ?_
    obtain ⟨g_2, eg_2⟩ : ∃ y : Nat → Int32, y = upd ce_barX0 (ce_barCount.toNatClampNeg) p0 := ⟨_, rfl⟩
    refine z_iast C 1 rfl h.1 [(h_ce, .inr (1, [.int ce_middleX, .int ce_middleY, .int ce_shiftX, .int ce_shiftY, .int ce_linkA, .int ce_linkB, .int ce_flatness, .int ce_barCount, .ref h_ce_barX0, .ref h_ce_barY0, .ref h_ce_barX1, .ref h_ce_barY1])), (h_ce_barX0, cI κ 4 g_2), (h_ce_barY0, cI κ 4 ce_barY0), (h_ce_barX1, cI κ 4 ce_barX1), (h_ce_barY1, cI κ 4 ce_barY1)] (by rw [eg_2]; rfl) d_Cell_putBar_18 ?_
    replace h := h.2 g_2 eg_2
    refine z_aload C d_Cell_putBar_19 0 rfl ?_
    refine z_get C fl_Cell_25 0 rfl rfl d_Cell_putBar_20 ?_
    refine z_aload C d_Cell_putBar_23 0 rfl ?_
    refine z_get C fl_Cell_34 0 rfl rfl d_Cell_putBar_24 ?_
    refine z_iload C d_Cell_putBar_27 2 rfl ?_
    obtain ⟨g_3, eg_3⟩ : ∃ y : Nat → Int32, y = upd ce_barY0 (ce_barCount.toNatClampNeg) p1 := ⟨_, rfl⟩
    refine z_iast C 2 rfl h.1 [(h_ce, .inr (1, [.int ce_middleX, .int ce_middleY, .int ce_shiftX, .int ce_shiftY, .int ce_linkA, .int ce_linkB, .int ce_flatness, .int ce_barCount, .ref h_ce_barX0, .ref h_ce_barY0, .ref h_ce_barX1, .ref h_ce_barY1])), (h_ce_barX0, cI κ 4 g_2), (h_ce_barY0, cI κ 4 g_3), (h_ce_barX1, cI κ 4 ce_barX1), (h_ce_barY1, cI κ 4 ce_barY1)] (by rw [eg_3]; rfl) d_Cell_putBar_28 ?_
    replace h := h.2 g_3 eg_3
    refine z_aload C d_Cell_putBar_29 0 rfl ?_
    refine z_get C fl_Cell_28 0 rfl rfl d_Cell_putBar_30 ?_
    refine z_aload C d_Cell_putBar_33 0 rfl ?_
    refine z_get C fl_Cell_34 0 rfl rfl d_Cell_putBar_34 ?_
    refine z_iload C d_Cell_putBar_37 3 rfl ?_
    obtain ⟨g_4, eg_4⟩ : ∃ y : Nat → Int32, y = upd ce_barX1 (ce_barCount.toNatClampNeg) p2 := ⟨_, rfl⟩
    refine z_iast C 3 rfl h.1 [(h_ce, .inr (1, [.int ce_middleX, .int ce_middleY, .int ce_shiftX, .int ce_shiftY, .int ce_linkA, .int ce_linkB, .int ce_flatness, .int ce_barCount, .ref h_ce_barX0, .ref h_ce_barY0, .ref h_ce_barX1, .ref h_ce_barY1])), (h_ce_barX0, cI κ 4 g_2), (h_ce_barY0, cI κ 4 g_3), (h_ce_barX1, cI κ 4 g_4), (h_ce_barY1, cI κ 4 ce_barY1)] (by rw [eg_4]; rfl) d_Cell_putBar_38 ?_
    replace h := h.2 g_4 eg_4
    refine z_aload C d_Cell_putBar_39 0 rfl ?_
    refine z_get C fl_Cell_31 0 rfl rfl d_Cell_putBar_40 ?_
    refine z_aload C d_Cell_putBar_43 0 rfl ?_
    refine z_get C fl_Cell_34 0 rfl rfl d_Cell_putBar_44 ?_
    refine z_iload C d_Cell_putBar_47 4 rfl ?_
    obtain ⟨g_5, eg_5⟩ : ∃ y : Nat → Int32, y = upd ce_barY1 (ce_barCount.toNatClampNeg) p3 := ⟨_, rfl⟩
    refine z_iast C 4 rfl h.1 [(h_ce, .inr (1, [.int ce_middleX, .int ce_middleY, .int ce_shiftX, .int ce_shiftY, .int ce_linkA, .int ce_linkB, .int ce_flatness, .int ce_barCount, .ref h_ce_barX0, .ref h_ce_barY0, .ref h_ce_barX1, .ref h_ce_barY1])), (h_ce_barX0, cI κ 4 g_2), (h_ce_barY0, cI κ 4 g_3), (h_ce_barX1, cI κ 4 g_4), (h_ce_barY1, cI κ 4 g_5)] (by rw [eg_5]; rfl) d_Cell_putBar_49 ?_
    replace h := h.2 g_5 eg_5
    refine z_aload C d_Cell_putBar_50 0 rfl ?_
    refine z_dup C d_Cell_putBar_51 rfl ?_
    refine z_get C fl_Cell_34 0 rfl rfl d_Cell_putBar_52 ?_
    refine z_k C d_Cell_putBar_55 ?_
    refine z_iadd C d_Cell_putBar_56 ?_
    refine z_topi (fun f_6 ef_6 => ?_)
    replace h := h f_6 ef_6
    refine z_put C fp_Cell_34 0 rfl rfl rfl rfl [(h_ce, .inr (1, [.int ce_middleX, .int ce_middleY, .int ce_shiftX, .int ce_shiftY, .int ce_linkA, .int ce_linkB, .int ce_flatness, .int f_6, .ref h_ce_barX0, .ref h_ce_barY0, .ref h_ce_barX1, .ref h_ce_barY1])), (h_ce_barX0, cI κ 4 g_2), (h_ce_barY0, cI κ 4 g_3), (h_ce_barX1, cI κ 4 g_4), (h_ce_barY1, cI κ 4 g_5)] rfl d_Cell_putBar_57 ?_
    exact ze_vret C (f_6, g_2, g_3, g_4, g_5) hr hlk rfl d_Cell_putBar_60 h
  · replace h := h.2 c_1
    exact ze_vret C (ce_barCount, ce_barX0, ce_barY0, ce_barX1, ce_barY1) hr hlk rfl d_Cell_putBar_8 h
