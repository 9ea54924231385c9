def wp_Model_in (p0 : Int64) (p1 : Int64) (p2 : Int64) (post : Int32 → Prop) : Prop :=
  (((lg_cmp p0 p1) < 0 → (post (0 : Int32))) ∧ (¬ (lg_cmp p0 p1) < 0 → ((0 < (lg_cmp p0 p2) → (post (0 : Int32))) ∧ (¬ 0 < (lg_cmp p0 p2) → (post (1 : Int32))))))
abbrev rm_Model_in : Room := { frames := 0, cells := 0, slots := 0, locals := 0 }
set_option maxHeartbeats 4000000 in
set_option maxRecDepth 100000 in
theorem c_Model_in (l : Launch) (D : va_G) (κ : KT) (p0 : Int64) (p1 : Int64) (p2 : Int64) (post : Int32 → Prop) (h : wp_Model_in p0 p1 p2 post) : Met l y_Model_in (wsG y_Model_in b_Model_in 6 (some .boolean)) rm_Model_in (PP D κ [.long p0, .long p1, .long p2] []) (vp_Si post) 0 0 (fun _ => False) := by
  refine zp_start [(0, .long p0), (2, .long p1), (4, .long p2)] rfl (Nat.le_of_ble_eq_true rfl) rfl ?_
  intro p e s m args below meth c C hr hlk
  unfold wp_Model_in at h
  refine z_lload C d_Model_in_0 0 rfl ?_
  refine z_lload C d_Model_in_1 1 rfl ?_
  refine z_lcmp C d_Model_in_2 ?_
  refine z_if_lt C d_Model_in_3 (fun c_1 => ?_) (fun c_1 => ?_)
  · replace h := h.1 c_1
    refine z_k C d_Model_in_17 ?_
    exact zp_zret C hr hlk (Or.inl rfl) d_Model_in_18 h
  · replace h := h.2 c_1
    refine z_lload C d_Model_in_6 0 rfl ?_
    refine z_lload C d_Model_in_7 2 rfl ?_
    refine z_lcmp C d_Model_in_9 ?_
    refine z_if_gt C d_Model_in_10 (fun c_2 => ?_) (fun c_2 => ?_)
    · replace h := h.1 c_2
      refine z_k C d_Model_in_17 ?_
      exact zp_zret C hr hlk (Or.inl rfl) d_Model_in_18 h
    · replace h := h.2 c_2
      refine z_k C d_Model_in_13 ?_
      refine z_goto C d_Model_in_14 ?_
      exact zp_zret C hr hlk (Or.inr rfl) d_Model_in_18 h
def wp_Model_size (p0 : Int32) (post : Int32 → Prop) : Prop :=
  ((0 ≤ p0 → (post p0)) ∧ (¬ 0 ≤ p0 → (post (-p0))))
abbrev rm_Model_size : Room := { frames := 0, cells := 0, slots := 0, locals := 0 }
set_option maxHeartbeats 4000000 in
set_option maxRecDepth 100000 in
theorem c_Model_size (l : Launch) (D : va_G) (κ : KT) (p0 : Int32) (post : Int32 → Prop) (h : wp_Model_size p0 post) : Met l y_Model_size (wsG y_Model_size b_Model_size 1 (some .int)) rm_Model_size (PP D κ [.int p0] []) (vp_Si post) 0 0 (fun _ => False) := by
  refine zp_start [(0, .int p0)] rfl (Nat.le_of_ble_eq_true rfl) rfl ?_
  intro p e s m args below meth c C hr hlk
  unfold wp_Model_size at h
  refine z_iload C d_Model_size_0 0 rfl ?_
  refine z_if_ge C d_Model_size_1 (fun c_1 => ?_) (fun c_1 => ?_)
  · replace h := h.1 c_1
    refine z_iload C d_Model_size_9 0 rfl ?_
    exact zp_iret C hr hlk d_Model_size_10 h
  · replace h := h.2 c_1
    refine z_iload C d_Model_size_4 0 rfl ?_
    refine z_ineg C d_Model_size_5 ?_
    refine z_goto C d_Model_size_6 ?_
    exact zp_iret C hr hlk d_Model_size_10 h
def wp_Model_square (p0 : Int64) (p1 : Int64) (post : Int64 → Prop) : Prop :=
  (post ((p0 * p0) + (p1 * p1)))
abbrev rm_Model_square : Room := { frames := 0, cells := 0, slots := 0, locals := 0 }
set_option maxHeartbeats 4000000 in
set_option maxRecDepth 100000 in
theorem c_Model_square (l : Launch) (D : va_G) (κ : KT) (p0 : Int64) (p1 : Int64) (post : Int64 → Prop) (h : wp_Model_square p0 p1 post) : Met l y_Model_square (wsG y_Model_square b_Model_square 4 (some .long)) rm_Model_square (PP D κ [.long p0, .long p1] []) (vp_Sl post) 0 0 (fun _ => False) := by
  refine zp_start [(0, .long p0), (2, .long p1)] rfl (Nat.le_of_ble_eq_true rfl) rfl ?_
  intro p e s m args below meth c C hr hlk
  unfold wp_Model_square at h
  refine z_lload C d_Model_square_0 0 rfl ?_
  refine z_lload C d_Model_square_1 0 rfl ?_
  refine z_lmul C d_Model_square_2 ?_
  refine z_lload C d_Model_square_3 1 rfl ?_
  refine z_lload C d_Model_square_4 1 rfl ?_
  refine z_lmul C d_Model_square_5 ?_
  refine z_ladd C d_Model_square_6 ?_
  exact zp_lret C hr hlk d_Model_square_7 h
def wp_Model_up (p0 : Int32) (p1 : Int32) (post : Int32 → Prop) : Prop :=
  ((¬ p1 = 0) ∧ (post (((p0 + p1) - (1 : Int32)) / p1)))
abbrev rm_Model_up : Room := { frames := 0, cells := 0, slots := 0, locals := 0 }
set_option maxHeartbeats 4000000 in
set_option maxRecDepth 100000 in
theorem c_Model_up (l : Launch) (D : va_G) (κ : KT) (p0 : Int32) (p1 : Int32) (post : Int32 → Prop) (h : wp_Model_up p0 p1 post) : Met l y_Model_up (wsG y_Model_up b_Model_up 2 (some .int)) rm_Model_up (PP D κ [.int p0, .int p1] []) (vp_Si post) 0 0 (fun _ => False) := by
  refine zp_start [(0, .int p0), (1, .int p1)] rfl (Nat.le_of_ble_eq_true rfl) rfl ?_
  intro p e s m args below meth c C hr hlk
  unfold wp_Model_up at h
  refine z_iload C d_Model_up_0 0 rfl ?_
  refine z_iload C d_Model_up_1 1 rfl ?_
  refine z_iadd C d_Model_up_2 ?_
  refine z_k C d_Model_up_3 ?_
  refine z_isub C d_Model_up_4 ?_
  refine z_iload C d_Model_up_5 1 rfl ?_
  refine z_idiv C d_Model_up_6 h.1 ?_
  replace h := h.2
  exact zp_iret C hr hlk d_Model_up_7 h
def wp_Model_isPlace (p0 : Int32) (p1 : Int32) (post : Int32 → Prop) : Prop :=
  (wp_Model_in p0.toInt64 (-100 : Int64) (100 : Int64) (fun r_1 => ((r_1 = 0 → (post (0 : Int32))) ∧ (¬ r_1 = 0 → (wp_Model_in p1.toInt64 (-100 : Int64) (100 : Int64) (fun r_3 => ((r_3 = 0 → (post (0 : Int32))) ∧ (¬ r_3 = 0 → (post (1 : Int32))))))))))
abbrev rm_Model_isPlace : Room := { frames := 1, cells := 0, slots := 0, locals := 25 }
set_option maxHeartbeats 4000000 in
set_option maxRecDepth 100000 in
theorem c_Model_isPlace (l : Launch) (D : va_G) (κ : KT) (p0 : Int32) (p1 : Int32) (post : Int32 → Prop) (h : wp_Model_isPlace p0 p1 post) : Met l y_Model_isPlace (wsG y_Model_isPlace b_Model_isPlace 2 (some .boolean)) rm_Model_isPlace (PP D κ [.int p0, .int p1] []) (vp_Si post) 0 0 (fun _ => False) := by
  refine zp_start [(0, .int p0), (1, .int p1)] rfl (Nat.le_of_ble_eq_true rfl) rfl ?_
  intro p e s m args below meth c C hr hlk
  unfold wp_Model_isPlace at h
  refine z_iload C d_Model_isPlace_0 0 rfl ?_
  refine z_i2l C d_Model_isPlace_1 ?_
  refine z_ldc2 C d_Model_isPlace_2 wk_Model_130 ?_
  refine z_ldc2 C d_Model_isPlace_5 wk_Model_116 ?_
  refine z_spi C (rest := []) (c_Model_in l D κ p0.toInt64 (-100 : Int64) (100 : Int64) _ h) cs_Model_100 ⟨rfl, rfl⟩ ⟨⟨Nat.le_of_ble_eq_true rfl, Nat.le_of_ble_eq_true rfl⟩, Nat.le_of_ble_eq_true rfl, Nat.le_of_ble_eq_true rfl⟩ [] rfl rfl rfl (Nat.le_of_ble_eq_true rfl) d_Model_isPlace_8 (fun r_1 h => ?_)
  refine z_if_eq C d_Model_isPlace_11 (fun c_2 => ?_) (fun c_2 => ?_)
  · replace h := h.1 c_2
    refine z_k C d_Model_isPlace_32 ?_
    exact zp_zret C hr hlk (Or.inl rfl) d_Model_isPlace_33 h
  · replace h := h.2 c_2
    refine z_iload C d_Model_isPlace_14 1 rfl ?_
    refine z_i2l C d_Model_isPlace_15 ?_
    refine z_ldc2 C d_Model_isPlace_16 wk_Model_130 ?_
    refine z_ldc2 C d_Model_isPlace_19 wk_Model_116 ?_
    refine z_spi C (rest := []) (c_Model_in l D κ p1.toInt64 (-100 : Int64) (100 : Int64) _ h) cs_Model_100 ⟨rfl, rfl⟩ ⟨⟨Nat.le_of_ble_eq_true rfl, Nat.le_of_ble_eq_true rfl⟩, Nat.le_of_ble_eq_true rfl, Nat.le_of_ble_eq_true rfl⟩ [] rfl rfl rfl (Nat.le_of_ble_eq_true rfl) d_Model_isPlace_22 (fun r_3 h => ?_)
    refine z_if_eq C d_Model_isPlace_25 (fun c_4 => ?_) (fun c_4 => ?_)
    · replace h := h.1 c_4
      refine z_k C d_Model_isPlace_32 ?_
      exact zp_zret C hr hlk (Or.inl rfl) d_Model_isPlace_33 h
    · replace h := h.2 c_4
      refine z_k C d_Model_isPlace_28 ?_
      refine z_goto C d_Model_isPlace_29 ?_
      exact zp_zret C hr hlk (Or.inr rfl) d_Model_isPlace_33 h
def wp_Model_isFar (p0 : Int32) (p1 : Int32) (post : Int32 → Prop) : Prop :=
  (wp_Model_in p0.toInt64 (-1000 : Int64) (1000 : Int64) (fun r_1 => ((r_1 = 0 → (post (1 : Int32))) ∧ (¬ r_1 = 0 → (wp_Model_in p1.toInt64 (-1000 : Int64) (1000 : Int64) (fun r_3 => ((¬ r_3 = 0 → (post (0 : Int32))) ∧ (r_3 = 0 → (post (1 : Int32))))))))))
abbrev rm_Model_isFar : Room := { frames := 1, cells := 0, slots := 0, locals := 25 }
set_option maxHeartbeats 4000000 in
set_option maxRecDepth 100000 in
theorem c_Model_isFar (l : Launch) (D : va_G) (κ : KT) (p0 : Int32) (p1 : Int32) (post : Int32 → Prop) (h : wp_Model_isFar p0 p1 post) : Met l y_Model_isFar (wsG y_Model_isFar b_Model_isFar 2 (some .boolean)) rm_Model_isFar (PP D κ [.int p0, .int p1] []) (vp_Si post) 0 0 (fun _ => False) := by
  refine zp_start [(0, .int p0), (1, .int p1)] rfl (Nat.le_of_ble_eq_true rfl) rfl ?_
  intro p e s m args below meth c C hr hlk
  unfold wp_Model_isFar at h
  refine z_iload C d_Model_isFar_0 0 rfl ?_
  refine z_i2l C d_Model_isFar_1 ?_
  refine z_ldc2 C d_Model_isFar_2 wk_Model_219 ?_
  refine z_ldc2 C d_Model_isFar_5 wk_Model_114 ?_
  refine z_spi C (rest := []) (c_Model_in l D κ p0.toInt64 (-1000 : Int64) (1000 : Int64) _ h) cs_Model_100 ⟨rfl, rfl⟩ ⟨⟨Nat.le_of_ble_eq_true rfl, Nat.le_of_ble_eq_true rfl⟩, Nat.le_of_ble_eq_true rfl, Nat.le_of_ble_eq_true rfl⟩ [] rfl rfl rfl (Nat.le_of_ble_eq_true rfl) d_Model_isFar_8 (fun r_1 h => ?_)
  refine z_if_eq C d_Model_isFar_11 (fun c_2 => ?_) (fun c_2 => ?_)
  · replace h := h.1 c_2
    refine z_k C d_Model_isFar_28 ?_
    refine z_goto C d_Model_isFar_29 ?_
    exact zp_zret C hr hlk (Or.inr rfl) d_Model_isFar_33 h
  · replace h := h.2 c_2
    refine z_iload C d_Model_isFar_14 1 rfl ?_
    refine z_i2l C d_Model_isFar_15 ?_
    refine z_ldc2 C d_Model_isFar_16 wk_Model_219 ?_
    refine z_ldc2 C d_Model_isFar_19 wk_Model_114 ?_
    refine z_spi C (rest := []) (c_Model_in l D κ p1.toInt64 (-1000 : Int64) (1000 : Int64) _ h) cs_Model_100 ⟨rfl, rfl⟩ ⟨⟨Nat.le_of_ble_eq_true rfl, Nat.le_of_ble_eq_true rfl⟩, Nat.le_of_ble_eq_true rfl, Nat.le_of_ble_eq_true rfl⟩ [] rfl rfl rfl (Nat.le_of_ble_eq_true rfl) d_Model_isFar_22 (fun r_3 h => ?_)
    refine z_if_ne C d_Model_isFar_25 (fun c_4 => ?_) (fun c_4 => ?_)
    · replace h := h.1 c_4
      refine z_k C d_Model_isFar_32 ?_
      exact zp_zret C hr hlk (Or.inl rfl) d_Model_isFar_33 h
    · replace h := h.2 c_4
      refine z_k C d_Model_isFar_28 ?_
      refine z_goto C d_Model_isFar_29 ?_
      exact zp_zret C hr hlk (Or.inr rfl) d_Model_isFar_33 h
def wp_Model_table (mo_middleX : Int32) (mo_middleY : Int32) (p0 : Int32) (p1 : Int32) (post : Int32 → Int32 → Int32 → Prop) : Prop :=
  (wp_Model_in p0.toInt64 (-200 : Int64) (200 : Int64) (fun r_1 => ((r_1 = 0 → (post (-2 : Int32) mo_middleX mo_middleY)) ∧ (¬ r_1 = 0 → (wp_Model_in p1.toInt64 (-200 : Int64) (200 : Int64) (fun r_3 => ((¬ r_3 = 0 → (post (1 : Int32) p0 p1)) ∧ (r_3 = 0 → (post (-2 : Int32) mo_middleX mo_middleY)))))))))
abbrev rm_Model_table : Room := { frames := 1, cells := 0, slots := 0, locals := 25 }
set_option maxHeartbeats 4000000 in
set_option maxRecDepth 100000 in
theorem c_Model_table (l : Launch) (D : va_G) (κ : KT) (h_mo : Nat) (h_mo_bars : Nat) (h_mo_seams : Nat) (h_mo_rowSeam : Nat) (h_mo_rowWay : Nat) (h_mo_quarters : Nat) (h_mo_begins : Nat) (h_mo_ends : Nat) (h_mo_rests : Nat) (h_mo_bestRow : Nat) (h_mo_lows : Nat) (h_mo_highs : Nat) (h_mo_acts : Nat) (h_mo_actMany : Nat) (h_mo_done : Nat) (h_mo_left : Nat) (h_mo_waited : Nat) (h_mo_ran : Nat) (h_mo_reached : Nat) (mo_middleX : Int32) (mo_middleY : Int32) (mo_linkA : Int32) (mo_linkB : Int32) (mo_flatness : Int32) (mo_gap : Int32) (mo_turn : Int32) (mo_travel : Int32) (mo_lift : Int32) (mo_cool : Int32) (mo_homeX : Int32) (mo_homeY : Int32) (mo_barMany : Int32) (mo_seamMany : Int32) (mo_rowMany : Int32) (mo_lowUp : Int64) (mo_lowDown : Int64) (mo_highUp : Int64) (mo_highDown : Int64) (mo_touchMany : Int32) (mo_shiftX : Int32) (mo_shiftY : Int32) (mo_hasRun : Int32) (p0 : Int32) (p1 : Int32) (sz : Nat) (post : Int32 → Int32 → Int32 → Prop) (h : wp_Model_table mo_middleX mo_middleY p0 p1 post) : Met l y_Model_table (wsG y_Model_table b_Model_table 3 (some .int)) rm_Model_table (PE D κ [.ref h_mo, .int p0, .int p1] [(h_mo, .inr (10, [.int mo_middleX, .int mo_middleY, .int mo_linkA, .int mo_linkB, .int mo_flatness, .int mo_gap, .int mo_turn, .int mo_travel, .int mo_lift, .int mo_cool, .int mo_homeX, .int mo_homeY, .ref h_mo_bars, .int mo_barMany, .ref h_mo_seams, .int mo_seamMany, .ref h_mo_rowSeam, .ref h_mo_rowWay, .int mo_rowMany, .long mo_lowUp, .long mo_lowDown, .long mo_highUp, .long mo_highDown, .ref h_mo_quarters, .ref h_mo_begins, .ref h_mo_ends, .ref h_mo_rests, .ref h_mo_bestRow, .ref h_mo_lows, .ref h_mo_highs, .int mo_touchMany, .int mo_shiftX, .int mo_shiftY, .ref h_mo_acts, .ref h_mo_actMany, .ref h_mo_done, .ref h_mo_left, .ref h_mo_waited, .ref h_mo_ran, .int mo_hasRun, .ref h_mo_reached]))] sz) (va_Qi (fun (r : Int32) (u : (Int32) × (Int32)) => post r u.1 u.2) (QB D [(h_mo, .inr (10, [.int mo_middleX, .int mo_middleY, .int mo_linkA, .int mo_linkB, .int mo_flatness, .int mo_gap, .int mo_turn, .int mo_travel, .int mo_lift, .int mo_cool, .int mo_homeX, .int mo_homeY, .ref h_mo_bars, .int mo_barMany, .ref h_mo_seams, .int mo_seamMany, .ref h_mo_rowSeam, .ref h_mo_rowWay, .int mo_rowMany, .long mo_lowUp, .long mo_lowDown, .long mo_highUp, .long mo_highDown, .ref h_mo_quarters, .ref h_mo_begins, .ref h_mo_ends, .ref h_mo_rests, .ref h_mo_bestRow, .ref h_mo_lows, .ref h_mo_highs, .int mo_touchMany, .int mo_shiftX, .int mo_shiftY, .ref h_mo_acts, .ref h_mo_actMany, .ref h_mo_done, .ref h_mo_left, .ref h_mo_waited, .ref h_mo_ran, .int mo_hasRun, .ref h_mo_reached]))] sz (fun (u : (Int32) × (Int32)) => [(h_mo, .inr (10, [.int u.1, .int u.2, .int mo_linkA, .int mo_linkB, .int mo_flatness, .int mo_gap, .int mo_turn, .int mo_travel, .int mo_lift, .int mo_cool, .int mo_homeX, .int mo_homeY, .ref h_mo_bars, .int mo_barMany, .ref h_mo_seams, .int mo_seamMany, .ref h_mo_rowSeam, .ref h_mo_rowWay, .int mo_rowMany, .long mo_lowUp, .long mo_lowDown, .long mo_highUp, .long mo_highDown, .ref h_mo_quarters, .ref h_mo_begins, .ref h_mo_ends, .ref h_mo_rests, .ref h_mo_bestRow, .ref h_mo_lows, .ref h_mo_highs, .int mo_touchMany, .int mo_shiftX, .int mo_shiftY, .ref h_mo_acts, .ref h_mo_actMany, .ref h_mo_done, .ref h_mo_left, .ref h_mo_waited, .ref h_mo_ran, .int mo_hasRun, .ref h_mo_reached]))])) (va_A [(h_mo, .inr (10, [.int mo_middleX, .int mo_middleY, .int mo_linkA, .int mo_linkB, .int mo_flatness, .int mo_gap, .int mo_turn, .int mo_travel, .int mo_lift, .int mo_cool, .int mo_homeX, .int mo_homeY, .ref h_mo_bars, .int mo_barMany, .ref h_mo_seams, .int mo_seamMany, .ref h_mo_rowSeam, .ref h_mo_rowWay, .int mo_rowMany, .long mo_lowUp, .long mo_lowDown, .long mo_highUp, .long mo_highDown, .ref h_mo_quarters, .ref h_mo_begins, .ref h_mo_ends, .ref h_mo_rests, .ref h_mo_bestRow, .ref h_mo_lows, .ref h_mo_highs, .int mo_touchMany, .int mo_shiftX, .int mo_shiftY, .ref h_mo_acts, .ref h_mo_actMany, .ref h_mo_done, .ref h_mo_left, .ref h_mo_waited, .ref h_mo_ran, .int mo_hasRun, .ref h_mo_reached]))] sz)) 0 0 (va_A [(h_mo, .inr (10, [.int mo_middleX, .int mo_middleY, .int mo_linkA, .int mo_linkB, .int mo_flatness, .int mo_gap, .int mo_turn, .int mo_travel, .int mo_lift, .int mo_cool, .int mo_homeX, .int mo_homeY, .ref h_mo_bars, .int mo_barMany, .ref h_mo_seams, .int mo_seamMany, .ref h_mo_rowSeam, .ref h_mo_rowWay, .int mo_rowMany, .long mo_lowUp, .long mo_lowDown, .long mo_highUp, .long mo_highDown, .ref h_mo_quarters, .ref h_mo_begins, .ref h_mo_ends, .ref h_mo_rests, .ref h_mo_bestRow, .ref h_mo_lows, .ref h_mo_highs, .int mo_touchMany, .int mo_shiftX, .int mo_shiftY, .ref h_mo_acts, .ref h_mo_actMany, .ref h_mo_done, .ref h_mo_left, .ref h_mo_waited, .ref h_mo_ran, .int mo_hasRun, .ref h_mo_reached]))] sz) := by
  refine ze_start [(0, .ref h_mo), (1, .int p0), (2, .int p1)] rfl (Nat.le_of_ble_eq_true rfl) rfl ?_
  intro p e s m args below meth c C hr hlk hnm hsz
  subst hsz
  unfold wp_Model_table at h
  refine z_iload C d_Model_table_0 1 rfl ?_
  refine z_i2l C d_Model_table_1 ?_
  refine z_ldc2 C d_Model_table_2 wk_Model_96 ?_
  refine z_ldc2 C d_Model_table_5 wk_Model_98 ?_
  refine z_spi C (rest := []) (c_Model_in l D κ p0.toInt64 (-200 : Int64) (200 : Int64) _ h) cs_Model_100 ⟨rfl, rfl⟩ ⟨⟨Nat.le_of_ble_eq_true rfl, Nat.le_of_ble_eq_true rfl⟩, Nat.le_of_ble_eq_true rfl, Nat.le_of_ble_eq_true rfl⟩ [] rfl rfl rfl (Nat.le_of_ble_eq_true rfl) d_Model_table_8 (fun r_1 h => ?_)
  refine z_if_eq C d_Model_table_11 (fun c_2 => ?_) (fun c_2 => ?_)
  · replace h := h.1 c_2
    refine z_k C d_Model_table_28 ?_
    exact ze_iret C (mo_middleX, mo_middleY) hr hlk rfl d_Model_table_30 h
  · replace h := h.2 c_2
    refine z_iload C d_Model_table_14 2 rfl ?_
    refine z_i2l C d_Model_table_15 ?_
    refine z_ldc2 C d_Model_table_16 wk_Model_96 ?_
    refine z_ldc2 C d_Model_table_19 wk_Model_98 ?_
    refine z_spi C (rest := []) (c_Model_in l D κ p1.toInt64 (-200 : Int64) (200 : Int64) _ h) cs_Model_100 ⟨rfl, rfl⟩ ⟨⟨Nat.le_of_ble_eq_true rfl, Nat.le_of_ble_eq_true rfl⟩, Nat.le_of_ble_eq_true rfl, Nat.le_of_ble_eq_true rfl⟩ [] rfl rfl rfl (Nat.le_of_ble_eq_true rfl) d_Model_table_22 (fun r_3 h => ?_)
    refine z_if_ne C d_Model_table_25 (fun c_4 => ?_) (fun c_4 => ?_)
    · replace h := h.1 c_4
      refine z_aload C d_Model_table_31 0 rfl ?_
      refine z_iload C d_Model_table_32 1 rfl ?_
      refine z_put C fp_Model_104 0 rfl rfl rfl rfl [(h_mo, .inr (10, [.int p0, .int mo_middleY, .int mo_linkA, .int mo_linkB, .int mo_flatness, .int mo_gap, .int mo_turn, .int mo_travel, .int mo_lift, .int mo_cool, .int mo_homeX, .int mo_homeY, .ref h_mo_bars, .int mo_barMany, .ref h_mo_seams, .int mo_seamMany, .ref h_mo_rowSeam, .ref h_mo_rowWay, .int mo_rowMany, .long mo_lowUp, .long mo_lowDown, .long mo_highUp, .long mo_highDown, .ref h_mo_quarters, .ref h_mo_begins, .ref h_mo_ends, .ref h_mo_rests, .ref h_mo_bestRow, .ref h_mo_lows, .ref h_mo_highs, .int mo_touchMany, .int mo_shiftX, .int mo_shiftY, .ref h_mo_acts, .ref h_mo_actMany, .ref h_mo_done, .ref h_mo_left, .ref h_mo_waited, .ref h_mo_ran, .int mo_hasRun, .ref h_mo_reached]))] rfl d_Model_table_33 ?_
      refine z_aload C d_Model_table_36 0 rfl ?_
      refine z_iload C d_Model_table_37 2 rfl ?_
      refine z_put C fp_Model_107 0 rfl rfl rfl rfl [(h_mo, .inr (10, [.int p0, .int p1, .int mo_linkA, .int mo_linkB, .int mo_flatness, .int mo_gap, .int mo_turn, .int mo_travel, .int mo_lift, .int mo_cool, .int mo_homeX, .int mo_homeY, .ref h_mo_bars, .int mo_barMany, .ref h_mo_seams, .int mo_seamMany, .ref h_mo_rowSeam, .ref h_mo_rowWay, .int mo_rowMany, .long mo_lowUp, .long mo_lowDown, .long mo_highUp, .long mo_highDown, .ref h_mo_quarters, .ref h_mo_begins, .ref h_mo_ends, .ref h_mo_rests, .ref h_mo_bestRow, .ref h_mo_lows, .ref h_mo_highs, .int mo_touchMany, .int mo_shiftX, .int mo_shiftY, .ref h_mo_acts, .ref h_mo_actMany, .ref h_mo_done, .ref h_mo_left, .ref h_mo_waited, .ref h_mo_ran, .int mo_hasRun, .ref h_mo_reached]))] rfl d_Model_table_38 ?_
      refine z_k C d_Model_table_41 ?_
      exact ze_iret C (p0, p1) hr hlk rfl d_Model_table_42 h
    · replace h := h.2 c_4
      refine z_k C d_Model_table_28 ?_
      exact ze_iret C (mo_middleX, mo_middleY) hr hlk rfl d_Model_table_30 h
def wp_Model_arm (mo_linkA : Int32) (mo_linkB : Int32) (p0 : Int32) (p1 : Int32) (post : Int32 → Int32 → Int32 → Prop) : Prop :=
  (wp_Model_in p0.toInt64 (10 : Int64) (300 : Int64) (fun r_1 => ((r_1 = 0 → (post (-2 : Int32) mo_linkA mo_linkB)) ∧ (¬ r_1 = 0 → (wp_Model_in p1.toInt64 (10 : Int64) (300 : Int64) (fun r_3 => ((¬ r_3 = 0 → (post (1 : Int32) p0 p1)) ∧ (r_3 = 0 → (post (-2 : Int32) mo_linkA mo_linkB)))))))))
abbrev rm_Model_arm : Room := { frames := 1, cells := 0, slots := 0, locals := 25 }
set_option maxHeartbeats 4000000 in
set_option maxRecDepth 100000 in
theorem c_Model_arm (l : Launch) (D : va_G) (κ : KT) (h_mo : Nat) (h_mo_bars : Nat) (h_mo_seams : Nat) (h_mo_rowSeam : Nat) (h_mo_rowWay : Nat) (h_mo_quarters : Nat) (h_mo_begins : Nat) (h_mo_ends : Nat) (h_mo_rests : Nat) (h_mo_bestRow : Nat) (h_mo_lows : Nat) (h_mo_highs : Nat) (h_mo_acts : Nat) (h_mo_actMany : Nat) (h_mo_done : Nat) (h_mo_left : Nat) (h_mo_waited : Nat) (h_mo_ran : Nat) (h_mo_reached : Nat) (mo_middleX : Int32) (mo_middleY : Int32) (mo_linkA : Int32) (mo_linkB : Int32) (mo_flatness : Int32) (mo_gap : Int32) (mo_turn : Int32) (mo_travel : Int32) (mo_lift : Int32) (mo_cool : Int32) (mo_homeX : Int32) (mo_homeY : Int32) (mo_barMany : Int32) (mo_seamMany : Int32) (mo_rowMany : Int32) (mo_lowUp : Int64) (mo_lowDown : Int64) (mo_highUp : Int64) (mo_highDown : Int64) (mo_touchMany : Int32) (mo_shiftX : Int32) (mo_shiftY : Int32) (mo_hasRun : Int32) (p0 : Int32) (p1 : Int32) (sz : Nat) (post : Int32 → Int32 → Int32 → Prop) (h : wp_Model_arm mo_linkA mo_linkB p0 p1 post) : Met l y_Model_arm (wsG y_Model_arm b_Model_arm 3 (some .int)) rm_Model_arm (PE D κ [.ref h_mo, .int p0, .int p1] [(h_mo, .inr (10, [.int mo_middleX, .int mo_middleY, .int mo_linkA, .int mo_linkB, .int mo_flatness, .int mo_gap, .int mo_turn, .int mo_travel, .int mo_lift, .int mo_cool, .int mo_homeX, .int mo_homeY, .ref h_mo_bars, .int mo_barMany, .ref h_mo_seams, .int mo_seamMany, .ref h_mo_rowSeam, .ref h_mo_rowWay, .int mo_rowMany, .long mo_lowUp, .long mo_lowDown, .long mo_highUp, .long mo_highDown, .ref h_mo_quarters, .ref h_mo_begins, .ref h_mo_ends, .ref h_mo_rests, .ref h_mo_bestRow, .ref h_mo_lows, .ref h_mo_highs, .int mo_touchMany, .int mo_shiftX, .int mo_shiftY, .ref h_mo_acts, .ref h_mo_actMany, .ref h_mo_done, .ref h_mo_left, .ref h_mo_waited, .ref h_mo_ran, .int mo_hasRun, .ref h_mo_reached]))] sz) (va_Qi (fun (r : Int32) (u : (Int32) × (Int32)) => post r u.1 u.2) (QB D [(h_mo, .inr (10, [.int mo_middleX, .int mo_middleY, .int mo_linkA, .int mo_linkB, .int mo_flatness, .int mo_gap, .int mo_turn, .int mo_travel, .int mo_lift, .int mo_cool, .int mo_homeX, .int mo_homeY, .ref h_mo_bars, .int mo_barMany, .ref h_mo_seams, .int mo_seamMany, .ref h_mo_rowSeam, .ref h_mo_rowWay, .int mo_rowMany, .long mo_lowUp, .long mo_lowDown, .long mo_highUp, .long mo_highDown, .ref h_mo_quarters, .ref h_mo_begins, .ref h_mo_ends, .ref h_mo_rests, .ref h_mo_bestRow, .ref h_mo_lows, .ref h_mo_highs, .int mo_touchMany, .int mo_shiftX, .int mo_shiftY, .ref h_mo_acts, .ref h_mo_actMany, .ref h_mo_done, .ref h_mo_left, .ref h_mo_waited, .ref h_mo_ran, .int mo_hasRun, .ref h_mo_reached]))] sz (fun (u : (Int32) × (Int32)) => [(h_mo, .inr (10, [.int mo_middleX, .int mo_middleY, .int u.1, .int u.2, .int mo_flatness, .int mo_gap, .int mo_turn, .int mo_travel, .int mo_lift, .int mo_cool, .int mo_homeX, .int mo_homeY, .ref h_mo_bars, .int mo_barMany, .ref h_mo_seams, .int mo_seamMany, .ref h_mo_rowSeam, .ref h_mo_rowWay, .int mo_rowMany, .long mo_lowUp, .long mo_lowDown, .long mo_highUp, .long mo_highDown, .ref h_mo_quarters, .ref h_mo_begins, .ref h_mo_ends, .ref h_mo_rests, .ref h_mo_bestRow, .ref h_mo_lows, .ref h_mo_highs, .int mo_touchMany, .int mo_shiftX, .int mo_shiftY, .ref h_mo_acts, .ref h_mo_actMany, .ref h_mo_done, .ref h_mo_left, .ref h_mo_waited, .ref h_mo_ran, .int mo_hasRun, .ref h_mo_reached]))])) (va_A [(h_mo, .inr (10, [.int mo_middleX, .int mo_middleY, .int mo_linkA, .int mo_linkB, .int mo_flatness, .int mo_gap, .int mo_turn, .int mo_travel, .int mo_lift, .int mo_cool, .int mo_homeX, .int mo_homeY, .ref h_mo_bars, .int mo_barMany, .ref h_mo_seams, .int mo_seamMany, .ref h_mo_rowSeam, .ref h_mo_rowWay, .int mo_rowMany, .long mo_lowUp, .long mo_lowDown, .long mo_highUp, .long mo_highDown, .ref h_mo_quarters, .ref h_mo_begins, .ref h_mo_ends, .ref h_mo_rests, .ref h_mo_bestRow, .ref h_mo_lows, .ref h_mo_highs, .int mo_touchMany, .int mo_shiftX, .int mo_shiftY, .ref h_mo_acts, .ref h_mo_actMany, .ref h_mo_done, .ref h_mo_left, .ref h_mo_waited, .ref h_mo_ran, .int mo_hasRun, .ref h_mo_reached]))] sz)) 0 0 (va_A [(h_mo, .inr (10, [.int mo_middleX, .int mo_middleY, .int mo_linkA, .int mo_linkB, .int mo_flatness, .int mo_gap, .int mo_turn, .int mo_travel, .int mo_lift, .int mo_cool, .int mo_homeX, .int mo_homeY, .ref h_mo_bars, .int mo_barMany, .ref h_mo_seams, .int mo_seamMany, .ref h_mo_rowSeam, .ref h_mo_rowWay, .int mo_rowMany, .long mo_lowUp, .long mo_lowDown, .long mo_highUp, .long mo_highDown, .ref h_mo_quarters, .ref h_mo_begins, .ref h_mo_ends, .ref h_mo_rests, .ref h_mo_bestRow, .ref h_mo_lows, .ref h_mo_highs, .int mo_touchMany, .int mo_shiftX, .int mo_shiftY, .ref h_mo_acts, .ref h_mo_actMany, .ref h_mo_done, .ref h_mo_left, .ref h_mo_waited, .ref h_mo_ran, .int mo_hasRun, .ref h_mo_reached]))] sz) := by
  refine ze_start [(0, .ref h_mo), (1, .int p0), (2, .int p1)] rfl (Nat.le_of_ble_eq_true rfl) rfl ?_
  intro p e s m args below meth c C hr hlk hnm hsz
  subst hsz
  unfold wp_Model_arm at h
  refine z_iload C d_Model_arm_0 1 rfl ?_
  refine z_i2l C d_Model_arm_1 ?_
  refine z_ldc2 C d_Model_arm_2 wk_Model_110 ?_
  refine z_ldc2 C d_Model_arm_5 wk_Model_112 ?_
  refine z_spi C (rest := []) (c_Model_in l D κ p0.toInt64 (10 : Int64) (300 : Int64) _ h) cs_Model_100 ⟨rfl, rfl⟩ ⟨⟨Nat.le_of_ble_eq_true rfl, Nat.le_of_ble_eq_true rfl⟩, Nat.le_of_ble_eq_true rfl, Nat.le_of_ble_eq_true rfl⟩ [] rfl rfl rfl (Nat.le_of_ble_eq_true rfl) d_Model_arm_8 (fun r_1 h => ?_)
  refine z_if_eq C d_Model_arm_11 (fun c_2 => ?_) (fun c_2 => ?_)
  · replace h := h.1 c_2
    refine z_k C d_Model_arm_28 ?_
    exact ze_iret C (mo_linkA, mo_linkB) hr hlk rfl d_Model_arm_30 h
  · replace h := h.2 c_2
    refine z_iload C d_Model_arm_14 2 rfl ?_
    refine z_i2l C d_Model_arm_15 ?_
    refine z_ldc2 C d_Model_arm_16 wk_Model_110 ?_
    refine z_ldc2 C d_Model_arm_19 wk_Model_112 ?_
    refine z_spi C (rest := []) (c_Model_in l D κ p1.toInt64 (10 : Int64) (300 : Int64) _ h) cs_Model_100 ⟨rfl, rfl⟩ ⟨⟨Nat.le_of_ble_eq_true rfl, Nat.le_of_ble_eq_true rfl⟩, Nat.le_of_ble_eq_true rfl, Nat.le_of_ble_eq_true rfl⟩ [] rfl rfl rfl (Nat.le_of_ble_eq_true rfl) d_Model_arm_22 (fun r_3 h => ?_)
    refine z_if_ne C d_Model_arm_25 (fun c_4 => ?_) (fun c_4 => ?_)
    · replace h := h.1 c_4
      refine z_aload C d_Model_arm_31 0 rfl ?_
      refine z_iload C d_Model_arm_32 1 rfl ?_
      refine z_put C fp_Model_7 0 rfl rfl rfl rfl [(h_mo, .inr (10, [.int mo_middleX, .int mo_middleY, .int p0, .int mo_linkB, .int mo_flatness, .int mo_gap, .int mo_turn, .int mo_travel, .int mo_lift, .int mo_cool, .int mo_homeX, .int mo_homeY, .ref h_mo_bars, .int mo_barMany, .ref h_mo_seams, .int mo_seamMany, .ref h_mo_rowSeam, .ref h_mo_rowWay, .int mo_rowMany, .long mo_lowUp, .long mo_lowDown, .long mo_highUp, .long mo_highDown, .ref h_mo_quarters, .ref h_mo_begins, .ref h_mo_ends, .ref h_mo_rests, .ref h_mo_bestRow, .ref h_mo_lows, .ref h_mo_highs, .int mo_touchMany, .int mo_shiftX, .int mo_shiftY, .ref h_mo_acts, .ref h_mo_actMany, .ref h_mo_done, .ref h_mo_left, .ref h_mo_waited, .ref h_mo_ran, .int mo_hasRun, .ref h_mo_reached]))] rfl d_Model_arm_33 ?_
      refine z_aload C d_Model_arm_36 0 rfl ?_
      refine z_iload C d_Model_arm_37 2 rfl ?_
      refine z_put C fp_Model_13 0 rfl rfl rfl rfl [(h_mo, .inr (10, [.int mo_middleX, .int mo_middleY, .int p0, .int p1, .int mo_flatness, .int mo_gap, .int mo_turn, .int mo_travel, .int mo_lift, .int mo_cool, .int mo_homeX, .int mo_homeY, .ref h_mo_bars, .int mo_barMany, .ref h_mo_seams, .int mo_seamMany, .ref h_mo_rowSeam, .ref h_mo_rowWay, .int mo_rowMany, .long mo_lowUp, .long mo_lowDown, .long mo_highUp, .long mo_highDown, .ref h_mo_quarters, .ref h_mo_begins, .ref h_mo_ends, .ref h_mo_rests, .ref h_mo_bestRow, .ref h_mo_lows, .ref h_mo_highs, .int mo_touchMany, .int mo_shiftX, .int mo_shiftY, .ref h_mo_acts, .ref h_mo_actMany, .ref h_mo_done, .ref h_mo_left, .ref h_mo_waited, .ref h_mo_ran, .int mo_hasRun, .ref h_mo_reached]))] rfl d_Model_arm_38 ?_
      refine z_k C d_Model_arm_41 ?_
      exact ze_iret C (p0, p1) hr hlk rfl d_Model_arm_42 h
    · replace h := h.2 c_4
      refine z_k C d_Model_arm_28 ?_
      exact ze_iret C (mo_linkA, mo_linkB) hr hlk rfl d_Model_arm_30 h
def wp_Model_rules (mo_flatness : Int32) (mo_gap : Int32) (p0 : Int32) (p1 : Int32) (post : Int32 → Int32 → Int32 → Prop) : Prop :=
  (wp_Model_in p0.toInt64 (0 : Int64) (1000 : Int64) (fun r_1 => ((r_1 = 0 → (post (-2 : Int32) mo_flatness mo_gap)) ∧ (¬ r_1 = 0 → (wp_Model_in p1.toInt64 (0 : Int64) (200 : Int64) (fun r_3 => ((¬ r_3 = 0 → (post (1 : Int32) p0 p1)) ∧ (r_3 = 0 → (post (-2 : Int32) mo_flatness mo_gap)))))))))
abbrev rm_Model_rules : Room := { frames := 1, cells := 0, slots := 0, locals := 25 }
set_option maxHeartbeats 4000000 in
set_option maxRecDepth 100000 in
theorem c_Model_rules (l : Launch) (D : va_G) (κ : KT) (h_mo : Nat) (h_mo_bars : Nat) (h_mo_seams : Nat) (h_mo_rowSeam : Nat) (h_mo_rowWay : Nat) (h_mo_quarters : Nat) (h_mo_begins : Nat) (h_mo_ends : Nat) (h_mo_rests : Nat) (h_mo_bestRow : Nat) (h_mo_lows : Nat) (h_mo_highs : Nat) (h_mo_acts : Nat) (h_mo_actMany : Nat) (h_mo_done : Nat) (h_mo_left : Nat) (h_mo_waited : Nat) (h_mo_ran : Nat) (h_mo_reached : Nat) (mo_middleX : Int32) (mo_middleY : Int32) (mo_linkA : Int32) (mo_linkB : Int32) (mo_flatness : Int32) (mo_gap : Int32) (mo_turn : Int32) (mo_travel : Int32) (mo_lift : Int32) (mo_cool : Int32) (mo_homeX : Int32) (mo_homeY : Int32) (mo_barMany : Int32) (mo_seamMany : Int32) (mo_rowMany : Int32) (mo_lowUp : Int64) (mo_lowDown : Int64) (mo_highUp : Int64) (mo_highDown : Int64) (mo_touchMany : Int32) (mo_shiftX : Int32) (mo_shiftY : Int32) (mo_hasRun : Int32) (p0 : Int32) (p1 : Int32) (sz : Nat) (post : Int32 → Int32 → Int32 → Prop) (h : wp_Model_rules mo_flatness mo_gap p0 p1 post) : Met l y_Model_rules (wsG y_Model_rules b_Model_rules 3 (some .int)) rm_Model_rules (PE D κ [.ref h_mo, .int p0, .int p1] [(h_mo, .inr (10, [.int mo_middleX, .int mo_middleY, .int mo_linkA, .int mo_linkB, .int mo_flatness, .int mo_gap, .int mo_turn, .int mo_travel, .int mo_lift, .int mo_cool, .int mo_homeX, .int mo_homeY, .ref h_mo_bars, .int mo_barMany, .ref h_mo_seams, .int mo_seamMany, .ref h_mo_rowSeam, .ref h_mo_rowWay, .int mo_rowMany, .long mo_lowUp, .long mo_lowDown, .long mo_highUp, .long mo_highDown, .ref h_mo_quarters, .ref h_mo_begins, .ref h_mo_ends, .ref h_mo_rests, .ref h_mo_bestRow, .ref h_mo_lows, .ref h_mo_highs, .int mo_touchMany, .int mo_shiftX, .int mo_shiftY, .ref h_mo_acts, .ref h_mo_actMany, .ref h_mo_done, .ref h_mo_left, .ref h_mo_waited, .ref h_mo_ran, .int mo_hasRun, .ref h_mo_reached]))] sz) (va_Qi (fun (r : Int32) (u : (Int32) × (Int32)) => post r u.1 u.2) (QB D [(h_mo, .inr (10, [.int mo_middleX, .int mo_middleY, .int mo_linkA, .int mo_linkB, .int mo_flatness, .int mo_gap, .int mo_turn, .int mo_travel, .int mo_lift, .int mo_cool, .int mo_homeX, .int mo_homeY, .ref h_mo_bars, .int mo_barMany, .ref h_mo_seams, .int mo_seamMany, .ref h_mo_rowSeam, .ref h_mo_rowWay, .int mo_rowMany, .long mo_lowUp, .long mo_lowDown, .long mo_highUp, .long mo_highDown, .ref h_mo_quarters, .ref h_mo_begins, .ref h_mo_ends, .ref h_mo_rests, .ref h_mo_bestRow, .ref h_mo_lows, .ref h_mo_highs, .int mo_touchMany, .int mo_shiftX, .int mo_shiftY, .ref h_mo_acts, .ref h_mo_actMany, .ref h_mo_done, .ref h_mo_left, .ref h_mo_waited, .ref h_mo_ran, .int mo_hasRun, .ref h_mo_reached]))] sz (fun (u : (Int32) × (Int32)) => [(h_mo, .inr (10, [.int mo_middleX, .int mo_middleY, .int mo_linkA, .int mo_linkB, .int u.1, .int u.2, .int mo_turn, .int mo_travel, .int mo_lift, .int mo_cool, .int mo_homeX, .int mo_homeY, .ref h_mo_bars, .int mo_barMany, .ref h_mo_seams, .int mo_seamMany, .ref h_mo_rowSeam, .ref h_mo_rowWay, .int mo_rowMany, .long mo_lowUp, .long mo_lowDown, .long mo_highUp, .long mo_highDown, .ref h_mo_quarters, .ref h_mo_begins, .ref h_mo_ends, .ref h_mo_rests, .ref h_mo_bestRow, .ref h_mo_lows, .ref h_mo_highs, .int mo_touchMany, .int mo_shiftX, .int mo_shiftY, .ref h_mo_acts, .ref h_mo_actMany, .ref h_mo_done, .ref h_mo_left, .ref h_mo_waited, .ref h_mo_ran, .int mo_hasRun, .ref h_mo_reached]))])) (va_A [(h_mo, .inr (10, [.int mo_middleX, .int mo_middleY, .int mo_linkA, .int mo_linkB, .int mo_flatness, .int mo_gap, .int mo_turn, .int mo_travel, .int mo_lift, .int mo_cool, .int mo_homeX, .int mo_homeY, .ref h_mo_bars, .int mo_barMany, .ref h_mo_seams, .int mo_seamMany, .ref h_mo_rowSeam, .ref h_mo_rowWay, .int mo_rowMany, .long mo_lowUp, .long mo_lowDown, .long mo_highUp, .long mo_highDown, .ref h_mo_quarters, .ref h_mo_begins, .ref h_mo_ends, .ref h_mo_rests, .ref h_mo_bestRow, .ref h_mo_lows, .ref h_mo_highs, .int mo_touchMany, .int mo_shiftX, .int mo_shiftY, .ref h_mo_acts, .ref h_mo_actMany, .ref h_mo_done, .ref h_mo_left, .ref h_mo_waited, .ref h_mo_ran, .int mo_hasRun, .ref h_mo_reached]))] sz)) 0 0 (va_A [(h_mo, .inr (10, [.int mo_middleX, .int mo_middleY, .int mo_linkA, .int mo_linkB, .int mo_flatness, .int mo_gap, .int mo_turn, .int mo_travel, .int mo_lift, .int mo_cool, .int mo_homeX, .int mo_homeY, .ref h_mo_bars, .int mo_barMany, .ref h_mo_seams, .int mo_seamMany, .ref h_mo_rowSeam, .ref h_mo_rowWay, .int mo_rowMany, .long mo_lowUp, .long mo_lowDown, .long mo_highUp, .long mo_highDown, .ref h_mo_quarters, .ref h_mo_begins, .ref h_mo_ends, .ref h_mo_rests, .ref h_mo_bestRow, .ref h_mo_lows, .ref h_mo_highs, .int mo_touchMany, .int mo_shiftX, .int mo_shiftY, .ref h_mo_acts, .ref h_mo_actMany, .ref h_mo_done, .ref h_mo_left, .ref h_mo_waited, .ref h_mo_ran, .int mo_hasRun, .ref h_mo_reached]))] sz) := by
  refine ze_start [(0, .ref h_mo), (1, .int p0), (2, .int p1)] rfl (Nat.le_of_ble_eq_true rfl) rfl ?_
  intro p e s m args below meth c C hr hlk hnm hsz
  subst hsz
  unfold wp_Model_rules at h
  refine z_iload C d_Model_rules_0 1 rfl ?_
  refine z_i2l C d_Model_rules_1 ?_
  refine z_lk C d_Model_rules_2 ?_
  refine z_ldc2 C d_Model_rules_3 wk_Model_114 ?_
  refine z_spi C (rest := []) (c_Model_in l D κ p0.toInt64 (0 : Int64) (1000 : Int64) _ h) cs_Model_100 ⟨rfl, rfl⟩ ⟨⟨Nat.le_of_ble_eq_true rfl, Nat.le_of_ble_eq_true rfl⟩, Nat.le_of_ble_eq_true rfl, Nat.le_of_ble_eq_true rfl⟩ [] rfl rfl rfl (Nat.le_of_ble_eq_true rfl) d_Model_rules_6 (fun r_1 h => ?_)
  refine z_if_eq C d_Model_rules_9 (fun c_2 => ?_) (fun c_2 => ?_)
  · replace h := h.1 c_2
    refine z_k C d_Model_rules_24 ?_
    exact ze_iret C (mo_flatness, mo_gap) hr hlk rfl d_Model_rules_26 h
  · replace h := h.2 c_2
    refine z_iload C d_Model_rules_12 2 rfl ?_
    refine z_i2l C d_Model_rules_13 ?_
    refine z_lk C d_Model_rules_14 ?_
    refine z_ldc2 C d_Model_rules_15 wk_Model_98 ?_
    refine z_spi C (rest := []) (c_Model_in l D κ p1.toInt64 (0 : Int64) (200 : Int64) _ h) cs_Model_100 ⟨rfl, rfl⟩ ⟨⟨Nat.le_of_ble_eq_true rfl, Nat.le_of_ble_eq_true rfl⟩, Nat.le_of_ble_eq_true rfl, Nat.le_of_ble_eq_true rfl⟩ [] rfl rfl rfl (Nat.le_of_ble_eq_true rfl) d_Model_rules_18 (fun r_3 h => ?_)
    refine z_if_ne C d_Model_rules_21 (fun c_4 => ?_) (fun c_4 => ?_)
    · replace h := h.1 c_4
      refine z_aload C d_Model_rules_27 0 rfl ?_
      refine z_iload C d_Model_rules_28 1 rfl ?_
      refine z_put C fp_Model_16 0 rfl rfl rfl rfl [(h_mo, .inr (10, [.int mo_middleX, .int mo_middleY, .int mo_linkA, .int mo_linkB, .int p0, .int mo_gap, .int mo_turn, .int mo_travel, .int mo_lift, .int mo_cool, .int mo_homeX, .int mo_homeY, .ref h_mo_bars, .int mo_barMany, .ref h_mo_seams, .int mo_seamMany, .ref h_mo_rowSeam, .ref h_mo_rowWay, .int mo_rowMany, .long mo_lowUp, .long mo_lowDown, .long mo_highUp, .long mo_highDown, .ref h_mo_quarters, .ref h_mo_begins, .ref h_mo_ends, .ref h_mo_rests, .ref h_mo_bestRow, .ref h_mo_lows, .ref h_mo_highs, .int mo_touchMany, .int mo_shiftX, .int mo_shiftY, .ref h_mo_acts, .ref h_mo_actMany, .ref h_mo_done, .ref h_mo_left, .ref h_mo_waited, .ref h_mo_ran, .int mo_hasRun, .ref h_mo_reached]))] rfl d_Model_rules_29 ?_
      refine z_aload C d_Model_rules_32 0 rfl ?_
      refine z_iload C d_Model_rules_33 2 rfl ?_
      refine z_put C fp_Model_19 0 rfl rfl rfl rfl [(h_mo, .inr (10, [.int mo_middleX, .int mo_middleY, .int mo_linkA, .int mo_linkB, .int p0, .int p1, .int mo_turn, .int mo_travel, .int mo_lift, .int mo_cool, .int mo_homeX, .int mo_homeY, .ref h_mo_bars, .int mo_barMany, .ref h_mo_seams, .int mo_seamMany, .ref h_mo_rowSeam, .ref h_mo_rowWay, .int mo_rowMany, .long mo_lowUp, .long mo_lowDown, .long mo_highUp, .long mo_highDown, .ref h_mo_quarters, .ref h_mo_begins, .ref h_mo_ends, .ref h_mo_rests, .ref h_mo_bestRow, .ref h_mo_lows, .ref h_mo_highs, .int mo_touchMany, .int mo_shiftX, .int mo_shiftY, .ref h_mo_acts, .ref h_mo_actMany, .ref h_mo_done, .ref h_mo_left, .ref h_mo_waited, .ref h_mo_ran, .int mo_hasRun, .ref h_mo_reached]))] rfl d_Model_rules_34 ?_
      refine z_k C d_Model_rules_37 ?_
      exact ze_iret C (p0, p1) hr hlk rfl d_Model_rules_38 h
    · replace h := h.2 c_4
      refine z_k C d_Model_rules_24 ?_
      exact ze_iret C (mo_flatness, mo_gap) hr hlk rfl d_Model_rules_26 h
def wp_Model_times (mo_turn : Int32) (mo_travel : Int32) (mo_lift : Int32) (mo_cool : Int32) (p0 : Int32) (p1 : Int32) (p2 : Int32) (p3 : Int32) (post : Int32 → Int32 → Int32 → Int32 → Int32 → Prop) : Prop :=
  (wp_Model_in p0.toInt64 (0 : Int64) (100 : Int64) (fun r_1 => ((r_1 = 0 → (post (-2 : Int32) mo_turn mo_travel mo_lift mo_cool)) ∧ (¬ r_1 = 0 → (wp_Model_in p1.toInt64 (1 : Int64) (100 : Int64) (fun r_3 => ((r_3 = 0 → (post (-2 : Int32) mo_turn mo_travel mo_lift mo_cool)) ∧ (¬ r_3 = 0 → (wp_Model_in p2.toInt64 (0 : Int64) (50 : Int64) (fun r_5 => ((r_5 = 0 → (post (-2 : Int32) mo_turn mo_travel mo_lift mo_cool)) ∧ (¬ r_5 = 0 → (wp_Model_in p3.toInt64 (1 : Int64) (100 : Int64) (fun r_7 => ((¬ r_7 = 0 → (post (1 : Int32) p0 p1 p2 p3)) ∧ (r_7 = 0 → (post (-2 : Int32) mo_turn mo_travel mo_lift mo_cool)))))))))))))))))
abbrev rm_Model_times : Room := { frames := 1, cells := 0, slots := 0, locals := 25 }
set_option maxHeartbeats 4000000 in
set_option maxRecDepth 100000 in
theorem c_Model_times (l : Launch) (D : va_G) (κ : KT) (h_mo : Nat) (h_mo_bars : Nat) (h_mo_seams : Nat) (h_mo_rowSeam : Nat) (h_mo_rowWay : Nat) (h_mo_quarters : Nat) (h_mo_begins : Nat) (h_mo_ends : Nat) (h_mo_rests : Nat) (h_mo_bestRow : Nat) (h_mo_lows : Nat) (h_mo_highs : Nat) (h_mo_acts : Nat) (h_mo_actMany : Nat) (h_mo_done : Nat) (h_mo_left : Nat) (h_mo_waited : Nat) (h_mo_ran : Nat) (h_mo_reached : Nat) (mo_middleX : Int32) (mo_middleY : Int32) (mo_linkA : Int32) (mo_linkB : Int32) (mo_flatness : Int32) (mo_gap : Int32) (mo_turn : Int32) (mo_travel : Int32) (mo_lift : Int32) (mo_cool : Int32) (mo_homeX : Int32) (mo_homeY : Int32) (mo_barMany : Int32) (mo_seamMany : Int32) (mo_rowMany : Int32) (mo_lowUp : Int64) (mo_lowDown : Int64) (mo_highUp : Int64) (mo_highDown : Int64) (mo_touchMany : Int32) (mo_shiftX : Int32) (mo_shiftY : Int32) (mo_hasRun : Int32) (p0 : Int32) (p1 : Int32) (p2 : Int32) (p3 : Int32) (sz : Nat) (post : Int32 → Int32 → Int32 → Int32 → Int32 → Prop) (h : wp_Model_times mo_turn mo_travel mo_lift mo_cool p0 p1 p2 p3 post) : Met l y_Model_times (wsG y_Model_times b_Model_times 5 (some .int)) rm_Model_times (PE D κ [.ref h_mo, .int p0, .int p1, .int p2, .int p3] [(h_mo, .inr (10, [.int mo_middleX, .int mo_middleY, .int mo_linkA, .int mo_linkB, .int mo_flatness, .int mo_gap, .int mo_turn, .int mo_travel, .int mo_lift, .int mo_cool, .int mo_homeX, .int mo_homeY, .ref h_mo_bars, .int mo_barMany, .ref h_mo_seams, .int mo_seamMany, .ref h_mo_rowSeam, .ref h_mo_rowWay, .int mo_rowMany, .long mo_lowUp, .long mo_lowDown, .long mo_highUp, .long mo_highDown, .ref h_mo_quarters, .ref h_mo_begins, .ref h_mo_ends, .ref h_mo_rests, .ref h_mo_bestRow, .ref h_mo_lows, .ref h_mo_highs, .int mo_touchMany, .int mo_shiftX, .int mo_shiftY, .ref h_mo_acts, .ref h_mo_actMany, .ref h_mo_done, .ref h_mo_left, .ref h_mo_waited, .ref h_mo_ran, .int mo_hasRun, .ref h_mo_reached]))] sz) (va_Qi (fun (r : Int32) (u : (Int32) × (Int32) × (Int32) × (Int32)) => post r u.1 u.2.1 u.2.2.1 u.2.2.2) (QB D [(h_mo, .inr (10, [.int mo_middleX, .int mo_middleY, .int mo_linkA, .int mo_linkB, .int mo_flatness, .int mo_gap, .int mo_turn, .int mo_travel, .int mo_lift, .int mo_cool, .int mo_homeX, .int mo_homeY, .ref h_mo_bars, .int mo_barMany, .ref h_mo_seams, .int mo_seamMany, .ref h_mo_rowSeam, .ref h_mo_rowWay, .int mo_rowMany, .long mo_lowUp, .long mo_lowDown, .long mo_highUp, .long mo_highDown, .ref h_mo_quarters, .ref h_mo_begins, .ref h_mo_ends, .ref h_mo_rests, .ref h_mo_bestRow, .ref h_mo_lows, .ref h_mo_highs, .int mo_touchMany, .int mo_shiftX, .int mo_shiftY, .ref h_mo_acts, .ref h_mo_actMany, .ref h_mo_done, .ref h_mo_left, .ref h_mo_waited, .ref h_mo_ran, .int mo_hasRun, .ref h_mo_reached]))] sz (fun (u : (Int32) × (Int32) × (Int32) × (Int32)) => [(h_mo, .inr (10, [.int mo_middleX, .int mo_middleY, .int mo_linkA, .int mo_linkB, .int mo_flatness, .int mo_gap, .int u.1, .int u.2.1, .int u.2.2.1, .int u.2.2.2, .int mo_homeX, .int mo_homeY, .ref h_mo_bars, .int mo_barMany, .ref h_mo_seams, .int mo_seamMany, .ref h_mo_rowSeam, .ref h_mo_rowWay, .int mo_rowMany, .long mo_lowUp, .long mo_lowDown, .long mo_highUp, .long mo_highDown, .ref h_mo_quarters, .ref h_mo_begins, .ref h_mo_ends, .ref h_mo_rests, .ref h_mo_bestRow, .ref h_mo_lows, .ref h_mo_highs, .int mo_touchMany, .int mo_shiftX, .int mo_shiftY, .ref h_mo_acts, .ref h_mo_actMany, .ref h_mo_done, .ref h_mo_left, .ref h_mo_waited, .ref h_mo_ran, .int mo_hasRun, .ref h_mo_reached]))])) (va_A [(h_mo, .inr (10, [.int mo_middleX, .int mo_middleY, .int mo_linkA, .int mo_linkB, .int mo_flatness, .int mo_gap, .int mo_turn, .int mo_travel, .int mo_lift, .int mo_cool, .int mo_homeX, .int mo_homeY, .ref h_mo_bars, .int mo_barMany, .ref h_mo_seams, .int mo_seamMany, .ref h_mo_rowSeam, .ref h_mo_rowWay, .int mo_rowMany, .long mo_lowUp, .long mo_lowDown, .long mo_highUp, .long mo_highDown, .ref h_mo_quarters, .ref h_mo_begins, .ref h_mo_ends, .ref h_mo_rests, .ref h_mo_bestRow, .ref h_mo_lows, .ref h_mo_highs, .int mo_touchMany, .int mo_shiftX, .int mo_shiftY, .ref h_mo_acts, .ref h_mo_actMany, .ref h_mo_done, .ref h_mo_left, .ref h_mo_waited, .ref h_mo_ran, .int mo_hasRun, .ref h_mo_reached]))] sz)) 0 0 (va_A [(h_mo, .inr (10, [.int mo_middleX, .int mo_middleY, .int mo_linkA, .int mo_linkB, .int mo_flatness, .int mo_gap, .int mo_turn, .int mo_travel, .int mo_lift, .int mo_cool, .int mo_homeX, .int mo_homeY, .ref h_mo_bars, .int mo_barMany, .ref h_mo_seams, .int mo_seamMany, .ref h_mo_rowSeam, .ref h_mo_rowWay, .int mo_rowMany, .long mo_lowUp, .long mo_lowDown, .long mo_highUp, .long mo_highDown, .ref h_mo_quarters, .ref h_mo_begins, .ref h_mo_ends, .ref h_mo_rests, .ref h_mo_bestRow, .ref h_mo_lows, .ref h_mo_highs, .int mo_touchMany, .int mo_shiftX, .int mo_shiftY, .ref h_mo_acts, .ref h_mo_actMany, .ref h_mo_done, .ref h_mo_left, .ref h_mo_waited, .ref h_mo_ran, .int mo_hasRun, .ref h_mo_reached]))] sz) := by
  refine ze_start [(0, .ref h_mo), (1, .int p0), (2, .int p1), (3, .int p2), (4, .int p3)] rfl (Nat.le_of_ble_eq_true rfl) rfl ?_
  intro p e s m args below meth c C hr hlk hnm hsz
  subst hsz
  unfold wp_Model_times at h
  refine z_iload C d_Model_times_0 1 rfl ?_
  refine z_i2l C d_Model_times_1 ?_
  refine z_lk C d_Model_times_2 ?_
  refine z_ldc2 C d_Model_times_3 wk_Model_116 ?_
  refine z_spi C (rest := []) (c_Model_in l D κ p0.toInt64 (0 : Int64) (100 : Int64) _ h) cs_Model_100 ⟨rfl, rfl⟩ ⟨⟨Nat.le_of_ble_eq_true rfl, Nat.le_of_ble_eq_true rfl⟩, Nat.le_of_ble_eq_true rfl, Nat.le_of_ble_eq_true rfl⟩ [] rfl rfl rfl (Nat.le_of_ble_eq_true rfl) d_Model_times_6 (fun r_1 h => ?_)
  refine z_if_eq C d_Model_times_9 (fun c_2 => ?_) (fun c_2 => ?_)
  · replace h := h.1 c_2
    refine z_k C d_Model_times_49 ?_
    exact ze_iret C (mo_turn, mo_travel, mo_lift, mo_cool) hr hlk rfl d_Model_times_51 h
  · replace h := h.2 c_2
    refine z_iload C d_Model_times_12 2 rfl ?_
    refine z_i2l C d_Model_times_13 ?_
    refine z_lk C d_Model_times_14 ?_
    refine z_ldc2 C d_Model_times_15 wk_Model_116 ?_
    refine z_spi C (rest := []) (c_Model_in l D κ p1.toInt64 (1 : Int64) (100 : Int64) _ h) cs_Model_100 ⟨rfl, rfl⟩ ⟨⟨Nat.le_of_ble_eq_true rfl, Nat.le_of_ble_eq_true rfl⟩, Nat.le_of_ble_eq_true rfl, Nat.le_of_ble_eq_true rfl⟩ [] rfl rfl rfl (Nat.le_of_ble_eq_true rfl) d_Model_times_18 (fun r_3 h => ?_)
    refine z_if_eq C d_Model_times_21 (fun c_4 => ?_) (fun c_4 => ?_)
    · replace h := h.1 c_4
      refine z_k C d_Model_times_49 ?_
      exact ze_iret C (mo_turn, mo_travel, mo_lift, mo_cool) hr hlk rfl d_Model_times_51 h
    · replace h := h.2 c_4
      refine z_iload C d_Model_times_24 3 rfl ?_
      refine z_i2l C d_Model_times_25 ?_
      refine z_lk C d_Model_times_26 ?_
      refine z_ldc2 C d_Model_times_27 wk_Model_118 ?_
      refine z_spi C (rest := []) (c_Model_in l D κ p2.toInt64 (0 : Int64) (50 : Int64) _ h) cs_Model_100 ⟨rfl, rfl⟩ ⟨⟨Nat.le_of_ble_eq_true rfl, Nat.le_of_ble_eq_true rfl⟩, Nat.le_of_ble_eq_true rfl, Nat.le_of_ble_eq_true rfl⟩ [] rfl rfl rfl (Nat.le_of_ble_eq_true rfl) d_Model_times_30 (fun r_5 h => ?_)
      refine z_if_eq C d_Model_times_33 (fun c_6 => ?_) (fun c_6 => ?_)
      · replace h := h.1 c_6
        refine z_k C d_Model_times_49 ?_
        exact ze_iret C (mo_turn, mo_travel, mo_lift, mo_cool) hr hlk rfl d_Model_times_51 h
      · replace h := h.2 c_6
        refine z_iload C d_Model_times_36 4 rfl ?_
        refine z_i2l C d_Model_times_38 ?_
        refine z_lk C d_Model_times_39 ?_
        refine z_ldc2 C d_Model_times_40 wk_Model_116 ?_
        refine z_spi C (rest := []) (c_Model_in l D κ p3.toInt64 (1 : Int64) (100 : Int64) _ h) cs_Model_100 ⟨rfl, rfl⟩ ⟨⟨Nat.le_of_ble_eq_true rfl, Nat.le_of_ble_eq_true rfl⟩, Nat.le_of_ble_eq_true rfl, Nat.le_of_ble_eq_true rfl⟩ [] rfl rfl rfl (Nat.le_of_ble_eq_true rfl) d_Model_times_43 (fun r_7 h => ?_)
        refine z_if_ne C d_Model_times_46 (fun c_8 => ?_) (fun c_8 => ?_)
        · replace h := h.1 c_8
          refine z_aload C d_Model_times_52 0 rfl ?_
          refine z_iload C d_Model_times_53 1 rfl ?_
          refine z_put C fp_Model_22 0 rfl rfl rfl rfl [(h_mo, .inr (10, [.int mo_middleX, .int mo_middleY, .int mo_linkA, .int mo_linkB, .int mo_flatness, .int mo_gap, .int p0, .int mo_travel, .int mo_lift, .int mo_cool, .int mo_homeX, .int mo_homeY, .ref h_mo_bars, .int mo_barMany, .ref h_mo_seams, .int mo_seamMany, .ref h_mo_rowSeam, .ref h_mo_rowWay, .int mo_rowMany, .long mo_lowUp, .long mo_lowDown, .long mo_highUp, .long mo_highDown, .ref h_mo_quarters, .ref h_mo_begins, .ref h_mo_ends, .ref h_mo_rests, .ref h_mo_bestRow, .ref h_mo_lows, .ref h_mo_highs, .int mo_touchMany, .int mo_shiftX, .int mo_shiftY, .ref h_mo_acts, .ref h_mo_actMany, .ref h_mo_done, .ref h_mo_left, .ref h_mo_waited, .ref h_mo_ran, .int mo_hasRun, .ref h_mo_reached]))] rfl d_Model_times_54 ?_
          refine z_aload C d_Model_times_57 0 rfl ?_
          refine z_iload C d_Model_times_58 2 rfl ?_
          refine z_put C fp_Model_25 0 rfl rfl rfl rfl [(h_mo, .inr (10, [.int mo_middleX, .int mo_middleY, .int mo_linkA, .int mo_linkB, .int mo_flatness, .int mo_gap, .int p0, .int p1, .int mo_lift, .int mo_cool, .int mo_homeX, .int mo_homeY, .ref h_mo_bars, .int mo_barMany, .ref h_mo_seams, .int mo_seamMany, .ref h_mo_rowSeam, .ref h_mo_rowWay, .int mo_rowMany, .long mo_lowUp, .long mo_lowDown, .long mo_highUp, .long mo_highDown, .ref h_mo_quarters, .ref h_mo_begins, .ref h_mo_ends, .ref h_mo_rests, .ref h_mo_bestRow, .ref h_mo_lows, .ref h_mo_highs, .int mo_touchMany, .int mo_shiftX, .int mo_shiftY, .ref h_mo_acts, .ref h_mo_actMany, .ref h_mo_done, .ref h_mo_left, .ref h_mo_waited, .ref h_mo_ran, .int mo_hasRun, .ref h_mo_reached]))] rfl d_Model_times_59 ?_
          refine z_aload C d_Model_times_62 0 rfl ?_
          refine z_iload C d_Model_times_63 3 rfl ?_
          refine z_put C fp_Model_28 0 rfl rfl rfl rfl [(h_mo, .inr (10, [.int mo_middleX, .int mo_middleY, .int mo_linkA, .int mo_linkB, .int mo_flatness, .int mo_gap, .int p0, .int p1, .int p2, .int mo_cool, .int mo_homeX, .int mo_homeY, .ref h_mo_bars, .int mo_barMany, .ref h_mo_seams, .int mo_seamMany, .ref h_mo_rowSeam, .ref h_mo_rowWay, .int mo_rowMany, .long mo_lowUp, .long mo_lowDown, .long mo_highUp, .long mo_highDown, .ref h_mo_quarters, .ref h_mo_begins, .ref h_mo_ends, .ref h_mo_rests, .ref h_mo_bestRow, .ref h_mo_lows, .ref h_mo_highs, .int mo_touchMany, .int mo_shiftX, .int mo_shiftY, .ref h_mo_acts, .ref h_mo_actMany, .ref h_mo_done, .ref h_mo_left, .ref h_mo_waited, .ref h_mo_ran, .int mo_hasRun, .ref h_mo_reached]))] rfl d_Model_times_64 ?_
          refine z_aload C d_Model_times_67 0 rfl ?_
          refine z_iload C d_Model_times_68 4 rfl ?_
          refine z_put C fp_Model_31 0 rfl rfl rfl rfl [(h_mo, .inr (10, [.int mo_middleX, .int mo_middleY, .int mo_linkA, .int mo_linkB, .int mo_flatness, .int mo_gap, .int p0, .int p1, .int p2, .int p3, .int mo_homeX, .int mo_homeY, .ref h_mo_bars, .int mo_barMany, .ref h_mo_seams, .int mo_seamMany, .ref h_mo_rowSeam, .ref h_mo_rowWay, .int mo_rowMany, .long mo_lowUp, .long mo_lowDown, .long mo_highUp, .long mo_highDown, .ref h_mo_quarters, .ref h_mo_begins, .ref h_mo_ends, .ref h_mo_rests, .ref h_mo_bestRow, .ref h_mo_lows, .ref h_mo_highs, .int mo_touchMany, .int mo_shiftX, .int mo_shiftY, .ref h_mo_acts, .ref h_mo_actMany, .ref h_mo_done, .ref h_mo_left, .ref h_mo_waited, .ref h_mo_ran, .int mo_hasRun, .ref h_mo_reached]))] rfl d_Model_times_70 ?_
          refine z_k C d_Model_times_73 ?_
          exact ze_iret C (p0, p1, p2, p3) hr hlk rfl d_Model_times_74 h
        · replace h := h.2 c_8
          refine z_k C d_Model_times_49 ?_
          exact ze_iret C (mo_turn, mo_travel, mo_lift, mo_cool) hr hlk rfl d_Model_times_51 h
def wp_Model_home (mo_homeX : Int32) (mo_homeY : Int32) (p0 : Int32) (p1 : Int32) (post : Int32 → Int32 → Int32 → Prop) : Prop :=
  (wp_Model_in p0.toInt64 (-400 : Int64) (400 : Int64) (fun r_1 => ((r_1 = 0 → (post (-2 : Int32) mo_homeX mo_homeY)) ∧ (¬ r_1 = 0 → (wp_Model_in p1.toInt64 (-400 : Int64) (400 : Int64) (fun r_3 => ((¬ r_3 = 0 → (post (1 : Int32) p0 p1)) ∧ (r_3 = 0 → (post (-2 : Int32) mo_homeX mo_homeY)))))))))
abbrev rm_Model_home : Room := { frames := 1, cells := 0, slots := 0, locals := 25 }
set_option maxHeartbeats 4000000 in
set_option maxRecDepth 100000 in
theorem c_Model_home (l : Launch) (D : va_G) (κ : KT) (h_mo : Nat) (h_mo_bars : Nat) (h_mo_seams : Nat) (h_mo_rowSeam : Nat) (h_mo_rowWay : Nat) (h_mo_quarters : Nat) (h_mo_begins : Nat) (h_mo_ends : Nat) (h_mo_rests : Nat) (h_mo_bestRow : Nat) (h_mo_lows : Nat) (h_mo_highs : Nat) (h_mo_acts : Nat) (h_mo_actMany : Nat) (h_mo_done : Nat) (h_mo_left : Nat) (h_mo_waited : Nat) (h_mo_ran : Nat) (h_mo_reached : Nat) (mo_middleX : Int32) (mo_middleY : Int32) (mo_linkA : Int32) (mo_linkB : Int32) (mo_flatness : Int32) (mo_gap : Int32) (mo_turn : Int32) (mo_travel : Int32) (mo_lift : Int32) (mo_cool : Int32) (mo_homeX : Int32) (mo_homeY : Int32) (mo_barMany : Int32) (mo_seamMany : Int32) (mo_rowMany : Int32) (mo_lowUp : Int64) (mo_lowDown : Int64) (mo_highUp : Int64) (mo_highDown : Int64) (mo_touchMany : Int32) (mo_shiftX : Int32) (mo_shiftY : Int32) (mo_hasRun : Int32) (p0 : Int32) (p1 : Int32) (sz : Nat) (post : Int32 → Int32 → Int32 → Prop) (h : wp_Model_home mo_homeX mo_homeY p0 p1 post) : Met l y_Model_home (wsG y_Model_home b_Model_home 3 (some .int)) rm_Model_home (PE D κ [.ref h_mo, .int p0, .int p1] [(h_mo, .inr (10, [.int mo_middleX, .int mo_middleY, .int mo_linkA, .int mo_linkB, .int mo_flatness, .int mo_gap, .int mo_turn, .int mo_travel, .int mo_lift, .int mo_cool, .int mo_homeX, .int mo_homeY, .ref h_mo_bars, .int mo_barMany, .ref h_mo_seams, .int mo_seamMany, .ref h_mo_rowSeam, .ref h_mo_rowWay, .int mo_rowMany, .long mo_lowUp, .long mo_lowDown, .long mo_highUp, .long mo_highDown, .ref h_mo_quarters, .ref h_mo_begins, .ref h_mo_ends, .ref h_mo_rests, .ref h_mo_bestRow, .ref h_mo_lows, .ref h_mo_highs, .int mo_touchMany, .int mo_shiftX, .int mo_shiftY, .ref h_mo_acts, .ref h_mo_actMany, .ref h_mo_done, .ref h_mo_left, .ref h_mo_waited, .ref h_mo_ran, .int mo_hasRun, .ref h_mo_reached]))] sz) (va_Qi (fun (r : Int32) (u : (Int32) × (Int32)) => post r u.1 u.2) (QB D [(h_mo, .inr (10, [.int mo_middleX, .int mo_middleY, .int mo_linkA, .int mo_linkB, .int mo_flatness, .int mo_gap, .int mo_turn, .int mo_travel, .int mo_lift, .int mo_cool, .int mo_homeX, .int mo_homeY, .ref h_mo_bars, .int mo_barMany, .ref h_mo_seams, .int mo_seamMany, .ref h_mo_rowSeam, .ref h_mo_rowWay, .int mo_rowMany, .long mo_lowUp, .long mo_lowDown, .long mo_highUp, .long mo_highDown, .ref h_mo_quarters, .ref h_mo_begins, .ref h_mo_ends, .ref h_mo_rests, .ref h_mo_bestRow, .ref h_mo_lows, .ref h_mo_highs, .int mo_touchMany, .int mo_shiftX, .int mo_shiftY, .ref h_mo_acts, .ref h_mo_actMany, .ref h_mo_done, .ref h_mo_left, .ref h_mo_waited, .ref h_mo_ran, .int mo_hasRun, .ref h_mo_reached]))] sz (fun (u : (Int32) × (Int32)) => [(h_mo, .inr (10, [.int mo_middleX, .int mo_middleY, .int mo_linkA, .int mo_linkB, .int mo_flatness, .int mo_gap, .int mo_turn, .int mo_travel, .int mo_lift, .int mo_cool, .int u.1, .int u.2, .ref h_mo_bars, .int mo_barMany, .ref h_mo_seams, .int mo_seamMany, .ref h_mo_rowSeam, .ref h_mo_rowWay, .int mo_rowMany, .long mo_lowUp, .long mo_lowDown, .long mo_highUp, .long mo_highDown, .ref h_mo_quarters, .ref h_mo_begins, .ref h_mo_ends, .ref h_mo_rests, .ref h_mo_bestRow, .ref h_mo_lows, .ref h_mo_highs, .int mo_touchMany, .int mo_shiftX, .int mo_shiftY, .ref h_mo_acts, .ref h_mo_actMany, .ref h_mo_done, .ref h_mo_left, .ref h_mo_waited, .ref h_mo_ran, .int mo_hasRun, .ref h_mo_reached]))])) (va_A [(h_mo, .inr (10, [.int mo_middleX, .int mo_middleY, .int mo_linkA, .int mo_linkB, .int mo_flatness, .int mo_gap, .int mo_turn, .int mo_travel, .int mo_lift, .int mo_cool, .int mo_homeX, .int mo_homeY, .ref h_mo_bars, .int mo_barMany, .ref h_mo_seams, .int mo_seamMany, .ref h_mo_rowSeam, .ref h_mo_rowWay, .int mo_rowMany, .long mo_lowUp, .long mo_lowDown, .long mo_highUp, .long mo_highDown, .ref h_mo_quarters, .ref h_mo_begins, .ref h_mo_ends, .ref h_mo_rests, .ref h_mo_bestRow, .ref h_mo_lows, .ref h_mo_highs, .int mo_touchMany, .int mo_shiftX, .int mo_shiftY, .ref h_mo_acts, .ref h_mo_actMany, .ref h_mo_done, .ref h_mo_left, .ref h_mo_waited, .ref h_mo_ran, .int mo_hasRun, .ref h_mo_reached]))] sz)) 0 0 (va_A [(h_mo, .inr (10, [.int mo_middleX, .int mo_middleY, .int mo_linkA, .int mo_linkB, .int mo_flatness, .int mo_gap, .int mo_turn, .int mo_travel, .int mo_lift, .int mo_cool, .int mo_homeX, .int mo_homeY, .ref h_mo_bars, .int mo_barMany, .ref h_mo_seams, .int mo_seamMany, .ref h_mo_rowSeam, .ref h_mo_rowWay, .int mo_rowMany, .long mo_lowUp, .long mo_lowDown, .long mo_highUp, .long mo_highDown, .ref h_mo_quarters, .ref h_mo_begins, .ref h_mo_ends, .ref h_mo_rests, .ref h_mo_bestRow, .ref h_mo_lows, .ref h_mo_highs, .int mo_touchMany, .int mo_shiftX, .int mo_shiftY, .ref h_mo_acts, .ref h_mo_actMany, .ref h_mo_done, .ref h_mo_left, .ref h_mo_waited, .ref h_mo_ran, .int mo_hasRun, .ref h_mo_reached]))] sz) := by
  refine ze_start [(0, .ref h_mo), (1, .int p0), (2, .int p1)] rfl (Nat.le_of_ble_eq_true rfl) rfl ?_
  intro p e s m args below meth c C hr hlk hnm hsz
  subst hsz
  unfold wp_Model_home at h
  refine z_iload C d_Model_home_0 1 rfl ?_
  refine z_i2l C d_Model_home_1 ?_
  refine z_ldc2 C d_Model_home_2 wk_Model_120 ?_
  refine z_ldc2 C d_Model_home_5 wk_Model_122 ?_
  refine z_spi C (rest := []) (c_Model_in l D κ p0.toInt64 (-400 : Int64) (400 : Int64) _ h) cs_Model_100 ⟨rfl, rfl⟩ ⟨⟨Nat.le_of_ble_eq_true rfl, Nat.le_of_ble_eq_true rfl⟩, Nat.le_of_ble_eq_true rfl, Nat.le_of_ble_eq_true rfl⟩ [] rfl rfl rfl (Nat.le_of_ble_eq_true rfl) d_Model_home_8 (fun r_1 h => ?_)
  refine z_if_eq C d_Model_home_11 (fun c_2 => ?_) (fun c_2 => ?_)
  · replace h := h.1 c_2
    refine z_k C d_Model_home_28 ?_
    exact ze_iret C (mo_homeX, mo_homeY) hr hlk rfl d_Model_home_30 h
  · replace h := h.2 c_2
    refine z_iload C d_Model_home_14 2 rfl ?_
    refine z_i2l C d_Model_home_15 ?_
    refine z_ldc2 C d_Model_home_16 wk_Model_120 ?_
    refine z_ldc2 C d_Model_home_19 wk_Model_122 ?_
    refine z_spi C (rest := []) (c_Model_in l D κ p1.toInt64 (-400 : Int64) (400 : Int64) _ h) cs_Model_100 ⟨rfl, rfl⟩ ⟨⟨Nat.le_of_ble_eq_true rfl, Nat.le_of_ble_eq_true rfl⟩, Nat.le_of_ble_eq_true rfl, Nat.le_of_ble_eq_true rfl⟩ [] rfl rfl rfl (Nat.le_of_ble_eq_true rfl) d_Model_home_22 (fun r_3 h => ?_)
    refine z_if_ne C d_Model_home_25 (fun c_4 => ?_) (fun c_4 => ?_)
    · replace h := h.1 c_4
      refine z_aload C d_Model_home_31 0 rfl ?_
      refine z_iload C d_Model_home_32 1 rfl ?_
      refine z_put C fp_Model_124 0 rfl rfl rfl rfl [(h_mo, .inr (10, [.int mo_middleX, .int mo_middleY, .int mo_linkA, .int mo_linkB, .int mo_flatness, .int mo_gap, .int mo_turn, .int mo_travel, .int mo_lift, .int mo_cool, .int p0, .int mo_homeY, .ref h_mo_bars, .int mo_barMany, .ref h_mo_seams, .int mo_seamMany, .ref h_mo_rowSeam, .ref h_mo_rowWay, .int mo_rowMany, .long mo_lowUp, .long mo_lowDown, .long mo_highUp, .long mo_highDown, .ref h_mo_quarters, .ref h_mo_begins, .ref h_mo_ends, .ref h_mo_rests, .ref h_mo_bestRow, .ref h_mo_lows, .ref h_mo_highs, .int mo_touchMany, .int mo_shiftX, .int mo_shiftY, .ref h_mo_acts, .ref h_mo_actMany, .ref h_mo_done, .ref h_mo_left, .ref h_mo_waited, .ref h_mo_ran, .int mo_hasRun, .ref h_mo_reached]))] rfl d_Model_home_33 ?_
      refine z_aload C d_Model_home_36 0 rfl ?_
      refine z_iload C d_Model_home_37 2 rfl ?_
      refine z_put C fp_Model_34 0 rfl rfl rfl rfl [(h_mo, .inr (10, [.int mo_middleX, .int mo_middleY, .int mo_linkA, .int mo_linkB, .int mo_flatness, .int mo_gap, .int mo_turn, .int mo_travel, .int mo_lift, .int mo_cool, .int p0, .int p1, .ref h_mo_bars, .int mo_barMany, .ref h_mo_seams, .int mo_seamMany, .ref h_mo_rowSeam, .ref h_mo_rowWay, .int mo_rowMany, .long mo_lowUp, .long mo_lowDown, .long mo_highUp, .long mo_highDown, .ref h_mo_quarters, .ref h_mo_begins, .ref h_mo_ends, .ref h_mo_rests, .ref h_mo_bestRow, .ref h_mo_lows, .ref h_mo_highs, .int mo_touchMany, .int mo_shiftX, .int mo_shiftY, .ref h_mo_acts, .ref h_mo_actMany, .ref h_mo_done, .ref h_mo_left, .ref h_mo_waited, .ref h_mo_ran, .int mo_hasRun, .ref h_mo_reached]))] rfl d_Model_home_38 ?_
      refine z_k C d_Model_home_41 ?_
      exact ze_iret C (p0, p1) hr hlk rfl d_Model_home_42 h
    · replace h := h.2 c_4
      refine z_k C d_Model_home_28 ?_
      exact ze_iret C (mo_homeX, mo_homeY) hr hlk rfl d_Model_home_30 h
def wp_Model_bar (mo_barMany : Int32) (mo_bars : Nat → Int32) (p0 : Int32) (p1 : Int32) (p2 : Int32) (p3 : Int32) (post : Int32 → Int32 → (Nat → Int32) → Prop) : Prop :=
  (wp_Model_in p0.toInt64 (-400 : Int64) (p2.toInt64 - (1 : Int64)) (fun r_1 => ((r_1 = 0 → (post (-2 : Int32) mo_barMany mo_bars)) ∧ (¬ r_1 = 0 → (wp_Model_in p1.toInt64 (-400 : Int64) (p3.toInt64 - (1 : Int64)) (fun r_3 => ((r_3 = 0 → (post (-2 : Int32) mo_barMany mo_bars)) ∧ (¬ r_3 = 0 → (((400 : Int32) < p2 → (post (-2 : Int32) mo_barMany mo_bars)) ∧ (¬ (400 : Int32) < p2 → ((p3 ≤ (400 : Int32) → ((¬ mo_barMany = (4 : Int32) → (vp_in ((4 : Int32) * mo_barMany) 16 ∧ (∀ g_8 : Nat → Int32, g_8 = upd mo_bars (((4 : Int32) * mo_barMany).toNatClampNeg) p0 → (vp_in (((4 : Int32) * mo_barMany) + (1 : Int32)) 16 ∧ (∀ g_9 : Nat → Int32, g_9 = upd g_8 ((((4 : Int32) * mo_barMany) + (1 : Int32)).toNatClampNeg) p1 → (vp_in (((4 : Int32) * mo_barMany) + (2 : Int32)) 16 ∧ (∀ g_10 : Nat → Int32, g_10 = upd g_9 ((((4 : Int32) * mo_barMany) + (2 : Int32)).toNatClampNeg) p2 → (vp_in (((4 : Int32) * mo_barMany) + (3 : Int32)) 16 ∧ (∀ g_11 : Nat → Int32, g_11 = upd g_10 ((((4 : Int32) * mo_barMany) + (3 : Int32)).toNatClampNeg) p3 → (∀ f_12 : Int32, f_12 = mo_barMany + (1 : Int32) → (post f_12 f_12 g_11))))))))))) ∧ (mo_barMany = (4 : Int32) → (post (-4 : Int32) mo_barMany mo_bars)))) ∧ (¬ p3 ≤ (400 : Int32) → (post (-2 : Int32) mo_barMany mo_bars)))))))))))))
abbrev rm_Model_bar : Room := { frames := 1, cells := 0, slots := 0, locals := 25 }
set_option maxHeartbeats 4000000 in
set_option maxRecDepth 100000 in
theorem c_Model_bar (l : Launch) (D : va_G) (κ : KT) (h_mo : Nat) (h_mo_bars : Nat) (h_mo_seams : Nat) (h_mo_rowSeam : Nat) (h_mo_rowWay : Nat) (h_mo_quarters : Nat) (h_mo_begins : Nat) (h_mo_ends : Nat) (h_mo_rests : Nat) (h_mo_bestRow : Nat) (h_mo_lows : Nat) (h_mo_highs : Nat) (h_mo_acts : Nat) (h_mo_actMany : Nat) (h_mo_done : Nat) (h_mo_left : Nat) (h_mo_waited : Nat) (h_mo_ran : Nat) (h_mo_reached : Nat) (mo_middleX : Int32) (mo_middleY : Int32) (mo_linkA : Int32) (mo_linkB : Int32) (mo_flatness : Int32) (mo_gap : Int32) (mo_turn : Int32) (mo_travel : Int32) (mo_lift : Int32) (mo_cool : Int32) (mo_homeX : Int32) (mo_homeY : Int32) (mo_barMany : Int32) (mo_seamMany : Int32) (mo_rowMany : Int32) (mo_lowUp : Int64) (mo_lowDown : Int64) (mo_highUp : Int64) (mo_highDown : Int64) (mo_touchMany : Int32) (mo_shiftX : Int32) (mo_shiftY : Int32) (mo_hasRun : Int32) (mo_bars : Nat → Int32) (p0 : Int32) (p1 : Int32) (p2 : Int32) (p3 : Int32) (sz : Nat) (post : Int32 → Int32 → (Nat → Int32) → Prop) (h : wp_Model_bar mo_barMany mo_bars p0 p1 p2 p3 post) : Met l y_Model_bar (wsG y_Model_bar b_Model_bar 5 (some .int)) rm_Model_bar (PE D κ [.ref h_mo, .int p0, .int p1, .int p2, .int p3] [(h_mo, .inr (10, [.int mo_middleX, .int mo_middleY, .int mo_linkA, .int mo_linkB, .int mo_flatness, .int mo_gap, .int mo_turn, .int mo_travel, .int mo_lift, .int mo_cool, .int mo_homeX, .int mo_homeY, .ref h_mo_bars, .int mo_barMany, .ref h_mo_seams, .int mo_seamMany, .ref h_mo_rowSeam, .ref h_mo_rowWay, .int mo_rowMany, .long mo_lowUp, .long mo_lowDown, .long mo_highUp, .long mo_highDown, .ref h_mo_quarters, .ref h_mo_begins, .ref h_mo_ends, .ref h_mo_rests, .ref h_mo_bestRow, .ref h_mo_lows, .ref h_mo_highs, .int mo_touchMany, .int mo_shiftX, .int mo_shiftY, .ref h_mo_acts, .ref h_mo_actMany, .ref h_mo_done, .ref h_mo_left, .ref h_mo_waited, .ref h_mo_ran, .int mo_hasRun, .ref h_mo_reached])), (h_mo_bars, cI κ 16 mo_bars)] sz) (va_Qi (fun (r : Int32) (u : (Int32) × (Nat → Int32)) => post r u.1 u.2) (QB D [(h_mo, .inr (10, [.int mo_middleX, .int mo_middleY, .int mo_linkA, .int mo_linkB, .int mo_flatness, .int mo_gap, .int mo_turn, .int mo_travel, .int mo_lift, .int mo_cool, .int mo_homeX, .int mo_homeY, .ref h_mo_bars, .int mo_barMany, .ref h_mo_seams, .int mo_seamMany, .ref h_mo_rowSeam, .ref h_mo_rowWay, .int mo_rowMany, .long mo_lowUp, .long mo_lowDown, .long mo_highUp, .long mo_highDown, .ref h_mo_quarters, .ref h_mo_begins, .ref h_mo_ends, .ref h_mo_rests, .ref h_mo_bestRow, .ref h_mo_lows, .ref h_mo_highs, .int mo_touchMany, .int mo_shiftX, .int mo_shiftY, .ref h_mo_acts, .ref h_mo_actMany, .ref h_mo_done, .ref h_mo_left, .ref h_mo_waited, .ref h_mo_ran, .int mo_hasRun, .ref h_mo_reached])), (h_mo_bars, cI κ 16 mo_bars)] sz (fun (u : (Int32) × (Nat → Int32)) => [(h_mo, .inr (10, [.int mo_middleX, .int mo_middleY, .int mo_linkA, .int mo_linkB, .int mo_flatness, .int mo_gap, .int mo_turn, .int mo_travel, .int mo_lift, .int mo_cool, .int mo_homeX, .int mo_homeY, .ref h_mo_bars, .int u.1, .ref h_mo_seams, .int mo_seamMany, .ref h_mo_rowSeam, .ref h_mo_rowWay, .int mo_rowMany, .long mo_lowUp, .long mo_lowDown, .long mo_highUp, .long mo_highDown, .ref h_mo_quarters, .ref h_mo_begins, .ref h_mo_ends, .ref h_mo_rests, .ref h_mo_bestRow, .ref h_mo_lows, .ref h_mo_highs, .int mo_touchMany, .int mo_shiftX, .int mo_shiftY, .ref h_mo_acts, .ref h_mo_actMany, .ref h_mo_done, .ref h_mo_left, .ref h_mo_waited, .ref h_mo_ran, .int mo_hasRun, .ref h_mo_reached])), (h_mo_bars, cI κ 16 u.2)])) (va_A [(h_mo, .inr (10, [.int mo_middleX, .int mo_middleY, .int mo_linkA, .int mo_linkB, .int mo_flatness, .int mo_gap, .int mo_turn, .int mo_travel, .int mo_lift, .int mo_cool, .int mo_homeX, .int mo_homeY, .ref h_mo_bars, .int mo_barMany, .ref h_mo_seams, .int mo_seamMany, .ref h_mo_rowSeam, .ref h_mo_rowWay, .int mo_rowMany, .long mo_lowUp, .long mo_lowDown, .long mo_highUp, .long mo_highDown, .ref h_mo_quarters, .ref h_mo_begins, .ref h_mo_ends, .ref h_mo_rests, .ref h_mo_bestRow, .ref h_mo_lows, .ref h_mo_highs, .int mo_touchMany, .int mo_shiftX, .int mo_shiftY, .ref h_mo_acts, .ref h_mo_actMany, .ref h_mo_done, .ref h_mo_left, .ref h_mo_waited, .ref h_mo_ran, .int mo_hasRun, .ref h_mo_reached])), (h_mo_bars, cI κ 16 mo_bars)] sz)) 0 0 (va_A [(h_mo, .inr (10, [.int mo_middleX, .int mo_middleY, .int mo_linkA, .int mo_linkB, .int mo_flatness, .int mo_gap, .int mo_turn, .int mo_travel, .int mo_lift, .int mo_cool, .int mo_homeX, .int mo_homeY, .ref h_mo_bars, .int mo_barMany, .ref h_mo_seams, .int mo_seamMany, .ref h_mo_rowSeam, .ref h_mo_rowWay, .int mo_rowMany, .long mo_lowUp, .long mo_lowDown, .long mo_highUp, .long mo_highDown, .ref h_mo_quarters, .ref h_mo_begins, .ref h_mo_ends, .ref h_mo_rests, .ref h_mo_bestRow, .ref h_mo_lows, .ref h_mo_highs, .int mo_touchMany, .int mo_shiftX, .int mo_shiftY, .ref h_mo_acts, .ref h_mo_actMany, .ref h_mo_done, .ref h_mo_left, .ref h_mo_waited, .ref h_mo_ran, .int mo_hasRun, .ref h_mo_reached])), (h_mo_bars, cI κ 16 mo_bars)] sz) := by
  refine ze_start [(0, .ref h_mo), (1, .int p0), (2, .int p1), (3, .int p2), (4, .int p3)] rfl (Nat.le_of_ble_eq_true rfl) rfl ?_
  intro p e s m args below meth c C hr hlk hnm hsz
  subst hsz
  unfold wp_Model_bar at h
  refine z_iload C d_Model_bar_0 1 rfl ?_
  refine z_i2l C d_Model_bar_1 ?_
  refine z_ldc2 C d_Model_bar_2 wk_Model_120 ?_
  refine z_iload C d_Model_bar_5 3 rfl ?_
  refine z_i2l C d_Model_bar_6 ?_
  refine z_lk C d_Model_bar_7 ?_
  refine z_lsub C d_Model_bar_8 ?_
  refine z_spi C (rest := []) (c_Model_in l D κ p0.toInt64 (-400 : Int64) (p2.toInt64 - (1 : Int64)) _ h) cs_Model_100 ⟨rfl, rfl⟩ ⟨⟨Nat.le_of_ble_eq_true rfl, Nat.le_of_ble_eq_true rfl⟩, Nat.le_of_ble_eq_true rfl, Nat.le_of_ble_eq_true rfl⟩ [] rfl rfl rfl (Nat.le_of_ble_eq_true rfl) d_Model_bar_9 (fun r_1 h => ?_)
  refine z_if_eq C d_Model_bar_12 (fun c_2 => ?_) (fun c_2 => ?_)
  · replace h := h.1 c_2
    refine z_k C d_Model_bar_46 ?_
    exact ze_iret C (mo_barMany, mo_bars) hr hlk rfl d_Model_bar_48 h
  · replace h := h.2 c_2
    refine z_iload C d_Model_bar_15 2 rfl ?_
    refine z_i2l C d_Model_bar_16 ?_
    refine z_ldc2 C d_Model_bar_17 wk_Model_120 ?_
    refine z_iload C d_Model_bar_20 4 rfl ?_
    refine z_i2l C d_Model_bar_22 ?_
    refine z_lk C d_Model_bar_23 ?_
    refine z_lsub C d_Model_bar_24 ?_
    refine z_spi C (rest := []) (c_Model_in l D κ p1.toInt64 (-400 : Int64) (p3.toInt64 - (1 : Int64)) _ h) cs_Model_100 ⟨rfl, rfl⟩ ⟨⟨Nat.le_of_ble_eq_true rfl, Nat.le_of_ble_eq_true rfl⟩, Nat.le_of_ble_eq_true rfl, Nat.le_of_ble_eq_true rfl⟩ [] rfl rfl rfl (Nat.le_of_ble_eq_true rfl) d_Model_bar_25 (fun r_3 h => ?_)
    refine z_if_eq C d_Model_bar_28 (fun c_4 => ?_) (fun c_4 => ?_)
    · replace h := h.1 c_4
      refine z_k C d_Model_bar_46 ?_
      exact ze_iret C (mo_barMany, mo_bars) hr hlk rfl d_Model_bar_48 h
    · replace h := h.2 c_4
      refine z_iload C d_Model_bar_31 3 rfl ?_
      refine z_k C d_Model_bar_32 ?_
      refine z_icmp_gt C d_Model_bar_35 (fun c_5 => ?_) (fun c_5 => ?_)
      · replace h := h.1 c_5
        refine z_k C d_Model_bar_46 ?_
        exact ze_iret C (mo_barMany, mo_bars) hr hlk rfl d_Model_bar_48 h
      · replace h := h.2 c_5
        refine z_iload C d_Model_bar_38 4 rfl ?_
        refine z_k C d_Model_bar_40 ?_
        refine z_icmp_le C d_Model_bar_43 (fun c_6 => ?_) (fun c_6 => ?_)
        · replace h := h.1 c_6
          refine z_aload C d_Model_bar_49 0 rfl ?_
          refine z_get C fl_Model_127 0 rfl rfl d_Model_bar_50 ?_
          refine z_k C d_Model_bar_53 ?_
          refine z_icmp_ne C d_Model_bar_54 (fun c_7 => ?_) (fun c_7 => ?_)
          · replace h := h.1 c_7
            refine z_aload C d_Model_bar_60 0 rfl ?_
            refine z_get C fl_Model_37 0 rfl rfl d_Model_bar_61 ?_
            refine z_k C d_Model_bar_64 ?_
            refine z_aload C d_Model_bar_65 0 rfl ?_
            refine z_get C fl_Model_127 0 rfl rfl d_Model_bar_66 ?_
            refine z_imul C d_Model_bar_69 ?_
            refine z_iload C d_Model_bar_70 1 rfl ?_
            obtain ⟨g_8, eg_8⟩ : ∃ y : Nat → Int32, y = upd mo_bars (((4 : Int32) * mo_barMany).toNatClampNeg) p0 := ⟨_, rfl⟩
            refine z_iast C 1 rfl h.1 [(h_mo, .inr (10, [.int mo_middleX, .int mo_middleY, .int mo_linkA, .int mo_linkB, .int mo_flatness, .int mo_gap, .int mo_turn, .int mo_travel, .int mo_lift, .int mo_cool, .int mo_homeX, .int mo_homeY, .ref h_mo_bars, .int mo_barMany, .ref h_mo_seams, .int mo_seamMany, .ref h_mo_rowSeam, .ref h_mo_rowWay, .int mo_rowMany, .long mo_lowUp, .long mo_lowDown, .long mo_highUp, .long mo_highDown, .ref h_mo_quarters, .ref h_mo_begins, .ref h_mo_ends, .ref h_mo_rests, .ref h_mo_bestRow, .ref h_mo_lows, .ref h_mo_highs, .int mo_touchMany, .int mo_shiftX, .int mo_shiftY, .ref h_mo_acts, .ref h_mo_actMany, .ref h_mo_done, .ref h_mo_left, .ref h_mo_waited, .ref h_mo_ran, .int mo_hasRun, .ref h_mo_reached])), (h_mo_bars, cI κ 16 g_8)] (by rw [eg_8]; rfl) d_Model_bar_71 ?_
            replace h := h.2 g_8 eg_8
            refine z_aload C d_Model_bar_72 0 rfl ?_
            refine z_get C fl_Model_37 0 rfl rfl d_Model_bar_73 ?_
            refine z_k C d_Model_bar_76 ?_
            refine z_aload C d_Model_bar_77 0 rfl ?_
            refine z_get C fl_Model_127 0 rfl rfl d_Model_bar_78 ?_
            refine z_imul C d_Model_bar_81 ?_
            refine z_k C d_Model_bar_82 ?_
            refine z_iadd C d_Model_bar_83 ?_
            refine z_iload C d_Model_bar_84 2 rfl ?_
            obtain ⟨g_9, eg_9⟩ : ∃ y : Nat → Int32, y = upd g_8 ((((4 : Int32) * mo_barMany) + (1 : Int32)).toNatClampNeg) p1 := ⟨_, rfl⟩
            refine z_iast C 1 rfl h.1 [(h_mo, .inr (10, [.int mo_middleX, .int mo_middleY, .int mo_linkA, .int mo_linkB, .int mo_flatness, .int mo_gap, .int mo_turn, .int mo_travel, .int mo_lift, .int mo_cool, .int mo_homeX, .int mo_homeY, .ref h_mo_bars, .int mo_barMany, .ref h_mo_seams, .int mo_seamMany, .ref h_mo_rowSeam, .ref h_mo_rowWay, .int mo_rowMany, .long mo_lowUp, .long mo_lowDown, .long mo_highUp, .long mo_highDown, .ref h_mo_quarters, .ref h_mo_begins, .ref h_mo_ends, .ref h_mo_rests, .ref h_mo_bestRow, .ref h_mo_lows, .ref h_mo_highs, .int mo_touchMany, .int mo_shiftX, .int mo_shiftY, .ref h_mo_acts, .ref h_mo_actMany, .ref h_mo_done, .ref h_mo_left, .ref h_mo_waited, .ref h_mo_ran, .int mo_hasRun, .ref h_mo_reached])), (h_mo_bars, cI κ 16 g_9)] (by rw [eg_9]; rfl) d_Model_bar_85 ?_
            replace h := h.2 g_9 eg_9
            refine z_aload C d_Model_bar_86 0 rfl ?_
            refine z_get C fl_Model_37 0 rfl rfl d_Model_bar_87 ?_
            refine z_k C d_Model_bar_90 ?_
            refine z_aload C d_Model_bar_91 0 rfl ?_
            refine z_get C fl_Model_127 0 rfl rfl d_Model_bar_92 ?_
            refine z_imul C d_Model_bar_95 ?_
            refine z_k C d_Model_bar_96 ?_
            refine z_iadd C d_Model_bar_97 ?_
            refine z_iload C d_Model_bar_98 3 rfl ?_
            obtain ⟨g_10, eg_10⟩ : ∃ y : Nat → Int32, y = upd g_9 ((((4 : Int32) * mo_barMany) + (2 : Int32)).toNatClampNeg) p2 := ⟨_, rfl⟩
            refine z_iast C 1 rfl h.1 [(h_mo, .inr (10, [.int mo_middleX, .int mo_middleY, .int mo_linkA, .int mo_linkB, .int mo_flatness, .int mo_gap, .int mo_turn, .int mo_travel, .int mo_lift, .int mo_cool, .int mo_homeX, .int mo_homeY, .ref h_mo_bars, .int mo_barMany, .ref h_mo_seams, .int mo_seamMany, .ref h_mo_rowSeam, .ref h_mo_rowWay, .int mo_rowMany, .long mo_lowUp, .long mo_lowDown, .long mo_highUp, .long mo_highDown, .ref h_mo_quarters, .ref h_mo_begins, .ref h_mo_ends, .ref h_mo_rests, .ref h_mo_bestRow, .ref h_mo_lows, .ref h_mo_highs, .int mo_touchMany, .int mo_shiftX, .int mo_shiftY, .ref h_mo_acts, .ref h_mo_actMany, .ref h_mo_done, .ref h_mo_left, .ref h_mo_waited, .ref h_mo_ran, .int mo_hasRun, .ref h_mo_reached])), (h_mo_bars, cI κ 16 g_10)] (by rw [eg_10]; rfl) d_Model_bar_99 ?_
            replace h := h.2 g_10 eg_10
            refine z_aload C d_Model_bar_100 0 rfl ?_
            refine z_get C fl_Model_37 0 rfl rfl d_Model_bar_101 ?_
            refine z_k C d_Model_bar_104 ?_
            refine z_aload C d_Model_bar_105 0 rfl ?_
            refine z_get C fl_Model_127 0 rfl rfl d_Model_bar_106 ?_
            refine z_imul C d_Model_bar_109 ?_
            refine z_k C d_Model_bar_110 ?_
            refine z_iadd C d_Model_bar_111 ?_
            refine z_iload C d_Model_bar_112 4 rfl ?_
            obtain ⟨g_11, eg_11⟩ : ∃ y : Nat → Int32, y = upd g_10 ((((4 : Int32) * mo_barMany) + (3 : Int32)).toNatClampNeg) p3 := ⟨_, rfl⟩
            refine z_iast C 1 rfl h.1 [(h_mo, .inr (10, [.int mo_middleX, .int mo_middleY, .int mo_linkA, .int mo_linkB, .int mo_flatness, .int mo_gap, .int mo_turn, .int mo_travel, .int mo_lift, .int mo_cool, .int mo_homeX, .int mo_homeY, .ref h_mo_bars, .int mo_barMany, .ref h_mo_seams, .int mo_seamMany, .ref h_mo_rowSeam, .ref h_mo_rowWay, .int mo_rowMany, .long mo_lowUp, .long mo_lowDown, .long mo_highUp, .long mo_highDown, .ref h_mo_quarters, .ref h_mo_begins, .ref h_mo_ends, .ref h_mo_rests, .ref h_mo_bestRow, .ref h_mo_lows, .ref h_mo_highs, .int mo_touchMany, .int mo_shiftX, .int mo_shiftY, .ref h_mo_acts, .ref h_mo_actMany, .ref h_mo_done, .ref h_mo_left, .ref h_mo_waited, .ref h_mo_ran, .int mo_hasRun, .ref h_mo_reached])), (h_mo_bars, cI κ 16 g_11)] (by rw [eg_11]; rfl) d_Model_bar_114 ?_
            replace h := h.2 g_11 eg_11
            refine z_aload C d_Model_bar_115 0 rfl ?_
            refine z_dup C d_Model_bar_116 rfl ?_
            refine z_get C fl_Model_127 0 rfl rfl d_Model_bar_117 ?_
            refine z_k C d_Model_bar_120 ?_
            refine z_iadd C d_Model_bar_121 ?_
            refine z_topi (fun f_12 ef_12 => ?_)
            replace h := h f_12 ef_12
            refine z_put C fp_Model_127 0 rfl rfl rfl rfl [(h_mo, .inr (10, [.int mo_middleX, .int mo_middleY, .int mo_linkA, .int mo_linkB, .int mo_flatness, .int mo_gap, .int mo_turn, .int mo_travel, .int mo_lift, .int mo_cool, .int mo_homeX, .int mo_homeY, .ref h_mo_bars, .int f_12, .ref h_mo_seams, .int mo_seamMany, .ref h_mo_rowSeam, .ref h_mo_rowWay, .int mo_rowMany, .long mo_lowUp, .long mo_lowDown, .long mo_highUp, .long mo_highDown, .ref h_mo_quarters, .ref h_mo_begins, .ref h_mo_ends, .ref h_mo_rests, .ref h_mo_bestRow, .ref h_mo_lows, .ref h_mo_highs, .int mo_touchMany, .int mo_shiftX, .int mo_shiftY, .ref h_mo_acts, .ref h_mo_actMany, .ref h_mo_done, .ref h_mo_left, .ref h_mo_waited, .ref h_mo_ran, .int mo_hasRun, .ref h_mo_reached])), (h_mo_bars, cI κ 16 g_11)] rfl d_Model_bar_122 ?_
            refine z_aload C d_Model_bar_125 0 rfl ?_
            refine z_get C fl_Model_127 0 rfl rfl d_Model_bar_126 ?_
            exact ze_iret C (f_12, g_11) hr hlk rfl d_Model_bar_129 h
          · replace h := h.2 c_7
            refine z_k C d_Model_bar_57 ?_
            exact ze_iret C (mo_barMany, mo_bars) hr hlk rfl d_Model_bar_59 h
        · replace h := h.2 c_6
          refine z_k C d_Model_bar_46 ?_
          exact ze_iret C (mo_barMany, mo_bars) hr hlk rfl d_Model_bar_48 h
def wp_Model_seam (mo_seamMany : Int32) (mo_seams : Nat → Int32) (p0 : Int32) (p1 : Int32) (p2 : Int32) (p3 : Int32) (p4 : Int32) (p5 : Int32) (post : Int32 → Int32 → (Nat → Int32) → Prop) : Prop :=
  (wp_Model_isPlace p0 p1 (fun r_1 => ((r_1 = 0 → (post (-2 : Int32) mo_seamMany mo_seams)) ∧ (¬ r_1 = 0 → (wp_Model_isPlace p2 p3 (fun r_3 => ((r_3 = 0 → (post (-2 : Int32) mo_seamMany mo_seams)) ∧ (¬ r_3 = 0 → ((¬ p0 = p2 → (wp_Model_in p4.toInt64 (1 : Int64) (50 : Int64) (fun r_6 => ((r_6 = 0 → (post (-2 : Int32) mo_seamMany mo_seams)) ∧ (¬ r_6 = 0 → (wp_Model_in p5.toInt64 (0 : Int64) (1000 : Int64) (fun r_8 => ((¬ r_8 = 0 → ((¬ mo_seamMany = (8 : Int32) → (∀ x7_11 : Int32, x7_11 = (6 : Int32) * mo_seamMany → (vp_in x7_11 48 ∧ (∀ g_12 : Nat → Int32, g_12 = upd mo_seams (x7_11.toNatClampNeg) p0 → (vp_in (x7_11 + (1 : Int32)) 48 ∧ (∀ g_13 : Nat → Int32, g_13 = upd g_12 ((x7_11 + (1 : Int32)).toNatClampNeg) p1 → (vp_in (x7_11 + (2 : Int32)) 48 ∧ (∀ g_14 : Nat → Int32, g_14 = upd g_13 ((x7_11 + (2 : Int32)).toNatClampNeg) p2 → (vp_in (x7_11 + (3 : Int32)) 48 ∧ (∀ g_15 : Nat → Int32, g_15 = upd g_14 ((x7_11 + (3 : Int32)).toNatClampNeg) p3 → (vp_in (x7_11 + (4 : Int32)) 48 ∧ (∀ g_16 : Nat → Int32, g_16 = upd g_15 ((x7_11 + (4 : Int32)).toNatClampNeg) p4 → (vp_in (x7_11 + (5 : Int32)) 48 ∧ (∀ g_17 : Nat → Int32, g_17 = upd g_16 ((x7_11 + (5 : Int32)).toNatClampNeg) p5 → (∀ f_18 : Int32, f_18 = mo_seamMany + (1 : Int32) → (post (f_18 - (1 : Int32)) f_18 g_17)))))))))))))))) ∧ (mo_seamMany = (8 : Int32) → (post (-4 : Int32) mo_seamMany mo_seams)))) ∧ (r_8 = 0 → (post (-2 : Int32) mo_seamMany mo_seams)))))))))) ∧ (p0 = p2 → ((p1 = p3 → (post (-2 : Int32) mo_seamMany mo_seams)) ∧ (¬ p1 = p3 → (wp_Model_in p4.toInt64 (1 : Int64) (50 : Int64) (fun r_20 => ((r_20 = 0 → (post (-2 : Int32) mo_seamMany mo_seams)) ∧ (¬ r_20 = 0 → (wp_Model_in p5.toInt64 (0 : Int64) (1000 : Int64) (fun r_22 => ((¬ r_22 = 0 → ((¬ mo_seamMany = (8 : Int32) → (∀ x7_25 : Int32, x7_25 = (6 : Int32) * mo_seamMany → (vp_in x7_25 48 ∧ (∀ g_26 : Nat → Int32, g_26 = upd mo_seams (x7_25.toNatClampNeg) p0 → (vp_in (x7_25 + (1 : Int32)) 48 ∧ (∀ g_27 : Nat → Int32, g_27 = upd g_26 ((x7_25 + (1 : Int32)).toNatClampNeg) p1 → (vp_in (x7_25 + (2 : Int32)) 48 ∧ (∀ g_28 : Nat → Int32, g_28 = upd g_27 ((x7_25 + (2 : Int32)).toNatClampNeg) p2 → (vp_in (x7_25 + (3 : Int32)) 48 ∧ (∀ g_29 : Nat → Int32, g_29 = upd g_28 ((x7_25 + (3 : Int32)).toNatClampNeg) p3 → (vp_in (x7_25 + (4 : Int32)) 48 ∧ (∀ g_30 : Nat → Int32, g_30 = upd g_29 ((x7_25 + (4 : Int32)).toNatClampNeg) p4 → (vp_in (x7_25 + (5 : Int32)) 48 ∧ (∀ g_31 : Nat → Int32, g_31 = upd g_30 ((x7_25 + (5 : Int32)).toNatClampNeg) p5 → (∀ f_32 : Int32, f_32 = mo_seamMany + (1 : Int32) → (post (f_32 - (1 : Int32)) f_32 g_31)))))))))))))))) ∧ (mo_seamMany = (8 : Int32) → (post (-4 : Int32) mo_seamMany mo_seams)))) ∧ (r_22 = 0 → (post (-2 : Int32) mo_seamMany mo_seams)))))))))))))))))))))
abbrev rm_Model_seam : Room := { frames := 2, cells := 0, slots := 0, locals := 46 }
set_option maxHeartbeats 4000000 in
set_option maxRecDepth 100000 in
theorem c_Model_seam (l : Launch) (D : va_G) (κ : KT) (h_mo : Nat) (h_mo_bars : Nat) (h_mo_seams : Nat) (h_mo_rowSeam : Nat) (h_mo_rowWay : Nat) (h_mo_quarters : Nat) (h_mo_begins : Nat) (h_mo_ends : Nat) (h_mo_rests : Nat) (h_mo_bestRow : Nat) (h_mo_lows : Nat) (h_mo_highs : Nat) (h_mo_acts : Nat) (h_mo_actMany : Nat) (h_mo_done : Nat) (h_mo_left : Nat) (h_mo_waited : Nat) (h_mo_ran : Nat) (h_mo_reached : Nat) (mo_middleX : Int32) (mo_middleY : Int32) (mo_linkA : Int32) (mo_linkB : Int32) (mo_flatness : Int32) (mo_gap : Int32) (mo_turn : Int32) (mo_travel : Int32) (mo_lift : Int32) (mo_cool : Int32) (mo_homeX : Int32) (mo_homeY : Int32) (mo_barMany : Int32) (mo_seamMany : Int32) (mo_rowMany : Int32) (mo_lowUp : Int64) (mo_lowDown : Int64) (mo_highUp : Int64) (mo_highDown : Int64) (mo_touchMany : Int32) (mo_shiftX : Int32) (mo_shiftY : Int32) (mo_hasRun : Int32) (mo_seams : Nat → Int32) (p0 : Int32) (p1 : Int32) (p2 : Int32) (p3 : Int32) (p4 : Int32) (p5 : Int32) (sz : Nat) (post : Int32 → Int32 → (Nat → Int32) → Prop) (h : wp_Model_seam mo_seamMany mo_seams p0 p1 p2 p3 p4 p5 post) : Met l y_Model_seam (wsG y_Model_seam b_Model_seam 8 (some .int)) rm_Model_seam (PE D κ [.ref h_mo, .int p0, .int p1, .int p2, .int p3, .int p4, .int p5] [(h_mo, .inr (10, [.int mo_middleX, .int mo_middleY, .int mo_linkA, .int mo_linkB, .int mo_flatness, .int mo_gap, .int mo_turn, .int mo_travel, .int mo_lift, .int mo_cool, .int mo_homeX, .int mo_homeY, .ref h_mo_bars, .int mo_barMany, .ref h_mo_seams, .int mo_seamMany, .ref h_mo_rowSeam, .ref h_mo_rowWay, .int mo_rowMany, .long mo_lowUp, .long mo_lowDown, .long mo_highUp, .long mo_highDown, .ref h_mo_quarters, .ref h_mo_begins, .ref h_mo_ends, .ref h_mo_rests, .ref h_mo_bestRow, .ref h_mo_lows, .ref h_mo_highs, .int mo_touchMany, .int mo_shiftX, .int mo_shiftY, .ref h_mo_acts, .ref h_mo_actMany, .ref h_mo_done, .ref h_mo_left, .ref h_mo_waited, .ref h_mo_ran, .int mo_hasRun, .ref h_mo_reached])), (h_mo_seams, cI κ 48 mo_seams)] sz) (va_Qi (fun (r : Int32) (u : (Int32) × (Nat → Int32)) => post r u.1 u.2) (QB D [(h_mo, .inr (10, [.int mo_middleX, .int mo_middleY, .int mo_linkA, .int mo_linkB, .int mo_flatness, .int mo_gap, .int mo_turn, .int mo_travel, .int mo_lift, .int mo_cool, .int mo_homeX, .int mo_homeY, .ref h_mo_bars, .int mo_barMany, .ref h_mo_seams, .int mo_seamMany, .ref h_mo_rowSeam, .ref h_mo_rowWay, .int mo_rowMany, .long mo_lowUp, .long mo_lowDown, .long mo_highUp, .long mo_highDown, .ref h_mo_quarters, .ref h_mo_begins, .ref h_mo_ends, .ref h_mo_rests, .ref h_mo_bestRow, .ref h_mo_lows, .ref h_mo_highs, .int mo_touchMany, .int mo_shiftX, .int mo_shiftY, .ref h_mo_acts, .ref h_mo_actMany, .ref h_mo_done, .ref h_mo_left, .ref h_mo_waited, .ref h_mo_ran, .int mo_hasRun, .ref h_mo_reached])), (h_mo_seams, cI κ 48 mo_seams)] sz (fun (u : (Int32) × (Nat → Int32)) => [(h_mo, .inr (10, [.int mo_middleX, .int mo_middleY, .int mo_linkA, .int mo_linkB, .int mo_flatness, .int mo_gap, .int mo_turn, .int mo_travel, .int mo_lift, .int mo_cool, .int mo_homeX, .int mo_homeY, .ref h_mo_bars, .int mo_barMany, .ref h_mo_seams, .int u.1, .ref h_mo_rowSeam, .ref h_mo_rowWay, .int mo_rowMany, .long mo_lowUp, .long mo_lowDown, .long mo_highUp, .long mo_highDown, .ref h_mo_quarters, .ref h_mo_begins, .ref h_mo_ends, .ref h_mo_rests, .ref h_mo_bestRow, .ref h_mo_lows, .ref h_mo_highs, .int mo_touchMany, .int mo_shiftX, .int mo_shiftY, .ref h_mo_acts, .ref h_mo_actMany, .ref h_mo_done, .ref h_mo_left, .ref h_mo_waited, .ref h_mo_ran, .int mo_hasRun, .ref h_mo_reached])), (h_mo_seams, cI κ 48 u.2)])) (va_A [(h_mo, .inr (10, [.int mo_middleX, .int mo_middleY, .int mo_linkA, .int mo_linkB, .int mo_flatness, .int mo_gap, .int mo_turn, .int mo_travel, .int mo_lift, .int mo_cool, .int mo_homeX, .int mo_homeY, .ref h_mo_bars, .int mo_barMany, .ref h_mo_seams, .int mo_seamMany, .ref h_mo_rowSeam, .ref h_mo_rowWay, .int mo_rowMany, .long mo_lowUp, .long mo_lowDown, .long mo_highUp, .long mo_highDown, .ref h_mo_quarters, .ref h_mo_begins, .ref h_mo_ends, .ref h_mo_rests, .ref h_mo_bestRow, .ref h_mo_lows, .ref h_mo_highs, .int mo_touchMany, .int mo_shiftX, .int mo_shiftY, .ref h_mo_acts, .ref h_mo_actMany, .ref h_mo_done, .ref h_mo_left, .ref h_mo_waited, .ref h_mo_ran, .int mo_hasRun, .ref h_mo_reached])), (h_mo_seams, cI κ 48 mo_seams)] sz)) 0 0 (va_A [(h_mo, .inr (10, [.int mo_middleX, .int mo_middleY, .int mo_linkA, .int mo_linkB, .int mo_flatness, .int mo_gap, .int mo_turn, .int mo_travel, .int mo_lift, .int mo_cool, .int mo_homeX, .int mo_homeY, .ref h_mo_bars, .int mo_barMany, .ref h_mo_seams, .int mo_seamMany, .ref h_mo_rowSeam, .ref h_mo_rowWay, .int mo_rowMany, .long mo_lowUp, .long mo_lowDown, .long mo_highUp, .long mo_highDown, .ref h_mo_quarters, .ref h_mo_begins, .ref h_mo_ends, .ref h_mo_rests, .ref h_mo_bestRow, .ref h_mo_lows, .ref h_mo_highs, .int mo_touchMany, .int mo_shiftX, .int mo_shiftY, .ref h_mo_acts, .ref h_mo_actMany, .ref h_mo_done, .ref h_mo_left, .ref h_mo_waited, .ref h_mo_ran, .int mo_hasRun, .ref h_mo_reached])), (h_mo_seams, cI κ 48 mo_seams)] sz) := by
  refine ze_start [(0, .ref h_mo), (1, .int p0), (2, .int p1), (3, .int p2), (4, .int p3), (5, .int p4), (6, .int p5)] rfl (Nat.le_of_ble_eq_true rfl) rfl ?_
  intro p e s m args below meth c C hr hlk hnm hsz
  subst hsz
  unfold wp_Model_seam at h
  refine z_iload C d_Model_seam_0 1 rfl ?_
  refine z_iload C d_Model_seam_1 2 rfl ?_
  refine z_spi C (rest := []) (c_Model_isPlace l D κ p0 p1 _ h) cs_Model_132 ⟨rfl, rfl⟩ ⟨⟨Nat.le_of_ble_eq_true rfl, Nat.le_of_ble_eq_true rfl⟩, Nat.le_of_ble_eq_true rfl, Nat.le_of_ble_eq_true rfl⟩ [] rfl rfl rfl (Nat.le_of_ble_eq_true rfl) d_Model_seam_2 (fun r_1 h => ?_)
  refine z_if_eq C d_Model_seam_5 (fun c_2 => ?_) (fun c_2 => ?_)
  · replace h := h.1 c_2
    refine z_k C d_Model_seam_54 ?_
    exact ze_iret C (mo_seamMany, mo_seams) hr hlk rfl d_Model_seam_56 h
  · replace h := h.2 c_2
    refine z_iload C d_Model_seam_8 3 rfl ?_
    refine z_iload C d_Model_seam_9 4 rfl ?_
    refine z_spi C (rest := []) (c_Model_isPlace l D κ p2 p3 _ h) cs_Model_132 ⟨rfl, rfl⟩ ⟨⟨Nat.le_of_ble_eq_true rfl, Nat.le_of_ble_eq_true rfl⟩, Nat.le_of_ble_eq_true rfl, Nat.le_of_ble_eq_true rfl⟩ [] rfl rfl rfl (Nat.le_of_ble_eq_true rfl) d_Model_seam_11 (fun r_3 h => ?_)
    refine z_if_eq C d_Model_seam_14 (fun c_4 => ?_) (fun c_4 => ?_)
    · replace h := h.1 c_4
      refine z_k C d_Model_seam_54 ?_
      exact ze_iret C (mo_seamMany, mo_seams) hr hlk rfl d_Model_seam_56 h
    · replace h := h.2 c_4
      refine z_iload C d_Model_seam_17 1 rfl ?_
      refine z_iload C d_Model_seam_18 3 rfl ?_
      refine z_icmp_ne C d_Model_seam_19 (fun c_5 => ?_) (fun c_5 => ?_)
      · replace h := h.1 c_5
        refine z_iload C d_Model_seam_28 5 rfl ?_
        refine z_i2l C d_Model_seam_30 ?_
        refine z_lk C d_Model_seam_31 ?_
        refine z_ldc2 C d_Model_seam_32 wk_Model_118 ?_
        refine z_spi C (rest := []) (c_Model_in l D κ p4.toInt64 (1 : Int64) (50 : Int64) _ h) cs_Model_100 ⟨rfl, rfl⟩ ⟨⟨Nat.le_of_ble_eq_true rfl, Nat.le_of_ble_eq_true rfl⟩, Nat.le_of_ble_eq_true rfl, Nat.le_of_ble_eq_true rfl⟩ [] rfl rfl rfl (Nat.le_of_ble_eq_true rfl) d_Model_seam_35 (fun r_6 h => ?_)
        refine z_if_eq C d_Model_seam_38 (fun c_7 => ?_) (fun c_7 => ?_)
        · replace h := h.1 c_7
          refine z_k C d_Model_seam_54 ?_
          exact ze_iret C (mo_seamMany, mo_seams) hr hlk rfl d_Model_seam_56 h
        · replace h := h.2 c_7
          refine z_iload C d_Model_seam_41 6 rfl ?_
          refine z_i2l C d_Model_seam_43 ?_
          refine z_lk C d_Model_seam_44 ?_
          refine z_ldc2 C d_Model_seam_45 wk_Model_114 ?_
          refine z_spi C (rest := []) (c_Model_in l D κ p5.toInt64 (0 : Int64) (1000 : Int64) _ h) cs_Model_100 ⟨rfl, rfl⟩ ⟨⟨Nat.le_of_ble_eq_true rfl, Nat.le_of_ble_eq_true rfl⟩, Nat.le_of_ble_eq_true rfl, Nat.le_of_ble_eq_true rfl⟩ [] rfl rfl rfl (Nat.le_of_ble_eq_true rfl) d_Model_seam_48 (fun r_8 h => ?_)
          refine z_if_ne C d_Model_seam_51 (fun c_9 => ?_) (fun c_9 => ?_)
          · replace h := h.1 c_9
            refine z_aload C d_Model_seam_57 0 rfl ?_
            refine z_get C fl_Model_136 0 rfl rfl d_Model_seam_58 ?_
            refine z_k C d_Model_seam_61 ?_
            refine z_icmp_ne C d_Model_seam_63 (fun c_10 => ?_) (fun c_10 => ?_)
            · replace h := h.1 c_10
              refine z_k C d_Model_seam_69 ?_
              refine z_aload C d_Model_seam_71 0 rfl ?_
              refine z_get C fl_Model_136 0 rfl rfl d_Model_seam_72 ?_
              refine z_imul C d_Model_seam_75 ?_
              refine z_topi (fun x7_11 ex7_11 => ?_)
              replace h := h x7_11 ex7_11
              refine z_istore C [(7, .int x7_11), (0, .ref h_mo), (1, .int p0), (2, .int p1), (3, .int p2), (4, .int p3), (5, .int p4), (6, .int p5)] d_Model_seam_76 rfl rfl ?_
              refine z_aload C d_Model_seam_78 1 rfl ?_
              refine z_get C fl_Model_41 0 rfl rfl d_Model_seam_79 ?_
              refine z_iload C d_Model_seam_82 0 rfl ?_
              refine z_iload C d_Model_seam_84 2 rfl ?_
              obtain ⟨g_12, eg_12⟩ : ∃ y : Nat → Int32, y = upd mo_seams (x7_11.toNatClampNeg) p0 := ⟨_, rfl⟩
              refine z_iast C 1 rfl h.1 [(h_mo, .inr (10, [.int mo_middleX, .int mo_middleY, .int mo_linkA, .int mo_linkB, .int mo_flatness, .int mo_gap, .int mo_turn, .int mo_travel, .int mo_lift, .int mo_cool, .int mo_homeX, .int mo_homeY, .ref h_mo_bars, .int mo_barMany, .ref h_mo_seams, .int mo_seamMany, .ref h_mo_rowSeam, .ref h_mo_rowWay, .int mo_rowMany, .long mo_lowUp, .long mo_lowDown, .long mo_highUp, .long mo_highDown, .ref h_mo_quarters, .ref h_mo_begins, .ref h_mo_ends, .ref h_mo_rests, .ref h_mo_bestRow, .ref h_mo_lows, .ref h_mo_highs, .int mo_touchMany, .int mo_shiftX, .int mo_shiftY, .ref h_mo_acts, .ref h_mo_actMany, .ref h_mo_done, .ref h_mo_left, .ref h_mo_waited, .ref h_mo_ran, .int mo_hasRun, .ref h_mo_reached])), (h_mo_seams, cI κ 48 g_12)] (by rw [eg_12]; rfl) d_Model_seam_85 ?_
              replace h := h.2 g_12 eg_12
              refine z_aload C d_Model_seam_86 1 rfl ?_
              refine z_get C fl_Model_41 0 rfl rfl d_Model_seam_87 ?_
              refine z_iload C d_Model_seam_90 0 rfl ?_
              refine z_k C d_Model_seam_92 ?_
              refine z_iadd C d_Model_seam_93 ?_
              refine z_iload C d_Model_seam_94 3 rfl ?_
              obtain ⟨g_13, eg_13⟩ : ∃ y : Nat → Int32, y = upd g_12 ((x7_11 + (1 : Int32)).toNatClampNeg) p1 := ⟨_, rfl⟩
              refine z_iast C 1 rfl h.1 [(h_mo, .inr (10, [.int mo_middleX, .int mo_middleY, .int mo_linkA, .int mo_linkB, .int mo_flatness, .int mo_gap, .int mo_turn, .int mo_travel, .int mo_lift, .int mo_cool, .int mo_homeX, .int mo_homeY, .ref h_mo_bars, .int mo_barMany, .ref h_mo_seams, .int mo_seamMany, .ref h_mo_rowSeam, .ref h_mo_rowWay, .int mo_rowMany, .long mo_lowUp, .long mo_lowDown, .long mo_highUp, .long mo_highDown, .ref h_mo_quarters, .ref h_mo_begins, .ref h_mo_ends, .ref h_mo_rests, .ref h_mo_bestRow, .ref h_mo_lows, .ref h_mo_highs, .int mo_touchMany, .int mo_shiftX, .int mo_shiftY, .ref h_mo_acts, .ref h_mo_actMany, .ref h_mo_done, .ref h_mo_left, .ref h_mo_waited, .ref h_mo_ran, .int mo_hasRun, .ref h_mo_reached])), (h_mo_seams, cI κ 48 g_13)] (by rw [eg_13]; rfl) d_Model_seam_95 ?_
              replace h := h.2 g_13 eg_13
              refine z_aload C d_Model_seam_96 1 rfl ?_
              refine z_get C fl_Model_41 0 rfl rfl d_Model_seam_97 ?_
              refine z_iload C d_Model_seam_100 0 rfl ?_
              refine z_k C d_Model_seam_102 ?_
              refine z_iadd C d_Model_seam_103 ?_
              refine z_iload C d_Model_seam_104 4 rfl ?_
              obtain ⟨g_14, eg_14⟩ : ∃ y : Nat → Int32, y = upd g_13 ((x7_11 + (2 : Int32)).toNatClampNeg) p2 := ⟨_, rfl⟩
              refine z_iast C 1 rfl h.1 [(h_mo, .inr (10, [.int mo_middleX, .int mo_middleY, .int mo_linkA, .int mo_linkB, .int mo_flatness, .int mo_gap, .int mo_turn, .int mo_travel, .int mo_lift, .int mo_cool, .int mo_homeX, .int mo_homeY, .ref h_mo_bars, .int mo_barMany, .ref h_mo_seams, .int mo_seamMany, .ref h_mo_rowSeam, .ref h_mo_rowWay, .int mo_rowMany, .long mo_lowUp, .long mo_lowDown, .long mo_highUp, .long mo_highDown, .ref h_mo_quarters, .ref h_mo_begins, .ref h_mo_ends, .ref h_mo_rests, .ref h_mo_bestRow, .ref h_mo_lows, .ref h_mo_highs, .int mo_touchMany, .int mo_shiftX, .int mo_shiftY, .ref h_mo_acts, .ref h_mo_actMany, .ref h_mo_done, .ref h_mo_left, .ref h_mo_waited, .ref h_mo_ran, .int mo_hasRun, .ref h_mo_reached])), (h_mo_seams, cI κ 48 g_14)] (by rw [eg_14]; rfl) d_Model_seam_105 ?_
              replace h := h.2 g_14 eg_14
              refine z_aload C d_Model_seam_106 1 rfl ?_
              refine z_get C fl_Model_41 0 rfl rfl d_Model_seam_107 ?_
              refine z_iload C d_Model_seam_110 0 rfl ?_
              refine z_k C d_Model_seam_112 ?_
              refine z_iadd C d_Model_seam_113 ?_
              refine z_iload C d_Model_seam_114 5 rfl ?_
              obtain ⟨g_15, eg_15⟩ : ∃ y : Nat → Int32, y = upd g_14 ((x7_11 + (3 : Int32)).toNatClampNeg) p3 := ⟨_, rfl⟩
              refine z_iast C 1 rfl h.1 [(h_mo, .inr (10, [.int mo_middleX, .int mo_middleY, .int mo_linkA, .int mo_linkB, .int mo_flatness, .int mo_gap, .int mo_turn, .int mo_travel, .int mo_lift, .int mo_cool, .int mo_homeX, .int mo_homeY, .ref h_mo_bars, .int mo_barMany, .ref h_mo_seams, .int mo_seamMany, .ref h_mo_rowSeam, .ref h_mo_rowWay, .int mo_rowMany, .long mo_lowUp, .long mo_lowDown, .long mo_highUp, .long mo_highDown, .ref h_mo_quarters, .ref h_mo_begins, .ref h_mo_ends, .ref h_mo_rests, .ref h_mo_bestRow, .ref h_mo_lows, .ref h_mo_highs, .int mo_touchMany, .int mo_shiftX, .int mo_shiftY, .ref h_mo_acts, .ref h_mo_actMany, .ref h_mo_done, .ref h_mo_left, .ref h_mo_waited, .ref h_mo_ran, .int mo_hasRun, .ref h_mo_reached])), (h_mo_seams, cI κ 48 g_15)] (by rw [eg_15]; rfl) d_Model_seam_116 ?_
              replace h := h.2 g_15 eg_15
              refine z_aload C d_Model_seam_117 1 rfl ?_
              refine z_get C fl_Model_41 0 rfl rfl d_Model_seam_118 ?_
              refine z_iload C d_Model_seam_121 0 rfl ?_
              refine z_k C d_Model_seam_123 ?_
              refine z_iadd C d_Model_seam_124 ?_
              refine z_iload C d_Model_seam_125 6 rfl ?_
              obtain ⟨g_16, eg_16⟩ : ∃ y : Nat → Int32, y = upd g_15 ((x7_11 + (4 : Int32)).toNatClampNeg) p4 := ⟨_, rfl⟩
              refine z_iast C 1 rfl h.1 [(h_mo, .inr (10, [.int mo_middleX, .int mo_middleY, .int mo_linkA, .int mo_linkB, .int mo_flatness, .int mo_gap, .int mo_turn, .int mo_travel, .int mo_lift, .int mo_cool, .int mo_homeX, .int mo_homeY, .ref h_mo_bars, .int mo_barMany, .ref h_mo_seams, .int mo_seamMany, .ref h_mo_rowSeam, .ref h_mo_rowWay, .int mo_rowMany, .long mo_lowUp, .long mo_lowDown, .long mo_highUp, .long mo_highDown, .ref h_mo_quarters, .ref h_mo_begins, .ref h_mo_ends, .ref h_mo_rests, .ref h_mo_bestRow, .ref h_mo_lows, .ref h_mo_highs, .int mo_touchMany, .int mo_shiftX, .int mo_shiftY, .ref h_mo_acts, .ref h_mo_actMany, .ref h_mo_done, .ref h_mo_left, .ref h_mo_waited, .ref h_mo_ran, .int mo_hasRun, .ref h_mo_reached])), (h_mo_seams, cI κ 48 g_16)] (by rw [eg_16]; rfl) d_Model_seam_127 ?_
              replace h := h.2 g_16 eg_16
              refine z_aload C d_Model_seam_128 1 rfl ?_
              refine z_get C fl_Model_41 0 rfl rfl d_Model_seam_129 ?_
              refine z_iload C d_Model_seam_132 0 rfl ?_
              refine z_k C d_Model_seam_134 ?_
              refine z_iadd C d_Model_seam_135 ?_
              refine z_iload C d_Model_seam_136 7 rfl ?_
              obtain ⟨g_17, eg_17⟩ : ∃ y : Nat → Int32, y = upd g_16 ((x7_11 + (5 : Int32)).toNatClampNeg) p5 := ⟨_, rfl⟩
              refine z_iast C 1 rfl h.1 [(h_mo, .inr (10, [.int mo_middleX, .int mo_middleY, .int mo_linkA, .int mo_linkB, .int mo_flatness, .int mo_gap, .int mo_turn, .int mo_travel, .int mo_lift, .int mo_cool, .int mo_homeX, .int mo_homeY, .ref h_mo_bars, .int mo_barMany, .ref h_mo_seams, .int mo_seamMany, .ref h_mo_rowSeam, .ref h_mo_rowWay, .int mo_rowMany, .long mo_lowUp, .long mo_lowDown, .long mo_highUp, .long mo_highDown, .ref h_mo_quarters, .ref h_mo_begins, .ref h_mo_ends, .ref h_mo_rests, .ref h_mo_bestRow, .ref h_mo_lows, .ref h_mo_highs, .int mo_touchMany, .int mo_shiftX, .int mo_shiftY, .ref h_mo_acts, .ref h_mo_actMany, .ref h_mo_done, .ref h_mo_left, .ref h_mo_waited, .ref h_mo_ran, .int mo_hasRun, .ref h_mo_reached])), (h_mo_seams, cI κ 48 g_17)] (by rw [eg_17]; rfl) d_Model_seam_138 ?_
              replace h := h.2 g_17 eg_17
              refine z_aload C d_Model_seam_139 1 rfl ?_
              refine z_dup C d_Model_seam_140 rfl ?_
              refine z_get C fl_Model_136 0 rfl rfl d_Model_seam_141 ?_
              refine z_k C d_Model_seam_144 ?_
              refine z_iadd C d_Model_seam_145 ?_
              refine z_topi (fun f_18 ef_18 => ?_)
              replace h := h f_18 ef_18
              refine z_put C fp_Model_136 0 rfl rfl rfl rfl [(h_mo, .inr (10, [.int mo_middleX, .int mo_middleY, .int mo_linkA, .int mo_linkB, .int mo_flatness, .int mo_gap, .int mo_turn, .int mo_travel, .int mo_lift, .int mo_cool, .int mo_homeX, .int mo_homeY, .ref h_mo_bars, .int mo_barMany, .ref h_mo_seams, .int f_18, .ref h_mo_rowSeam, .ref h_mo_rowWay, .int mo_rowMany, .long mo_lowUp, .long mo_lowDown, .long mo_highUp, .long mo_highDown, .ref h_mo_quarters, .ref h_mo_begins, .ref h_mo_ends, .ref h_mo_rests, .ref h_mo_bestRow, .ref h_mo_lows, .ref h_mo_highs, .int mo_touchMany, .int mo_shiftX, .int mo_shiftY, .ref h_mo_acts, .ref h_mo_actMany, .ref h_mo_done, .ref h_mo_left, .ref h_mo_waited, .ref h_mo_ran, .int mo_hasRun, .ref h_mo_reached])), (h_mo_seams, cI κ 48 g_17)] rfl d_Model_seam_146 ?_
              refine z_aload C d_Model_seam_149 1 rfl ?_
              refine z_get C fl_Model_136 0 rfl rfl d_Model_seam_150 ?_
              refine z_k C d_Model_seam_153 ?_
              refine z_isub C d_Model_seam_154 ?_
              exact ze_iret C (f_18, g_17) hr hlk rfl d_Model_seam_155 h
            · replace h := h.2 c_10
              refine z_k C d_Model_seam_66 ?_
              exact ze_iret C (mo_seamMany, mo_seams) hr hlk rfl d_Model_seam_68 h
          · replace h := h.2 c_9
            refine z_k C d_Model_seam_54 ?_
            exact ze_iret C (mo_seamMany, mo_seams) hr hlk rfl d_Model_seam_56 h
      · replace h := h.2 c_5
        refine z_iload C d_Model_seam_22 2 rfl ?_
        refine z_iload C d_Model_seam_23 4 rfl ?_
        refine z_icmp_eq C d_Model_seam_25 (fun c_19 => ?_) (fun c_19 => ?_)
        · replace h := h.1 c_19
          refine z_k C d_Model_seam_54 ?_
          exact ze_iret C (mo_seamMany, mo_seams) hr hlk rfl d_Model_seam_56 h
        · replace h := h.2 c_19
          refine z_iload C d_Model_seam_28 5 rfl ?_
          refine z_i2l C d_Model_seam_30 ?_
          refine z_lk C d_Model_seam_31 ?_
          refine z_ldc2 C d_Model_seam_32 wk_Model_118 ?_
          refine z_spi C (rest := []) (c_Model_in l D κ p4.toInt64 (1 : Int64) (50 : Int64) _ h) cs_Model_100 ⟨rfl, rfl⟩ ⟨⟨Nat.le_of_ble_eq_true rfl, Nat.le_of_ble_eq_true rfl⟩, Nat.le_of_ble_eq_true rfl, Nat.le_of_ble_eq_true rfl⟩ [] rfl rfl rfl (Nat.le_of_ble_eq_true rfl) d_Model_seam_35 (fun r_20 h => ?_)
          refine z_if_eq C d_Model_seam_38 (fun c_21 => ?_) (fun c_21 => ?_)
          · replace h := h.1 c_21
            refine z_k C d_Model_seam_54 ?_
            exact ze_iret C (mo_seamMany, mo_seams) hr hlk rfl d_Model_seam_56 h
          · replace h := h.2 c_21
            refine z_iload C d_Model_seam_41 6 rfl ?_
            refine z_i2l C d_Model_seam_43 ?_
            refine z_lk C d_Model_seam_44 ?_
            refine z_ldc2 C d_Model_seam_45 wk_Model_114 ?_
            refine z_spi C (rest := []) (c_Model_in l D κ p5.toInt64 (0 : Int64) (1000 : Int64) _ h) cs_Model_100 ⟨rfl, rfl⟩ ⟨⟨Nat.le_of_ble_eq_true rfl, Nat.le_of_ble_eq_true rfl⟩, Nat.le_of_ble_eq_true rfl, Nat.le_of_ble_eq_true rfl⟩ [] rfl rfl rfl (Nat.le_of_ble_eq_true rfl) d_Model_seam_48 (fun r_22 h => ?_)
            refine z_if_ne C d_Model_seam_51 (fun c_23 => ?_) (fun c_23 => ?_)
            · replace h := h.1 c_23
              refine z_aload C d_Model_seam_57 0 rfl ?_
              refine z_get C fl_Model_136 0 rfl rfl d_Model_seam_58 ?_
              refine z_k C d_Model_seam_61 ?_
              refine z_icmp_ne C d_Model_seam_63 (fun c_24 => ?_) (fun c_24 => ?_)
              · replace h := h.1 c_24
                refine z_k C d_Model_seam_69 ?_
                refine z_aload C d_Model_seam_71 0 rfl ?_
                refine z_get C fl_Model_136 0 rfl rfl d_Model_seam_72 ?_
                refine z_imul C d_Model_seam_75 ?_
                refine z_topi (fun x7_25 ex7_25 => ?_)
                replace h := h x7_25 ex7_25
                refine z_istore C [(7, .int x7_25), (0, .ref h_mo), (1, .int p0), (2, .int p1), (3, .int p2), (4, .int p3), (5, .int p4), (6, .int p5)] d_Model_seam_76 rfl rfl ?_
                refine z_aload C d_Model_seam_78 1 rfl ?_
                refine z_get C fl_Model_41 0 rfl rfl d_Model_seam_79 ?_
                refine z_iload C d_Model_seam_82 0 rfl ?_
                refine z_iload C d_Model_seam_84 2 rfl ?_
                obtain ⟨g_26, eg_26⟩ : ∃ y : Nat → Int32, y = upd mo_seams (x7_25.toNatClampNeg) p0 := ⟨_, rfl⟩
                refine z_iast C 1 rfl h.1 [(h_mo, .inr (10, [.int mo_middleX, .int mo_middleY, .int mo_linkA, .int mo_linkB, .int mo_flatness, .int mo_gap, .int mo_turn, .int mo_travel, .int mo_lift, .int mo_cool, .int mo_homeX, .int mo_homeY, .ref h_mo_bars, .int mo_barMany, .ref h_mo_seams, .int mo_seamMany, .ref h_mo_rowSeam, .ref h_mo_rowWay, .int mo_rowMany, .long mo_lowUp, .long mo_lowDown, .long mo_highUp, .long mo_highDown, .ref h_mo_quarters, .ref h_mo_begins, .ref h_mo_ends, .ref h_mo_rests, .ref h_mo_bestRow, .ref h_mo_lows, .ref h_mo_highs, .int mo_touchMany, .int mo_shiftX, .int mo_shiftY, .ref h_mo_acts, .ref h_mo_actMany, .ref h_mo_done, .ref h_mo_left, .ref h_mo_waited, .ref h_mo_ran, .int mo_hasRun, .ref h_mo_reached])), (h_mo_seams, cI κ 48 g_26)] (by rw [eg_26]; rfl) d_Model_seam_85 ?_
                replace h := h.2 g_26 eg_26
                refine z_aload C d_Model_seam_86 1 rfl ?_
                refine z_get C fl_Model_41 0 rfl rfl d_Model_seam_87 ?_
                refine z_iload C d_Model_seam_90 0 rfl ?_
                refine z_k C d_Model_seam_92 ?_
                refine z_iadd C d_Model_seam_93 ?_
                refine z_iload C d_Model_seam_94 3 rfl ?_
                obtain ⟨g_27, eg_27⟩ : ∃ y : Nat → Int32, y = upd g_26 ((x7_25 + (1 : Int32)).toNatClampNeg) p1 := ⟨_, rfl⟩
                refine z_iast C 1 rfl h.1 [(h_mo, .inr (10, [.int mo_middleX, .int mo_middleY, .int mo_linkA, .int mo_linkB, .int mo_flatness, .int mo_gap, .int mo_turn, .int mo_travel, .int mo_lift, .int mo_cool, .int mo_homeX, .int mo_homeY, .ref h_mo_bars, .int mo_barMany, .ref h_mo_seams, .int mo_seamMany, .ref h_mo_rowSeam, .ref h_mo_rowWay, .int mo_rowMany, .long mo_lowUp, .long mo_lowDown, .long mo_highUp, .long mo_highDown, .ref h_mo_quarters, .ref h_mo_begins, .ref h_mo_ends, .ref h_mo_rests, .ref h_mo_bestRow, .ref h_mo_lows, .ref h_mo_highs, .int mo_touchMany, .int mo_shiftX, .int mo_shiftY, .ref h_mo_acts, .ref h_mo_actMany, .ref h_mo_done, .ref h_mo_left, .ref h_mo_waited, .ref h_mo_ran, .int mo_hasRun, .ref h_mo_reached])), (h_mo_seams, cI κ 48 g_27)] (by rw [eg_27]; rfl) d_Model_seam_95 ?_
                replace h := h.2 g_27 eg_27
                refine z_aload C d_Model_seam_96 1 rfl ?_
                refine z_get C fl_Model_41 0 rfl rfl d_Model_seam_97 ?_
                refine z_iload C d_Model_seam_100 0 rfl ?_
                refine z_k C d_Model_seam_102 ?_
                refine z_iadd C d_Model_seam_103 ?_
                refine z_iload C d_Model_seam_104 4 rfl ?_
                obtain ⟨g_28, eg_28⟩ : ∃ y : Nat → Int32, y = upd g_27 ((x7_25 + (2 : Int32)).toNatClampNeg) p2 := ⟨_, rfl⟩
                refine z_iast C 1 rfl h.1 [(h_mo, .inr (10, [.int mo_middleX, .int mo_middleY, .int mo_linkA, .int mo_linkB, .int mo_flatness, .int mo_gap, .int mo_turn, .int mo_travel, .int mo_lift, .int mo_cool, .int mo_homeX, .int mo_homeY, .ref h_mo_bars, .int mo_barMany, .ref h_mo_seams, .int mo_seamMany, .ref h_mo_rowSeam, .ref h_mo_rowWay, .int mo_rowMany, .long mo_lowUp, .long mo_lowDown, .long mo_highUp, .long mo_highDown, .ref h_mo_quarters, .ref h_mo_begins, .ref h_mo_ends, .ref h_mo_rests, .ref h_mo_bestRow, .ref h_mo_lows, .ref h_mo_highs, .int mo_touchMany, .int mo_shiftX, .int mo_shiftY, .ref h_mo_acts, .ref h_mo_actMany, .ref h_mo_done, .ref h_mo_left, .ref h_mo_waited, .ref h_mo_ran, .int mo_hasRun, .ref h_mo_reached])), (h_mo_seams, cI κ 48 g_28)] (by rw [eg_28]; rfl) d_Model_seam_105 ?_
                replace h := h.2 g_28 eg_28
                refine z_aload C d_Model_seam_106 1 rfl ?_
                refine z_get C fl_Model_41 0 rfl rfl d_Model_seam_107 ?_
                refine z_iload C d_Model_seam_110 0 rfl ?_
                refine z_k C d_Model_seam_112 ?_
                refine z_iadd C d_Model_seam_113 ?_
                refine z_iload C d_Model_seam_114 5 rfl ?_
                obtain ⟨g_29, eg_29⟩ : ∃ y : Nat → Int32, y = upd g_28 ((x7_25 + (3 : Int32)).toNatClampNeg) p3 := ⟨_, rfl⟩
                refine z_iast C 1 rfl h.1 [(h_mo, .inr (10, [.int mo_middleX, .int mo_middleY, .int mo_linkA, .int mo_linkB, .int mo_flatness, .int mo_gap, .int mo_turn, .int mo_travel, .int mo_lift, .int mo_cool, .int mo_homeX, .int mo_homeY, .ref h_mo_bars, .int mo_barMany, .ref h_mo_seams, .int mo_seamMany, .ref h_mo_rowSeam, .ref h_mo_rowWay, .int mo_rowMany, .long mo_lowUp, .long mo_lowDown, .long mo_highUp, .long mo_highDown, .ref h_mo_quarters, .ref h_mo_begins, .ref h_mo_ends, .ref h_mo_rests, .ref h_mo_bestRow, .ref h_mo_lows, .ref h_mo_highs, .int mo_touchMany, .int mo_shiftX, .int mo_shiftY, .ref h_mo_acts, .ref h_mo_actMany, .ref h_mo_done, .ref h_mo_left, .ref h_mo_waited, .ref h_mo_ran, .int mo_hasRun, .ref h_mo_reached])), (h_mo_seams, cI κ 48 g_29)] (by rw [eg_29]; rfl) d_Model_seam_116 ?_
                replace h := h.2 g_29 eg_29
                refine z_aload C d_Model_seam_117 1 rfl ?_
                refine z_get C fl_Model_41 0 rfl rfl d_Model_seam_118 ?_
                refine z_iload C d_Model_seam_121 0 rfl ?_
                refine z_k C d_Model_seam_123 ?_
                refine z_iadd C d_Model_seam_124 ?_
                refine z_iload C d_Model_seam_125 6 rfl ?_
                obtain ⟨g_30, eg_30⟩ : ∃ y : Nat → Int32, y = upd g_29 ((x7_25 + (4 : Int32)).toNatClampNeg) p4 := ⟨_, rfl⟩
                refine z_iast C 1 rfl h.1 [(h_mo, .inr (10, [.int mo_middleX, .int mo_middleY, .int mo_linkA, .int mo_linkB, .int mo_flatness, .int mo_gap, .int mo_turn, .int mo_travel, .int mo_lift, .int mo_cool, .int mo_homeX, .int mo_homeY, .ref h_mo_bars, .int mo_barMany, .ref h_mo_seams, .int mo_seamMany, .ref h_mo_rowSeam, .ref h_mo_rowWay, .int mo_rowMany, .long mo_lowUp, .long mo_lowDown, .long mo_highUp, .long mo_highDown, .ref h_mo_quarters, .ref h_mo_begins, .ref h_mo_ends, .ref h_mo_rests, .ref h_mo_bestRow, .ref h_mo_lows, .ref h_mo_highs, .int mo_touchMany, .int mo_shiftX, .int mo_shiftY, .ref h_mo_acts, .ref h_mo_actMany, .ref h_mo_done, .ref h_mo_left, .ref h_mo_waited, .ref h_mo_ran, .int mo_hasRun, .ref h_mo_reached])), (h_mo_seams, cI κ 48 g_30)] (by rw [eg_30]; rfl) d_Model_seam_127 ?_
                replace h := h.2 g_30 eg_30
                refine z_aload C d_Model_seam_128 1 rfl ?_
                refine z_get C fl_Model_41 0 rfl rfl d_Model_seam_129 ?_
                refine z_iload C d_Model_seam_132 0 rfl ?_
                refine z_k C d_Model_seam_134 ?_
                refine z_iadd C d_Model_seam_135 ?_
                refine z_iload C d_Model_seam_136 7 rfl ?_
                obtain ⟨g_31, eg_31⟩ : ∃ y : Nat → Int32, y = upd g_30 ((x7_25 + (5 : Int32)).toNatClampNeg) p5 := ⟨_, rfl⟩
                refine z_iast C 1 rfl h.1 [(h_mo, .inr (10, [.int mo_middleX, .int mo_middleY, .int mo_linkA, .int mo_linkB, .int mo_flatness, .int mo_gap, .int mo_turn, .int mo_travel, .int mo_lift, .int mo_cool, .int mo_homeX, .int mo_homeY, .ref h_mo_bars, .int mo_barMany, .ref h_mo_seams, .int mo_seamMany, .ref h_mo_rowSeam, .ref h_mo_rowWay, .int mo_rowMany, .long mo_lowUp, .long mo_lowDown, .long mo_highUp, .long mo_highDown, .ref h_mo_quarters, .ref h_mo_begins, .ref h_mo_ends, .ref h_mo_rests, .ref h_mo_bestRow, .ref h_mo_lows, .ref h_mo_highs, .int mo_touchMany, .int mo_shiftX, .int mo_shiftY, .ref h_mo_acts, .ref h_mo_actMany, .ref h_mo_done, .ref h_mo_left, .ref h_mo_waited, .ref h_mo_ran, .int mo_hasRun, .ref h_mo_reached])), (h_mo_seams, cI κ 48 g_31)] (by rw [eg_31]; rfl) d_Model_seam_138 ?_
                replace h := h.2 g_31 eg_31
                refine z_aload C d_Model_seam_139 1 rfl ?_
                refine z_dup C d_Model_seam_140 rfl ?_
                refine z_get C fl_Model_136 0 rfl rfl d_Model_seam_141 ?_
                refine z_k C d_Model_seam_144 ?_
                refine z_iadd C d_Model_seam_145 ?_
                refine z_topi (fun f_32 ef_32 => ?_)
                replace h := h f_32 ef_32
                refine z_put C fp_Model_136 0 rfl rfl rfl rfl [(h_mo, .inr (10, [.int mo_middleX, .int mo_middleY, .int mo_linkA, .int mo_linkB, .int mo_flatness, .int mo_gap, .int mo_turn, .int mo_travel, .int mo_lift, .int mo_cool, .int mo_homeX, .int mo_homeY, .ref h_mo_bars, .int mo_barMany, .ref h_mo_seams, .int f_32, .ref h_mo_rowSeam, .ref h_mo_rowWay, .int mo_rowMany, .long mo_lowUp, .long mo_lowDown, .long mo_highUp, .long mo_highDown, .ref h_mo_quarters, .ref h_mo_begins, .ref h_mo_ends, .ref h_mo_rests, .ref h_mo_bestRow, .ref h_mo_lows, .ref h_mo_highs, .int mo_touchMany, .int mo_shiftX, .int mo_shiftY, .ref h_mo_acts, .ref h_mo_actMany, .ref h_mo_done, .ref h_mo_left, .ref h_mo_waited, .ref h_mo_ran, .int mo_hasRun, .ref h_mo_reached])), (h_mo_seams, cI κ 48 g_31)] rfl d_Model_seam_146 ?_
                refine z_aload C d_Model_seam_149 1 rfl ?_
                refine z_get C fl_Model_136 0 rfl rfl d_Model_seam_150 ?_
                refine z_k C d_Model_seam_153 ?_
                refine z_isub C d_Model_seam_154 ?_
                exact ze_iret C (f_32, g_31) hr hlk rfl d_Model_seam_155 h
              · replace h := h.2 c_24
                refine z_k C d_Model_seam_66 ?_
                exact ze_iret C (mo_seamMany, mo_seams) hr hlk rfl d_Model_seam_68 h
            · replace h := h.2 c_23
              refine z_k C d_Model_seam_54 ?_
              exact ze_iret C (mo_seamMany, mo_seams) hr hlk rfl d_Model_seam_56 h
def wpB_Model_shutAnew_7 (post : Int32 → (Nat → Int32) → (Nat → Int32) → Prop) (ih_7 : (Nat → Int32) → (Nat → Int32) → Int32 → Prop) (mo_highs_1 : Nat → Int32) (mo_lows_2 : Nat → Int32) (x1_3 : Int32) : Prop :=
  (((2 : Int32) ≤ x1_3 → (post (0 : Int32) mo_lows_2 mo_highs_1)) ∧ (¬ (2 : Int32) ≤ x1_3 → (vp_in x1_3 2 ∧ (∀ g_5 : Nat → Int32, g_5 = upd mo_lows_2 (x1_3.toNatClampNeg) (-20 : Int32) → (vp_in x1_3 2 ∧ (∀ g_6 : Nat → Int32, g_6 = upd mo_highs_1 (x1_3.toNatClampNeg) (20 : Int32) → (∀ x1_7 : Int32, x1_7 = x1_3 + (1 : Int32) → (ih_7 g_6 g_5 x1_7))))))))
noncomputable def wpL_Model_shutAnew_7 (post : Int32 → (Nat → Int32) → (Nat → Int32) → Prop) : Nat → (Nat → Int32) → (Nat → Int32) → Int32 → Prop := fun n => @Nat.rec (fun _ => (Nat → Int32) → (Nat → Int32) → Int32 → Prop) (fun _ _ _ => False) (fun _ ih_7 => wpB_Model_shutAnew_7 post ih_7) n
def wp_Model_shutAnew (mo_lows : Nat → Int32) (mo_highs : Nat → Int32) (post : Int32 → (Nat → Int32) → (Nat → Int32) → Prop) : Prop :=
  (∃ n : Nat, wpL_Model_shutAnew_7 post n mo_highs mo_lows (0 : Int32))
abbrev rm_Model_shutAnew : Room := { frames := 0, cells := 0, slots := 0, locals := 0 }
set_option maxHeartbeats 4000000 in
set_option maxRecDepth 100000 in
theorem c_Model_shutAnew (l : Launch) (D : va_G) (κ : KT) (h_mo : Nat) (h_mo_bars : Nat) (h_mo_seams : Nat) (h_mo_rowSeam : Nat) (h_mo_rowWay : Nat) (h_mo_quarters : Nat) (h_mo_begins : Nat) (h_mo_ends : Nat) (h_mo_rests : Nat) (h_mo_bestRow : Nat) (h_mo_lows : Nat) (h_mo_highs : Nat) (h_mo_acts : Nat) (h_mo_actMany : Nat) (h_mo_done : Nat) (h_mo_left : Nat) (h_mo_waited : Nat) (h_mo_ran : Nat) (h_mo_reached : Nat) (mo_middleX : Int32) (mo_middleY : Int32) (mo_linkA : Int32) (mo_linkB : Int32) (mo_flatness : Int32) (mo_gap : Int32) (mo_turn : Int32) (mo_travel : Int32) (mo_lift : Int32) (mo_cool : Int32) (mo_homeX : Int32) (mo_homeY : Int32) (mo_barMany : Int32) (mo_seamMany : Int32) (mo_rowMany : Int32) (mo_lowUp : Int64) (mo_lowDown : Int64) (mo_highUp : Int64) (mo_highDown : Int64) (mo_touchMany : Int32) (mo_shiftX : Int32) (mo_shiftY : Int32) (mo_hasRun : Int32) (mo_lows : Nat → Int32) (mo_highs : Nat → Int32) (sz : Nat) (post : Int32 → (Nat → Int32) → (Nat → Int32) → Prop) (h : wp_Model_shutAnew mo_lows mo_highs post) : Met l y_Model_shutAnew (wsG y_Model_shutAnew b_Model_shutAnew 2 none) rm_Model_shutAnew (PE D κ [.ref h_mo] [(h_mo, .inr (10, [.int mo_middleX, .int mo_middleY, .int mo_linkA, .int mo_linkB, .int mo_flatness, .int mo_gap, .int mo_turn, .int mo_travel, .int mo_lift, .int mo_cool, .int mo_homeX, .int mo_homeY, .ref h_mo_bars, .int mo_barMany, .ref h_mo_seams, .int mo_seamMany, .ref h_mo_rowSeam, .ref h_mo_rowWay, .int mo_rowMany, .long mo_lowUp, .long mo_lowDown, .long mo_highUp, .long mo_highDown, .ref h_mo_quarters, .ref h_mo_begins, .ref h_mo_ends, .ref h_mo_rests, .ref h_mo_bestRow, .ref h_mo_lows, .ref h_mo_highs, .int mo_touchMany, .int mo_shiftX, .int mo_shiftY, .ref h_mo_acts, .ref h_mo_actMany, .ref h_mo_done, .ref h_mo_left, .ref h_mo_waited, .ref h_mo_ran, .int mo_hasRun, .ref h_mo_reached])), (h_mo_lows, cI κ 2 mo_lows), (h_mo_highs, cI κ 2 mo_highs)] sz) (va_Qv (fun (u : (Int32) × (Nat → Int32) × (Nat → Int32)) => post u.1 u.2.1 u.2.2) (QB D [(h_mo, .inr (10, [.int mo_middleX, .int mo_middleY, .int mo_linkA, .int mo_linkB, .int mo_flatness, .int mo_gap, .int mo_turn, .int mo_travel, .int mo_lift, .int mo_cool, .int mo_homeX, .int mo_homeY, .ref h_mo_bars, .int mo_barMany, .ref h_mo_seams, .int mo_seamMany, .ref h_mo_rowSeam, .ref h_mo_rowWay, .int mo_rowMany, .long mo_lowUp, .long mo_lowDown, .long mo_highUp, .long mo_highDown, .ref h_mo_quarters, .ref h_mo_begins, .ref h_mo_ends, .ref h_mo_rests, .ref h_mo_bestRow, .ref h_mo_lows, .ref h_mo_highs, .int mo_touchMany, .int mo_shiftX, .int mo_shiftY, .ref h_mo_acts, .ref h_mo_actMany, .ref h_mo_done, .ref h_mo_left, .ref h_mo_waited, .ref h_mo_ran, .int mo_hasRun, .ref h_mo_reached])), (h_mo_lows, cI κ 2 mo_lows), (h_mo_highs, cI κ 2 mo_highs)] sz (fun (u : (Int32) × (Nat → Int32) × (Nat → Int32)) => [(h_mo, .inr (10, [.int mo_middleX, .int mo_middleY, .int mo_linkA, .int mo_linkB, .int mo_flatness, .int mo_gap, .int mo_turn, .int mo_travel, .int mo_lift, .int mo_cool, .int mo_homeX, .int mo_homeY, .ref h_mo_bars, .int mo_barMany, .ref h_mo_seams, .int mo_seamMany, .ref h_mo_rowSeam, .ref h_mo_rowWay, .int mo_rowMany, .long mo_lowUp, .long mo_lowDown, .long mo_highUp, .long mo_highDown, .ref h_mo_quarters, .ref h_mo_begins, .ref h_mo_ends, .ref h_mo_rests, .ref h_mo_bestRow, .ref h_mo_lows, .ref h_mo_highs, .int u.1, .int mo_shiftX, .int mo_shiftY, .ref h_mo_acts, .ref h_mo_actMany, .ref h_mo_done, .ref h_mo_left, .ref h_mo_waited, .ref h_mo_ran, .int mo_hasRun, .ref h_mo_reached])), (h_mo_lows, cI κ 2 u.2.1), (h_mo_highs, cI κ 2 u.2.2)])) (va_A [(h_mo, .inr (10, [.int mo_middleX, .int mo_middleY, .int mo_linkA, .int mo_linkB, .int mo_flatness, .int mo_gap, .int mo_turn, .int mo_travel, .int mo_lift, .int mo_cool, .int mo_homeX, .int mo_homeY, .ref h_mo_bars, .int mo_barMany, .ref h_mo_seams, .int mo_seamMany, .ref h_mo_rowSeam, .ref h_mo_rowWay, .int mo_rowMany, .long mo_lowUp, .long mo_lowDown, .long mo_highUp, .long mo_highDown, .ref h_mo_quarters, .ref h_mo_begins, .ref h_mo_ends, .ref h_mo_rests, .ref h_mo_bestRow, .ref h_mo_lows, .ref h_mo_highs, .int mo_touchMany, .int mo_shiftX, .int mo_shiftY, .ref h_mo_acts, .ref h_mo_actMany, .ref h_mo_done, .ref h_mo_left, .ref h_mo_waited, .ref h_mo_ran, .int mo_hasRun, .ref h_mo_reached])), (h_mo_lows, cI κ 2 mo_lows), (h_mo_highs, cI κ 2 mo_highs)] sz)) 0 0 (va_A [(h_mo, .inr (10, [.int mo_middleX, .int mo_middleY, .int mo_linkA, .int mo_linkB, .int mo_flatness, .int mo_gap, .int mo_turn, .int mo_travel, .int mo_lift, .int mo_cool, .int mo_homeX, .int mo_homeY, .ref h_mo_bars, .int mo_barMany, .ref h_mo_seams, .int mo_seamMany, .ref h_mo_rowSeam, .ref h_mo_rowWay, .int mo_rowMany, .long mo_lowUp, .long mo_lowDown, .long mo_highUp, .long mo_highDown, .ref h_mo_quarters, .ref h_mo_begins, .ref h_mo_ends, .ref h_mo_rests, .ref h_mo_bestRow, .ref h_mo_lows, .ref h_mo_highs, .int mo_touchMany, .int mo_shiftX, .int mo_shiftY, .ref h_mo_acts, .ref h_mo_actMany, .ref h_mo_done, .ref h_mo_left, .ref h_mo_waited, .ref h_mo_ran, .int mo_hasRun, .ref h_mo_reached])), (h_mo_lows, cI κ 2 mo_lows), (h_mo_highs, cI κ 2 mo_highs)] sz) := by
  refine ze_start [(0, .ref h_mo)] rfl (Nat.le_of_ble_eq_true rfl) rfl ?_
  intro p e s m args below meth c C hr hlk hnm hsz
  subst hsz
  unfold wp_Model_shutAnew at h
  refine z_aload C d_Model_shutAnew_0 0 rfl ?_
  refine z_k C d_Model_shutAnew_1 ?_
  refine z_put C fp_Model_142 0 rfl rfl rfl rfl [(h_mo, .inr (10, [.int mo_middleX, .int mo_middleY, .int mo_linkA, .int mo_linkB, .int mo_flatness, .int mo_gap, .int mo_turn, .int mo_travel, .int mo_lift, .int mo_cool, .int mo_homeX, .int mo_homeY, .ref h_mo_bars, .int mo_barMany, .ref h_mo_seams, .int mo_seamMany, .ref h_mo_rowSeam, .ref h_mo_rowWay, .int mo_rowMany, .long mo_lowUp, .long mo_lowDown, .long mo_highUp, .long mo_highDown, .ref h_mo_quarters, .ref h_mo_begins, .ref h_mo_ends, .ref h_mo_rests, .ref h_mo_bestRow, .ref h_mo_lows, .ref h_mo_highs, .int (0 : Int32), .int mo_shiftX, .int mo_shiftY, .ref h_mo_acts, .ref h_mo_actMany, .ref h_mo_done, .ref h_mo_left, .ref h_mo_waited, .ref h_mo_ran, .int mo_hasRun, .ref h_mo_reached])), (h_mo_lows, cI κ 2 mo_lows), (h_mo_highs, cI κ 2 mo_highs)] rfl d_Model_shutAnew_2 ?_
  refine z_k C d_Model_shutAnew_5 ?_
  refine z_istore C [(1, .int (0 : Int32)), (0, .ref h_mo)] d_Model_shutAnew_6 rfl rfl ?_
  obtain ⟨n_7, h⟩ := h
  have LP_7 : ∀ (n : Nat) (mo_highs_1 : Nat → Int32) (mo_lows_2 : Nat → Int32) (x1_3 : Int32), wpL_Model_shutAnew_7 post n mo_highs_1 mo_lows_2 x1_3 → Zw p l e rm_Model_shutAnew s m args below meth c 0 0 (MQ below (va_Qv (fun (u : (Int32) × (Nat → Int32) × (Nat → Int32)) => post u.1 u.2.1 u.2.2) (QB D [(h_mo, .inr (10, [.int mo_middleX, .int mo_middleY, .int mo_linkA, .int mo_linkB, .int mo_flatness, .int mo_gap, .int mo_turn, .int mo_travel, .int mo_lift, .int mo_cool, .int mo_homeX, .int mo_homeY, .ref h_mo_bars, .int mo_barMany, .ref h_mo_seams, .int mo_seamMany, .ref h_mo_rowSeam, .ref h_mo_rowWay, .int mo_rowMany, .long mo_lowUp, .long mo_lowDown, .long mo_highUp, .long mo_highDown, .ref h_mo_quarters, .ref h_mo_begins, .ref h_mo_ends, .ref h_mo_rests, .ref h_mo_bestRow, .ref h_mo_lows, .ref h_mo_highs, .int mo_touchMany, .int mo_shiftX, .int mo_shiftY, .ref h_mo_acts, .ref h_mo_actMany, .ref h_mo_done, .ref h_mo_left, .ref h_mo_waited, .ref h_mo_ran, .int mo_hasRun, .ref h_mo_reached])), (h_mo_lows, cI κ 2 mo_lows), (h_mo_highs, cI κ 2 mo_highs)] s.heap.size (fun (u : (Int32) × (Nat → Int32) × (Nat → Int32)) => [(h_mo, .inr (10, [.int mo_middleX, .int mo_middleY, .int mo_linkA, .int mo_linkB, .int mo_flatness, .int mo_gap, .int mo_turn, .int mo_travel, .int mo_lift, .int mo_cool, .int mo_homeX, .int mo_homeY, .ref h_mo_bars, .int mo_barMany, .ref h_mo_seams, .int mo_seamMany, .ref h_mo_rowSeam, .ref h_mo_rowWay, .int mo_rowMany, .long mo_lowUp, .long mo_lowDown, .long mo_highUp, .long mo_highDown, .ref h_mo_quarters, .ref h_mo_begins, .ref h_mo_ends, .ref h_mo_rests, .ref h_mo_bestRow, .ref h_mo_lows, .ref h_mo_highs, .int u.1, .int mo_shiftX, .int mo_shiftY, .ref h_mo_acts, .ref h_mo_actMany, .ref h_mo_done, .ref h_mo_left, .ref h_mo_waited, .ref h_mo_ran, .int mo_hasRun, .ref h_mo_reached])), (h_mo_lows, cI κ 2 u.2.1), (h_mo_highs, cI κ 2 u.2.2)])) (va_A [(h_mo, .inr (10, [.int mo_middleX, .int mo_middleY, .int mo_linkA, .int mo_linkB, .int mo_flatness, .int mo_gap, .int mo_turn, .int mo_travel, .int mo_lift, .int mo_cool, .int mo_homeX, .int mo_homeY, .ref h_mo_bars, .int mo_barMany, .ref h_mo_seams, .int mo_seamMany, .ref h_mo_rowSeam, .ref h_mo_rowWay, .int mo_rowMany, .long mo_lowUp, .long mo_lowDown, .long mo_highUp, .long mo_highDown, .ref h_mo_quarters, .ref h_mo_begins, .ref h_mo_ends, .ref h_mo_rests, .ref h_mo_bestRow, .ref h_mo_lows, .ref h_mo_highs, .int mo_touchMany, .int mo_shiftX, .int mo_shiftY, .ref h_mo_acts, .ref h_mo_actMany, .ref h_mo_done, .ref h_mo_left, .ref h_mo_waited, .ref h_mo_ran, .int mo_hasRun, .ref h_mo_reached])), (h_mo_lows, cI κ 2 mo_lows), (h_mo_highs, cI κ 2 mo_highs)] s.heap.size)) args s 0 0 (va_A [(h_mo, .inr (10, [.int mo_middleX, .int mo_middleY, .int mo_linkA, .int mo_linkB, .int mo_flatness, .int mo_gap, .int mo_turn, .int mo_travel, .int mo_lift, .int mo_cool, .int mo_homeX, .int mo_homeY, .ref h_mo_bars, .int mo_barMany, .ref h_mo_seams, .int mo_seamMany, .ref h_mo_rowSeam, .ref h_mo_rowWay, .int mo_rowMany, .long mo_lowUp, .long mo_lowDown, .long mo_highUp, .long mo_highDown, .ref h_mo_quarters, .ref h_mo_begins, .ref h_mo_ends, .ref h_mo_rests, .ref h_mo_bestRow, .ref h_mo_lows, .ref h_mo_highs, .int mo_touchMany, .int mo_shiftX, .int mo_shiftY, .ref h_mo_acts, .ref h_mo_actMany, .ref h_mo_done, .ref h_mo_left, .ref h_mo_waited, .ref h_mo_ran, .int mo_hasRun, .ref h_mo_reached])), (h_mo_lows, cI κ 2 mo_lows), (h_mo_highs, cI κ 2 mo_highs)] s.heap.size)) D 2 (some (va_A [(h_mo, .inr (10, [.int mo_middleX, .int mo_middleY, .int mo_linkA, .int mo_linkB, .int mo_flatness, .int mo_gap, .int mo_turn, .int mo_travel, .int mo_lift, .int mo_cool, .int mo_homeX, .int mo_homeY, .ref h_mo_bars, .int mo_barMany, .ref h_mo_seams, .int mo_seamMany, .ref h_mo_rowSeam, .ref h_mo_rowWay, .int mo_rowMany, .long mo_lowUp, .long mo_lowDown, .long mo_highUp, .long mo_highDown, .ref h_mo_quarters, .ref h_mo_begins, .ref h_mo_ends, .ref h_mo_rests, .ref h_mo_bestRow, .ref h_mo_lows, .ref h_mo_highs, .int mo_touchMany, .int mo_shiftX, .int mo_shiftY, .ref h_mo_acts, .ref h_mo_actMany, .ref h_mo_done, .ref h_mo_left, .ref h_mo_waited, .ref h_mo_ran, .int mo_hasRun, .ref h_mo_reached])), (h_mo_lows, cI κ 2 mo_lows), (h_mo_highs, cI κ 2 mo_highs)] s.heap.size)) [(h_mo, .inr (10, [.int mo_middleX, .int mo_middleY, .int mo_linkA, .int mo_linkB, .int mo_flatness, .int mo_gap, .int mo_turn, .int mo_travel, .int mo_lift, .int mo_cool, .int mo_homeX, .int mo_homeY, .ref h_mo_bars, .int mo_barMany, .ref h_mo_seams, .int mo_seamMany, .ref h_mo_rowSeam, .ref h_mo_rowWay, .int mo_rowMany, .long mo_lowUp, .long mo_lowDown, .long mo_highUp, .long mo_highDown, .ref h_mo_quarters, .ref h_mo_begins, .ref h_mo_ends, .ref h_mo_rests, .ref h_mo_bestRow, .ref h_mo_lows, .ref h_mo_highs, .int (0 : Int32), .int mo_shiftX, .int mo_shiftY, .ref h_mo_acts, .ref h_mo_actMany, .ref h_mo_done, .ref h_mo_left, .ref h_mo_waited, .ref h_mo_ran, .int mo_hasRun, .ref h_mo_reached])), (h_mo_lows, cI κ 2 mo_lows_2), (h_mo_highs, cI κ 2 mo_highs_1)] [(0, .ref h_mo), (1, .int x1_3)] 7 [] := by
    intro n
    induction n with
    | zero => intro mo_highs_1 mo_lows_2 x1_3 h; exact False.elim h
    | succ nn_7 IH_7 =>
      intro mo_highs_1 mo_lows_2 x1_3 h
      have h : wpB_Model_shutAnew_7 post (wpL_Model_shutAnew_7 post nn_7) mo_highs_1 mo_lows_2 x1_3 := h
      unfold wpB_Model_shutAnew_7 at h
      refine z_iload C d_Model_shutAnew_7 1 rfl ?_
      refine z_k C d_Model_shutAnew_8 ?_
      refine z_icmp_ge C d_Model_shutAnew_9 (fun c_4 => ?_) (fun c_4 => ?_)
      · replace h := h.1 c_4
        exact ze_vret C ((0 : Int32), mo_lows_2, mo_highs_1) hr hlk rfl d_Model_shutAnew_34 h
      · replace h := h.2 c_4
        refine z_aload C d_Model_shutAnew_12 0 rfl ?_
        refine z_get C fl_Model_65 0 rfl rfl d_Model_shutAnew_13 ?_
        refine z_iload C d_Model_shutAnew_16 1 rfl ?_
        refine z_k C d_Model_shutAnew_17 ?_
        obtain ⟨g_5, eg_5⟩ : ∃ y : Nat → Int32, y = upd mo_lows_2 (x1_3.toNatClampNeg) (-20 : Int32) := ⟨_, rfl⟩
        refine z_iast C 1 rfl h.1 [(h_mo, .inr (10, [.int mo_middleX, .int mo_middleY, .int mo_linkA, .int mo_linkB, .int mo_flatness, .int mo_gap, .int mo_turn, .int mo_travel, .int mo_lift, .int mo_cool, .int mo_homeX, .int mo_homeY, .ref h_mo_bars, .int mo_barMany, .ref h_mo_seams, .int mo_seamMany, .ref h_mo_rowSeam, .ref h_mo_rowWay, .int mo_rowMany, .long mo_lowUp, .long mo_lowDown, .long mo_highUp, .long mo_highDown, .ref h_mo_quarters, .ref h_mo_begins, .ref h_mo_ends, .ref h_mo_rests, .ref h_mo_bestRow, .ref h_mo_lows, .ref h_mo_highs, .int (0 : Int32), .int mo_shiftX, .int mo_shiftY, .ref h_mo_acts, .ref h_mo_actMany, .ref h_mo_done, .ref h_mo_left, .ref h_mo_waited, .ref h_mo_ran, .int mo_hasRun, .ref h_mo_reached])), (h_mo_lows, cI κ 2 g_5), (h_mo_highs, cI κ 2 mo_highs_1)] (by rw [eg_5]; rfl) d_Model_shutAnew_19 ?_
        replace h := h.2 g_5 eg_5
        refine z_aload C d_Model_shutAnew_20 0 rfl ?_
        refine z_get C fl_Model_68 0 rfl rfl d_Model_shutAnew_21 ?_
        refine z_iload C d_Model_shutAnew_24 1 rfl ?_
        refine z_k C d_Model_shutAnew_25 ?_
        obtain ⟨g_6, eg_6⟩ : ∃ y : Nat → Int32, y = upd mo_highs_1 (x1_3.toNatClampNeg) (20 : Int32) := ⟨_, rfl⟩
        refine z_iast C 2 rfl h.1 [(h_mo, .inr (10, [.int mo_middleX, .int mo_middleY, .int mo_linkA, .int mo_linkB, .int mo_flatness, .int mo_gap, .int mo_turn, .int mo_travel, .int mo_lift, .int mo_cool, .int mo_homeX, .int mo_homeY, .ref h_mo_bars, .int mo_barMany, .ref h_mo_seams, .int mo_seamMany, .ref h_mo_rowSeam, .ref h_mo_rowWay, .int mo_rowMany, .long mo_lowUp, .long mo_lowDown, .long mo_highUp, .long mo_highDown, .ref h_mo_quarters, .ref h_mo_begins, .ref h_mo_ends, .ref h_mo_rests, .ref h_mo_bestRow, .ref h_mo_lows, .ref h_mo_highs, .int (0 : Int32), .int mo_shiftX, .int mo_shiftY, .ref h_mo_acts, .ref h_mo_actMany, .ref h_mo_done, .ref h_mo_left, .ref h_mo_waited, .ref h_mo_ran, .int mo_hasRun, .ref h_mo_reached])), (h_mo_lows, cI κ 2 g_5), (h_mo_highs, cI κ 2 g_6)] (by rw [eg_6]; rfl) d_Model_shutAnew_27 ?_
        replace h := h.2 g_6 eg_6
        obtain ⟨x1_7, ex1_7⟩ : ∃ y : Int32, y = x1_3 + (1 : Int32) := ⟨_, rfl⟩
        replace h := h x1_7 ex1_7
        refine z_iinc C [(1, .int x1_7), (0, .ref h_mo)] d_Model_shutAnew_28 (j := 1) rfl (by rw [ex1_7]; rfl) rfl rfl ?_
        refine z_goto C d_Model_shutAnew_31 ?_
        refine z_sub [1, 0] [(0, .ref h_mo), (1, .int x1_7)] rfl ?_
        exact IH_7 g_6 g_5 x1_7 h
  refine z_sub [1, 0] [(0, .ref h_mo), (1, .int (0 : Int32))] rfl ?_
  exact LP_7 n_7 mo_highs mo_lows (0 : Int32) h
def wp_Model_clear (mo_barMany : Int32) (mo_seamMany : Int32) (mo_rowMany : Int32) (mo_touchMany : Int32) (mo_lows : Nat → Int32) (mo_highs : Nat → Int32) (mo_actMany : Nat → Int32) (p0 : Int32) (post : Int32 → Int32 → Int32 → Int32 → Int32 → (Nat → Int32) → (Nat → Int32) → (Nat → Int32) → Prop) : Prop :=
  (((p0.toInt < 0 ∨ 4 < p0.toInt) → (post (-1 : Int32) mo_barMany mo_seamMany mo_rowMany mo_touchMany mo_lows mo_highs mo_actMany)) ∧ (p0 = (0 : Int32) → (post mo_seamMany mo_barMany (0 : Int32) (0 : Int32) mo_touchMany mo_lows mo_highs mo_actMany)) ∧ (p0 = (1 : Int32) → (post mo_barMany (0 : Int32) mo_seamMany mo_rowMany mo_touchMany mo_lows mo_highs mo_actMany)) ∧ (p0 = (2 : Int32) → (wp_Model_shutAnew mo_lows mo_highs (fun mo_touchMany_2 mo_lows_3 mo_highs_4 => (post mo_touchMany mo_barMany mo_seamMany mo_rowMany mo_touchMany_2 mo_lows_3 mo_highs_4 mo_actMany)))) ∧ (p0 = (3 : Int32) → (∀ x2_5 : Int32, x2_5 = (mo_actMany ((0 : Int32).toNatClampNeg)) + (mo_actMany ((1 : Int32).toNatClampNeg)) → (∀ g_6 : Nat → Int32, g_6 = upd mo_actMany ((0 : Int32).toNatClampNeg) (0 : Int32) → (∀ g_7 : Nat → Int32, g_7 = upd g_6 ((1 : Int32).toNatClampNeg) (0 : Int32) → (post x2_5 mo_barMany mo_seamMany mo_rowMany mo_touchMany mo_lows mo_highs g_7))))) ∧ (p0 = (4 : Int32) → (post mo_rowMany mo_barMany mo_seamMany (0 : Int32) mo_touchMany mo_lows mo_highs mo_actMany)))
abbrev rm_Model_clear : Room := { frames := 1, cells := 0, slots := 0, locals := 21 }
set_option maxHeartbeats 4000000 in
set_option maxRecDepth 100000 in
theorem c_Model_clear (l : Launch) (D : va_G) (κ : KT) (h_mo : Nat) (h_mo_bars : Nat) (h_mo_seams : Nat) (h_mo_rowSeam : Nat) (h_mo_rowWay : Nat) (h_mo_quarters : Nat) (h_mo_begins : Nat) (h_mo_ends : Nat) (h_mo_rests : Nat) (h_mo_bestRow : Nat) (h_mo_lows : Nat) (h_mo_highs : Nat) (h_mo_acts : Nat) (h_mo_actMany : Nat) (h_mo_done : Nat) (h_mo_left : Nat) (h_mo_waited : Nat) (h_mo_ran : Nat) (h_mo_reached : Nat) (mo_middleX : Int32) (mo_middleY : Int32) (mo_linkA : Int32) (mo_linkB : Int32) (mo_flatness : Int32) (mo_gap : Int32) (mo_turn : Int32) (mo_travel : Int32) (mo_lift : Int32) (mo_cool : Int32) (mo_homeX : Int32) (mo_homeY : Int32) (mo_barMany : Int32) (mo_seamMany : Int32) (mo_rowMany : Int32) (mo_lowUp : Int64) (mo_lowDown : Int64) (mo_highUp : Int64) (mo_highDown : Int64) (mo_touchMany : Int32) (mo_shiftX : Int32) (mo_shiftY : Int32) (mo_hasRun : Int32) (mo_lows : Nat → Int32) (mo_highs : Nat → Int32) (mo_actMany : Nat → Int32) (p0 : Int32) (sz : Nat) (post : Int32 → Int32 → Int32 → Int32 → Int32 → (Nat → Int32) → (Nat → Int32) → (Nat → Int32) → Prop) (h : wp_Model_clear mo_barMany mo_seamMany mo_rowMany mo_touchMany mo_lows mo_highs mo_actMany p0 post) : Met l y_Model_clear (wsG y_Model_clear b_Model_clear 3 (some .int)) rm_Model_clear (PE D κ [.ref h_mo, .int p0] [(h_mo, .inr (10, [.int mo_middleX, .int mo_middleY, .int mo_linkA, .int mo_linkB, .int mo_flatness, .int mo_gap, .int mo_turn, .int mo_travel, .int mo_lift, .int mo_cool, .int mo_homeX, .int mo_homeY, .ref h_mo_bars, .int mo_barMany, .ref h_mo_seams, .int mo_seamMany, .ref h_mo_rowSeam, .ref h_mo_rowWay, .int mo_rowMany, .long mo_lowUp, .long mo_lowDown, .long mo_highUp, .long mo_highDown, .ref h_mo_quarters, .ref h_mo_begins, .ref h_mo_ends, .ref h_mo_rests, .ref h_mo_bestRow, .ref h_mo_lows, .ref h_mo_highs, .int mo_touchMany, .int mo_shiftX, .int mo_shiftY, .ref h_mo_acts, .ref h_mo_actMany, .ref h_mo_done, .ref h_mo_left, .ref h_mo_waited, .ref h_mo_ran, .int mo_hasRun, .ref h_mo_reached])), (h_mo_lows, cI κ 2 mo_lows), (h_mo_highs, cI κ 2 mo_highs), (h_mo_actMany, cI κ 2 mo_actMany)] sz) (va_Qi (fun (r : Int32) (u : (Int32) × (Int32) × (Int32) × (Int32) × (Nat → Int32) × (Nat → Int32) × (Nat → Int32)) => post r u.1 u.2.1 u.2.2.1 u.2.2.2.1 u.2.2.2.2.1 u.2.2.2.2.2.1 u.2.2.2.2.2.2) (QB D [(h_mo, .inr (10, [.int mo_middleX, .int mo_middleY, .int mo_linkA, .int mo_linkB, .int mo_flatness, .int mo_gap, .int mo_turn, .int mo_travel, .int mo_lift, .int mo_cool, .int mo_homeX, .int mo_homeY, .ref h_mo_bars, .int mo_barMany, .ref h_mo_seams, .int mo_seamMany, .ref h_mo_rowSeam, .ref h_mo_rowWay, .int mo_rowMany, .long mo_lowUp, .long mo_lowDown, .long mo_highUp, .long mo_highDown, .ref h_mo_quarters, .ref h_mo_begins, .ref h_mo_ends, .ref h_mo_rests, .ref h_mo_bestRow, .ref h_mo_lows, .ref h_mo_highs, .int mo_touchMany, .int mo_shiftX, .int mo_shiftY, .ref h_mo_acts, .ref h_mo_actMany, .ref h_mo_done, .ref h_mo_left, .ref h_mo_waited, .ref h_mo_ran, .int mo_hasRun, .ref h_mo_reached])), (h_mo_lows, cI κ 2 mo_lows), (h_mo_highs, cI κ 2 mo_highs), (h_mo_actMany, cI κ 2 mo_actMany)] sz (fun (u : (Int32) × (Int32) × (Int32) × (Int32) × (Nat → Int32) × (Nat → Int32) × (Nat → Int32)) => [(h_mo, .inr (10, [.int mo_middleX, .int mo_middleY, .int mo_linkA, .int mo_linkB, .int mo_flatness, .int mo_gap, .int mo_turn, .int mo_travel, .int mo_lift, .int mo_cool, .int mo_homeX, .int mo_homeY, .ref h_mo_bars, .int u.1, .ref h_mo_seams, .int u.2.1, .ref h_mo_rowSeam, .ref h_mo_rowWay, .int u.2.2.1, .long mo_lowUp, .long mo_lowDown, .long mo_highUp, .long mo_highDown, .ref h_mo_quarters, .ref h_mo_begins, .ref h_mo_ends, .ref h_mo_rests, .ref h_mo_bestRow, .ref h_mo_lows, .ref h_mo_highs, .int u.2.2.2.1, .int mo_shiftX, .int mo_shiftY, .ref h_mo_acts, .ref h_mo_actMany, .ref h_mo_done, .ref h_mo_left, .ref h_mo_waited, .ref h_mo_ran, .int mo_hasRun, .ref h_mo_reached])), (h_mo_lows, cI κ 2 u.2.2.2.2.1), (h_mo_highs, cI κ 2 u.2.2.2.2.2.1), (h_mo_actMany, cI κ 2 u.2.2.2.2.2.2)])) (va_A [(h_mo, .inr (10, [.int mo_middleX, .int mo_middleY, .int mo_linkA, .int mo_linkB, .int mo_flatness, .int mo_gap, .int mo_turn, .int mo_travel, .int mo_lift, .int mo_cool, .int mo_homeX, .int mo_homeY, .ref h_mo_bars, .int mo_barMany, .ref h_mo_seams, .int mo_seamMany, .ref h_mo_rowSeam, .ref h_mo_rowWay, .int mo_rowMany, .long mo_lowUp, .long mo_lowDown, .long mo_highUp, .long mo_highDown, .ref h_mo_quarters, .ref h_mo_begins, .ref h_mo_ends, .ref h_mo_rests, .ref h_mo_bestRow, .ref h_mo_lows, .ref h_mo_highs, .int mo_touchMany, .int mo_shiftX, .int mo_shiftY, .ref h_mo_acts, .ref h_mo_actMany, .ref h_mo_done, .ref h_mo_left, .ref h_mo_waited, .ref h_mo_ran, .int mo_hasRun, .ref h_mo_reached])), (h_mo_lows, cI κ 2 mo_lows), (h_mo_highs, cI κ 2 mo_highs), (h_mo_actMany, cI κ 2 mo_actMany)] sz)) 0 0 (va_A [(h_mo, .inr (10, [.int mo_middleX, .int mo_middleY, .int mo_linkA, .int mo_linkB, .int mo_flatness, .int mo_gap, .int mo_turn, .int mo_travel, .int mo_lift, .int mo_cool, .int mo_homeX, .int mo_homeY, .ref h_mo_bars, .int mo_barMany, .ref h_mo_seams, .int mo_seamMany, .ref h_mo_rowSeam, .ref h_mo_rowWay, .int mo_rowMany, .long mo_lowUp, .long mo_lowDown, .long mo_highUp, .long mo_highDown, .ref h_mo_quarters, .ref h_mo_begins, .ref h_mo_ends, .ref h_mo_rests, .ref h_mo_bestRow, .ref h_mo_lows, .ref h_mo_highs, .int mo_touchMany, .int mo_shiftX, .int mo_shiftY, .ref h_mo_acts, .ref h_mo_actMany, .ref h_mo_done, .ref h_mo_left, .ref h_mo_waited, .ref h_mo_ran, .int mo_hasRun, .ref h_mo_reached])), (h_mo_lows, cI κ 2 mo_lows), (h_mo_highs, cI κ 2 mo_highs), (h_mo_actMany, cI κ 2 mo_actMany)] sz) := by
  refine ze_start [(0, .ref h_mo), (1, .int p0)] rfl (Nat.le_of_ble_eq_true rfl) rfl ?_
  intro p e s m args below meth c C hr hlk hnm hsz
  subst hsz
  unfold wp_Model_clear at h
  refine z_iload C d_Model_clear_0 1 rfl ?_
  rcases sw_c4 p0 with c_1 | c_1 | c_1 | c_1 | c_1 | c_1
  · replace h := h.1 c_1
    refine z_swOut C (tgt := 118) d_Model_clear_1 c_1 (by decide) ?_
    refine z_k C d_Model_clear_118 ?_
    exact ze_iret C (mo_barMany, mo_seamMany, mo_rowMany, mo_touchMany, mo_lows, mo_highs, mo_actMany) hr hlk rfl d_Model_clear_119 h
  · replace h := h.2.1 c_1
    refine z_swIn C (tgt := 36) d_Model_clear_1 (by rw [c_1]; decide) (by rw [c_1]; decide) (by rw [c_1]; rfl) (by decide) ?_
    refine z_aload C d_Model_clear_36 0 rfl ?_
    refine z_get C fl_Model_136 0 rfl rfl d_Model_clear_37 ?_
    refine z_istore C [(2, .int mo_seamMany), (0, .ref h_mo), (1, .int p0)] d_Model_clear_40 rfl rfl ?_
    refine z_aload C d_Model_clear_41 1 rfl ?_
    refine z_k C d_Model_clear_42 ?_
    refine z_put C fp_Model_136 0 rfl rfl rfl rfl [(h_mo, .inr (10, [.int mo_middleX, .int mo_middleY, .int mo_linkA, .int mo_linkB, .int mo_flatness, .int mo_gap, .int mo_turn, .int mo_travel, .int mo_lift, .int mo_cool, .int mo_homeX, .int mo_homeY, .ref h_mo_bars, .int mo_barMany, .ref h_mo_seams, .int (0 : Int32), .ref h_mo_rowSeam, .ref h_mo_rowWay, .int mo_rowMany, .long mo_lowUp, .long mo_lowDown, .long mo_highUp, .long mo_highDown, .ref h_mo_quarters, .ref h_mo_begins, .ref h_mo_ends, .ref h_mo_rests, .ref h_mo_bestRow, .ref h_mo_lows, .ref h_mo_highs, .int mo_touchMany, .int mo_shiftX, .int mo_shiftY, .ref h_mo_acts, .ref h_mo_actMany, .ref h_mo_done, .ref h_mo_left, .ref h_mo_waited, .ref h_mo_ran, .int mo_hasRun, .ref h_mo_reached])), (h_mo_lows, cI κ 2 mo_lows), (h_mo_highs, cI κ 2 mo_highs), (h_mo_actMany, cI κ 2 mo_actMany)] rfl d_Model_clear_43 ?_
    refine z_aload C d_Model_clear_46 1 rfl ?_
    refine z_k C d_Model_clear_47 ?_
    refine z_put C fp_Model_139 0 rfl rfl rfl rfl [(h_mo, .inr (10, [.int mo_middleX, .int mo_middleY, .int mo_linkA, .int mo_linkB, .int mo_flatness, .int mo_gap, .int mo_turn, .int mo_travel, .int mo_lift, .int mo_cool, .int mo_homeX, .int mo_homeY, .ref h_mo_bars, .int mo_barMany, .ref h_mo_seams, .int (0 : Int32), .ref h_mo_rowSeam, .ref h_mo_rowWay, .int (0 : Int32), .long mo_lowUp, .long mo_lowDown, .long mo_highUp, .long mo_highDown, .ref h_mo_quarters, .ref h_mo_begins, .ref h_mo_ends, .ref h_mo_rests, .ref h_mo_bestRow, .ref h_mo_lows, .ref h_mo_highs, .int mo_touchMany, .int mo_shiftX, .int mo_shiftY, .ref h_mo_acts, .ref h_mo_actMany, .ref h_mo_done, .ref h_mo_left, .ref h_mo_waited, .ref h_mo_ran, .int mo_hasRun, .ref h_mo_reached])), (h_mo_lows, cI κ 2 mo_lows), (h_mo_highs, cI κ 2 mo_highs), (h_mo_actMany, cI κ 2 mo_actMany)] rfl d_Model_clear_48 ?_
    refine z_iload C d_Model_clear_51 0 rfl ?_
    exact ze_iret C (mo_barMany, (0 : Int32), (0 : Int32), mo_touchMany, mo_lows, mo_highs, mo_actMany) hr hlk rfl d_Model_clear_52 h
  · replace h := h.2.2.1 c_1
    refine z_swIn C (tgt := 53) d_Model_clear_1 (by rw [c_1]; decide) (by rw [c_1]; decide) (by rw [c_1]; rfl) (by decide) ?_
    refine z_aload C d_Model_clear_53 0 rfl ?_
    refine z_get C fl_Model_127 0 rfl rfl d_Model_clear_54 ?_
    refine z_istore C [(2, .int mo_barMany), (0, .ref h_mo), (1, .int p0)] d_Model_clear_57 rfl rfl ?_
    refine z_aload C d_Model_clear_58 1 rfl ?_
    refine z_k C d_Model_clear_59 ?_
    refine z_put C fp_Model_127 0 rfl rfl rfl rfl [(h_mo, .inr (10, [.int mo_middleX, .int mo_middleY, .int mo_linkA, .int mo_linkB, .int mo_flatness, .int mo_gap, .int mo_turn, .int mo_travel, .int mo_lift, .int mo_cool, .int mo_homeX, .int mo_homeY, .ref h_mo_bars, .int (0 : Int32), .ref h_mo_seams, .int mo_seamMany, .ref h_mo_rowSeam, .ref h_mo_rowWay, .int mo_rowMany, .long mo_lowUp, .long mo_lowDown, .long mo_highUp, .long mo_highDown, .ref h_mo_quarters, .ref h_mo_begins, .ref h_mo_ends, .ref h_mo_rests, .ref h_mo_bestRow, .ref h_mo_lows, .ref h_mo_highs, .int mo_touchMany, .int mo_shiftX, .int mo_shiftY, .ref h_mo_acts, .ref h_mo_actMany, .ref h_mo_done, .ref h_mo_left, .ref h_mo_waited, .ref h_mo_ran, .int mo_hasRun, .ref h_mo_reached])), (h_mo_lows, cI κ 2 mo_lows), (h_mo_highs, cI κ 2 mo_highs), (h_mo_actMany, cI κ 2 mo_actMany)] rfl d_Model_clear_60 ?_
    refine z_iload C d_Model_clear_63 0 rfl ?_
    exact ze_iret C ((0 : Int32), mo_seamMany, mo_rowMany, mo_touchMany, mo_lows, mo_highs, mo_actMany) hr hlk rfl d_Model_clear_64 h
  · replace h := h.2.2.2.1 c_1
    refine z_swIn C (tgt := 65) d_Model_clear_1 (by rw [c_1]; decide) (by rw [c_1]; decide) (by rw [c_1]; rfl) (by decide) ?_
    refine z_aload C d_Model_clear_65 0 rfl ?_
    refine z_get C fl_Model_142 0 rfl rfl d_Model_clear_66 ?_
    refine z_istore C [(2, .int mo_touchMany), (0, .ref h_mo), (1, .int p0)] d_Model_clear_69 rfl rfl ?_
    refine z_aload C d_Model_clear_70 1 rfl ?_
    refine z_vev C (rest := []) (wr := [(h_mo_actMany, cI κ 2 mo_actMany)]) (fun sz => c_Model_shutAnew l D κ h_mo h_mo_bars h_mo_seams h_mo_rowSeam h_mo_rowWay h_mo_quarters h_mo_begins h_mo_ends h_mo_rests h_mo_bestRow h_mo_lows h_mo_highs h_mo_acts h_mo_actMany h_mo_done h_mo_left h_mo_waited h_mo_ran h_mo_reached mo_middleX mo_middleY mo_linkA mo_linkB mo_flatness mo_gap mo_turn mo_travel mo_lift mo_cool mo_homeX mo_homeY mo_barMany mo_seamMany mo_rowMany mo_lowUp mo_lowDown mo_highUp mo_highDown mo_touchMany mo_shiftX mo_shiftY mo_hasRun mo_lows mo_highs sz _ h) cv_Model_93 ⟨rfl, rfl⟩ ⟨⟨Nat.le_of_ble_eq_true rfl, Nat.le_of_ble_eq_true rfl⟩, Nat.le_of_ble_eq_true rfl, Nat.le_of_ble_eq_true rfl⟩ 0 rfl [0, 1, 2] [3] rfl rfl rfl (fun u => [(h_mo, .inr (10, [.int mo_middleX, .int mo_middleY, .int mo_linkA, .int mo_linkB, .int mo_flatness, .int mo_gap, .int mo_turn, .int mo_travel, .int mo_lift, .int mo_cool, .int mo_homeX, .int mo_homeY, .ref h_mo_bars, .int mo_barMany, .ref h_mo_seams, .int mo_seamMany, .ref h_mo_rowSeam, .ref h_mo_rowWay, .int mo_rowMany, .long mo_lowUp, .long mo_lowDown, .long mo_highUp, .long mo_highDown, .ref h_mo_quarters, .ref h_mo_begins, .ref h_mo_ends, .ref h_mo_rests, .ref h_mo_bestRow, .ref h_mo_lows, .ref h_mo_highs, .int u.1, .int mo_shiftX, .int mo_shiftY, .ref h_mo_acts, .ref h_mo_actMany, .ref h_mo_done, .ref h_mo_left, .ref h_mo_waited, .ref h_mo_ran, .int mo_hasRun, .ref h_mo_reached])), (h_mo_lows, cI κ 2 u.2.1), (h_mo_highs, cI κ 2 u.2.2), (h_mo_actMany, cI κ 2 mo_actMany)]) [1, 2, 3, 0] rfl (fun _ => rfl) rfl rfl (Nat.le_of_ble_eq_true rfl) d_Model_clear_71 (fun u_4 h => ?_)
    obtain ⟨mo_touchMany_2, mo_lows_3, mo_highs_4⟩ := u_4
    (try dsimp only at h); (try dsimp only)
    refine z_iload C d_Model_clear_74 0 rfl ?_
    exact ze_iret C (mo_barMany, mo_seamMany, mo_rowMany, mo_touchMany_2, mo_lows_3, mo_highs_4, mo_actMany) hr hlk rfl d_Model_clear_75 h
  · replace h := h.2.2.2.2.1 c_1
    refine z_swIn C (tgt := 76) d_Model_clear_1 (by rw [c_1]; decide) (by rw [c_1]; decide) (by rw [c_1]; rfl) (by decide) ?_
    refine z_aload C d_Model_clear_76 0 rfl ?_
    refine z_get C fl_Model_74 0 rfl rfl d_Model_clear_77 ?_
    refine z_k C d_Model_clear_80 ?_
    refine z_iald C 3 rfl (by unfold vp_in; decide) d_Model_clear_81 ?_
    refine z_aload C d_Model_clear_82 0 rfl ?_
    refine z_get C fl_Model_74 0 rfl rfl d_Model_clear_83 ?_
    refine z_k C d_Model_clear_86 ?_
    refine z_iald C 3 rfl (by unfold vp_in; decide) d_Model_clear_87 ?_
    refine z_iadd C d_Model_clear_88 ?_
    refine z_topi (fun x2_5 ex2_5 => ?_)
    replace h := h x2_5 ex2_5
    refine z_istore C [(2, .int x2_5), (0, .ref h_mo), (1, .int p0)] d_Model_clear_89 rfl rfl ?_
    refine z_aload C d_Model_clear_90 1 rfl ?_
    refine z_get C fl_Model_74 0 rfl rfl d_Model_clear_91 ?_
    refine z_k C d_Model_clear_94 ?_
    refine z_k C d_Model_clear_95 ?_
    obtain ⟨g_6, eg_6⟩ : ∃ y : Nat → Int32, y = upd mo_actMany ((0 : Int32).toNatClampNeg) (0 : Int32) := ⟨_, rfl⟩
    refine z_iast C 3 rfl (by unfold vp_in; decide) [(h_mo, .inr (10, [.int mo_middleX, .int mo_middleY, .int mo_linkA, .int mo_linkB, .int mo_flatness, .int mo_gap, .int mo_turn, .int mo_travel, .int mo_lift, .int mo_cool, .int mo_homeX, .int mo_homeY, .ref h_mo_bars, .int mo_barMany, .ref h_mo_seams, .int mo_seamMany, .ref h_mo_rowSeam, .ref h_mo_rowWay, .int mo_rowMany, .long mo_lowUp, .long mo_lowDown, .long mo_highUp, .long mo_highDown, .ref h_mo_quarters, .ref h_mo_begins, .ref h_mo_ends, .ref h_mo_rests, .ref h_mo_bestRow, .ref h_mo_lows, .ref h_mo_highs, .int mo_touchMany, .int mo_shiftX, .int mo_shiftY, .ref h_mo_acts, .ref h_mo_actMany, .ref h_mo_done, .ref h_mo_left, .ref h_mo_waited, .ref h_mo_ran, .int mo_hasRun, .ref h_mo_reached])), (h_mo_lows, cI κ 2 mo_lows), (h_mo_highs, cI κ 2 mo_highs), (h_mo_actMany, cI κ 2 g_6)] (by rw [eg_6]; rfl) d_Model_clear_96 ?_
    replace h := h g_6 eg_6
    refine z_aload C d_Model_clear_97 1 rfl ?_
    refine z_get C fl_Model_74 0 rfl rfl d_Model_clear_98 ?_
    refine z_k C d_Model_clear_101 ?_
    refine z_k C d_Model_clear_102 ?_
    obtain ⟨g_7, eg_7⟩ : ∃ y : Nat → Int32, y = upd g_6 ((1 : Int32).toNatClampNeg) (0 : Int32) := ⟨_, rfl⟩
    refine z_iast C 3 rfl (by unfold vp_in; decide) [(h_mo, .inr (10, [.int mo_middleX, .int mo_middleY, .int mo_linkA, .int mo_linkB, .int mo_flatness, .int mo_gap, .int mo_turn, .int mo_travel, .int mo_lift, .int mo_cool, .int mo_homeX, .int mo_homeY, .ref h_mo_bars, .int mo_barMany, .ref h_mo_seams, .int mo_seamMany, .ref h_mo_rowSeam, .ref h_mo_rowWay, .int mo_rowMany, .long mo_lowUp, .long mo_lowDown, .long mo_highUp, .long mo_highDown, .ref h_mo_quarters, .ref h_mo_begins, .ref h_mo_ends, .ref h_mo_rests, .ref h_mo_bestRow, .ref h_mo_lows, .ref h_mo_highs, .int mo_touchMany, .int mo_shiftX, .int mo_shiftY, .ref h_mo_acts, .ref h_mo_actMany, .ref h_mo_done, .ref h_mo_left, .ref h_mo_waited, .ref h_mo_ran, .int mo_hasRun, .ref h_mo_reached])), (h_mo_lows, cI κ 2 mo_lows), (h_mo_highs, cI κ 2 mo_highs), (h_mo_actMany, cI κ 2 g_7)] (by rw [eg_7]; rfl) d_Model_clear_103 ?_
    replace h := h g_7 eg_7
    refine z_iload C d_Model_clear_104 0 rfl ?_
    exact ze_iret C (mo_barMany, mo_seamMany, mo_rowMany, mo_touchMany, mo_lows, mo_highs, g_7) hr hlk rfl d_Model_clear_105 h
  · replace h := h.2.2.2.2.2 c_1
    refine z_swIn C (tgt := 106) d_Model_clear_1 (by rw [c_1]; decide) (by rw [c_1]; decide) (by rw [c_1]; rfl) (by decide) ?_
    refine z_aload C d_Model_clear_106 0 rfl ?_
    refine z_get C fl_Model_139 0 rfl rfl d_Model_clear_107 ?_
    refine z_istore C [(2, .int mo_rowMany), (0, .ref h_mo), (1, .int p0)] d_Model_clear_110 rfl rfl ?_
    refine z_aload C d_Model_clear_111 1 rfl ?_
    refine z_k C d_Model_clear_112 ?_
    refine z_put C fp_Model_139 0 rfl rfl rfl rfl [(h_mo, .inr (10, [.int mo_middleX, .int mo_middleY, .int mo_linkA, .int mo_linkB, .int mo_flatness, .int mo_gap, .int mo_turn, .int mo_travel, .int mo_lift, .int mo_cool, .int mo_homeX, .int mo_homeY, .ref h_mo_bars, .int mo_barMany, .ref h_mo_seams, .int mo_seamMany, .ref h_mo_rowSeam, .ref h_mo_rowWay, .int (0 : Int32), .long mo_lowUp, .long mo_lowDown, .long mo_highUp, .long mo_highDown, .ref h_mo_quarters, .ref h_mo_begins, .ref h_mo_ends, .ref h_mo_rests, .ref h_mo_bestRow, .ref h_mo_lows, .ref h_mo_highs, .int mo_touchMany, .int mo_shiftX, .int mo_shiftY, .ref h_mo_acts, .ref h_mo_actMany, .ref h_mo_done, .ref h_mo_left, .ref h_mo_waited, .ref h_mo_ran, .int mo_hasRun, .ref h_mo_reached])), (h_mo_lows, cI κ 2 mo_lows), (h_mo_highs, cI κ 2 mo_highs), (h_mo_actMany, cI κ 2 mo_actMany)] rfl d_Model_clear_113 ?_
    refine z_iload C d_Model_clear_116 0 rfl ?_
    exact ze_iret C (mo_barMany, mo_seamMany, (0 : Int32), mo_touchMany, mo_lows, mo_highs, mo_actMany) hr hlk rfl d_Model_clear_117 h
def wp_Model_isSeam (mo_seamMany : Int32) (p0 : Int32) (post : Int32 → Prop) : Prop :=
  (wp_Model_in p0.toInt64 (0 : Int64) ((mo_seamMany - (1 : Int32)).toInt64) (fun r_1 => ((r_1 = 0 ∨ r_1 = 1) ∧ (post r_1))))
abbrev rm_Model_isSeam : Room := { frames := 1, cells := 0, slots := 0, locals := 25 }
set_option maxHeartbeats 4000000 in
set_option maxRecDepth 100000 in
theorem c_Model_isSeam (l : Launch) (D : va_G) (κ : KT) (h_mo : Nat) (h_mo_bars : Nat) (h_mo_seams : Nat) (h_mo_rowSeam : Nat) (h_mo_rowWay : Nat) (h_mo_quarters : Nat) (h_mo_begins : Nat) (h_mo_ends : Nat) (h_mo_rests : Nat) (h_mo_bestRow : Nat) (h_mo_lows : Nat) (h_mo_highs : Nat) (h_mo_acts : Nat) (h_mo_actMany : Nat) (h_mo_done : Nat) (h_mo_left : Nat) (h_mo_waited : Nat) (h_mo_ran : Nat) (h_mo_reached : Nat) (mo_middleX : Int32) (mo_middleY : Int32) (mo_linkA : Int32) (mo_linkB : Int32) (mo_flatness : Int32) (mo_gap : Int32) (mo_turn : Int32) (mo_travel : Int32) (mo_lift : Int32) (mo_cool : Int32) (mo_homeX : Int32) (mo_homeY : Int32) (mo_barMany : Int32) (mo_seamMany : Int32) (mo_rowMany : Int32) (mo_lowUp : Int64) (mo_lowDown : Int64) (mo_highUp : Int64) (mo_highDown : Int64) (mo_touchMany : Int32) (mo_shiftX : Int32) (mo_shiftY : Int32) (mo_hasRun : Int32) (p0 : Int32) (post : Int32 → Prop) (h : wp_Model_isSeam mo_seamMany p0 post) : Met l y_Model_isSeam (wsG y_Model_isSeam b_Model_isSeam 2 (some .boolean)) rm_Model_isSeam (PP D κ [.ref h_mo, .int p0] [(h_mo, .inr (10, [.int mo_middleX, .int mo_middleY, .int mo_linkA, .int mo_linkB, .int mo_flatness, .int mo_gap, .int mo_turn, .int mo_travel, .int mo_lift, .int mo_cool, .int mo_homeX, .int mo_homeY, .ref h_mo_bars, .int mo_barMany, .ref h_mo_seams, .int mo_seamMany, .ref h_mo_rowSeam, .ref h_mo_rowWay, .int mo_rowMany, .long mo_lowUp, .long mo_lowDown, .long mo_highUp, .long mo_highDown, .ref h_mo_quarters, .ref h_mo_begins, .ref h_mo_ends, .ref h_mo_rests, .ref h_mo_bestRow, .ref h_mo_lows, .ref h_mo_highs, .int mo_touchMany, .int mo_shiftX, .int mo_shiftY, .ref h_mo_acts, .ref h_mo_actMany, .ref h_mo_done, .ref h_mo_left, .ref h_mo_waited, .ref h_mo_ran, .int mo_hasRun, .ref h_mo_reached]))]) (vp_Si post) 0 0 (fun _ => False) := by
  refine zp_start [(0, .ref h_mo), (1, .int p0)] rfl (Nat.le_of_ble_eq_true rfl) rfl ?_
  intro p e s m args below meth c C hr hlk
  unfold wp_Model_isSeam at h
  refine z_iload C d_Model_isSeam_0 1 rfl ?_
  refine z_i2l C d_Model_isSeam_1 ?_
  refine z_lk C d_Model_isSeam_2 ?_
  refine z_aload C d_Model_isSeam_3 0 rfl ?_
  refine z_get C fl_Model_136 0 rfl rfl d_Model_isSeam_4 ?_
  refine z_k C d_Model_isSeam_7 ?_
  refine z_isub C d_Model_isSeam_8 ?_
  refine z_i2l C d_Model_isSeam_9 ?_
  refine z_spi C (rest := []) (c_Model_in l D κ p0.toInt64 (0 : Int64) ((mo_seamMany - (1 : Int32)).toInt64) _ h) cs_Model_100 ⟨rfl, rfl⟩ ⟨⟨Nat.le_of_ble_eq_true rfl, Nat.le_of_ble_eq_true rfl⟩, Nat.le_of_ble_eq_true rfl, Nat.le_of_ble_eq_true rfl⟩ [] rfl rfl rfl (Nat.le_of_ble_eq_true rfl) d_Model_isSeam_10 (fun r_1 h => ?_)
  exact zp_zret C hr hlk h.1 d_Model_isSeam_13 h.2
def wp_Model_placeOf_j100_5 (mo_middleX : Int32) (mo_middleY : Int32) (mo_shiftX : Int32) (mo_shiftY : Int32) (p3 : Int32) (post : Int32 → Prop) (w_3 : Int32) (w_4 : Int32) : Prop :=
  ((¬ p3 = 0 → (post ((mo_middleY + w_4) + mo_shiftY))) ∧ (p3 = 0 → (post ((mo_middleX + w_3) + mo_shiftX))))
def wp_Model_placeOf_j65_8 (mo_middleX : Int32) (mo_middleY : Int32) (mo_shiftX : Int32) (mo_shiftY : Int32) (p2 : Int32) (p3 : Int32) (post : Int32 → Prop) (x5_1 : Int32) (x6_2 : Int32) (w_3 : Int32) : Prop :=
  ((¬ p2 = 0 → ((¬ p2 = (1 : Int32) → ((¬ p2 = (2 : Int32) → (wp_Model_placeOf_j100_5 mo_middleX mo_middleY mo_shiftX mo_shiftY p3 post w_3 (-x5_1))) ∧ (p2 = (2 : Int32) → (wp_Model_placeOf_j100_5 mo_middleX mo_middleY mo_shiftX mo_shiftY p3 post w_3 (-x6_2))))) ∧ (p2 = (1 : Int32) → (wp_Model_placeOf_j100_5 mo_middleX mo_middleY mo_shiftX mo_shiftY p3 post w_3 x5_1)))) ∧ (p2 = 0 → (wp_Model_placeOf_j100_5 mo_middleX mo_middleY mo_shiftX mo_shiftY p3 post w_3 x6_2)))
def wp_Model_placeOf (mo_middleX : Int32) (mo_middleY : Int32) (mo_shiftX : Int32) (mo_shiftY : Int32) (mo_seams : Nat → Int32) (p0 : Int32) (p1 : Int32) (p2 : Int32) (p3 : Int32) (post : Int32 → Prop) : Prop :=
  (vp_in (((6 : Int32) * p0) + ((2 : Int32) * p1)) 48 ∧ (∀ x5_1 : Int32, x5_1 = mo_seams ((((6 : Int32) * p0) + ((2 : Int32) * p1)).toNatClampNeg) → (vp_in ((((6 : Int32) * p0) + ((2 : Int32) * p1)) + (1 : Int32)) 48 ∧ (∀ x6_2 : Int32, x6_2 = mo_seams (((((6 : Int32) * p0) + ((2 : Int32) * p1)) + (1 : Int32)).toNatClampNeg) → ((¬ p2 = 0 → ((¬ p2 = (1 : Int32) → ((¬ p2 = (2 : Int32) → (wp_Model_placeOf_j65_8 mo_middleX mo_middleY mo_shiftX mo_shiftY p2 p3 post x5_1 x6_2 x6_2)) ∧ (p2 = (2 : Int32) → (wp_Model_placeOf_j65_8 mo_middleX mo_middleY mo_shiftX mo_shiftY p2 p3 post x5_1 x6_2 (-x5_1))))) ∧ (p2 = (1 : Int32) → (wp_Model_placeOf_j65_8 mo_middleX mo_middleY mo_shiftX mo_shiftY p2 p3 post x5_1 x6_2 (-x6_2))))) ∧ (p2 = 0 → (wp_Model_placeOf_j65_8 mo_middleX mo_middleY mo_shiftX mo_shiftY p2 p3 post x5_1 x6_2 x5_1)))))))
abbrev rm_Model_placeOf : Room := { frames := 0, cells := 0, slots := 0, locals := 0 }
set_option maxHeartbeats 4000000 in
set_option maxRecDepth 100000 in
theorem c_Model_placeOf (l : Launch) (D : va_G) (κ : KT) (h_mo : Nat) (h_mo_bars : Nat) (h_mo_seams : Nat) (h_mo_rowSeam : Nat) (h_mo_rowWay : Nat) (h_mo_quarters : Nat) (h_mo_begins : Nat) (h_mo_ends : Nat) (h_mo_rests : Nat) (h_mo_bestRow : Nat) (h_mo_lows : Nat) (h_mo_highs : Nat) (h_mo_acts : Nat) (h_mo_actMany : Nat) (h_mo_done : Nat) (h_mo_left : Nat) (h_mo_waited : Nat) (h_mo_ran : Nat) (h_mo_reached : Nat) (mo_middleX : Int32) (mo_middleY : Int32) (mo_linkA : Int32) (mo_linkB : Int32) (mo_flatness : Int32) (mo_gap : Int32) (mo_turn : Int32) (mo_travel : Int32) (mo_lift : Int32) (mo_cool : Int32) (mo_homeX : Int32) (mo_homeY : Int32) (mo_barMany : Int32) (mo_seamMany : Int32) (mo_rowMany : Int32) (mo_lowUp : Int64) (mo_lowDown : Int64) (mo_highUp : Int64) (mo_highDown : Int64) (mo_touchMany : Int32) (mo_shiftX : Int32) (mo_shiftY : Int32) (mo_hasRun : Int32) (mo_seams : Nat → Int32) (p0 : Int32) (p1 : Int32) (p2 : Int32) (p3 : Int32) (post : Int32 → Prop) (h : wp_Model_placeOf mo_middleX mo_middleY mo_shiftX mo_shiftY mo_seams p0 p1 p2 p3 post) : Met l y_Model_placeOf (wsG y_Model_placeOf b_Model_placeOf 9 (some .int)) rm_Model_placeOf (PP D κ [.ref h_mo, .int p0, .int p1, .int p2, .int p3] [(h_mo, .inr (10, [.int mo_middleX, .int mo_middleY, .int mo_linkA, .int mo_linkB, .int mo_flatness, .int mo_gap, .int mo_turn, .int mo_travel, .int mo_lift, .int mo_cool, .int mo_homeX, .int mo_homeY, .ref h_mo_bars, .int mo_barMany, .ref h_mo_seams, .int mo_seamMany, .ref h_mo_rowSeam, .ref h_mo_rowWay, .int mo_rowMany, .long mo_lowUp, .long mo_lowDown, .long mo_highUp, .long mo_highDown, .ref h_mo_quarters, .ref h_mo_begins, .ref h_mo_ends, .ref h_mo_rests, .ref h_mo_bestRow, .ref h_mo_lows, .ref h_mo_highs, .int mo_touchMany, .int mo_shiftX, .int mo_shiftY, .ref h_mo_acts, .ref h_mo_actMany, .ref h_mo_done, .ref h_mo_left, .ref h_mo_waited, .ref h_mo_ran, .int mo_hasRun, .ref h_mo_reached])), (h_mo_seams, cI κ 48 mo_seams)]) (vp_Si post) 0 0 (fun _ => False) := by
  refine zp_start [(0, .ref h_mo), (1, .int p0), (2, .int p1), (3, .int p2), (4, .int p3)] rfl (Nat.le_of_ble_eq_true rfl) rfl ?_
  intro p e s m args below meth c C hr hlk
  unfold wp_Model_placeOf at h
  refine z_aload C d_Model_placeOf_0 0 rfl ?_
  refine z_get C fl_Model_41 0 rfl rfl d_Model_placeOf_1 ?_
  refine z_k C d_Model_placeOf_4 ?_
  refine z_iload C d_Model_placeOf_6 1 rfl ?_
  refine z_imul C d_Model_placeOf_7 ?_
  refine z_k C d_Model_placeOf_8 ?_
  refine z_iload C d_Model_placeOf_9 2 rfl ?_
  refine z_imul C d_Model_placeOf_10 ?_
  refine z_iadd C d_Model_placeOf_11 ?_
  refine z_iald C 1 rfl h.1 d_Model_placeOf_12 ?_
  replace h := h.2
  refine z_topi (fun x5_1 ex5_1 => ?_)
  replace h := h x5_1 ex5_1
  refine z_istore C [(5, .int x5_1), (0, .ref h_mo), (1, .int p0), (2, .int p1), (3, .int p2), (4, .int p3)] d_Model_placeOf_13 rfl rfl ?_
  refine z_aload C d_Model_placeOf_15 1 rfl ?_
  refine z_get C fl_Model_41 0 rfl rfl d_Model_placeOf_16 ?_
  refine z_k C d_Model_placeOf_19 ?_
  refine z_iload C d_Model_placeOf_21 2 rfl ?_
  refine z_imul C d_Model_placeOf_22 ?_
  refine z_k C d_Model_placeOf_23 ?_
  refine z_iload C d_Model_placeOf_24 3 rfl ?_
  refine z_imul C d_Model_placeOf_25 ?_
  refine z_iadd C d_Model_placeOf_26 ?_
  refine z_k C d_Model_placeOf_27 ?_
  refine z_iadd C d_Model_placeOf_28 ?_
  refine z_iald C 1 rfl h.1 d_Model_placeOf_29 ?_
  replace h := h.2
  refine z_topi (fun x6_2 ex6_2 => ?_)
  replace h := h x6_2 ex6_2
  refine z_istore C [(6, .int x6_2), (5, .int x5_1), (0, .ref h_mo), (1, .int p0), (2, .int p1), (3, .int p2), (4, .int p3)] d_Model_placeOf_30 rfl rfl ?_
  refine z_iload C d_Model_placeOf_32 5 rfl ?_
  have J_65 : ∀ (w_3 : Int32), wp_Model_placeOf_j65_8 mo_middleX mo_middleY mo_shiftX mo_shiftY p2 p3 post x5_1 x6_2 w_3 → Zw p l e rm_Model_placeOf s m args below meth c 0 0 (MQ below (vp_Si post) args s 0 0 (fun _ => False)) D 9 none [(h_mo, .inr (10, [.int mo_middleX, .int mo_middleY, .int mo_linkA, .int mo_linkB, .int mo_flatness, .int mo_gap, .int mo_turn, .int mo_travel, .int mo_lift, .int mo_cool, .int mo_homeX, .int mo_homeY, .ref h_mo_bars, .int mo_barMany, .ref h_mo_seams, .int mo_seamMany, .ref h_mo_rowSeam, .ref h_mo_rowWay, .int mo_rowMany, .long mo_lowUp, .long mo_lowDown, .long mo_highUp, .long mo_highDown, .ref h_mo_quarters, .ref h_mo_begins, .ref h_mo_ends, .ref h_mo_rests, .ref h_mo_bestRow, .ref h_mo_lows, .ref h_mo_highs, .int mo_touchMany, .int mo_shiftX, .int mo_shiftY, .ref h_mo_acts, .ref h_mo_actMany, .ref h_mo_done, .ref h_mo_left, .ref h_mo_waited, .ref h_mo_ran, .int mo_hasRun, .ref h_mo_reached])), (h_mo_seams, cI κ 48 mo_seams)] [(0, .ref h_mo), (3, .int p2), (4, .int p3), (5, .int x5_1), (6, .int x6_2)] 65 [.int w_3] := by
    intro w_3 h
    unfold wp_Model_placeOf_j65_8 at h
    refine z_istore C [(7, .int w_3), (0, .ref h_mo), (3, .int p2), (4, .int p3), (5, .int x5_1), (6, .int x6_2)] d_Model_placeOf_65 rfl rfl ?_
    refine z_iload C d_Model_placeOf_67 2 rfl ?_
    have J_100 : ∀ (w_4 : Int32), wp_Model_placeOf_j100_5 mo_middleX mo_middleY mo_shiftX mo_shiftY p3 post w_3 w_4 → Zw p l e rm_Model_placeOf s m args below meth c 0 0 (MQ below (vp_Si post) args s 0 0 (fun _ => False)) D 9 none [(h_mo, .inr (10, [.int mo_middleX, .int mo_middleY, .int mo_linkA, .int mo_linkB, .int mo_flatness, .int mo_gap, .int mo_turn, .int mo_travel, .int mo_lift, .int mo_cool, .int mo_homeX, .int mo_homeY, .ref h_mo_bars, .int mo_barMany, .ref h_mo_seams, .int mo_seamMany, .ref h_mo_rowSeam, .ref h_mo_rowWay, .int mo_rowMany, .long mo_lowUp, .long mo_lowDown, .long mo_highUp, .long mo_highDown, .ref h_mo_quarters, .ref h_mo_begins, .ref h_mo_ends, .ref h_mo_rests, .ref h_mo_bestRow, .ref h_mo_lows, .ref h_mo_highs, .int mo_touchMany, .int mo_shiftX, .int mo_shiftY, .ref h_mo_acts, .ref h_mo_actMany, .ref h_mo_done, .ref h_mo_left, .ref h_mo_waited, .ref h_mo_ran, .int mo_hasRun, .ref h_mo_reached])), (h_mo_seams, cI κ 48 mo_seams)] [(0, .ref h_mo), (4, .int p3), (7, .int w_3)] 100 [.int w_4] := by
      intro w_4 h
      unfold wp_Model_placeOf_j100_5 at h
      refine z_istore C [(8, .int w_4), (0, .ref h_mo), (4, .int p3), (7, .int w_3)] d_Model_placeOf_100 rfl rfl ?_
      refine z_iload C d_Model_placeOf_102 2 rfl ?_
      refine z_if_ne C d_Model_placeOf_104 (fun c_5 => ?_) (fun c_5 => ?_)
      · replace h := h.1 c_5
        refine z_aload C d_Model_placeOf_122 1 rfl ?_
        refine z_get C fl_Model_107 0 rfl rfl d_Model_placeOf_123 ?_
        refine z_iload C d_Model_placeOf_126 0 rfl ?_
        refine z_iadd C d_Model_placeOf_128 ?_
        refine z_aload C d_Model_placeOf_129 1 rfl ?_
        refine z_get C fl_Model_148 0 rfl rfl d_Model_placeOf_130 ?_
        refine z_iadd C d_Model_placeOf_133 ?_
        exact zp_iret C hr hlk d_Model_placeOf_134 h
      · replace h := h.2 c_5
        refine z_aload C d_Model_placeOf_107 1 rfl ?_
        refine z_get C fl_Model_104 0 rfl rfl d_Model_placeOf_108 ?_
        refine z_iload C d_Model_placeOf_111 3 rfl ?_
        refine z_iadd C d_Model_placeOf_113 ?_
        refine z_aload C d_Model_placeOf_114 1 rfl ?_
        refine z_get C fl_Model_145 0 rfl rfl d_Model_placeOf_115 ?_
        refine z_iadd C d_Model_placeOf_118 ?_
        refine z_goto C d_Model_placeOf_119 ?_
        exact zp_iret C hr hlk d_Model_placeOf_134 h
    refine z_if_ne C d_Model_placeOf_68 (fun c_6 => ?_) (fun c_6 => ?_)
    · replace h := h.1 c_6
      refine z_iload C d_Model_placeOf_76 2 rfl ?_
      refine z_k C d_Model_placeOf_77 ?_
      refine z_icmp_ne C d_Model_placeOf_78 (fun c_7 => ?_) (fun c_7 => ?_)
      · replace h := h.1 c_7
        refine z_iload C d_Model_placeOf_86 2 rfl ?_
        refine z_k C d_Model_placeOf_87 ?_
        refine z_icmp_ne C d_Model_placeOf_88 (fun c_8 => ?_) (fun c_8 => ?_)
        · replace h := h.1 c_8
          refine z_iload C d_Model_placeOf_97 4 rfl ?_
          refine z_ineg C d_Model_placeOf_99 ?_
          refine z_sub [1, 3, 0] [(0, .ref h_mo), (4, .int p3), (7, .int w_3)] rfl ?_
          exact J_100 (-x5_1) h
        · replace h := h.2 c_8
          refine z_iload C d_Model_placeOf_91 5 rfl ?_
          refine z_ineg C d_Model_placeOf_93 ?_
          refine z_goto C d_Model_placeOf_94 ?_
          refine z_sub [1, 3, 0] [(0, .ref h_mo), (4, .int p3), (7, .int w_3)] rfl ?_
          exact J_100 (-x6_2) h
      · replace h := h.2 c_7
        refine z_iload C d_Model_placeOf_81 4 rfl ?_
        refine z_goto C d_Model_placeOf_83 ?_
        refine z_sub [1, 3, 0] [(0, .ref h_mo), (4, .int p3), (7, .int w_3)] rfl ?_
        exact J_100 x5_1 h
    · replace h := h.2 c_6
      refine z_iload C d_Model_placeOf_71 5 rfl ?_
      refine z_goto C d_Model_placeOf_73 ?_
      refine z_sub [1, 3, 0] [(0, .ref h_mo), (4, .int p3), (7, .int w_3)] rfl ?_
      exact J_100 x6_2 h
  refine z_if_ne C d_Model_placeOf_33 (fun c_9 => ?_) (fun c_9 => ?_)
  · replace h := h.1 c_9
    refine z_iload C d_Model_placeOf_41 5 rfl ?_
    refine z_k C d_Model_placeOf_42 ?_
    refine z_icmp_ne C d_Model_placeOf_43 (fun c_10 => ?_) (fun c_10 => ?_)
    · replace h := h.1 c_10
      refine z_iload C d_Model_placeOf_52 5 rfl ?_
      refine z_k C d_Model_placeOf_53 ?_
      refine z_icmp_ne C d_Model_placeOf_54 (fun c_11 => ?_) (fun c_11 => ?_)
      · replace h := h.1 c_11
        refine z_iload C d_Model_placeOf_63 0 rfl ?_
        refine z_sub [2, 5, 6, 1, 0] [(0, .ref h_mo), (3, .int p2), (4, .int p3), (5, .int x5_1), (6, .int x6_2)] rfl ?_
        exact J_65 x6_2 h
      · replace h := h.2 c_11
        refine z_iload C d_Model_placeOf_57 1 rfl ?_
        refine z_ineg C d_Model_placeOf_59 ?_
        refine z_goto C d_Model_placeOf_60 ?_
        refine z_sub [2, 5, 6, 1, 0] [(0, .ref h_mo), (3, .int p2), (4, .int p3), (5, .int x5_1), (6, .int x6_2)] rfl ?_
        exact J_65 (-x5_1) h
    · replace h := h.2 c_10
      refine z_iload C d_Model_placeOf_46 0 rfl ?_
      refine z_ineg C d_Model_placeOf_48 ?_
      refine z_goto C d_Model_placeOf_49 ?_
      refine z_sub [2, 5, 6, 1, 0] [(0, .ref h_mo), (3, .int p2), (4, .int p3), (5, .int x5_1), (6, .int x6_2)] rfl ?_
      exact J_65 (-x6_2) h
  · replace h := h.2 c_9
    refine z_iload C d_Model_placeOf_36 1 rfl ?_
    refine z_goto C d_Model_placeOf_38 ?_
    refine z_sub [2, 5, 6, 1, 0] [(0, .ref h_mo), (3, .int p2), (4, .int p3), (5, .int x5_1), (6, .int x6_2)] rfl ?_
    exact J_65 x5_1 h
def wp_Model_isWithin (mo_linkA : Int32) (mo_linkB : Int32) (p0 : Int32) (p1 : Int32) (p2 : Int32) (p3 : Int32) (post : Int32 → Prop) : Prop :=
  (∀ x5_1 : Int64, x5_1 = ((mo_linkA - mo_linkB).toInt64) * ((mo_linkA - mo_linkB).toInt64) → (∀ x7_2 : Int64, x7_2 = ((mo_linkA + mo_linkB).toInt64) * ((mo_linkA + mo_linkB).toInt64) → (wp_Model_square p0.toInt64 p1.toInt64 (fun r_3 => (wp_Model_square p2.toInt64 p3.toInt64 (fun r_4 => ((0 < (lg_cmp r_3 x7_2) → (post (0 : Int32))) ∧ (¬ 0 < (lg_cmp r_3 x7_2) → ((0 < (lg_cmp r_4 x7_2) → (post (0 : Int32))) ∧ (¬ 0 < (lg_cmp r_4 x7_2) → (((lg_cmp r_3 x5_1) < 0 → (post (0 : Int32))) ∧ (¬ (lg_cmp r_3 x5_1) < 0 → ((0 ≤ (lg_cmp r_4 x5_1) → (∀ x13_9 : Int64, x13_9 = (p2 - p0).toInt64 → (∀ x15_10 : Int64, x15_10 = (p3 - p1).toInt64 → (∀ x17_11 : Int64, x17_11 = -((p0.toInt64 * x13_9) + (p1.toInt64 * x15_10)) → (wp_Model_square x13_9 x15_10 (fun r_12 => (((lg_cmp x17_11 (0 : Int64)) ≤ 0 → (post (1 : Int32))) ∧ (¬ (lg_cmp x17_11 (0 : Int64)) ≤ 0 → (((lg_cmp x17_11 r_12) < 0 → (∀ x21_15 : Int64, x21_15 = (p0.toInt64 * x15_10) - (p1.toInt64 * x13_9) → (((lg_cmp (x21_15 * x21_15) (x5_1 * r_12)) < 0 → (post (0 : Int32))) ∧ (¬ (lg_cmp (x21_15 * x21_15) (x5_1 * r_12)) < 0 → (post (1 : Int32)))))) ∧ (¬ (lg_cmp x17_11 r_12) < 0 → (post (1 : Int32)))))))))))) ∧ (¬ 0 ≤ (lg_cmp r_4 x5_1) → (post (0 : Int32))))))))))))))))
abbrev rm_Model_isWithin : Room := { frames := 1, cells := 0, slots := 0, locals := 23 }
set_option maxHeartbeats 4000000 in
set_option maxRecDepth 100000 in
theorem c_Model_isWithin (l : Launch) (D : va_G) (κ : KT) (h_mo : Nat) (h_mo_bars : Nat) (h_mo_seams : Nat) (h_mo_rowSeam : Nat) (h_mo_rowWay : Nat) (h_mo_quarters : Nat) (h_mo_begins : Nat) (h_mo_ends : Nat) (h_mo_rests : Nat) (h_mo_bestRow : Nat) (h_mo_lows : Nat) (h_mo_highs : Nat) (h_mo_acts : Nat) (h_mo_actMany : Nat) (h_mo_done : Nat) (h_mo_left : Nat) (h_mo_waited : Nat) (h_mo_ran : Nat) (h_mo_reached : Nat) (mo_middleX : Int32) (mo_middleY : Int32) (mo_linkA : Int32) (mo_linkB : Int32) (mo_flatness : Int32) (mo_gap : Int32) (mo_turn : Int32) (mo_travel : Int32) (mo_lift : Int32) (mo_cool : Int32) (mo_homeX : Int32) (mo_homeY : Int32) (mo_barMany : Int32) (mo_seamMany : Int32) (mo_rowMany : Int32) (mo_lowUp : Int64) (mo_lowDown : Int64) (mo_highUp : Int64) (mo_highDown : Int64) (mo_touchMany : Int32) (mo_shiftX : Int32) (mo_shiftY : Int32) (mo_hasRun : Int32) (p0 : Int32) (p1 : Int32) (p2 : Int32) (p3 : Int32) (post : Int32 → Prop) (h : wp_Model_isWithin mo_linkA mo_linkB p0 p1 p2 p3 post) : Met l y_Model_isWithin (wsG y_Model_isWithin b_Model_isWithin 23 (some .boolean)) rm_Model_isWithin (PP D κ [.ref h_mo, .int p0, .int p1, .int p2, .int p3] [(h_mo, .inr (10, [.int mo_middleX, .int mo_middleY, .int mo_linkA, .int mo_linkB, .int mo_flatness, .int mo_gap, .int mo_turn, .int mo_travel, .int mo_lift, .int mo_cool, .int mo_homeX, .int mo_homeY, .ref h_mo_bars, .int mo_barMany, .ref h_mo_seams, .int mo_seamMany, .ref h_mo_rowSeam, .ref h_mo_rowWay, .int mo_rowMany, .long mo_lowUp, .long mo_lowDown, .long mo_highUp, .long mo_highDown, .ref h_mo_quarters, .ref h_mo_begins, .ref h_mo_ends, .ref h_mo_rests, .ref h_mo_bestRow, .ref h_mo_lows, .ref h_mo_highs, .int mo_touchMany, .int mo_shiftX, .int mo_shiftY, .ref h_mo_acts, .ref h_mo_actMany, .ref h_mo_done, .ref h_mo_left, .ref h_mo_waited, .ref h_mo_ran, .int mo_hasRun, .ref h_mo_reached]))]) (vp_Si post) 0 0 (fun _ => False) := by
  refine zp_start [(0, .ref h_mo), (1, .int p0), (2, .int p1), (3, .int p2), (4, .int p3)] rfl (Nat.le_of_ble_eq_true rfl) rfl ?_
  intro p e s m args below meth c C hr hlk
  unfold wp_Model_isWithin at h
  refine z_aload C d_Model_isWithin_0 0 rfl ?_
  refine z_get C fl_Model_7 0 rfl rfl d_Model_isWithin_1 ?_
  refine z_aload C d_Model_isWithin_4 0 rfl ?_
  refine z_get C fl_Model_13 0 rfl rfl d_Model_isWithin_5 ?_
  refine z_isub C d_Model_isWithin_8 ?_
  refine z_i2l C d_Model_isWithin_9 ?_
  refine z_aload C d_Model_isWithin_10 0 rfl ?_
  refine z_get C fl_Model_7 0 rfl rfl d_Model_isWithin_11 ?_
  refine z_aload C d_Model_isWithin_14 0 rfl ?_
  refine z_get C fl_Model_13 0 rfl rfl d_Model_isWithin_15 ?_
  refine z_isub C d_Model_isWithin_18 ?_
  refine z_i2l C d_Model_isWithin_19 ?_
  refine z_lmul C d_Model_isWithin_20 ?_
  refine z_topl (fun x5_1 ex5_1 => ?_)
  replace h := h x5_1 ex5_1
  refine z_lstore C [(5, .long x5_1), (0, .ref h_mo), (1, .int p0), (2, .int p1), (3, .int p2), (4, .int p3)] d_Model_isWithin_21 rfl rfl ?_
  refine z_aload C d_Model_isWithin_23 1 rfl ?_
  refine z_get C fl_Model_7 0 rfl rfl d_Model_isWithin_24 ?_
  refine z_aload C d_Model_isWithin_27 1 rfl ?_
  refine z_get C fl_Model_13 0 rfl rfl d_Model_isWithin_28 ?_
  refine z_iadd C d_Model_isWithin_31 ?_
  refine z_i2l C d_Model_isWithin_32 ?_
  refine z_aload C d_Model_isWithin_33 1 rfl ?_
  refine z_get C fl_Model_7 0 rfl rfl d_Model_isWithin_34 ?_
  refine z_aload C d_Model_isWithin_37 1 rfl ?_
  refine z_get C fl_Model_13 0 rfl rfl d_Model_isWithin_38 ?_
  refine z_iadd C d_Model_isWithin_41 ?_
  refine z_i2l C d_Model_isWithin_42 ?_
  refine z_lmul C d_Model_isWithin_43 ?_
  refine z_topl (fun x7_2 ex7_2 => ?_)
  replace h := h x7_2 ex7_2
  refine z_lstore C [(7, .long x7_2), (5, .long x5_1), (0, .ref h_mo), (1, .int p0), (2, .int p1), (3, .int p2), (4, .int p3)] d_Model_isWithin_44 rfl rfl ?_
  refine z_iload C d_Model_isWithin_46 3 rfl ?_
  refine z_i2l C d_Model_isWithin_47 ?_
  refine z_iload C d_Model_isWithin_48 4 rfl ?_
  refine z_i2l C d_Model_isWithin_49 ?_
  refine z_spl C (rest := []) (c_Model_square l D κ p0.toInt64 p1.toInt64 _ h) cs_Model_151 ⟨rfl, rfl⟩ ⟨⟨Nat.le_of_ble_eq_true rfl, Nat.le_of_ble_eq_true rfl⟩, Nat.le_of_ble_eq_true rfl, Nat.le_of_ble_eq_true rfl⟩ [] rfl rfl rfl (Nat.le_of_ble_eq_true rfl) d_Model_isWithin_50 (fun r_3 h => ?_)
  refine z_lstore C [(9, .long r_3), (7, .long x7_2), (5, .long x5_1), (0, .ref h_mo), (1, .int p0), (2, .int p1), (3, .int p2), (4, .int p3)] d_Model_isWithin_53 rfl rfl ?_
  refine z_iload C d_Model_isWithin_55 6 rfl ?_
  refine z_i2l C d_Model_isWithin_56 ?_
  refine z_iload C d_Model_isWithin_57 7 rfl ?_
  refine z_i2l C d_Model_isWithin_59 ?_
  refine z_spl C (rest := []) (c_Model_square l D κ p2.toInt64 p3.toInt64 _ h) cs_Model_151 ⟨rfl, rfl⟩ ⟨⟨Nat.le_of_ble_eq_true rfl, Nat.le_of_ble_eq_true rfl⟩, Nat.le_of_ble_eq_true rfl, Nat.le_of_ble_eq_true rfl⟩ [] rfl rfl rfl (Nat.le_of_ble_eq_true rfl) d_Model_isWithin_60 (fun r_4 h => ?_)
  refine z_lstore C [(11, .long r_4), (9, .long r_3), (7, .long x7_2), (5, .long x5_1), (0, .ref h_mo), (1, .int p0), (2, .int p1), (3, .int p2), (4, .int p3)] d_Model_isWithin_63 rfl rfl ?_
  refine z_lload C d_Model_isWithin_65 1 rfl ?_
  refine z_lload C d_Model_isWithin_67 2 rfl ?_
  refine z_lcmp C d_Model_isWithin_69 ?_
  refine z_if_gt C d_Model_isWithin_70 (fun c_5 => ?_) (fun c_5 => ?_)
  · replace h := h.1 c_5
    refine z_k C d_Model_isWithin_97 ?_
    exact zp_zret C hr hlk (Or.inl rfl) d_Model_isWithin_98 h
  · replace h := h.2 c_5
    refine z_lload C d_Model_isWithin_73 0 rfl ?_
    refine z_lload C d_Model_isWithin_75 2 rfl ?_
    refine z_lcmp C d_Model_isWithin_77 ?_
    refine z_if_gt C d_Model_isWithin_78 (fun c_6 => ?_) (fun c_6 => ?_)
    · replace h := h.1 c_6
      refine z_k C d_Model_isWithin_97 ?_
      exact zp_zret C hr hlk (Or.inl rfl) d_Model_isWithin_98 h
    · replace h := h.2 c_6
      refine z_lload C d_Model_isWithin_81 1 rfl ?_
      refine z_lload C d_Model_isWithin_83 3 rfl ?_
      refine z_lcmp C d_Model_isWithin_85 ?_
      refine z_if_lt C d_Model_isWithin_86 (fun c_7 => ?_) (fun c_7 => ?_)
      · replace h := h.1 c_7
        refine z_k C d_Model_isWithin_97 ?_
        exact zp_zret C hr hlk (Or.inl rfl) d_Model_isWithin_98 h
      · replace h := h.2 c_7
        refine z_lload C d_Model_isWithin_89 0 rfl ?_
        refine z_lload C d_Model_isWithin_91 3 rfl ?_
        refine z_lcmp C d_Model_isWithin_93 ?_
        refine z_if_ge C d_Model_isWithin_94 (fun c_8 => ?_) (fun c_8 => ?_)
        · replace h := h.1 c_8
          refine z_iload C d_Model_isWithin_99 7 rfl ?_
          refine z_iload C d_Model_isWithin_100 5 rfl ?_
          refine z_isub C d_Model_isWithin_101 ?_
          refine z_i2l C d_Model_isWithin_102 ?_
          refine z_topl (fun x13_9 ex13_9 => ?_)
          replace h := h x13_9 ex13_9
          refine z_lstore C [(13, .long x13_9), (11, .long r_4), (9, .long r_3), (7, .long x7_2), (5, .long x5_1), (0, .ref h_mo), (1, .int p0), (2, .int p1), (3, .int p2), (4, .int p3)] d_Model_isWithin_103 rfl rfl ?_
          refine z_iload C d_Model_isWithin_105 9 rfl ?_
          refine z_iload C d_Model_isWithin_107 7 rfl ?_
          refine z_isub C d_Model_isWithin_108 ?_
          refine z_i2l C d_Model_isWithin_109 ?_
          refine z_topl (fun x15_10 ex15_10 => ?_)
          replace h := h x15_10 ex15_10
          refine z_lstore C [(15, .long x15_10), (13, .long x13_9), (11, .long r_4), (9, .long r_3), (7, .long x7_2), (5, .long x5_1), (0, .ref h_mo), (1, .int p0), (2, .int p1), (3, .int p2), (4, .int p3)] d_Model_isWithin_110 rfl rfl ?_
          refine z_iload C d_Model_isWithin_112 7 rfl ?_
          refine z_i2l C d_Model_isWithin_113 ?_
          refine z_lload C d_Model_isWithin_114 1 rfl ?_
          refine z_lmul C d_Model_isWithin_116 ?_
          refine z_iload C d_Model_isWithin_117 8 rfl ?_
          refine z_i2l C d_Model_isWithin_118 ?_
          refine z_lload C d_Model_isWithin_119 0 rfl ?_
          refine z_lmul C d_Model_isWithin_121 ?_
          refine z_ladd C d_Model_isWithin_122 ?_
          refine z_lneg C d_Model_isWithin_123 ?_
          refine z_topl (fun x17_11 ex17_11 => ?_)
          replace h := h x17_11 ex17_11
          refine z_lstore C [(17, .long x17_11), (15, .long x15_10), (13, .long x13_9), (11, .long r_4), (9, .long r_3), (7, .long x7_2), (5, .long x5_1), (0, .ref h_mo), (1, .int p0), (2, .int p1), (3, .int p2), (4, .int p3)] d_Model_isWithin_124 rfl rfl ?_
          refine z_lload C d_Model_isWithin_126 2 rfl ?_
          refine z_lload C d_Model_isWithin_128 1 rfl ?_
          refine z_spl C (rest := []) (c_Model_square l D κ x13_9 x15_10 _ h) cs_Model_151 ⟨rfl, rfl⟩ ⟨⟨Nat.le_of_ble_eq_true rfl, Nat.le_of_ble_eq_true rfl⟩, Nat.le_of_ble_eq_true rfl, Nat.le_of_ble_eq_true rfl⟩ [] rfl rfl rfl (Nat.le_of_ble_eq_true rfl) d_Model_isWithin_130 (fun r_12 h => ?_)
          refine z_lstore C [(19, .long r_12), (17, .long x17_11), (15, .long x15_10), (13, .long x13_9), (11, .long r_4), (9, .long r_3), (7, .long x7_2), (5, .long x5_1), (0, .ref h_mo), (1, .int p0), (2, .int p1), (3, .int p2), (4, .int p3)] d_Model_isWithin_133 rfl rfl ?_
          refine z_lload C d_Model_isWithin_135 1 rfl ?_
          refine z_lk C d_Model_isWithin_137 ?_
          refine z_lcmp C d_Model_isWithin_138 ?_
          refine z_if_le C d_Model_isWithin_139 (fun c_13 => ?_) (fun c_13 => ?_)
          · replace h := h.1 c_13
            refine z_k C d_Model_isWithin_150 ?_
            exact zp_zret C hr hlk (Or.inr rfl) d_Model_isWithin_151 h
          · replace h := h.2 c_13
            refine z_lload C d_Model_isWithin_142 1 rfl ?_
            refine z_lload C d_Model_isWithin_144 0 rfl ?_
            refine z_lcmp C d_Model_isWithin_146 ?_
            refine z_if_lt C d_Model_isWithin_147 (fun c_14 => ?_) (fun c_14 => ?_)
            · replace h := h.1 c_14
              refine z_iload C d_Model_isWithin_152 9 rfl ?_
              refine z_i2l C d_Model_isWithin_153 ?_
              refine z_lload C d_Model_isWithin_154 2 rfl ?_
              refine z_lmul C d_Model_isWithin_156 ?_
              refine z_iload C d_Model_isWithin_157 10 rfl ?_
              refine z_i2l C d_Model_isWithin_158 ?_
              refine z_lload C d_Model_isWithin_159 3 rfl ?_
              refine z_lmul C d_Model_isWithin_161 ?_
              refine z_lsub C d_Model_isWithin_162 ?_
              refine z_topl (fun x21_15 ex21_15 => ?_)
              replace h := h x21_15 ex21_15
              refine z_lstore C [(21, .long x21_15), (19, .long r_12), (17, .long x17_11), (15, .long x15_10), (13, .long x13_9), (11, .long r_4), (9, .long r_3), (7, .long x7_2), (5, .long x5_1), (0, .ref h_mo), (1, .int p0), (2, .int p1), (3, .int p2), (4, .int p3)] d_Model_isWithin_163 rfl rfl ?_
              refine z_lload C d_Model_isWithin_165 0 rfl ?_
              refine z_lload C d_Model_isWithin_167 0 rfl ?_
              refine z_lmul C d_Model_isWithin_169 ?_
              refine z_lload C d_Model_isWithin_170 8 rfl ?_
              refine z_lload C d_Model_isWithin_172 1 rfl ?_
              refine z_lmul C d_Model_isWithin_174 ?_
              refine z_lcmp C d_Model_isWithin_175 ?_
              refine z_if_lt C d_Model_isWithin_176 (fun c_16 => ?_) (fun c_16 => ?_)
              · replace h := h.1 c_16
                refine z_k C d_Model_isWithin_183 ?_
                exact zp_zret C hr hlk (Or.inl rfl) d_Model_isWithin_184 h
              · replace h := h.2 c_16
                refine z_k C d_Model_isWithin_179 ?_
                refine z_goto C d_Model_isWithin_180 ?_
                exact zp_zret C hr hlk (Or.inr rfl) d_Model_isWithin_184 h
            · replace h := h.2 c_14
              refine z_k C d_Model_isWithin_150 ?_
              exact zp_zret C hr hlk (Or.inr rfl) d_Model_isWithin_151 h
        · replace h := h.2 c_8
          refine z_k C d_Model_isWithin_97 ?_
          exact zp_zret C hr hlk (Or.inl rfl) d_Model_isWithin_98 h
def wp_Model_shutIn_j69_7 (mo_lowUp : Int64) (mo_lowDown : Int64) (mo_highUp : Int64) (mo_highDown : Int64) (post : Int32 → Int64 → Int64 → Int64 → Int64 → Prop) (w_2 : Int64) (w_3 : Int64) (w_4 : Int64) : Prop :=
  (((lg_cmp (w_2 * mo_lowDown) (mo_lowUp * w_4)) ≤ 0 → ((0 ≤ (lg_cmp (w_3 * mo_highDown) (mo_highUp * w_4)) → (post (1 : Int32) mo_lowUp mo_lowDown mo_highUp mo_highDown)) ∧ (¬ 0 ≤ (lg_cmp (w_3 * mo_highDown) (mo_highUp * w_4)) → (post (1 : Int32) mo_lowUp mo_lowDown w_3 w_4)))) ∧ (¬ (lg_cmp (w_2 * mo_lowDown) (mo_lowUp * w_4)) ≤ 0 → ((0 ≤ (lg_cmp (w_3 * mo_highDown) (mo_highUp * w_4)) → (post (1 : Int32) w_2 w_4 mo_highUp mo_highDown)) ∧ (¬ 0 ≤ (lg_cmp (w_3 * mo_highDown) (mo_highUp * w_4)) → (post (1 : Int32) w_2 w_4 w_3 w_4)))))
def wp_Model_shutIn_j55_8 (mo_lowUp : Int64) (mo_lowDown : Int64) (mo_highUp : Int64) (mo_highDown : Int64) (p1 : Int32) (post : Int32 → Int64 → Int64 → Int64 → Int64 → Prop) (w_2 : Int64) (w_3 : Int64) : Prop :=
  ((p1 ≤ 0 → (wp_Model_shutIn_j69_7 mo_lowUp mo_lowDown mo_highUp mo_highDown post w_2 w_3 ((-p1).toInt64))) ∧ (¬ p1 ≤ 0 → (wp_Model_shutIn_j69_7 mo_lowUp mo_lowDown mo_highUp mo_highDown post w_2 w_3 p1.toInt64)))
def wp_Model_shutIn_j37_9 (mo_lowUp : Int64) (mo_lowDown : Int64) (mo_highUp : Int64) (mo_highDown : Int64) (p0 : Int32) (p1 : Int32) (p2 : Int32) (p3 : Int32) (post : Int32 → Int64 → Int64 → Int64 → Int64 → Prop) (w_2 : Int64) : Prop :=
  ((p1 ≤ 0 → (wp_Model_shutIn_j55_8 mo_lowUp mo_lowDown mo_highUp mo_highDown p1 post w_2 ((p0 - p2).toInt64))) ∧ (¬ p1 ≤ 0 → (wp_Model_shutIn_j55_8 mo_lowUp mo_lowDown mo_highUp mo_highDown p1 post w_2 ((p3 - p0).toInt64))))
def wp_Model_shutIn (mo_lowUp : Int64) (mo_lowDown : Int64) (mo_highUp : Int64) (mo_highDown : Int64) (p0 : Int32) (p1 : Int32) (p2 : Int32) (p3 : Int32) (post : Int32 → Int64 → Int64 → Int64 → Int64 → Prop) : Prop :=
  ((¬ p1 = 0 → ((p1 ≤ 0 → (wp_Model_shutIn_j37_9 mo_lowUp mo_lowDown mo_highUp mo_highDown p0 p1 p2 p3 post ((p0 - p3).toInt64))) ∧ (¬ p1 ≤ 0 → (wp_Model_shutIn_j37_9 mo_lowUp mo_lowDown mo_highUp mo_highDown p0 p1 p2 p3 post ((p2 - p0).toInt64))))) ∧ (p1 = 0 → ((p0 ≤ p2 → (post (0 : Int32) mo_lowUp mo_lowDown mo_highUp mo_highDown)) ∧ (¬ p0 ≤ p2 → ((p3 ≤ p0 → (post (0 : Int32) mo_lowUp mo_lowDown mo_highUp mo_highDown)) ∧ (¬ p3 ≤ p0 → (post (1 : Int32) mo_lowUp mo_lowDown mo_highUp mo_highDown)))))))
abbrev rm_Model_shutIn : Room := { frames := 0, cells := 0, slots := 0, locals := 0 }
set_option maxHeartbeats 4000000 in
set_option maxRecDepth 100000 in
theorem c_Model_shutIn (l : Launch) (D : va_G) (κ : KT) (h_mo : Nat) (h_mo_bars : Nat) (h_mo_seams : Nat) (h_mo_rowSeam : Nat) (h_mo_rowWay : Nat) (h_mo_quarters : Nat) (h_mo_begins : Nat) (h_mo_ends : Nat) (h_mo_rests : Nat) (h_mo_bestRow : Nat) (h_mo_lows : Nat) (h_mo_highs : Nat) (h_mo_acts : Nat) (h_mo_actMany : Nat) (h_mo_done : Nat) (h_mo_left : Nat) (h_mo_waited : Nat) (h_mo_ran : Nat) (h_mo_reached : Nat) (mo_middleX : Int32) (mo_middleY : Int32) (mo_linkA : Int32) (mo_linkB : Int32) (mo_flatness : Int32) (mo_gap : Int32) (mo_turn : Int32) (mo_travel : Int32) (mo_lift : Int32) (mo_cool : Int32) (mo_homeX : Int32) (mo_homeY : Int32) (mo_barMany : Int32) (mo_seamMany : Int32) (mo_rowMany : Int32) (mo_lowUp : Int64) (mo_lowDown : Int64) (mo_highUp : Int64) (mo_highDown : Int64) (mo_touchMany : Int32) (mo_shiftX : Int32) (mo_shiftY : Int32) (mo_hasRun : Int32) (p0 : Int32) (p1 : Int32) (p2 : Int32) (p3 : Int32) (sz : Nat) (post : Int32 → Int64 → Int64 → Int64 → Int64 → Prop) (h : wp_Model_shutIn mo_lowUp mo_lowDown mo_highUp mo_highDown p0 p1 p2 p3 post) : Met l y_Model_shutIn (wsG y_Model_shutIn b_Model_shutIn 11 (some .boolean)) rm_Model_shutIn (PE D κ [.ref h_mo, .int p0, .int p1, .int p2, .int p3] [(h_mo, .inr (10, [.int mo_middleX, .int mo_middleY, .int mo_linkA, .int mo_linkB, .int mo_flatness, .int mo_gap, .int mo_turn, .int mo_travel, .int mo_lift, .int mo_cool, .int mo_homeX, .int mo_homeY, .ref h_mo_bars, .int mo_barMany, .ref h_mo_seams, .int mo_seamMany, .ref h_mo_rowSeam, .ref h_mo_rowWay, .int mo_rowMany, .long mo_lowUp, .long mo_lowDown, .long mo_highUp, .long mo_highDown, .ref h_mo_quarters, .ref h_mo_begins, .ref h_mo_ends, .ref h_mo_rests, .ref h_mo_bestRow, .ref h_mo_lows, .ref h_mo_highs, .int mo_touchMany, .int mo_shiftX, .int mo_shiftY, .ref h_mo_acts, .ref h_mo_actMany, .ref h_mo_done, .ref h_mo_left, .ref h_mo_waited, .ref h_mo_ran, .int mo_hasRun, .ref h_mo_reached]))] sz) (va_Qi (fun (r : Int32) (u : (Int64) × (Int64) × (Int64) × (Int64)) => post r u.1 u.2.1 u.2.2.1 u.2.2.2) (QB D [(h_mo, .inr (10, [.int mo_middleX, .int mo_middleY, .int mo_linkA, .int mo_linkB, .int mo_flatness, .int mo_gap, .int mo_turn, .int mo_travel, .int mo_lift, .int mo_cool, .int mo_homeX, .int mo_homeY, .ref h_mo_bars, .int mo_barMany, .ref h_mo_seams, .int mo_seamMany, .ref h_mo_rowSeam, .ref h_mo_rowWay, .int mo_rowMany, .long mo_lowUp, .long mo_lowDown, .long mo_highUp, .long mo_highDown, .ref h_mo_quarters, .ref h_mo_begins, .ref h_mo_ends, .ref h_mo_rests, .ref h_mo_bestRow, .ref h_mo_lows, .ref h_mo_highs, .int mo_touchMany, .int mo_shiftX, .int mo_shiftY, .ref h_mo_acts, .ref h_mo_actMany, .ref h_mo_done, .ref h_mo_left, .ref h_mo_waited, .ref h_mo_ran, .int mo_hasRun, .ref h_mo_reached]))] sz (fun (u : (Int64) × (Int64) × (Int64) × (Int64)) => [(h_mo, .inr (10, [.int mo_middleX, .int mo_middleY, .int mo_linkA, .int mo_linkB, .int mo_flatness, .int mo_gap, .int mo_turn, .int mo_travel, .int mo_lift, .int mo_cool, .int mo_homeX, .int mo_homeY, .ref h_mo_bars, .int mo_barMany, .ref h_mo_seams, .int mo_seamMany, .ref h_mo_rowSeam, .ref h_mo_rowWay, .int mo_rowMany, .long u.1, .long u.2.1, .long u.2.2.1, .long u.2.2.2, .ref h_mo_quarters, .ref h_mo_begins, .ref h_mo_ends, .ref h_mo_rests, .ref h_mo_bestRow, .ref h_mo_lows, .ref h_mo_highs, .int mo_touchMany, .int mo_shiftX, .int mo_shiftY, .ref h_mo_acts, .ref h_mo_actMany, .ref h_mo_done, .ref h_mo_left, .ref h_mo_waited, .ref h_mo_ran, .int mo_hasRun, .ref h_mo_reached]))])) (va_A [(h_mo, .inr (10, [.int mo_middleX, .int mo_middleY, .int mo_linkA, .int mo_linkB, .int mo_flatness, .int mo_gap, .int mo_turn, .int mo_travel, .int mo_lift, .int mo_cool, .int mo_homeX, .int mo_homeY, .ref h_mo_bars, .int mo_barMany, .ref h_mo_seams, .int mo_seamMany, .ref h_mo_rowSeam, .ref h_mo_rowWay, .int mo_rowMany, .long mo_lowUp, .long mo_lowDown, .long mo_highUp, .long mo_highDown, .ref h_mo_quarters, .ref h_mo_begins, .ref h_mo_ends, .ref h_mo_rests, .ref h_mo_bestRow, .ref h_mo_lows, .ref h_mo_highs, .int mo_touchMany, .int mo_shiftX, .int mo_shiftY, .ref h_mo_acts, .ref h_mo_actMany, .ref h_mo_done, .ref h_mo_left, .ref h_mo_waited, .ref h_mo_ran, .int mo_hasRun, .ref h_mo_reached]))] sz)) 0 0 (va_A [(h_mo, .inr (10, [.int mo_middleX, .int mo_middleY, .int mo_linkA, .int mo_linkB, .int mo_flatness, .int mo_gap, .int mo_turn, .int mo_travel, .int mo_lift, .int mo_cool, .int mo_homeX, .int mo_homeY, .ref h_mo_bars, .int mo_barMany, .ref h_mo_seams, .int mo_seamMany, .ref h_mo_rowSeam, .ref h_mo_rowWay, .int mo_rowMany, .long mo_lowUp, .long mo_lowDown, .long mo_highUp, .long mo_highDown, .ref h_mo_quarters, .ref h_mo_begins, .ref h_mo_ends, .ref h_mo_rests, .ref h_mo_bestRow, .ref h_mo_lows, .ref h_mo_highs, .int mo_touchMany, .int mo_shiftX, .int mo_shiftY, .ref h_mo_acts, .ref h_mo_actMany, .ref h_mo_done, .ref h_mo_left, .ref h_mo_waited, .ref h_mo_ran, .int mo_hasRun, .ref h_mo_reached]))] sz) := by
  refine ze_start [(0, .ref h_mo), (1, .int p0), (2, .int p1), (3, .int p2), (4, .int p3)] rfl (Nat.le_of_ble_eq_true rfl) rfl ?_
  intro p e s m args below meth c C hr hlk hnm hsz
  subst hsz
  unfold wp_Model_shutIn at h
  refine z_iload C d_Model_shutIn_0 2 rfl ?_
  refine z_if_ne C d_Model_shutIn_1 (fun c_1 => ?_) (fun c_1 => ?_)
  · replace h := h.1 c_1
    refine z_iload C d_Model_shutIn_21 2 rfl ?_
    have J_37 : ∀ (w_2 : Int64), wp_Model_shutIn_j37_9 mo_lowUp mo_lowDown mo_highUp mo_highDown p0 p1 p2 p3 post w_2 → Zw p l e rm_Model_shutIn s m args below meth c 0 0 (MQ below (va_Qi (fun (r : Int32) (u : (Int64) × (Int64) × (Int64) × (Int64)) => post r u.1 u.2.1 u.2.2.1 u.2.2.2) (QB D [(h_mo, .inr (10, [.int mo_middleX, .int mo_middleY, .int mo_linkA, .int mo_linkB, .int mo_flatness, .int mo_gap, .int mo_turn, .int mo_travel, .int mo_lift, .int mo_cool, .int mo_homeX, .int mo_homeY, .ref h_mo_bars, .int mo_barMany, .ref h_mo_seams, .int mo_seamMany, .ref h_mo_rowSeam, .ref h_mo_rowWay, .int mo_rowMany, .long mo_lowUp, .long mo_lowDown, .long mo_highUp, .long mo_highDown, .ref h_mo_quarters, .ref h_mo_begins, .ref h_mo_ends, .ref h_mo_rests, .ref h_mo_bestRow, .ref h_mo_lows, .ref h_mo_highs, .int mo_touchMany, .int mo_shiftX, .int mo_shiftY, .ref h_mo_acts, .ref h_mo_actMany, .ref h_mo_done, .ref h_mo_left, .ref h_mo_waited, .ref h_mo_ran, .int mo_hasRun, .ref h_mo_reached]))] s.heap.size (fun (u : (Int64) × (Int64) × (Int64) × (Int64)) => [(h_mo, .inr (10, [.int mo_middleX, .int mo_middleY, .int mo_linkA, .int mo_linkB, .int mo_flatness, .int mo_gap, .int mo_turn, .int mo_travel, .int mo_lift, .int mo_cool, .int mo_homeX, .int mo_homeY, .ref h_mo_bars, .int mo_barMany, .ref h_mo_seams, .int mo_seamMany, .ref h_mo_rowSeam, .ref h_mo_rowWay, .int mo_rowMany, .long u.1, .long u.2.1, .long u.2.2.1, .long u.2.2.2, .ref h_mo_quarters, .ref h_mo_begins, .ref h_mo_ends, .ref h_mo_rests, .ref h_mo_bestRow, .ref h_mo_lows, .ref h_mo_highs, .int mo_touchMany, .int mo_shiftX, .int mo_shiftY, .ref h_mo_acts, .ref h_mo_actMany, .ref h_mo_done, .ref h_mo_left, .ref h_mo_waited, .ref h_mo_ran, .int mo_hasRun, .ref h_mo_reached]))])) (va_A [(h_mo, .inr (10, [.int mo_middleX, .int mo_middleY, .int mo_linkA, .int mo_linkB, .int mo_flatness, .int mo_gap, .int mo_turn, .int mo_travel, .int mo_lift, .int mo_cool, .int mo_homeX, .int mo_homeY, .ref h_mo_bars, .int mo_barMany, .ref h_mo_seams, .int mo_seamMany, .ref h_mo_rowSeam, .ref h_mo_rowWay, .int mo_rowMany, .long mo_lowUp, .long mo_lowDown, .long mo_highUp, .long mo_highDown, .ref h_mo_quarters, .ref h_mo_begins, .ref h_mo_ends, .ref h_mo_rests, .ref h_mo_bestRow, .ref h_mo_lows, .ref h_mo_highs, .int mo_touchMany, .int mo_shiftX, .int mo_shiftY, .ref h_mo_acts, .ref h_mo_actMany, .ref h_mo_done, .ref h_mo_left, .ref h_mo_waited, .ref h_mo_ran, .int mo_hasRun, .ref h_mo_reached]))] s.heap.size)) args s 0 0 (va_A [(h_mo, .inr (10, [.int mo_middleX, .int mo_middleY, .int mo_linkA, .int mo_linkB, .int mo_flatness, .int mo_gap, .int mo_turn, .int mo_travel, .int mo_lift, .int mo_cool, .int mo_homeX, .int mo_homeY, .ref h_mo_bars, .int mo_barMany, .ref h_mo_seams, .int mo_seamMany, .ref h_mo_rowSeam, .ref h_mo_rowWay, .int mo_rowMany, .long mo_lowUp, .long mo_lowDown, .long mo_highUp, .long mo_highDown, .ref h_mo_quarters, .ref h_mo_begins, .ref h_mo_ends, .ref h_mo_rests, .ref h_mo_bestRow, .ref h_mo_lows, .ref h_mo_highs, .int mo_touchMany, .int mo_shiftX, .int mo_shiftY, .ref h_mo_acts, .ref h_mo_actMany, .ref h_mo_done, .ref h_mo_left, .ref h_mo_waited, .ref h_mo_ran, .int mo_hasRun, .ref h_mo_reached]))] s.heap.size)) D 11 (some (va_A [(h_mo, .inr (10, [.int mo_middleX, .int mo_middleY, .int mo_linkA, .int mo_linkB, .int mo_flatness, .int mo_gap, .int mo_turn, .int mo_travel, .int mo_lift, .int mo_cool, .int mo_homeX, .int mo_homeY, .ref h_mo_bars, .int mo_barMany, .ref h_mo_seams, .int mo_seamMany, .ref h_mo_rowSeam, .ref h_mo_rowWay, .int mo_rowMany, .long mo_lowUp, .long mo_lowDown, .long mo_highUp, .long mo_highDown, .ref h_mo_quarters, .ref h_mo_begins, .ref h_mo_ends, .ref h_mo_rests, .ref h_mo_bestRow, .ref h_mo_lows, .ref h_mo_highs, .int mo_touchMany, .int mo_shiftX, .int mo_shiftY, .ref h_mo_acts, .ref h_mo_actMany, .ref h_mo_done, .ref h_mo_left, .ref h_mo_waited, .ref h_mo_ran, .int mo_hasRun, .ref h_mo_reached]))] s.heap.size)) [(h_mo, .inr (10, [.int mo_middleX, .int mo_middleY, .int mo_linkA, .int mo_linkB, .int mo_flatness, .int mo_gap, .int mo_turn, .int mo_travel, .int mo_lift, .int mo_cool, .int mo_homeX, .int mo_homeY, .ref h_mo_bars, .int mo_barMany, .ref h_mo_seams, .int mo_seamMany, .ref h_mo_rowSeam, .ref h_mo_rowWay, .int mo_rowMany, .long mo_lowUp, .long mo_lowDown, .long mo_highUp, .long mo_highDown, .ref h_mo_quarters, .ref h_mo_begins, .ref h_mo_ends, .ref h_mo_rests, .ref h_mo_bestRow, .ref h_mo_lows, .ref h_mo_highs, .int mo_touchMany, .int mo_shiftX, .int mo_shiftY, .ref h_mo_acts, .ref h_mo_actMany, .ref h_mo_done, .ref h_mo_left, .ref h_mo_waited, .ref h_mo_ran, .int mo_hasRun, .ref h_mo_reached]))] [(0, .ref h_mo), (1, .int p0), (2, .int p1), (3, .int p2), (4, .int p3)] 37 [.long w_2] := by
      intro w_2 h
      unfold wp_Model_shutIn_j37_9 at h
      refine z_lstore C [(5, .long w_2), (0, .ref h_mo), (1, .int p0), (2, .int p1), (3, .int p2), (4, .int p3)] d_Model_shutIn_37 rfl rfl ?_
      refine z_iload C d_Model_shutIn_39 3 rfl ?_
      have J_55 : ∀ (w_3 : Int64), wp_Model_shutIn_j55_8 mo_lowUp mo_lowDown mo_highUp mo_highDown p1 post w_2 w_3 → Zw p l e rm_Model_shutIn s m args below meth c 0 0 (MQ below (va_Qi (fun (r : Int32) (u : (Int64) × (Int64) × (Int64) × (Int64)) => post r u.1 u.2.1 u.2.2.1 u.2.2.2) (QB D [(h_mo, .inr (10, [.int mo_middleX, .int mo_middleY, .int mo_linkA, .int mo_linkB, .int mo_flatness, .int mo_gap, .int mo_turn, .int mo_travel, .int mo_lift, .int mo_cool, .int mo_homeX, .int mo_homeY, .ref h_mo_bars, .int mo_barMany, .ref h_mo_seams, .int mo_seamMany, .ref h_mo_rowSeam, .ref h_mo_rowWay, .int mo_rowMany, .long mo_lowUp, .long mo_lowDown, .long mo_highUp, .long mo_highDown, .ref h_mo_quarters, .ref h_mo_begins, .ref h_mo_ends, .ref h_mo_rests, .ref h_mo_bestRow, .ref h_mo_lows, .ref h_mo_highs, .int mo_touchMany, .int mo_shiftX, .int mo_shiftY, .ref h_mo_acts, .ref h_mo_actMany, .ref h_mo_done, .ref h_mo_left, .ref h_mo_waited, .ref h_mo_ran, .int mo_hasRun, .ref h_mo_reached]))] s.heap.size (fun (u : (Int64) × (Int64) × (Int64) × (Int64)) => [(h_mo, .inr (10, [.int mo_middleX, .int mo_middleY, .int mo_linkA, .int mo_linkB, .int mo_flatness, .int mo_gap, .int mo_turn, .int mo_travel, .int mo_lift, .int mo_cool, .int mo_homeX, .int mo_homeY, .ref h_mo_bars, .int mo_barMany, .ref h_mo_seams, .int mo_seamMany, .ref h_mo_rowSeam, .ref h_mo_rowWay, .int mo_rowMany, .long u.1, .long u.2.1, .long u.2.2.1, .long u.2.2.2, .ref h_mo_quarters, .ref h_mo_begins, .ref h_mo_ends, .ref h_mo_rests, .ref h_mo_bestRow, .ref h_mo_lows, .ref h_mo_highs, .int mo_touchMany, .int mo_shiftX, .int mo_shiftY, .ref h_mo_acts, .ref h_mo_actMany, .ref h_mo_done, .ref h_mo_left, .ref h_mo_waited, .ref h_mo_ran, .int mo_hasRun, .ref h_mo_reached]))])) (va_A [(h_mo, .inr (10, [.int mo_middleX, .int mo_middleY, .int mo_linkA, .int mo_linkB, .int mo_flatness, .int mo_gap, .int mo_turn, .int mo_travel, .int mo_lift, .int mo_cool, .int mo_homeX, .int mo_homeY, .ref h_mo_bars, .int mo_barMany, .ref h_mo_seams, .int mo_seamMany, .ref h_mo_rowSeam, .ref h_mo_rowWay, .int mo_rowMany, .long mo_lowUp, .long mo_lowDown, .long mo_highUp, .long mo_highDown, .ref h_mo_quarters, .ref h_mo_begins, .ref h_mo_ends, .ref h_mo_rests, .ref h_mo_bestRow, .ref h_mo_lows, .ref h_mo_highs, .int mo_touchMany, .int mo_shiftX, .int mo_shiftY, .ref h_mo_acts, .ref h_mo_actMany, .ref h_mo_done, .ref h_mo_left, .ref h_mo_waited, .ref h_mo_ran, .int mo_hasRun, .ref h_mo_reached]))] s.heap.size)) args s 0 0 (va_A [(h_mo, .inr (10, [.int mo_middleX, .int mo_middleY, .int mo_linkA, .int mo_linkB, .int mo_flatness, .int mo_gap, .int mo_turn, .int mo_travel, .int mo_lift, .int mo_cool, .int mo_homeX, .int mo_homeY, .ref h_mo_bars, .int mo_barMany, .ref h_mo_seams, .int mo_seamMany, .ref h_mo_rowSeam, .ref h_mo_rowWay, .int mo_rowMany, .long mo_lowUp, .long mo_lowDown, .long mo_highUp, .long mo_highDown, .ref h_mo_quarters, .ref h_mo_begins, .ref h_mo_ends, .ref h_mo_rests, .ref h_mo_bestRow, .ref h_mo_lows, .ref h_mo_highs, .int mo_touchMany, .int mo_shiftX, .int mo_shiftY, .ref h_mo_acts, .ref h_mo_actMany, .ref h_mo_done, .ref h_mo_left, .ref h_mo_waited, .ref h_mo_ran, .int mo_hasRun, .ref h_mo_reached]))] s.heap.size)) D 11 (some (va_A [(h_mo, .inr (10, [.int mo_middleX, .int mo_middleY, .int mo_linkA, .int mo_linkB, .int mo_flatness, .int mo_gap, .int mo_turn, .int mo_travel, .int mo_lift, .int mo_cool, .int mo_homeX, .int mo_homeY, .ref h_mo_bars, .int mo_barMany, .ref h_mo_seams, .int mo_seamMany, .ref h_mo_rowSeam, .ref h_mo_rowWay, .int mo_rowMany, .long mo_lowUp, .long mo_lowDown, .long mo_highUp, .long mo_highDown, .ref h_mo_quarters, .ref h_mo_begins, .ref h_mo_ends, .ref h_mo_rests, .ref h_mo_bestRow, .ref h_mo_lows, .ref h_mo_highs, .int mo_touchMany, .int mo_shiftX, .int mo_shiftY, .ref h_mo_acts, .ref h_mo_actMany, .ref h_mo_done, .ref h_mo_left, .ref h_mo_waited, .ref h_mo_ran, .int mo_hasRun, .ref h_mo_reached]))] s.heap.size)) [(h_mo, .inr (10, [.int mo_middleX, .int mo_middleY, .int mo_linkA, .int mo_linkB, .int mo_flatness, .int mo_gap, .int mo_turn, .int mo_travel, .int mo_lift, .int mo_cool, .int mo_homeX, .int mo_homeY, .ref h_mo_bars, .int mo_barMany, .ref h_mo_seams, .int mo_seamMany, .ref h_mo_rowSeam, .ref h_mo_rowWay, .int mo_rowMany, .long mo_lowUp, .long mo_lowDown, .long mo_highUp, .long mo_highDown, .ref h_mo_quarters, .ref h_mo_begins, .ref h_mo_ends, .ref h_mo_rests, .ref h_mo_bestRow, .ref h_mo_lows, .ref h_mo_highs, .int mo_touchMany, .int mo_shiftX, .int mo_shiftY, .ref h_mo_acts, .ref h_mo_actMany, .ref h_mo_done, .ref h_mo_left, .ref h_mo_waited, .ref h_mo_ran, .int mo_hasRun, .ref h_mo_reached]))] [(0, .ref h_mo), (2, .int p1), (5, .long w_2)] 55 [.long w_3] := by
        intro w_3 h
        unfold wp_Model_shutIn_j55_8 at h
        refine z_lstore C [(7, .long w_3), (0, .ref h_mo), (2, .int p1), (5, .long w_2)] d_Model_shutIn_55 rfl rfl ?_
        refine z_iload C d_Model_shutIn_57 2 rfl ?_
        have J_69 : ∀ (w_4 : Int64), wp_Model_shutIn_j69_7 mo_lowUp mo_lowDown mo_highUp mo_highDown post w_2 w_3 w_4 → Zw p l e rm_Model_shutIn s m args below meth c 0 0 (MQ below (va_Qi (fun (r : Int32) (u : (Int64) × (Int64) × (Int64) × (Int64)) => post r u.1 u.2.1 u.2.2.1 u.2.2.2) (QB D [(h_mo, .inr (10, [.int mo_middleX, .int mo_middleY, .int mo_linkA, .int mo_linkB, .int mo_flatness, .int mo_gap, .int mo_turn, .int mo_travel, .int mo_lift, .int mo_cool, .int mo_homeX, .int mo_homeY, .ref h_mo_bars, .int mo_barMany, .ref h_mo_seams, .int mo_seamMany, .ref h_mo_rowSeam, .ref h_mo_rowWay, .int mo_rowMany, .long mo_lowUp, .long mo_lowDown, .long mo_highUp, .long mo_highDown, .ref h_mo_quarters, .ref h_mo_begins, .ref h_mo_ends, .ref h_mo_rests, .ref h_mo_bestRow, .ref h_mo_lows, .ref h_mo_highs, .int mo_touchMany, .int mo_shiftX, .int mo_shiftY, .ref h_mo_acts, .ref h_mo_actMany, .ref h_mo_done, .ref h_mo_left, .ref h_mo_waited, .ref h_mo_ran, .int mo_hasRun, .ref h_mo_reached]))] s.heap.size (fun (u : (Int64) × (Int64) × (Int64) × (Int64)) => [(h_mo, .inr (10, [.int mo_middleX, .int mo_middleY, .int mo_linkA, .int mo_linkB, .int mo_flatness, .int mo_gap, .int mo_turn, .int mo_travel, .int mo_lift, .int mo_cool, .int mo_homeX, .int mo_homeY, .ref h_mo_bars, .int mo_barMany, .ref h_mo_seams, .int mo_seamMany, .ref h_mo_rowSeam, .ref h_mo_rowWay, .int mo_rowMany, .long u.1, .long u.2.1, .long u.2.2.1, .long u.2.2.2, .ref h_mo_quarters, .ref h_mo_begins, .ref h_mo_ends, .ref h_mo_rests, .ref h_mo_bestRow, .ref h_mo_lows, .ref h_mo_highs, .int mo_touchMany, .int mo_shiftX, .int mo_shiftY, .ref h_mo_acts, .ref h_mo_actMany, .ref h_mo_done, .ref h_mo_left, .ref h_mo_waited, .ref h_mo_ran, .int mo_hasRun, .ref h_mo_reached]))])) (va_A [(h_mo, .inr (10, [.int mo_middleX, .int mo_middleY, .int mo_linkA, .int mo_linkB, .int mo_flatness, .int mo_gap, .int mo_turn, .int mo_travel, .int mo_lift, .int mo_cool, .int mo_homeX, .int mo_homeY, .ref h_mo_bars, .int mo_barMany, .ref h_mo_seams, .int mo_seamMany, .ref h_mo_rowSeam, .ref h_mo_rowWay, .int mo_rowMany, .long mo_lowUp, .long mo_lowDown, .long mo_highUp, .long mo_highDown, .ref h_mo_quarters, .ref h_mo_begins, .ref h_mo_ends, .ref h_mo_rests, .ref h_mo_bestRow, .ref h_mo_lows, .ref h_mo_highs, .int mo_touchMany, .int mo_shiftX, .int mo_shiftY, .ref h_mo_acts, .ref h_mo_actMany, .ref h_mo_done, .ref h_mo_left, .ref h_mo_waited, .ref h_mo_ran, .int mo_hasRun, .ref h_mo_reached]))] s.heap.size)) args s 0 0 (va_A [(h_mo, .inr (10, [.int mo_middleX, .int mo_middleY, .int mo_linkA, .int mo_linkB, .int mo_flatness, .int mo_gap, .int mo_turn, .int mo_travel, .int mo_lift, .int mo_cool, .int mo_homeX, .int mo_homeY, .ref h_mo_bars, .int mo_barMany, .ref h_mo_seams, .int mo_seamMany, .ref h_mo_rowSeam, .ref h_mo_rowWay, .int mo_rowMany, .long mo_lowUp, .long mo_lowDown, .long mo_highUp, .long mo_highDown, .ref h_mo_quarters, .ref h_mo_begins, .ref h_mo_ends, .ref h_mo_rests, .ref h_mo_bestRow, .ref h_mo_lows, .ref h_mo_highs, .int mo_touchMany, .int mo_shiftX, .int mo_shiftY, .ref h_mo_acts, .ref h_mo_actMany, .ref h_mo_done, .ref h_mo_left, .ref h_mo_waited, .ref h_mo_ran, .int mo_hasRun, .ref h_mo_reached]))] s.heap.size)) D 11 (some (va_A [(h_mo, .inr (10, [.int mo_middleX, .int mo_middleY, .int mo_linkA, .int mo_linkB, .int mo_flatness, .int mo_gap, .int mo_turn, .int mo_travel, .int mo_lift, .int mo_cool, .int mo_homeX, .int mo_homeY, .ref h_mo_bars, .int mo_barMany, .ref h_mo_seams, .int mo_seamMany, .ref h_mo_rowSeam, .ref h_mo_rowWay, .int mo_rowMany, .long mo_lowUp, .long mo_lowDown, .long mo_highUp, .long mo_highDown, .ref h_mo_quarters, .ref h_mo_begins, .ref h_mo_ends, .ref h_mo_rests, .ref h_mo_bestRow, .ref h_mo_lows, .ref h_mo_highs, .int mo_touchMany, .int mo_shiftX, .int mo_shiftY, .ref h_mo_acts, .ref h_mo_actMany, .ref h_mo_done, .ref h_mo_left, .ref h_mo_waited, .ref h_mo_ran, .int mo_hasRun, .ref h_mo_reached]))] s.heap.size)) [(h_mo, .inr (10, [.int mo_middleX, .int mo_middleY, .int mo_linkA, .int mo_linkB, .int mo_flatness, .int mo_gap, .int mo_turn, .int mo_travel, .int mo_lift, .int mo_cool, .int mo_homeX, .int mo_homeY, .ref h_mo_bars, .int mo_barMany, .ref h_mo_seams, .int mo_seamMany, .ref h_mo_rowSeam, .ref h_mo_rowWay, .int mo_rowMany, .long mo_lowUp, .long mo_lowDown, .long mo_highUp, .long mo_highDown, .ref h_mo_quarters, .ref h_mo_begins, .ref h_mo_ends, .ref h_mo_rests, .ref h_mo_bestRow, .ref h_mo_lows, .ref h_mo_highs, .int mo_touchMany, .int mo_shiftX, .int mo_shiftY, .ref h_mo_acts, .ref h_mo_actMany, .ref h_mo_done, .ref h_mo_left, .ref h_mo_waited, .ref h_mo_ran, .int mo_hasRun, .ref h_mo_reached]))] [(0, .ref h_mo), (5, .long w_2), (7, .long w_3)] 69 [.long w_4] := by
          intro w_4 h
          unfold wp_Model_shutIn_j69_7 at h
          refine z_lstore C [(9, .long w_4), (0, .ref h_mo), (5, .long w_2), (7, .long w_3)] d_Model_shutIn_69 rfl rfl ?_
          refine z_lload C d_Model_shutIn_71 2 rfl ?_
          refine z_aload C d_Model_shutIn_73 1 rfl ?_
          refine z_get C fl_Model_155 0 rfl rfl d_Model_shutIn_74 ?_
          refine z_lmul C d_Model_shutIn_77 ?_
          refine z_aload C d_Model_shutIn_78 1 rfl ?_
          refine z_get C fl_Model_159 0 rfl rfl d_Model_shutIn_79 ?_
          refine z_lload C d_Model_shutIn_82 0 rfl ?_
          refine z_lmul C d_Model_shutIn_84 ?_
          refine z_lcmp C d_Model_shutIn_85 ?_
          refine z_if_le C d_Model_shutIn_86 (fun c_5 => ?_) (fun c_5 => ?_)
          · replace h := h.1 c_5
            refine z_lload C d_Model_shutIn_101 3 rfl ?_
            refine z_aload C d_Model_shutIn_103 1 rfl ?_
            refine z_get C fl_Model_162 0 rfl rfl d_Model_shutIn_104 ?_
            refine z_lmul C d_Model_shutIn_107 ?_
            refine z_aload C d_Model_shutIn_108 1 rfl ?_
            refine z_get C fl_Model_165 0 rfl rfl d_Model_shutIn_109 ?_
            refine z_lload C d_Model_shutIn_112 0 rfl ?_
            refine z_lmul C d_Model_shutIn_114 ?_
            refine z_lcmp C d_Model_shutIn_115 ?_
            refine z_if_ge C d_Model_shutIn_116 (fun c_6 => ?_) (fun c_6 => ?_)
            · replace h := h.1 c_6
              refine z_k C d_Model_shutIn_131 ?_
              exact ze_zret C (mo_lowUp, mo_lowDown, mo_highUp, mo_highDown) hr hlk (Or.inr rfl) rfl d_Model_shutIn_132 h
            · replace h := h.2 c_6
              refine z_aload C d_Model_shutIn_119 1 rfl ?_
              refine z_lload C d_Model_shutIn_120 3 rfl ?_
              refine z_put C fp_Model_165 0 rfl rfl rfl rfl [(h_mo, .inr (10, [.int mo_middleX, .int mo_middleY, .int mo_linkA, .int mo_linkB, .int mo_flatness, .int mo_gap, .int mo_turn, .int mo_travel, .int mo_lift, .int mo_cool, .int mo_homeX, .int mo_homeY, .ref h_mo_bars, .int mo_barMany, .ref h_mo_seams, .int mo_seamMany, .ref h_mo_rowSeam, .ref h_mo_rowWay, .int mo_rowMany, .long mo_lowUp, .long mo_lowDown, .long w_3, .long mo_highDown, .ref h_mo_quarters, .ref h_mo_begins, .ref h_mo_ends, .ref h_mo_rests, .ref h_mo_bestRow, .ref h_mo_lows, .ref h_mo_highs, .int mo_touchMany, .int mo_shiftX, .int mo_shiftY, .ref h_mo_acts, .ref h_mo_actMany, .ref h_mo_done, .ref h_mo_left, .ref h_mo_waited, .ref h_mo_ran, .int mo_hasRun, .ref h_mo_reached]))] rfl d_Model_shutIn_122 ?_
              refine z_aload C d_Model_shutIn_125 1 rfl ?_
              refine z_lload C d_Model_shutIn_126 0 rfl ?_
              refine z_put C fp_Model_162 0 rfl rfl rfl rfl [(h_mo, .inr (10, [.int mo_middleX, .int mo_middleY, .int mo_linkA, .int mo_linkB, .int mo_flatness, .int mo_gap, .int mo_turn, .int mo_travel, .int mo_lift, .int mo_cool, .int mo_homeX, .int mo_homeY, .ref h_mo_bars, .int mo_barMany, .ref h_mo_seams, .int mo_seamMany, .ref h_mo_rowSeam, .ref h_mo_rowWay, .int mo_rowMany, .long mo_lowUp, .long mo_lowDown, .long w_3, .long w_4, .ref h_mo_quarters, .ref h_mo_begins, .ref h_mo_ends, .ref h_mo_rests, .ref h_mo_bestRow, .ref h_mo_lows, .ref h_mo_highs, .int mo_touchMany, .int mo_shiftX, .int mo_shiftY, .ref h_mo_acts, .ref h_mo_actMany, .ref h_mo_done, .ref h_mo_left, .ref h_mo_waited, .ref h_mo_ran, .int mo_hasRun, .ref h_mo_reached]))] rfl d_Model_shutIn_128 ?_
              refine z_k C d_Model_shutIn_131 ?_
              exact ze_zret C (mo_lowUp, mo_lowDown, w_3, w_4) hr hlk (Or.inr rfl) rfl d_Model_shutIn_132 h
          · replace h := h.2 c_5
            refine z_aload C d_Model_shutIn_89 1 rfl ?_
            refine z_lload C d_Model_shutIn_90 2 rfl ?_
            refine z_put C fp_Model_159 0 rfl rfl rfl rfl [(h_mo, .inr (10, [.int mo_middleX, .int mo_middleY, .int mo_linkA, .int mo_linkB, .int mo_flatness, .int mo_gap, .int mo_turn, .int mo_travel, .int mo_lift, .int mo_cool, .int mo_homeX, .int mo_homeY, .ref h_mo_bars, .int mo_barMany, .ref h_mo_seams, .int mo_seamMany, .ref h_mo_rowSeam, .ref h_mo_rowWay, .int mo_rowMany, .long w_2, .long mo_lowDown, .long mo_highUp, .long mo_highDown, .ref h_mo_quarters, .ref h_mo_begins, .ref h_mo_ends, .ref h_mo_rests, .ref h_mo_bestRow, .ref h_mo_lows, .ref h_mo_highs, .int mo_touchMany, .int mo_shiftX, .int mo_shiftY, .ref h_mo_acts, .ref h_mo_actMany, .ref h_mo_done, .ref h_mo_left, .ref h_mo_waited, .ref h_mo_ran, .int mo_hasRun, .ref h_mo_reached]))] rfl d_Model_shutIn_92 ?_
            refine z_aload C d_Model_shutIn_95 1 rfl ?_
            refine z_lload C d_Model_shutIn_96 0 rfl ?_
            refine z_put C fp_Model_155 0 rfl rfl rfl rfl [(h_mo, .inr (10, [.int mo_middleX, .int mo_middleY, .int mo_linkA, .int mo_linkB, .int mo_flatness, .int mo_gap, .int mo_turn, .int mo_travel, .int mo_lift, .int mo_cool, .int mo_homeX, .int mo_homeY, .ref h_mo_bars, .int mo_barMany, .ref h_mo_seams, .int mo_seamMany, .ref h_mo_rowSeam, .ref h_mo_rowWay, .int mo_rowMany, .long w_2, .long w_4, .long mo_highUp, .long mo_highDown, .ref h_mo_quarters, .ref h_mo_begins, .ref h_mo_ends, .ref h_mo_rests, .ref h_mo_bestRow, .ref h_mo_lows, .ref h_mo_highs, .int mo_touchMany, .int mo_shiftX, .int mo_shiftY, .ref h_mo_acts, .ref h_mo_actMany, .ref h_mo_done, .ref h_mo_left, .ref h_mo_waited, .ref h_mo_ran, .int mo_hasRun, .ref h_mo_reached]))] rfl d_Model_shutIn_98 ?_
            refine z_lload C d_Model_shutIn_101 3 rfl ?_
            refine z_aload C d_Model_shutIn_103 1 rfl ?_
            refine z_get C fl_Model_162 0 rfl rfl d_Model_shutIn_104 ?_
            refine z_lmul C d_Model_shutIn_107 ?_
            refine z_aload C d_Model_shutIn_108 1 rfl ?_
            refine z_get C fl_Model_165 0 rfl rfl d_Model_shutIn_109 ?_
            refine z_lload C d_Model_shutIn_112 0 rfl ?_
            refine z_lmul C d_Model_shutIn_114 ?_
            refine z_lcmp C d_Model_shutIn_115 ?_
            refine z_if_ge C d_Model_shutIn_116 (fun c_7 => ?_) (fun c_7 => ?_)
            · replace h := h.1 c_7
              refine z_k C d_Model_shutIn_131 ?_
              exact ze_zret C (w_2, w_4, mo_highUp, mo_highDown) hr hlk (Or.inr rfl) rfl d_Model_shutIn_132 h
            · replace h := h.2 c_7
              refine z_aload C d_Model_shutIn_119 1 rfl ?_
              refine z_lload C d_Model_shutIn_120 3 rfl ?_
              refine z_put C fp_Model_165 0 rfl rfl rfl rfl [(h_mo, .inr (10, [.int mo_middleX, .int mo_middleY, .int mo_linkA, .int mo_linkB, .int mo_flatness, .int mo_gap, .int mo_turn, .int mo_travel, .int mo_lift, .int mo_cool, .int mo_homeX, .int mo_homeY, .ref h_mo_bars, .int mo_barMany, .ref h_mo_seams, .int mo_seamMany, .ref h_mo_rowSeam, .ref h_mo_rowWay, .int mo_rowMany, .long w_2, .long w_4, .long w_3, .long mo_highDown, .ref h_mo_quarters, .ref h_mo_begins, .ref h_mo_ends, .ref h_mo_rests, .ref h_mo_bestRow, .ref h_mo_lows, .ref h_mo_highs, .int mo_touchMany, .int mo_shiftX, .int mo_shiftY, .ref h_mo_acts, .ref h_mo_actMany, .ref h_mo_done, .ref h_mo_left, .ref h_mo_waited, .ref h_mo_ran, .int mo_hasRun, .ref h_mo_reached]))] rfl d_Model_shutIn_122 ?_
              refine z_aload C d_Model_shutIn_125 1 rfl ?_
              refine z_lload C d_Model_shutIn_126 0 rfl ?_
              refine z_put C fp_Model_162 0 rfl rfl rfl rfl [(h_mo, .inr (10, [.int mo_middleX, .int mo_middleY, .int mo_linkA, .int mo_linkB, .int mo_flatness, .int mo_gap, .int mo_turn, .int mo_travel, .int mo_lift, .int mo_cool, .int mo_homeX, .int mo_homeY, .ref h_mo_bars, .int mo_barMany, .ref h_mo_seams, .int mo_seamMany, .ref h_mo_rowSeam, .ref h_mo_rowWay, .int mo_rowMany, .long w_2, .long w_4, .long w_3, .long w_4, .ref h_mo_quarters, .ref h_mo_begins, .ref h_mo_ends, .ref h_mo_rests, .ref h_mo_bestRow, .ref h_mo_lows, .ref h_mo_highs, .int mo_touchMany, .int mo_shiftX, .int mo_shiftY, .ref h_mo_acts, .ref h_mo_actMany, .ref h_mo_done, .ref h_mo_left, .ref h_mo_waited, .ref h_mo_ran, .int mo_hasRun, .ref h_mo_reached]))] rfl d_Model_shutIn_128 ?_
              refine z_k C d_Model_shutIn_131 ?_
              exact ze_zret C (w_2, w_4, w_3, w_4) hr hlk (Or.inr rfl) rfl d_Model_shutIn_132 h
        refine z_if_le C d_Model_shutIn_58 (fun c_8 => ?_) (fun c_8 => ?_)
        · replace h := h.1 c_8
          refine z_iload C d_Model_shutIn_66 2 rfl ?_
          refine z_ineg C d_Model_shutIn_67 ?_
          refine z_i2l C d_Model_shutIn_68 ?_
          refine z_sub [1, 3, 0] [(0, .ref h_mo), (5, .long w_2), (7, .long w_3)] rfl ?_
          exact J_69 ((-p1).toInt64) h
        · replace h := h.2 c_8
          refine z_iload C d_Model_shutIn_61 2 rfl ?_
          refine z_i2l C d_Model_shutIn_62 ?_
          refine z_goto C d_Model_shutIn_63 ?_
          refine z_sub [1, 3, 0] [(0, .ref h_mo), (5, .long w_2), (7, .long w_3)] rfl ?_
          exact J_69 p1.toInt64 h
      refine z_if_le C d_Model_shutIn_40 (fun c_9 => ?_) (fun c_9 => ?_)
      · replace h := h.1 c_9
        refine z_iload C d_Model_shutIn_51 2 rfl ?_
        refine z_iload C d_Model_shutIn_52 4 rfl ?_
        refine z_isub C d_Model_shutIn_53 ?_
        refine z_i2l C d_Model_shutIn_54 ?_
        refine z_sub [1, 3, 0] [(0, .ref h_mo), (2, .int p1), (5, .long w_2)] rfl ?_
        exact J_55 ((p0 - p2).toInt64) h
      · replace h := h.2 c_9
        refine z_iload C d_Model_shutIn_43 5 rfl ?_
        refine z_iload C d_Model_shutIn_45 2 rfl ?_
        refine z_isub C d_Model_shutIn_46 ?_
        refine z_i2l C d_Model_shutIn_47 ?_
        refine z_goto C d_Model_shutIn_48 ?_
        refine z_sub [1, 3, 0] [(0, .ref h_mo), (2, .int p1), (5, .long w_2)] rfl ?_
        exact J_55 ((p3 - p0).toInt64) h
    refine z_if_le C d_Model_shutIn_22 (fun c_10 => ?_) (fun c_10 => ?_)
    · replace h := h.1 c_10
      refine z_iload C d_Model_shutIn_32 1 rfl ?_
      refine z_iload C d_Model_shutIn_33 4 rfl ?_
      refine z_isub C d_Model_shutIn_35 ?_
      refine z_i2l C d_Model_shutIn_36 ?_
      refine z_sub [0, 1, 2, 3, 4] [(0, .ref h_mo), (1, .int p0), (2, .int p1), (3, .int p2), (4, .int p3)] rfl ?_
      exact J_37 ((p0 - p3).toInt64) h
    · replace h := h.2 c_10
      refine z_iload C d_Model_shutIn_25 3 rfl ?_
      refine z_iload C d_Model_shutIn_26 1 rfl ?_
      refine z_isub C d_Model_shutIn_27 ?_
      refine z_i2l C d_Model_shutIn_28 ?_
      refine z_goto C d_Model_shutIn_29 ?_
      refine z_sub [0, 1, 2, 3, 4] [(0, .ref h_mo), (1, .int p0), (2, .int p1), (3, .int p2), (4, .int p3)] rfl ?_
      exact J_37 ((p2 - p0).toInt64) h
  · replace h := h.2 c_1
    refine z_iload C d_Model_shutIn_4 1 rfl ?_
    refine z_iload C d_Model_shutIn_5 3 rfl ?_
    refine z_icmp_le C d_Model_shutIn_6 (fun c_11 => ?_) (fun c_11 => ?_)
    · replace h := h.1 c_11
      refine z_k C d_Model_shutIn_19 ?_
      exact ze_zret C (mo_lowUp, mo_lowDown, mo_highUp, mo_highDown) hr hlk (Or.inl rfl) rfl d_Model_shutIn_20 h
    · replace h := h.2 c_11
      refine z_iload C d_Model_shutIn_9 1 rfl ?_
      refine z_iload C d_Model_shutIn_10 4 rfl ?_
      refine z_icmp_ge C d_Model_shutIn_12 (fun c_12 => ?_) (fun c_12 => ?_)
      · replace h := h.1 c_12
        refine z_k C d_Model_shutIn_19 ?_
        exact ze_zret C (mo_lowUp, mo_lowDown, mo_highUp, mo_highDown) hr hlk (Or.inl rfl) rfl d_Model_shutIn_20 h
      · replace h := h.2 c_12
        refine z_k C d_Model_shutIn_15 ?_
        refine z_goto C d_Model_shutIn_16 ?_
        exact ze_zret C (mo_lowUp, mo_lowDown, mo_highUp, mo_highDown) hr hlk (Or.inr rfl) rfl d_Model_shutIn_20 h
def wp_Model_goesThrough (mo_bars : Nat → Int32) (p0 : Int32) (p1 : Int32) (p2 : Int32) (p3 : Int32) (p4 : Int32) (post : Int32 → Int64 → Int64 → Int64 → Int64 → Prop) : Prop :=
  (vp_in ((4 : Int32) * p0) 16 ∧ (vp_in (((4 : Int32) * p0) + (2 : Int32)) 16 ∧ (wp_Model_shutIn (-1 : Int64) (1 : Int64) (2 : Int64) (1 : Int64) p1 (p3 - p1) (mo_bars (((4 : Int32) * p0).toNatClampNeg)) (mo_bars ((((4 : Int32) * p0) + (2 : Int32)).toNatClampNeg)) (fun r_1 mo_lowUp_2 mo_lowDown_3 mo_highUp_4 mo_highDown_5 => ((r_1 = 0 → (post (0 : Int32) mo_lowUp_2 mo_lowDown_3 mo_highUp_4 mo_highDown_5)) ∧ (¬ r_1 = 0 → (vp_in (((4 : Int32) * p0) + (1 : Int32)) 16 ∧ (vp_in (((4 : Int32) * p0) + (3 : Int32)) 16 ∧ (wp_Model_shutIn mo_lowUp_2 mo_lowDown_3 mo_highUp_4 mo_highDown_5 p2 (p4 - p2) (mo_bars ((((4 : Int32) * p0) + (1 : Int32)).toNatClampNeg)) (mo_bars ((((4 : Int32) * p0) + (3 : Int32)).toNatClampNeg)) (fun r_7 mo_lowUp_8 mo_lowDown_9 mo_highUp_10 mo_highDown_11 => ((¬ r_7 = 0 → ((0 ≤ (lg_cmp (mo_lowUp_8 * mo_highDown_11) (mo_highUp_10 * mo_lowDown_9)) → (post (0 : Int32) mo_lowUp_8 mo_lowDown_9 mo_highUp_10 mo_highDown_11)) ∧ (¬ 0 ≤ (lg_cmp (mo_lowUp_8 * mo_highDown_11) (mo_highUp_10 * mo_lowDown_9)) → ((0 ≤ (lg_cmp mo_lowUp_8 mo_lowDown_9) → (post (0 : Int32) mo_lowUp_8 mo_lowDown_9 mo_highUp_10 mo_highDown_11)) ∧ (¬ 0 ≤ (lg_cmp mo_lowUp_8 mo_lowDown_9) → (((lg_cmp mo_highUp_10 (0 : Int64)) ≤ 0 → (post (0 : Int32) mo_lowUp_8 mo_lowDown_9 mo_highUp_10 mo_highDown_11)) ∧ (¬ (lg_cmp mo_highUp_10 (0 : Int64)) ≤ 0 → (post (1 : Int32) mo_lowUp_8 mo_lowDown_9 mo_highUp_10 mo_highDown_11)))))))) ∧ (r_7 = 0 → (post (0 : Int32) mo_lowUp_8 mo_lowDown_9 mo_highUp_10 mo_highDown_11)))))))))))))
abbrev rm_Model_goesThrough : Room := { frames := 1, cells := 0, slots := 0, locals := 30 }
set_option maxHeartbeats 4000000 in
set_option maxRecDepth 100000 in
theorem c_Model_goesThrough (l : Launch) (D : va_G) (κ : KT) (h_mo : Nat) (h_mo_bars : Nat) (h_mo_seams : Nat) (h_mo_rowSeam : Nat) (h_mo_rowWay : Nat) (h_mo_quarters : Nat) (h_mo_begins : Nat) (h_mo_ends : Nat) (h_mo_rests : Nat) (h_mo_bestRow : Nat) (h_mo_lows : Nat) (h_mo_highs : Nat) (h_mo_acts : Nat) (h_mo_actMany : Nat) (h_mo_done : Nat) (h_mo_left : Nat) (h_mo_waited : Nat) (h_mo_ran : Nat) (h_mo_reached : Nat) (mo_middleX : Int32) (mo_middleY : Int32) (mo_linkA : Int32) (mo_linkB : Int32) (mo_flatness : Int32) (mo_gap : Int32) (mo_turn : Int32) (mo_travel : Int32) (mo_lift : Int32) (mo_cool : Int32) (mo_homeX : Int32) (mo_homeY : Int32) (mo_barMany : Int32) (mo_seamMany : Int32) (mo_rowMany : Int32) (mo_lowUp : Int64) (mo_lowDown : Int64) (mo_highUp : Int64) (mo_highDown : Int64) (mo_touchMany : Int32) (mo_shiftX : Int32) (mo_shiftY : Int32) (mo_hasRun : Int32) (mo_bars : Nat → Int32) (p0 : Int32) (p1 : Int32) (p2 : Int32) (p3 : Int32) (p4 : Int32) (sz : Nat) (post : Int32 → Int64 → Int64 → Int64 → Int64 → Prop) (h : wp_Model_goesThrough mo_bars p0 p1 p2 p3 p4 post) : Met l y_Model_goesThrough (wsG y_Model_goesThrough b_Model_goesThrough 6 (some .boolean)) rm_Model_goesThrough (PE D κ [.ref h_mo, .int p0, .int p1, .int p2, .int p3, .int p4] [(h_mo, .inr (10, [.int mo_middleX, .int mo_middleY, .int mo_linkA, .int mo_linkB, .int mo_flatness, .int mo_gap, .int mo_turn, .int mo_travel, .int mo_lift, .int mo_cool, .int mo_homeX, .int mo_homeY, .ref h_mo_bars, .int mo_barMany, .ref h_mo_seams, .int mo_seamMany, .ref h_mo_rowSeam, .ref h_mo_rowWay, .int mo_rowMany, .long mo_lowUp, .long mo_lowDown, .long mo_highUp, .long mo_highDown, .ref h_mo_quarters, .ref h_mo_begins, .ref h_mo_ends, .ref h_mo_rests, .ref h_mo_bestRow, .ref h_mo_lows, .ref h_mo_highs, .int mo_touchMany, .int mo_shiftX, .int mo_shiftY, .ref h_mo_acts, .ref h_mo_actMany, .ref h_mo_done, .ref h_mo_left, .ref h_mo_waited, .ref h_mo_ran, .int mo_hasRun, .ref h_mo_reached])), (h_mo_bars, cI κ 16 mo_bars)] sz) (va_Qi (fun (r : Int32) (u : (Int64) × (Int64) × (Int64) × (Int64)) => post r u.1 u.2.1 u.2.2.1 u.2.2.2) (QB D [(h_mo, .inr (10, [.int mo_middleX, .int mo_middleY, .int mo_linkA, .int mo_linkB, .int mo_flatness, .int mo_gap, .int mo_turn, .int mo_travel, .int mo_lift, .int mo_cool, .int mo_homeX, .int mo_homeY, .ref h_mo_bars, .int mo_barMany, .ref h_mo_seams, .int mo_seamMany, .ref h_mo_rowSeam, .ref h_mo_rowWay, .int mo_rowMany, .long mo_lowUp, .long mo_lowDown, .long mo_highUp, .long mo_highDown, .ref h_mo_quarters, .ref h_mo_begins, .ref h_mo_ends, .ref h_mo_rests, .ref h_mo_bestRow, .ref h_mo_lows, .ref h_mo_highs, .int mo_touchMany, .int mo_shiftX, .int mo_shiftY, .ref h_mo_acts, .ref h_mo_actMany, .ref h_mo_done, .ref h_mo_left, .ref h_mo_waited, .ref h_mo_ran, .int mo_hasRun, .ref h_mo_reached])), (h_mo_bars, cI κ 16 mo_bars)] sz (fun (u : (Int64) × (Int64) × (Int64) × (Int64)) => [(h_mo, .inr (10, [.int mo_middleX, .int mo_middleY, .int mo_linkA, .int mo_linkB, .int mo_flatness, .int mo_gap, .int mo_turn, .int mo_travel, .int mo_lift, .int mo_cool, .int mo_homeX, .int mo_homeY, .ref h_mo_bars, .int mo_barMany, .ref h_mo_seams, .int mo_seamMany, .ref h_mo_rowSeam, .ref h_mo_rowWay, .int mo_rowMany, .long u.1, .long u.2.1, .long u.2.2.1, .long u.2.2.2, .ref h_mo_quarters, .ref h_mo_begins, .ref h_mo_ends, .ref h_mo_rests, .ref h_mo_bestRow, .ref h_mo_lows, .ref h_mo_highs, .int mo_touchMany, .int mo_shiftX, .int mo_shiftY, .ref h_mo_acts, .ref h_mo_actMany, .ref h_mo_done, .ref h_mo_left, .ref h_mo_waited, .ref h_mo_ran, .int mo_hasRun, .ref h_mo_reached])), (h_mo_bars, cI κ 16 mo_bars)])) (va_A [(h_mo, .inr (10, [.int mo_middleX, .int mo_middleY, .int mo_linkA, .int mo_linkB, .int mo_flatness, .int mo_gap, .int mo_turn, .int mo_travel, .int mo_lift, .int mo_cool, .int mo_homeX, .int mo_homeY, .ref h_mo_bars, .int mo_barMany, .ref h_mo_seams, .int mo_seamMany, .ref h_mo_rowSeam, .ref h_mo_rowWay, .int mo_rowMany, .long mo_lowUp, .long mo_lowDown, .long mo_highUp, .long mo_highDown, .ref h_mo_quarters, .ref h_mo_begins, .ref h_mo_ends, .ref h_mo_rests, .ref h_mo_bestRow, .ref h_mo_lows, .ref h_mo_highs, .int mo_touchMany, .int mo_shiftX, .int mo_shiftY, .ref h_mo_acts, .ref h_mo_actMany, .ref h_mo_done, .ref h_mo_left, .ref h_mo_waited, .ref h_mo_ran, .int mo_hasRun, .ref h_mo_reached])), (h_mo_bars, cI κ 16 mo_bars)] sz)) 0 0 (va_A [(h_mo, .inr (10, [.int mo_middleX, .int mo_middleY, .int mo_linkA, .int mo_linkB, .int mo_flatness, .int mo_gap, .int mo_turn, .int mo_travel, .int mo_lift, .int mo_cool, .int mo_homeX, .int mo_homeY, .ref h_mo_bars, .int mo_barMany, .ref h_mo_seams, .int mo_seamMany, .ref h_mo_rowSeam, .ref h_mo_rowWay, .int mo_rowMany, .long mo_lowUp, .long mo_lowDown, .long mo_highUp, .long mo_highDown, .ref h_mo_quarters, .ref h_mo_begins, .ref h_mo_ends, .ref h_mo_rests, .ref h_mo_bestRow, .ref h_mo_lows, .ref h_mo_highs, .int mo_touchMany, .int mo_shiftX, .int mo_shiftY, .ref h_mo_acts, .ref h_mo_actMany, .ref h_mo_done, .ref h_mo_left, .ref h_mo_waited, .ref h_mo_ran, .int mo_hasRun, .ref h_mo_reached])), (h_mo_bars, cI κ 16 mo_bars)] sz) := by
  refine ze_start [(0, .ref h_mo), (1, .int p0), (2, .int p1), (3, .int p2), (4, .int p3), (5, .int p4)] rfl (Nat.le_of_ble_eq_true rfl) rfl ?_
  intro p e s m args below meth c C hr hlk hnm hsz
  subst hsz
  unfold wp_Model_goesThrough at h
  refine z_aload C d_Model_goesThrough_0 0 rfl ?_
  refine z_ldc2 C d_Model_goesThrough_1 wk_Model_168 ?_
  refine z_put C fp_Model_159 0 rfl rfl rfl rfl [(h_mo, .inr (10, [.int mo_middleX, .int mo_middleY, .int mo_linkA, .int mo_linkB, .int mo_flatness, .int mo_gap, .int mo_turn, .int mo_travel, .int mo_lift, .int mo_cool, .int mo_homeX, .int mo_homeY, .ref h_mo_bars, .int mo_barMany, .ref h_mo_seams, .int mo_seamMany, .ref h_mo_rowSeam, .ref h_mo_rowWay, .int mo_rowMany, .long (-1 : Int64), .long mo_lowDown, .long mo_highUp, .long mo_highDown, .ref h_mo_quarters, .ref h_mo_begins, .ref h_mo_ends, .ref h_mo_rests, .ref h_mo_bestRow, .ref h_mo_lows, .ref h_mo_highs, .int mo_touchMany, .int mo_shiftX, .int mo_shiftY, .ref h_mo_acts, .ref h_mo_actMany, .ref h_mo_done, .ref h_mo_left, .ref h_mo_waited, .ref h_mo_ran, .int mo_hasRun, .ref h_mo_reached])), (h_mo_bars, cI κ 16 mo_bars)] rfl d_Model_goesThrough_4 ?_
  refine z_aload C d_Model_goesThrough_7 0 rfl ?_
  refine z_lk C d_Model_goesThrough_8 ?_
  refine z_put C fp_Model_155 0 rfl rfl rfl rfl [(h_mo, .inr (10, [.int mo_middleX, .int mo_middleY, .int mo_linkA, .int mo_linkB, .int mo_flatness, .int mo_gap, .int mo_turn, .int mo_travel, .int mo_lift, .int mo_cool, .int mo_homeX, .int mo_homeY, .ref h_mo_bars, .int mo_barMany, .ref h_mo_seams, .int mo_seamMany, .ref h_mo_rowSeam, .ref h_mo_rowWay, .int mo_rowMany, .long (-1 : Int64), .long (1 : Int64), .long mo_highUp, .long mo_highDown, .ref h_mo_quarters, .ref h_mo_begins, .ref h_mo_ends, .ref h_mo_rests, .ref h_mo_bestRow, .ref h_mo_lows, .ref h_mo_highs, .int mo_touchMany, .int mo_shiftX, .int mo_shiftY, .ref h_mo_acts, .ref h_mo_actMany, .ref h_mo_done, .ref h_mo_left, .ref h_mo_waited, .ref h_mo_ran, .int mo_hasRun, .ref h_mo_reached])), (h_mo_bars, cI κ 16 mo_bars)] rfl d_Model_goesThrough_9 ?_
  refine z_aload C d_Model_goesThrough_12 0 rfl ?_
  refine z_ldc2 C d_Model_goesThrough_13 wk_Model_170 ?_
  refine z_put C fp_Model_165 0 rfl rfl rfl rfl [(h_mo, .inr (10, [.int mo_middleX, .int mo_middleY, .int mo_linkA, .int mo_linkB, .int mo_flatness, .int mo_gap, .int mo_turn, .int mo_travel, .int mo_lift, .int mo_cool, .int mo_homeX, .int mo_homeY, .ref h_mo_bars, .int mo_barMany, .ref h_mo_seams, .int mo_seamMany, .ref h_mo_rowSeam, .ref h_mo_rowWay, .int mo_rowMany, .long (-1 : Int64), .long (1 : Int64), .long (2 : Int64), .long mo_highDown, .ref h_mo_quarters, .ref h_mo_begins, .ref h_mo_ends, .ref h_mo_rests, .ref h_mo_bestRow, .ref h_mo_lows, .ref h_mo_highs, .int mo_touchMany, .int mo_shiftX, .int mo_shiftY, .ref h_mo_acts, .ref h_mo_actMany, .ref h_mo_done, .ref h_mo_left, .ref h_mo_waited, .ref h_mo_ran, .int mo_hasRun, .ref h_mo_reached])), (h_mo_bars, cI κ 16 mo_bars)] rfl d_Model_goesThrough_16 ?_
  refine z_aload C d_Model_goesThrough_19 0 rfl ?_
  refine z_lk C d_Model_goesThrough_20 ?_
  refine z_put C fp_Model_162 0 rfl rfl rfl rfl [(h_mo, .inr (10, [.int mo_middleX, .int mo_middleY, .int mo_linkA, .int mo_linkB, .int mo_flatness, .int mo_gap, .int mo_turn, .int mo_travel, .int mo_lift, .int mo_cool, .int mo_homeX, .int mo_homeY, .ref h_mo_bars, .int mo_barMany, .ref h_mo_seams, .int mo_seamMany, .ref h_mo_rowSeam, .ref h_mo_rowWay, .int mo_rowMany, .long (-1 : Int64), .long (1 : Int64), .long (2 : Int64), .long (1 : Int64), .ref h_mo_quarters, .ref h_mo_begins, .ref h_mo_ends, .ref h_mo_rests, .ref h_mo_bestRow, .ref h_mo_lows, .ref h_mo_highs, .int mo_touchMany, .int mo_shiftX, .int mo_shiftY, .ref h_mo_acts, .ref h_mo_actMany, .ref h_mo_done, .ref h_mo_left, .ref h_mo_waited, .ref h_mo_ran, .int mo_hasRun, .ref h_mo_reached])), (h_mo_bars, cI κ 16 mo_bars)] rfl d_Model_goesThrough_21 ?_
  refine z_aload C d_Model_goesThrough_24 0 rfl ?_
  refine z_iload C d_Model_goesThrough_25 2 rfl ?_
  refine z_iload C d_Model_goesThrough_26 4 rfl ?_
  refine z_iload C d_Model_goesThrough_28 2 rfl ?_
  refine z_isub C d_Model_goesThrough_29 ?_
  refine z_aload C d_Model_goesThrough_30 0 rfl ?_
  refine z_get C fl_Model_37 0 rfl rfl d_Model_goesThrough_31 ?_
  refine z_k C d_Model_goesThrough_34 ?_
  refine z_iload C d_Model_goesThrough_35 1 rfl ?_
  refine z_imul C d_Model_goesThrough_36 ?_
  refine z_iald C 1 rfl h.1 d_Model_goesThrough_37 ?_
  replace h := h.2
  refine z_aload C d_Model_goesThrough_38 0 rfl ?_
  refine z_get C fl_Model_37 0 rfl rfl d_Model_goesThrough_39 ?_
  refine z_k C d_Model_goesThrough_42 ?_
  refine z_iload C d_Model_goesThrough_43 1 rfl ?_
  refine z_imul C d_Model_goesThrough_44 ?_
  refine z_k C d_Model_goesThrough_45 ?_
  refine z_iadd C d_Model_goesThrough_46 ?_
  refine z_iald C 1 rfl h.1 d_Model_goesThrough_47 ?_
  replace h := h.2
  refine z_vei C (rest := []) (wr := [(h_mo_bars, cI κ 16 mo_bars)]) (fun sz => c_Model_shutIn l D κ h_mo h_mo_bars h_mo_seams h_mo_rowSeam h_mo_rowWay h_mo_quarters h_mo_begins h_mo_ends h_mo_rests h_mo_bestRow h_mo_lows h_mo_highs h_mo_acts h_mo_actMany h_mo_done h_mo_left h_mo_waited h_mo_ran h_mo_reached mo_middleX mo_middleY mo_linkA mo_linkB mo_flatness mo_gap mo_turn mo_travel mo_lift mo_cool mo_homeX mo_homeY mo_barMany mo_seamMany mo_rowMany (-1 : Int64) (1 : Int64) (2 : Int64) (1 : Int64) mo_touchMany mo_shiftX mo_shiftY mo_hasRun p1 (p3 - p1) (mo_bars (((4 : Int32) * p0).toNatClampNeg)) (mo_bars ((((4 : Int32) * p0) + (2 : Int32)).toNatClampNeg)) sz _ h) cv_Model_172 ⟨rfl, rfl⟩ ⟨⟨Nat.le_of_ble_eq_true rfl, Nat.le_of_ble_eq_true rfl⟩, Nat.le_of_ble_eq_true rfl, Nat.le_of_ble_eq_true rfl⟩ 0 rfl [0] [1] rfl rfl rfl (fun u => [(h_mo, .inr (10, [.int mo_middleX, .int mo_middleY, .int mo_linkA, .int mo_linkB, .int mo_flatness, .int mo_gap, .int mo_turn, .int mo_travel, .int mo_lift, .int mo_cool, .int mo_homeX, .int mo_homeY, .ref h_mo_bars, .int mo_barMany, .ref h_mo_seams, .int mo_seamMany, .ref h_mo_rowSeam, .ref h_mo_rowWay, .int mo_rowMany, .long u.1, .long u.2.1, .long u.2.2.1, .long u.2.2.2, .ref h_mo_quarters, .ref h_mo_begins, .ref h_mo_ends, .ref h_mo_rests, .ref h_mo_bestRow, .ref h_mo_lows, .ref h_mo_highs, .int mo_touchMany, .int mo_shiftX, .int mo_shiftY, .ref h_mo_acts, .ref h_mo_actMany, .ref h_mo_done, .ref h_mo_left, .ref h_mo_waited, .ref h_mo_ran, .int mo_hasRun, .ref h_mo_reached])), (h_mo_bars, cI κ 16 mo_bars)]) [1, 0] rfl (fun _ => rfl) rfl rfl (Nat.le_of_ble_eq_true rfl) d_Model_goesThrough_48 (fun r_1 u_5 h => ?_)
  obtain ⟨mo_lowUp_2, mo_lowDown_3, mo_highUp_4, mo_highDown_5⟩ := u_5
  (try dsimp only at h); (try dsimp only)
  refine z_if_eq C d_Model_goesThrough_51 (fun c_6 => ?_) (fun c_6 => ?_)
  · replace h := h.1 c_6
    refine z_k C d_Model_goesThrough_86 ?_
    exact ze_zret C (mo_lowUp_2, mo_lowDown_3, mo_highUp_4, mo_highDown_5) hr hlk (Or.inl rfl) rfl d_Model_goesThrough_87 h
  · replace h := h.2 c_6
    refine z_aload C d_Model_goesThrough_54 0 rfl ?_
    refine z_iload C d_Model_goesThrough_55 3 rfl ?_
    refine z_iload C d_Model_goesThrough_56 5 rfl ?_
    refine z_iload C d_Model_goesThrough_58 3 rfl ?_
    refine z_isub C d_Model_goesThrough_59 ?_
    refine z_aload C d_Model_goesThrough_60 0 rfl ?_
    refine z_get C fl_Model_37 0 rfl rfl d_Model_goesThrough_61 ?_
    refine z_k C d_Model_goesThrough_64 ?_
    refine z_iload C d_Model_goesThrough_65 1 rfl ?_
    refine z_imul C d_Model_goesThrough_66 ?_
    refine z_k C d_Model_goesThrough_67 ?_
    refine z_iadd C d_Model_goesThrough_68 ?_
    refine z_iald C 1 rfl h.1 d_Model_goesThrough_69 ?_
    replace h := h.2
    refine z_aload C d_Model_goesThrough_70 0 rfl ?_
    refine z_get C fl_Model_37 0 rfl rfl d_Model_goesThrough_71 ?_
    refine z_k C d_Model_goesThrough_74 ?_
    refine z_iload C d_Model_goesThrough_75 1 rfl ?_
    refine z_imul C d_Model_goesThrough_76 ?_
    refine z_k C d_Model_goesThrough_77 ?_
    refine z_iadd C d_Model_goesThrough_78 ?_
    refine z_iald C 1 rfl h.1 d_Model_goesThrough_79 ?_
    replace h := h.2
    refine z_vei C (rest := []) (wr := [(h_mo_bars, cI κ 16 mo_bars)]) (fun sz => c_Model_shutIn l D κ h_mo h_mo_bars h_mo_seams h_mo_rowSeam h_mo_rowWay h_mo_quarters h_mo_begins h_mo_ends h_mo_rests h_mo_bestRow h_mo_lows h_mo_highs h_mo_acts h_mo_actMany h_mo_done h_mo_left h_mo_waited h_mo_ran h_mo_reached mo_middleX mo_middleY mo_linkA mo_linkB mo_flatness mo_gap mo_turn mo_travel mo_lift mo_cool mo_homeX mo_homeY mo_barMany mo_seamMany mo_rowMany mo_lowUp_2 mo_lowDown_3 mo_highUp_4 mo_highDown_5 mo_touchMany mo_shiftX mo_shiftY mo_hasRun p2 (p4 - p2) (mo_bars ((((4 : Int32) * p0) + (1 : Int32)).toNatClampNeg)) (mo_bars ((((4 : Int32) * p0) + (3 : Int32)).toNatClampNeg)) sz _ h) cv_Model_172 ⟨rfl, rfl⟩ ⟨⟨Nat.le_of_ble_eq_true rfl, Nat.le_of_ble_eq_true rfl⟩, Nat.le_of_ble_eq_true rfl, Nat.le_of_ble_eq_true rfl⟩ 0 rfl [0] [1] rfl rfl rfl (fun u => [(h_mo, .inr (10, [.int mo_middleX, .int mo_middleY, .int mo_linkA, .int mo_linkB, .int mo_flatness, .int mo_gap, .int mo_turn, .int mo_travel, .int mo_lift, .int mo_cool, .int mo_homeX, .int mo_homeY, .ref h_mo_bars, .int mo_barMany, .ref h_mo_seams, .int mo_seamMany, .ref h_mo_rowSeam, .ref h_mo_rowWay, .int mo_rowMany, .long u.1, .long u.2.1, .long u.2.2.1, .long u.2.2.2, .ref h_mo_quarters, .ref h_mo_begins, .ref h_mo_ends, .ref h_mo_rests, .ref h_mo_bestRow, .ref h_mo_lows, .ref h_mo_highs, .int mo_touchMany, .int mo_shiftX, .int mo_shiftY, .ref h_mo_acts, .ref h_mo_actMany, .ref h_mo_done, .ref h_mo_left, .ref h_mo_waited, .ref h_mo_ran, .int mo_hasRun, .ref h_mo_reached])), (h_mo_bars, cI κ 16 mo_bars)]) [1, 0] rfl (fun _ => rfl) rfl rfl (Nat.le_of_ble_eq_true rfl) d_Model_goesThrough_80 (fun r_7 u_11 h => ?_)
    obtain ⟨mo_lowUp_8, mo_lowDown_9, mo_highUp_10, mo_highDown_11⟩ := u_11
    (try dsimp only at h); (try dsimp only)
    refine z_if_ne C d_Model_goesThrough_83 (fun c_12 => ?_) (fun c_12 => ?_)
    · replace h := h.1 c_12
      refine z_aload C d_Model_goesThrough_88 0 rfl ?_
      refine z_get C fl_Model_159 0 rfl rfl d_Model_goesThrough_89 ?_
      refine z_aload C d_Model_goesThrough_92 0 rfl ?_
      refine z_get C fl_Model_162 0 rfl rfl d_Model_goesThrough_93 ?_
      refine z_lmul C d_Model_goesThrough_96 ?_
      refine z_aload C d_Model_goesThrough_97 0 rfl ?_
      refine z_get C fl_Model_165 0 rfl rfl d_Model_goesThrough_98 ?_
      refine z_aload C d_Model_goesThrough_101 0 rfl ?_
      refine z_get C fl_Model_155 0 rfl rfl d_Model_goesThrough_102 ?_
      refine z_lmul C d_Model_goesThrough_105 ?_
      refine z_lcmp C d_Model_goesThrough_106 ?_
      refine z_if_ge C d_Model_goesThrough_107 (fun c_13 => ?_) (fun c_13 => ?_)
      · replace h := h.1 c_13
        refine z_k C d_Model_goesThrough_135 ?_
        exact ze_zret C (mo_lowUp_8, mo_lowDown_9, mo_highUp_10, mo_highDown_11) hr hlk (Or.inl rfl) rfl d_Model_goesThrough_136 h
      · replace h := h.2 c_13
        refine z_aload C d_Model_goesThrough_110 0 rfl ?_
        refine z_get C fl_Model_159 0 rfl rfl d_Model_goesThrough_111 ?_
        refine z_aload C d_Model_goesThrough_114 0 rfl ?_
        refine z_get C fl_Model_155 0 rfl rfl d_Model_goesThrough_115 ?_
        refine z_lcmp C d_Model_goesThrough_118 ?_
        refine z_if_ge C d_Model_goesThrough_119 (fun c_14 => ?_) (fun c_14 => ?_)
        · replace h := h.1 c_14
          refine z_k C d_Model_goesThrough_135 ?_
          exact ze_zret C (mo_lowUp_8, mo_lowDown_9, mo_highUp_10, mo_highDown_11) hr hlk (Or.inl rfl) rfl d_Model_goesThrough_136 h
        · replace h := h.2 c_14
          refine z_aload C d_Model_goesThrough_122 0 rfl ?_
          refine z_get C fl_Model_165 0 rfl rfl d_Model_goesThrough_123 ?_
          refine z_lk C d_Model_goesThrough_126 ?_
          refine z_lcmp C d_Model_goesThrough_127 ?_
          refine z_if_le C d_Model_goesThrough_128 (fun c_15 => ?_) (fun c_15 => ?_)
          · replace h := h.1 c_15
            refine z_k C d_Model_goesThrough_135 ?_
            exact ze_zret C (mo_lowUp_8, mo_lowDown_9, mo_highUp_10, mo_highDown_11) hr hlk (Or.inl rfl) rfl d_Model_goesThrough_136 h
          · replace h := h.2 c_15
            refine z_k C d_Model_goesThrough_131 ?_
            refine z_goto C d_Model_goesThrough_132 ?_
            exact ze_zret C (mo_lowUp_8, mo_lowDown_9, mo_highUp_10, mo_highDown_11) hr hlk (Or.inr rfl) rfl d_Model_goesThrough_136 h
    · replace h := h.2 c_12
      refine z_k C d_Model_goesThrough_86 ?_
      exact ze_zret C (mo_lowUp_8, mo_lowDown_9, mo_highUp_10, mo_highDown_11) hr hlk (Or.inl rfl) rfl d_Model_goesThrough_87 h
def wpB_Model_isFree_6 (mo_barMany : Int32) (mo_bars : Nat → Int32) (p0 : Int32) (p1 : Int32) (p2 : Int32) (p3 : Int32) (post : Int32 → Int64 → Int64 → Int64 → Int64 → Prop) (ih_6 : Int64 → Int64 → Int64 → Int64 → Int32 → Int32 → Prop) (mo_highDown_1 : Int64) (mo_highUp_2 : Int64) (mo_lowDown_3 : Int64) (mo_lowUp_4 : Int64) (x5_5 : Int32) (x6_6 : Int32) : Prop :=
  ((mo_barMany ≤ x6_6 → ((x5_5 = 0 ∨ x5_5 = 1) ∧ (post x5_5 mo_lowUp_4 mo_lowDown_3 mo_highUp_2 mo_highDown_1))) ∧ (¬ mo_barMany ≤ x6_6 → ((x5_5 = 0 → ((x5_5 = 0 ∨ x5_5 = 1) ∧ (post x5_5 mo_lowUp_4 mo_lowDown_3 mo_highUp_2 mo_highDown_1))) ∧ (¬ x5_5 = 0 → (wp_Model_goesThrough mo_bars x6_6 p0 p1 p2 p3 (fun r_9 mo_lowUp_10 mo_lowDown_11 mo_highUp_12 mo_highDown_13 => ((¬ r_9 = 0 → (∀ x6_15 : Int32, x6_15 = x6_6 + (1 : Int32) → (ih_6 mo_highDown_13 mo_highUp_12 mo_lowDown_11 mo_lowUp_10 (0 : Int32) x6_15))) ∧ (r_9 = 0 → (∀ x6_16 : Int32, x6_16 = x6_6 + (1 : Int32) → (ih_6 mo_highDown_13 mo_highUp_12 mo_lowDown_11 mo_lowUp_10 (1 : Int32) x6_16))))))))))
noncomputable def wpL_Model_isFree_6 (mo_barMany : Int32) (mo_bars : Nat → Int32) (p0 : Int32) (p1 : Int32) (p2 : Int32) (p3 : Int32) (post : Int32 → Int64 → Int64 → Int64 → Int64 → Prop) : Nat → Int64 → Int64 → Int64 → Int64 → Int32 → Int32 → Prop := fun n => @Nat.rec (fun _ => Int64 → Int64 → Int64 → Int64 → Int32 → Int32 → Prop) (fun _ _ _ _ _ _ => False) (fun _ ih_6 => wpB_Model_isFree_6 mo_barMany mo_bars p0 p1 p2 p3 post ih_6) n
def wp_Model_isFree (mo_barMany : Int32) (mo_lowUp : Int64) (mo_lowDown : Int64) (mo_highUp : Int64) (mo_highDown : Int64) (mo_bars : Nat → Int32) (p0 : Int32) (p1 : Int32) (p2 : Int32) (p3 : Int32) (post : Int32 → Int64 → Int64 → Int64 → Int64 → Prop) : Prop :=
  (∃ n : Nat, wpL_Model_isFree_6 mo_barMany mo_bars p0 p1 p2 p3 post n mo_highDown mo_highUp mo_lowDown mo_lowUp (1 : Int32) (0 : Int32))
abbrev rm_Model_isFree : Room := { frames := 2, cells := 0, slots := 0, locals := 55 }
set_option maxHeartbeats 4000000 in
set_option maxRecDepth 100000 in
theorem c_Model_isFree (l : Launch) (D : va_G) (κ : KT) (h_mo : Nat) (h_mo_bars : Nat) (h_mo_seams : Nat) (h_mo_rowSeam : Nat) (h_mo_rowWay : Nat) (h_mo_quarters : Nat) (h_mo_begins : Nat) (h_mo_ends : Nat) (h_mo_rests : Nat) (h_mo_bestRow : Nat) (h_mo_lows : Nat) (h_mo_highs : Nat) (h_mo_acts : Nat) (h_mo_actMany : Nat) (h_mo_done : Nat) (h_mo_left : Nat) (h_mo_waited : Nat) (h_mo_ran : Nat) (h_mo_reached : Nat) (mo_middleX : Int32) (mo_middleY : Int32) (mo_linkA : Int32) (mo_linkB : Int32) (mo_flatness : Int32) (mo_gap : Int32) (mo_turn : Int32) (mo_travel : Int32) (mo_lift : Int32) (mo_cool : Int32) (mo_homeX : Int32) (mo_homeY : Int32) (mo_barMany : Int32) (mo_seamMany : Int32) (mo_rowMany : Int32) (mo_lowUp : Int64) (mo_lowDown : Int64) (mo_highUp : Int64) (mo_highDown : Int64) (mo_touchMany : Int32) (mo_shiftX : Int32) (mo_shiftY : Int32) (mo_hasRun : Int32) (mo_bars : Nat → Int32) (p0 : Int32) (p1 : Int32) (p2 : Int32) (p3 : Int32) (sz : Nat) (post : Int32 → Int64 → Int64 → Int64 → Int64 → Prop) (h : wp_Model_isFree mo_barMany mo_lowUp mo_lowDown mo_highUp mo_highDown mo_bars p0 p1 p2 p3 post) : Met l y_Model_isFree (wsG y_Model_isFree b_Model_isFree 7 (some .boolean)) rm_Model_isFree (PE D κ [.ref h_mo, .int p0, .int p1, .int p2, .int p3] [(h_mo, .inr (10, [.int mo_middleX, .int mo_middleY, .int mo_linkA, .int mo_linkB, .int mo_flatness, .int mo_gap, .int mo_turn, .int mo_travel, .int mo_lift, .int mo_cool, .int mo_homeX, .int mo_homeY, .ref h_mo_bars, .int mo_barMany, .ref h_mo_seams, .int mo_seamMany, .ref h_mo_rowSeam, .ref h_mo_rowWay, .int mo_rowMany, .long mo_lowUp, .long mo_lowDown, .long mo_highUp, .long mo_highDown, .ref h_mo_quarters, .ref h_mo_begins, .ref h_mo_ends, .ref h_mo_rests, .ref h_mo_bestRow, .ref h_mo_lows, .ref h_mo_highs, .int mo_touchMany, .int mo_shiftX, .int mo_shiftY, .ref h_mo_acts, .ref h_mo_actMany, .ref h_mo_done, .ref h_mo_left, .ref h_mo_waited, .ref h_mo_ran, .int mo_hasRun, .ref h_mo_reached])), (h_mo_bars, cI κ 16 mo_bars)] sz) (va_Qi (fun (r : Int32) (u : (Int64) × (Int64) × (Int64) × (Int64)) => post r u.1 u.2.1 u.2.2.1 u.2.2.2) (QB D [(h_mo, .inr (10, [.int mo_middleX, .int mo_middleY, .int mo_linkA, .int mo_linkB, .int mo_flatness, .int mo_gap, .int mo_turn, .int mo_travel, .int mo_lift, .int mo_cool, .int mo_homeX, .int mo_homeY, .ref h_mo_bars, .int mo_barMany, .ref h_mo_seams, .int mo_seamMany, .ref h_mo_rowSeam, .ref h_mo_rowWay, .int mo_rowMany, .long mo_lowUp, .long mo_lowDown, .long mo_highUp, .long mo_highDown, .ref h_mo_quarters, .ref h_mo_begins, .ref h_mo_ends, .ref h_mo_rests, .ref h_mo_bestRow, .ref h_mo_lows, .ref h_mo_highs, .int mo_touchMany, .int mo_shiftX, .int mo_shiftY, .ref h_mo_acts, .ref h_mo_actMany, .ref h_mo_done, .ref h_mo_left, .ref h_mo_waited, .ref h_mo_ran, .int mo_hasRun, .ref h_mo_reached])), (h_mo_bars, cI κ 16 mo_bars)] sz (fun (u : (Int64) × (Int64) × (Int64) × (Int64)) => [(h_mo, .inr (10, [.int mo_middleX, .int mo_middleY, .int mo_linkA, .int mo_linkB, .int mo_flatness, .int mo_gap, .int mo_turn, .int mo_travel, .int mo_lift, .int mo_cool, .int mo_homeX, .int mo_homeY, .ref h_mo_bars, .int mo_barMany, .ref h_mo_seams, .int mo_seamMany, .ref h_mo_rowSeam, .ref h_mo_rowWay, .int mo_rowMany, .long u.1, .long u.2.1, .long u.2.2.1, .long u.2.2.2, .ref h_mo_quarters, .ref h_mo_begins, .ref h_mo_ends, .ref h_mo_rests, .ref h_mo_bestRow, .ref h_mo_lows, .ref h_mo_highs, .int mo_touchMany, .int mo_shiftX, .int mo_shiftY, .ref h_mo_acts, .ref h_mo_actMany, .ref h_mo_done, .ref h_mo_left, .ref h_mo_waited, .ref h_mo_ran, .int mo_hasRun, .ref h_mo_reached])), (h_mo_bars, cI κ 16 mo_bars)])) (va_A [(h_mo, .inr (10, [.int mo_middleX, .int mo_middleY, .int mo_linkA, .int mo_linkB, .int mo_flatness, .int mo_gap, .int mo_turn, .int mo_travel, .int mo_lift, .int mo_cool, .int mo_homeX, .int mo_homeY, .ref h_mo_bars, .int mo_barMany, .ref h_mo_seams, .int mo_seamMany, .ref h_mo_rowSeam, .ref h_mo_rowWay, .int mo_rowMany, .long mo_lowUp, .long mo_lowDown, .long mo_highUp, .long mo_highDown, .ref h_mo_quarters, .ref h_mo_begins, .ref h_mo_ends, .ref h_mo_rests, .ref h_mo_bestRow, .ref h_mo_lows, .ref h_mo_highs, .int mo_touchMany, .int mo_shiftX, .int mo_shiftY, .ref h_mo_acts, .ref h_mo_actMany, .ref h_mo_done, .ref h_mo_left, .ref h_mo_waited, .ref h_mo_ran, .int mo_hasRun, .ref h_mo_reached])), (h_mo_bars, cI κ 16 mo_bars)] sz)) 0 0 (va_A [(h_mo, .inr (10, [.int mo_middleX, .int mo_middleY, .int mo_linkA, .int mo_linkB, .int mo_flatness, .int mo_gap, .int mo_turn, .int mo_travel, .int mo_lift, .int mo_cool, .int mo_homeX, .int mo_homeY, .ref h_mo_bars, .int mo_barMany, .ref h_mo_seams, .int mo_seamMany, .ref h_mo_rowSeam, .ref h_mo_rowWay, .int mo_rowMany, .long mo_lowUp, .long mo_lowDown, .long mo_highUp, .long mo_highDown, .ref h_mo_quarters, .ref h_mo_begins, .ref h_mo_ends, .ref h_mo_rests, .ref h_mo_bestRow, .ref h_mo_lows, .ref h_mo_highs, .int mo_touchMany, .int mo_shiftX, .int mo_shiftY, .ref h_mo_acts, .ref h_mo_actMany, .ref h_mo_done, .ref h_mo_left, .ref h_mo_waited, .ref h_mo_ran, .int mo_hasRun, .ref h_mo_reached])), (h_mo_bars, cI κ 16 mo_bars)] sz) := by
  refine ze_start [(0, .ref h_mo), (1, .int p0), (2, .int p1), (3, .int p2), (4, .int p3)] rfl (Nat.le_of_ble_eq_true rfl) rfl ?_
  intro p e s m args below meth c C hr hlk hnm hsz
  subst hsz
  unfold wp_Model_isFree at h
  refine z_k C d_Model_isFree_0 ?_
  refine z_istore C [(5, .int (1 : Int32)), (0, .ref h_mo), (1, .int p0), (2, .int p1), (3, .int p2), (4, .int p3)] d_Model_isFree_1 rfl rfl ?_
  refine z_k C d_Model_isFree_3 ?_
  refine z_istore C [(6, .int (0 : Int32)), (5, .int (1 : Int32)), (0, .ref h_mo), (1, .int p0), (2, .int p1), (3, .int p2), (4, .int p3)] d_Model_isFree_4 rfl rfl ?_
  obtain ⟨n_6, h⟩ := h
  have LP_6 : ∀ (n : Nat) (mo_highDown_1 : Int64) (mo_highUp_2 : Int64) (mo_lowDown_3 : Int64) (mo_lowUp_4 : Int64) (x5_5 : Int32) (x6_6 : Int32), wpL_Model_isFree_6 mo_barMany mo_bars p0 p1 p2 p3 post n mo_highDown_1 mo_highUp_2 mo_lowDown_3 mo_lowUp_4 x5_5 x6_6 → Zw p l e rm_Model_isFree s m args below meth c 0 0 (MQ below (va_Qi (fun (r : Int32) (u : (Int64) × (Int64) × (Int64) × (Int64)) => post r u.1 u.2.1 u.2.2.1 u.2.2.2) (QB D [(h_mo, .inr (10, [.int mo_middleX, .int mo_middleY, .int mo_linkA, .int mo_linkB, .int mo_flatness, .int mo_gap, .int mo_turn, .int mo_travel, .int mo_lift, .int mo_cool, .int mo_homeX, .int mo_homeY, .ref h_mo_bars, .int mo_barMany, .ref h_mo_seams, .int mo_seamMany, .ref h_mo_rowSeam, .ref h_mo_rowWay, .int mo_rowMany, .long mo_lowUp, .long mo_lowDown, .long mo_highUp, .long mo_highDown, .ref h_mo_quarters, .ref h_mo_begins, .ref h_mo_ends, .ref h_mo_rests, .ref h_mo_bestRow, .ref h_mo_lows, .ref h_mo_highs, .int mo_touchMany, .int mo_shiftX, .int mo_shiftY, .ref h_mo_acts, .ref h_mo_actMany, .ref h_mo_done, .ref h_mo_left, .ref h_mo_waited, .ref h_mo_ran, .int mo_hasRun, .ref h_mo_reached])), (h_mo_bars, cI κ 16 mo_bars)] s.heap.size (fun (u : (Int64) × (Int64) × (Int64) × (Int64)) => [(h_mo, .inr (10, [.int mo_middleX, .int mo_middleY, .int mo_linkA, .int mo_linkB, .int mo_flatness, .int mo_gap, .int mo_turn, .int mo_travel, .int mo_lift, .int mo_cool, .int mo_homeX, .int mo_homeY, .ref h_mo_bars, .int mo_barMany, .ref h_mo_seams, .int mo_seamMany, .ref h_mo_rowSeam, .ref h_mo_rowWay, .int mo_rowMany, .long u.1, .long u.2.1, .long u.2.2.1, .long u.2.2.2, .ref h_mo_quarters, .ref h_mo_begins, .ref h_mo_ends, .ref h_mo_rests, .ref h_mo_bestRow, .ref h_mo_lows, .ref h_mo_highs, .int mo_touchMany, .int mo_shiftX, .int mo_shiftY, .ref h_mo_acts, .ref h_mo_actMany, .ref h_mo_done, .ref h_mo_left, .ref h_mo_waited, .ref h_mo_ran, .int mo_hasRun, .ref h_mo_reached])), (h_mo_bars, cI κ 16 mo_bars)])) (va_A [(h_mo, .inr (10, [.int mo_middleX, .int mo_middleY, .int mo_linkA, .int mo_linkB, .int mo_flatness, .int mo_gap, .int mo_turn, .int mo_travel, .int mo_lift, .int mo_cool, .int mo_homeX, .int mo_homeY, .ref h_mo_bars, .int mo_barMany, .ref h_mo_seams, .int mo_seamMany, .ref h_mo_rowSeam, .ref h_mo_rowWay, .int mo_rowMany, .long mo_lowUp, .long mo_lowDown, .long mo_highUp, .long mo_highDown, .ref h_mo_quarters, .ref h_mo_begins, .ref h_mo_ends, .ref h_mo_rests, .ref h_mo_bestRow, .ref h_mo_lows, .ref h_mo_highs, .int mo_touchMany, .int mo_shiftX, .int mo_shiftY, .ref h_mo_acts, .ref h_mo_actMany, .ref h_mo_done, .ref h_mo_left, .ref h_mo_waited, .ref h_mo_ran, .int mo_hasRun, .ref h_mo_reached])), (h_mo_bars, cI κ 16 mo_bars)] s.heap.size)) args s 0 0 (va_A [(h_mo, .inr (10, [.int mo_middleX, .int mo_middleY, .int mo_linkA, .int mo_linkB, .int mo_flatness, .int mo_gap, .int mo_turn, .int mo_travel, .int mo_lift, .int mo_cool, .int mo_homeX, .int mo_homeY, .ref h_mo_bars, .int mo_barMany, .ref h_mo_seams, .int mo_seamMany, .ref h_mo_rowSeam, .ref h_mo_rowWay, .int mo_rowMany, .long mo_lowUp, .long mo_lowDown, .long mo_highUp, .long mo_highDown, .ref h_mo_quarters, .ref h_mo_begins, .ref h_mo_ends, .ref h_mo_rests, .ref h_mo_bestRow, .ref h_mo_lows, .ref h_mo_highs, .int mo_touchMany, .int mo_shiftX, .int mo_shiftY, .ref h_mo_acts, .ref h_mo_actMany, .ref h_mo_done, .ref h_mo_left, .ref h_mo_waited, .ref h_mo_ran, .int mo_hasRun, .ref h_mo_reached])), (h_mo_bars, cI κ 16 mo_bars)] s.heap.size)) D 7 (some (va_A [(h_mo, .inr (10, [.int mo_middleX, .int mo_middleY, .int mo_linkA, .int mo_linkB, .int mo_flatness, .int mo_gap, .int mo_turn, .int mo_travel, .int mo_lift, .int mo_cool, .int mo_homeX, .int mo_homeY, .ref h_mo_bars, .int mo_barMany, .ref h_mo_seams, .int mo_seamMany, .ref h_mo_rowSeam, .ref h_mo_rowWay, .int mo_rowMany, .long mo_lowUp, .long mo_lowDown, .long mo_highUp, .long mo_highDown, .ref h_mo_quarters, .ref h_mo_begins, .ref h_mo_ends, .ref h_mo_rests, .ref h_mo_bestRow, .ref h_mo_lows, .ref h_mo_highs, .int mo_touchMany, .int mo_shiftX, .int mo_shiftY, .ref h_mo_acts, .ref h_mo_actMany, .ref h_mo_done, .ref h_mo_left, .ref h_mo_waited, .ref h_mo_ran, .int mo_hasRun, .ref h_mo_reached])), (h_mo_bars, cI κ 16 mo_bars)] s.heap.size)) [(h_mo, .inr (10, [.int mo_middleX, .int mo_middleY, .int mo_linkA, .int mo_linkB, .int mo_flatness, .int mo_gap, .int mo_turn, .int mo_travel, .int mo_lift, .int mo_cool, .int mo_homeX, .int mo_homeY, .ref h_mo_bars, .int mo_barMany, .ref h_mo_seams, .int mo_seamMany, .ref h_mo_rowSeam, .ref h_mo_rowWay, .int mo_rowMany, .long mo_lowUp_4, .long mo_lowDown_3, .long mo_highUp_2, .long mo_highDown_1, .ref h_mo_quarters, .ref h_mo_begins, .ref h_mo_ends, .ref h_mo_rests, .ref h_mo_bestRow, .ref h_mo_lows, .ref h_mo_highs, .int mo_touchMany, .int mo_shiftX, .int mo_shiftY, .ref h_mo_acts, .ref h_mo_actMany, .ref h_mo_done, .ref h_mo_left, .ref h_mo_waited, .ref h_mo_ran, .int mo_hasRun, .ref h_mo_reached])), (h_mo_bars, cI κ 16 mo_bars)] [(0, .ref h_mo), (1, .int p0), (2, .int p1), (3, .int p2), (4, .int p3), (5, .int x5_5), (6, .int x6_6)] 6 [] := by
    intro n
    induction n with
    | zero => intro mo_highDown_1 mo_highUp_2 mo_lowDown_3 mo_lowUp_4 x5_5 x6_6 h; exact False.elim h
    | succ nn_6 IH_6 =>
      intro mo_highDown_1 mo_highUp_2 mo_lowDown_3 mo_lowUp_4 x5_5 x6_6 h
      have h : wpB_Model_isFree_6 mo_barMany mo_bars p0 p1 p2 p3 post (wpL_Model_isFree_6 mo_barMany mo_bars p0 p1 p2 p3 post nn_6) mo_highDown_1 mo_highUp_2 mo_lowDown_3 mo_lowUp_4 x5_5 x6_6 := h
      unfold wpB_Model_isFree_6 at h
      refine z_iload C d_Model_isFree_6 6 rfl ?_
      refine z_aload C d_Model_isFree_8 0 rfl ?_
      refine z_get C fl_Model_127 0 rfl rfl d_Model_isFree_9 ?_
      refine z_icmp_ge C d_Model_isFree_12 (fun c_7 => ?_) (fun c_7 => ?_)
      · replace h := h.1 c_7
        refine z_iload C d_Model_isFree_47 5 rfl ?_
        exact ze_zret C (mo_lowUp_4, mo_lowDown_3, mo_highUp_2, mo_highDown_1) hr hlk h.1 rfl d_Model_isFree_49 h.2
      · replace h := h.2 c_7
        refine z_iload C d_Model_isFree_15 5 rfl ?_
        refine z_if_eq C d_Model_isFree_17 (fun c_8 => ?_) (fun c_8 => ?_)
        · replace h := h.1 c_8
          refine z_iload C d_Model_isFree_47 5 rfl ?_
          exact ze_zret C (mo_lowUp_4, mo_lowDown_3, mo_highUp_2, mo_highDown_1) hr hlk h.1 rfl d_Model_isFree_49 h.2
        · replace h := h.2 c_8
          refine z_aload C d_Model_isFree_20 0 rfl ?_
          refine z_iload C d_Model_isFree_21 6 rfl ?_
          refine z_iload C d_Model_isFree_23 1 rfl ?_
          refine z_iload C d_Model_isFree_24 2 rfl ?_
          refine z_iload C d_Model_isFree_25 3 rfl ?_
          refine z_iload C d_Model_isFree_26 4 rfl ?_
          refine z_vei C (rest := []) (wr := []) (fun sz => c_Model_goesThrough l D κ h_mo h_mo_bars h_mo_seams h_mo_rowSeam h_mo_rowWay h_mo_quarters h_mo_begins h_mo_ends h_mo_rests h_mo_bestRow h_mo_lows h_mo_highs h_mo_acts h_mo_actMany h_mo_done h_mo_left h_mo_waited h_mo_ran h_mo_reached mo_middleX mo_middleY mo_linkA mo_linkB mo_flatness mo_gap mo_turn mo_travel mo_lift mo_cool mo_homeX mo_homeY mo_barMany mo_seamMany mo_rowMany mo_lowUp_4 mo_lowDown_3 mo_highUp_2 mo_highDown_1 mo_touchMany mo_shiftX mo_shiftY mo_hasRun mo_bars x6_6 p0 p1 p2 p3 sz _ h) cv_Model_176 ⟨rfl, rfl⟩ ⟨⟨Nat.le_of_ble_eq_true rfl, Nat.le_of_ble_eq_true rfl⟩, Nat.le_of_ble_eq_true rfl, Nat.le_of_ble_eq_true rfl⟩ 0 rfl [0, 1] [] rfl rfl rfl (fun u => [(h_mo, .inr (10, [.int mo_middleX, .int mo_middleY, .int mo_linkA, .int mo_linkB, .int mo_flatness, .int mo_gap, .int mo_turn, .int mo_travel, .int mo_lift, .int mo_cool, .int mo_homeX, .int mo_homeY, .ref h_mo_bars, .int mo_barMany, .ref h_mo_seams, .int mo_seamMany, .ref h_mo_rowSeam, .ref h_mo_rowWay, .int mo_rowMany, .long u.1, .long u.2.1, .long u.2.2.1, .long u.2.2.2, .ref h_mo_quarters, .ref h_mo_begins, .ref h_mo_ends, .ref h_mo_rests, .ref h_mo_bestRow, .ref h_mo_lows, .ref h_mo_highs, .int mo_touchMany, .int mo_shiftX, .int mo_shiftY, .ref h_mo_acts, .ref h_mo_actMany, .ref h_mo_done, .ref h_mo_left, .ref h_mo_waited, .ref h_mo_ran, .int mo_hasRun, .ref h_mo_reached])), (h_mo_bars, cI κ 16 mo_bars)]) [0, 1] rfl (fun _ => rfl) rfl rfl (Nat.le_of_ble_eq_true rfl) d_Model_isFree_28 (fun r_9 u_13 h => ?_)
          obtain ⟨mo_lowUp_10, mo_lowDown_11, mo_highUp_12, mo_highDown_13⟩ := u_13
          (try dsimp only at h); (try dsimp only)
          refine z_if_ne C d_Model_isFree_31 (fun c_14 => ?_) (fun c_14 => ?_)
          · replace h := h.1 c_14
            refine z_k C d_Model_isFree_38 ?_
            refine z_istore C [(5, .int (0 : Int32)), (0, .ref h_mo), (1, .int p0), (2, .int p1), (3, .int p2), (4, .int p3), (6, .int x6_6)] d_Model_isFree_39 rfl rfl ?_
            obtain ⟨x6_15, ex6_15⟩ : ∃ y : Int32, y = x6_6 + (1 : Int32) := ⟨_, rfl⟩
            replace h := h x6_15 ex6_15
            refine z_iinc C [(6, .int x6_15), (5, .int (0 : Int32)), (0, .ref h_mo), (1, .int p0), (2, .int p1), (3, .int p2), (4, .int p3)] d_Model_isFree_41 (j := 6) rfl (by rw [ex6_15]; rfl) rfl rfl ?_
            refine z_goto C d_Model_isFree_44 ?_
            refine z_sub [2, 3, 4, 5, 6, 1, 0] [(0, .ref h_mo), (1, .int p0), (2, .int p1), (3, .int p2), (4, .int p3), (5, .int (0 : Int32)), (6, .int x6_15)] rfl ?_
            exact IH_6 mo_highDown_13 mo_highUp_12 mo_lowDown_11 mo_lowUp_10 (0 : Int32) x6_15 h
          · replace h := h.2 c_14
            refine z_k C d_Model_isFree_34 ?_
            refine z_goto C d_Model_isFree_35 ?_
            refine z_istore C [(5, .int (1 : Int32)), (0, .ref h_mo), (1, .int p0), (2, .int p1), (3, .int p2), (4, .int p3), (6, .int x6_6)] d_Model_isFree_39 rfl rfl ?_
            obtain ⟨x6_16, ex6_16⟩ : ∃ y : Int32, y = x6_6 + (1 : Int32) := ⟨_, rfl⟩
            replace h := h x6_16 ex6_16
            refine z_iinc C [(6, .int x6_16), (5, .int (1 : Int32)), (0, .ref h_mo), (1, .int p0), (2, .int p1), (3, .int p2), (4, .int p3)] d_Model_isFree_41 (j := 6) rfl (by rw [ex6_16]; rfl) rfl rfl ?_
            refine z_goto C d_Model_isFree_44 ?_
            refine z_sub [2, 3, 4, 5, 6, 1, 0] [(0, .ref h_mo), (1, .int p0), (2, .int p1), (3, .int p2), (4, .int p3), (5, .int (1 : Int32)), (6, .int x6_16)] rfl ?_
            exact IH_6 mo_highDown_13 mo_highUp_12 mo_lowDown_11 mo_lowUp_10 (1 : Int32) x6_16 h
  refine z_sub [2, 3, 4, 5, 6, 1, 0] [(0, .ref h_mo), (1, .int p0), (2, .int p1), (3, .int p2), (4, .int p3), (5, .int (1 : Int32)), (6, .int (0 : Int32))] rfl ?_
  exact LP_6 n_6 mo_highDown mo_highUp mo_lowDown mo_lowUp (1 : Int32) (0 : Int32) h
def wp_Model_lacking_j81_18 (mo_flatness : Int32) (post : Int32 → Int64 → Int64 → Int64 → Int64 → Prop) (r_1 : Int32) (r_2 : Int32) (r_3 : Int32) (r_4 : Int32) (w_6 : Int32) (mo_lowUp_8 : Int64) (mo_lowDown_9 : Int64) (mo_highUp_10 : Int64) (mo_highDown_11 : Int64) (w_12 : Int32) : Prop :=
  (∀ x7_13 : Int32, x7_13 = w_6 + w_12 → (wp_Model_size (r_4 - r_2) (fun r_14 => (wp_Model_size (r_3 - r_1) (fun r_15 => (((mo_flatness * r_15) < (r_14 * (100 : Int32)) → (∀ x7_17 : Int32, x7_17 = x7_13 + (4 : Int32) → (post x7_17 mo_lowUp_8 mo_lowDown_9 mo_highUp_10 mo_highDown_11))) ∧ (¬ (mo_flatness * r_15) < (r_14 * (100 : Int32)) → (∀ x7_18 : Int32, x7_18 = x7_13 + (0 : Int32) → (post x7_18 mo_lowUp_8 mo_lowDown_9 mo_highUp_10 mo_highDown_11)))))))))
def wp_Model_lacking_j58_19 (mo_flatness : Int32) (mo_barMany : Int32) (mo_lowUp : Int64) (mo_lowDown : Int64) (mo_highUp : Int64) (mo_highDown : Int64) (mo_bars : Nat → Int32) (post : Int32 → Int64 → Int64 → Int64 → Int64 → Prop) (r_1 : Int32) (r_2 : Int32) (r_3 : Int32) (r_4 : Int32) (w_6 : Int32) : Prop :=
  (wp_Model_isFree mo_barMany mo_lowUp mo_lowDown mo_highUp mo_highDown mo_bars r_1 r_2 r_3 r_4 (fun r_7 mo_lowUp_8 mo_lowDown_9 mo_highUp_10 mo_highDown_11 => ((r_7 = 0 → (wp_Model_lacking_j81_18 mo_flatness post r_1 r_2 r_3 r_4 w_6 mo_lowUp_8 mo_lowDown_9 mo_highUp_10 mo_highDown_11 (2 : Int32))) ∧ (¬ r_7 = 0 → (wp_Model_lacking_j81_18 mo_flatness post r_1 r_2 r_3 r_4 w_6 mo_lowUp_8 mo_lowDown_9 mo_highUp_10 mo_highDown_11 (0 : Int32))))))
def wp_Model_lacking (mo_middleX : Int32) (mo_middleY : Int32) (mo_linkA : Int32) (mo_linkB : Int32) (mo_flatness : Int32) (mo_barMany : Int32) (mo_lowUp : Int64) (mo_lowDown : Int64) (mo_highUp : Int64) (mo_highDown : Int64) (mo_shiftX : Int32) (mo_shiftY : Int32) (mo_bars : Nat → Int32) (mo_seams : Nat → Int32) (p0 : Int32) (p1 : Int32) (post : Int32 → Int64 → Int64 → Int64 → Int64 → Prop) : Prop :=
  (wp_Model_placeOf mo_middleX mo_middleY mo_shiftX mo_shiftY mo_seams p0 (0 : Int32) p1 (0 : Int32) (fun r_1 => (wp_Model_placeOf mo_middleX mo_middleY mo_shiftX mo_shiftY mo_seams p0 (0 : Int32) p1 (1 : Int32) (fun r_2 => (wp_Model_placeOf mo_middleX mo_middleY mo_shiftX mo_shiftY mo_seams p0 (1 : Int32) p1 (0 : Int32) (fun r_3 => (wp_Model_placeOf mo_middleX mo_middleY mo_shiftX mo_shiftY mo_seams p0 (1 : Int32) p1 (1 : Int32) (fun r_4 => (wp_Model_isWithin mo_linkA mo_linkB r_1 r_2 r_3 r_4 (fun r_5 => ((r_5 = 0 → (wp_Model_lacking_j58_19 mo_flatness mo_barMany mo_lowUp mo_lowDown mo_highUp mo_highDown mo_bars post r_1 r_2 r_3 r_4 (1 : Int32))) ∧ (¬ r_5 = 0 → (wp_Model_lacking_j58_19 mo_flatness mo_barMany mo_lowUp mo_lowDown mo_highUp mo_highDown mo_bars post r_1 r_2 r_3 r_4 (0 : Int32))))))))))))))
abbrev rm_Model_lacking : Room := { frames := 3, cells := 0, slots := 0, locals := 81 }
set_option maxHeartbeats 4000000 in
set_option maxRecDepth 100000 in
theorem c_Model_lacking (l : Launch) (D : va_G) (κ : KT) (h_mo : Nat) (h_mo_bars : Nat) (h_mo_seams : Nat) (h_mo_rowSeam : Nat) (h_mo_rowWay : Nat) (h_mo_quarters : Nat) (h_mo_begins : Nat) (h_mo_ends : Nat) (h_mo_rests : Nat) (h_mo_bestRow : Nat) (h_mo_lows : Nat) (h_mo_highs : Nat) (h_mo_acts : Nat) (h_mo_actMany : Nat) (h_mo_done : Nat) (h_mo_left : Nat) (h_mo_waited : Nat) (h_mo_ran : Nat) (h_mo_reached : Nat) (mo_middleX : Int32) (mo_middleY : Int32) (mo_linkA : Int32) (mo_linkB : Int32) (mo_flatness : Int32) (mo_gap : Int32) (mo_turn : Int32) (mo_travel : Int32) (mo_lift : Int32) (mo_cool : Int32) (mo_homeX : Int32) (mo_homeY : Int32) (mo_barMany : Int32) (mo_seamMany : Int32) (mo_rowMany : Int32) (mo_lowUp : Int64) (mo_lowDown : Int64) (mo_highUp : Int64) (mo_highDown : Int64) (mo_touchMany : Int32) (mo_shiftX : Int32) (mo_shiftY : Int32) (mo_hasRun : Int32) (mo_bars : Nat → Int32) (mo_seams : Nat → Int32) (p0 : Int32) (p1 : Int32) (sz : Nat) (post : Int32 → Int64 → Int64 → Int64 → Int64 → Prop) (h : wp_Model_lacking mo_middleX mo_middleY mo_linkA mo_linkB mo_flatness mo_barMany mo_lowUp mo_lowDown mo_highUp mo_highDown mo_shiftX mo_shiftY mo_bars mo_seams p0 p1 post) : Met l y_Model_lacking (wsG y_Model_lacking b_Model_lacking 8 (some .int)) rm_Model_lacking (PE D κ [.ref h_mo, .int p0, .int p1] [(h_mo, .inr (10, [.int mo_middleX, .int mo_middleY, .int mo_linkA, .int mo_linkB, .int mo_flatness, .int mo_gap, .int mo_turn, .int mo_travel, .int mo_lift, .int mo_cool, .int mo_homeX, .int mo_homeY, .ref h_mo_bars, .int mo_barMany, .ref h_mo_seams, .int mo_seamMany, .ref h_mo_rowSeam, .ref h_mo_rowWay, .int mo_rowMany, .long mo_lowUp, .long mo_lowDown, .long mo_highUp, .long mo_highDown, .ref h_mo_quarters, .ref h_mo_begins, .ref h_mo_ends, .ref h_mo_rests, .ref h_mo_bestRow, .ref h_mo_lows, .ref h_mo_highs, .int mo_touchMany, .int mo_shiftX, .int mo_shiftY, .ref h_mo_acts, .ref h_mo_actMany, .ref h_mo_done, .ref h_mo_left, .ref h_mo_waited, .ref h_mo_ran, .int mo_hasRun, .ref h_mo_reached])), (h_mo_bars, cI κ 16 mo_bars), (h_mo_seams, cI κ 48 mo_seams)] sz) (va_Qi (fun (r : Int32) (u : (Int64) × (Int64) × (Int64) × (Int64)) => post r u.1 u.2.1 u.2.2.1 u.2.2.2) (QB D [(h_mo, .inr (10, [.int mo_middleX, .int mo_middleY, .int mo_linkA, .int mo_linkB, .int mo_flatness, .int mo_gap, .int mo_turn, .int mo_travel, .int mo_lift, .int mo_cool, .int mo_homeX, .int mo_homeY, .ref h_mo_bars, .int mo_barMany, .ref h_mo_seams, .int mo_seamMany, .ref h_mo_rowSeam, .ref h_mo_rowWay, .int mo_rowMany, .long mo_lowUp, .long mo_lowDown, .long mo_highUp, .long mo_highDown, .ref h_mo_quarters, .ref h_mo_begins, .ref h_mo_ends, .ref h_mo_rests, .ref h_mo_bestRow, .ref h_mo_lows, .ref h_mo_highs, .int mo_touchMany, .int mo_shiftX, .int mo_shiftY, .ref h_mo_acts, .ref h_mo_actMany, .ref h_mo_done, .ref h_mo_left, .ref h_mo_waited, .ref h_mo_ran, .int mo_hasRun, .ref h_mo_reached])), (h_mo_bars, cI κ 16 mo_bars), (h_mo_seams, cI κ 48 mo_seams)] sz (fun (u : (Int64) × (Int64) × (Int64) × (Int64)) => [(h_mo, .inr (10, [.int mo_middleX, .int mo_middleY, .int mo_linkA, .int mo_linkB, .int mo_flatness, .int mo_gap, .int mo_turn, .int mo_travel, .int mo_lift, .int mo_cool, .int mo_homeX, .int mo_homeY, .ref h_mo_bars, .int mo_barMany, .ref h_mo_seams, .int mo_seamMany, .ref h_mo_rowSeam, .ref h_mo_rowWay, .int mo_rowMany, .long u.1, .long u.2.1, .long u.2.2.1, .long u.2.2.2, .ref h_mo_quarters, .ref h_mo_begins, .ref h_mo_ends, .ref h_mo_rests, .ref h_mo_bestRow, .ref h_mo_lows, .ref h_mo_highs, .int mo_touchMany, .int mo_shiftX, .int mo_shiftY, .ref h_mo_acts, .ref h_mo_actMany, .ref h_mo_done, .ref h_mo_left, .ref h_mo_waited, .ref h_mo_ran, .int mo_hasRun, .ref h_mo_reached])), (h_mo_bars, cI κ 16 mo_bars), (h_mo_seams, cI κ 48 mo_seams)])) (va_A [(h_mo, .inr (10, [.int mo_middleX, .int mo_middleY, .int mo_linkA, .int mo_linkB, .int mo_flatness, .int mo_gap, .int mo_turn, .int mo_travel, .int mo_lift, .int mo_cool, .int mo_homeX, .int mo_homeY, .ref h_mo_bars, .int mo_barMany, .ref h_mo_seams, .int mo_seamMany, .ref h_mo_rowSeam, .ref h_mo_rowWay, .int mo_rowMany, .long mo_lowUp, .long mo_lowDown, .long mo_highUp, .long mo_highDown, .ref h_mo_quarters, .ref h_mo_begins, .ref h_mo_ends, .ref h_mo_rests, .ref h_mo_bestRow, .ref h_mo_lows, .ref h_mo_highs, .int mo_touchMany, .int mo_shiftX, .int mo_shiftY, .ref h_mo_acts, .ref h_mo_actMany, .ref h_mo_done, .ref h_mo_left, .ref h_mo_waited, .ref h_mo_ran, .int mo_hasRun, .ref h_mo_reached])), (h_mo_bars, cI κ 16 mo_bars), (h_mo_seams, cI κ 48 mo_seams)] sz)) 0 0 (va_A [(h_mo, .inr (10, [.int mo_middleX, .int mo_middleY, .int mo_linkA, .int mo_linkB, .int mo_flatness, .int mo_gap, .int mo_turn, .int mo_travel, .int mo_lift, .int mo_cool, .int mo_homeX, .int mo_homeY, .ref h_mo_bars, .int mo_barMany, .ref h_mo_seams, .int mo_seamMany, .ref h_mo_rowSeam, .ref h_mo_rowWay, .int mo_rowMany, .long mo_lowUp, .long mo_lowDown, .long mo_highUp, .long mo_highDown, .ref h_mo_quarters, .ref h_mo_begins, .ref h_mo_ends, .ref h_mo_rests, .ref h_mo_bestRow, .ref h_mo_lows, .ref h_mo_highs, .int mo_touchMany, .int mo_shiftX, .int mo_shiftY, .ref h_mo_acts, .ref h_mo_actMany, .ref h_mo_done, .ref h_mo_left, .ref h_mo_waited, .ref h_mo_ran, .int mo_hasRun, .ref h_mo_reached])), (h_mo_bars, cI κ 16 mo_bars), (h_mo_seams, cI κ 48 mo_seams)] sz) := by
  refine ze_start [(0, .ref h_mo), (1, .int p0), (2, .int p1)] rfl (Nat.le_of_ble_eq_true rfl) rfl ?_
  intro p e s m args below meth c C hr hlk hnm hsz
  subst hsz
  unfold wp_Model_lacking at h
  refine z_aload C d_Model_lacking_0 0 rfl ?_
  refine z_iload C d_Model_lacking_1 1 rfl ?_
  refine z_k C d_Model_lacking_2 ?_
  refine z_iload C d_Model_lacking_3 2 rfl ?_
  refine z_k C d_Model_lacking_4 ?_
  refine z_vpi C (rest := []) (c_Model_placeOf l D κ h_mo h_mo_bars h_mo_seams h_mo_rowSeam h_mo_rowWay h_mo_quarters h_mo_begins h_mo_ends h_mo_rests h_mo_bestRow h_mo_lows h_mo_highs h_mo_acts h_mo_actMany h_mo_done h_mo_left h_mo_waited h_mo_ran h_mo_reached mo_middleX mo_middleY mo_linkA mo_linkB mo_flatness mo_gap mo_turn mo_travel mo_lift mo_cool mo_homeX mo_homeY mo_barMany mo_seamMany mo_rowMany mo_lowUp mo_lowDown mo_highUp mo_highDown mo_touchMany mo_shiftX mo_shiftY mo_hasRun mo_seams p0 (0 : Int32) p1 (0 : Int32) _ h) cv_Model_180 ⟨rfl, rfl⟩ ⟨⟨Nat.le_of_ble_eq_true rfl, Nat.le_of_ble_eq_true rfl⟩, Nat.le_of_ble_eq_true rfl, Nat.le_of_ble_eq_true rfl⟩ 0 rfl [0, 2] rfl rfl rfl (Nat.le_of_ble_eq_true rfl) d_Model_lacking_5 (fun r_1 h => ?_)
  refine z_istore C [(3, .int r_1), (0, .ref h_mo), (1, .int p0), (2, .int p1)] d_Model_lacking_8 rfl rfl ?_
  refine z_aload C d_Model_lacking_9 1 rfl ?_
  refine z_iload C d_Model_lacking_10 2 rfl ?_
  refine z_k C d_Model_lacking_11 ?_
  refine z_iload C d_Model_lacking_12 3 rfl ?_
  refine z_k C d_Model_lacking_13 ?_
  refine z_vpi C (rest := []) (c_Model_placeOf l D κ h_mo h_mo_bars h_mo_seams h_mo_rowSeam h_mo_rowWay h_mo_quarters h_mo_begins h_mo_ends h_mo_rests h_mo_bestRow h_mo_lows h_mo_highs h_mo_acts h_mo_actMany h_mo_done h_mo_left h_mo_waited h_mo_ran h_mo_reached mo_middleX mo_middleY mo_linkA mo_linkB mo_flatness mo_gap mo_turn mo_travel mo_lift mo_cool mo_homeX mo_homeY mo_barMany mo_seamMany mo_rowMany mo_lowUp mo_lowDown mo_highUp mo_highDown mo_touchMany mo_shiftX mo_shiftY mo_hasRun mo_seams p0 (0 : Int32) p1 (1 : Int32) _ h) cv_Model_180 ⟨rfl, rfl⟩ ⟨⟨Nat.le_of_ble_eq_true rfl, Nat.le_of_ble_eq_true rfl⟩, Nat.le_of_ble_eq_true rfl, Nat.le_of_ble_eq_true rfl⟩ 0 rfl [0, 2] rfl rfl rfl (Nat.le_of_ble_eq_true rfl) d_Model_lacking_14 (fun r_2 h => ?_)
  refine z_istore C [(4, .int r_2), (3, .int r_1), (0, .ref h_mo), (1, .int p0), (2, .int p1)] d_Model_lacking_17 rfl rfl ?_
  refine z_aload C d_Model_lacking_19 2 rfl ?_
  refine z_iload C d_Model_lacking_20 3 rfl ?_
  refine z_k C d_Model_lacking_21 ?_
  refine z_iload C d_Model_lacking_22 4 rfl ?_
  refine z_k C d_Model_lacking_23 ?_
  refine z_vpi C (rest := []) (c_Model_placeOf l D κ h_mo h_mo_bars h_mo_seams h_mo_rowSeam h_mo_rowWay h_mo_quarters h_mo_begins h_mo_ends h_mo_rests h_mo_bestRow h_mo_lows h_mo_highs h_mo_acts h_mo_actMany h_mo_done h_mo_left h_mo_waited h_mo_ran h_mo_reached mo_middleX mo_middleY mo_linkA mo_linkB mo_flatness mo_gap mo_turn mo_travel mo_lift mo_cool mo_homeX mo_homeY mo_barMany mo_seamMany mo_rowMany mo_lowUp mo_lowDown mo_highUp mo_highDown mo_touchMany mo_shiftX mo_shiftY mo_hasRun mo_seams p0 (1 : Int32) p1 (0 : Int32) _ h) cv_Model_180 ⟨rfl, rfl⟩ ⟨⟨Nat.le_of_ble_eq_true rfl, Nat.le_of_ble_eq_true rfl⟩, Nat.le_of_ble_eq_true rfl, Nat.le_of_ble_eq_true rfl⟩ 0 rfl [0, 2] rfl rfl rfl (Nat.le_of_ble_eq_true rfl) d_Model_lacking_24 (fun r_3 h => ?_)
  refine z_istore C [(5, .int r_3), (4, .int r_2), (3, .int r_1), (0, .ref h_mo), (1, .int p0), (2, .int p1)] d_Model_lacking_27 rfl rfl ?_
  refine z_aload C d_Model_lacking_29 3 rfl ?_
  refine z_iload C d_Model_lacking_30 4 rfl ?_
  refine z_k C d_Model_lacking_31 ?_
  refine z_iload C d_Model_lacking_32 5 rfl ?_
  refine z_k C d_Model_lacking_33 ?_
  refine z_vpi C (rest := []) (c_Model_placeOf l D κ h_mo h_mo_bars h_mo_seams h_mo_rowSeam h_mo_rowWay h_mo_quarters h_mo_begins h_mo_ends h_mo_rests h_mo_bestRow h_mo_lows h_mo_highs h_mo_acts h_mo_actMany h_mo_done h_mo_left h_mo_waited h_mo_ran h_mo_reached mo_middleX mo_middleY mo_linkA mo_linkB mo_flatness mo_gap mo_turn mo_travel mo_lift mo_cool mo_homeX mo_homeY mo_barMany mo_seamMany mo_rowMany mo_lowUp mo_lowDown mo_highUp mo_highDown mo_touchMany mo_shiftX mo_shiftY mo_hasRun mo_seams p0 (1 : Int32) p1 (1 : Int32) _ h) cv_Model_180 ⟨rfl, rfl⟩ ⟨⟨Nat.le_of_ble_eq_true rfl, Nat.le_of_ble_eq_true rfl⟩, Nat.le_of_ble_eq_true rfl, Nat.le_of_ble_eq_true rfl⟩ 0 rfl [0, 2] rfl rfl rfl (Nat.le_of_ble_eq_true rfl) d_Model_lacking_34 (fun r_4 h => ?_)
  refine z_istore C [(6, .int r_4), (5, .int r_3), (4, .int r_2), (3, .int r_1), (0, .ref h_mo), (1, .int p0), (2, .int p1)] d_Model_lacking_37 rfl rfl ?_
  refine z_aload C d_Model_lacking_39 4 rfl ?_
  refine z_iload C d_Model_lacking_40 3 rfl ?_
  refine z_iload C d_Model_lacking_41 2 rfl ?_
  refine z_iload C d_Model_lacking_43 1 rfl ?_
  refine z_iload C d_Model_lacking_45 0 rfl ?_
  refine z_vpi C (rest := []) (c_Model_isWithin l D κ h_mo h_mo_bars h_mo_seams h_mo_rowSeam h_mo_rowWay h_mo_quarters h_mo_begins h_mo_ends h_mo_rests h_mo_bestRow h_mo_lows h_mo_highs h_mo_acts h_mo_actMany h_mo_done h_mo_left h_mo_waited h_mo_ran h_mo_reached mo_middleX mo_middleY mo_linkA mo_linkB mo_flatness mo_gap mo_turn mo_travel mo_lift mo_cool mo_homeX mo_homeY mo_barMany mo_seamMany mo_rowMany mo_lowUp mo_lowDown mo_highUp mo_highDown mo_touchMany mo_shiftX mo_shiftY mo_hasRun r_1 r_2 r_3 r_4 _ h) cv_Model_184 ⟨rfl, rfl⟩ ⟨⟨Nat.le_of_ble_eq_true rfl, Nat.le_of_ble_eq_true rfl⟩, Nat.le_of_ble_eq_true rfl, Nat.le_of_ble_eq_true rfl⟩ 0 rfl [0] rfl rfl rfl (Nat.le_of_ble_eq_true rfl) d_Model_lacking_47 (fun r_5 h => ?_)
  have J_58 : ∀ (w_6 : Int32), wp_Model_lacking_j58_19 mo_flatness mo_barMany mo_lowUp mo_lowDown mo_highUp mo_highDown mo_bars post r_1 r_2 r_3 r_4 w_6 → Zw p l e rm_Model_lacking s m args below meth c 0 0 (MQ below (va_Qi (fun (r : Int32) (u : (Int64) × (Int64) × (Int64) × (Int64)) => post r u.1 u.2.1 u.2.2.1 u.2.2.2) (QB D [(h_mo, .inr (10, [.int mo_middleX, .int mo_middleY, .int mo_linkA, .int mo_linkB, .int mo_flatness, .int mo_gap, .int mo_turn, .int mo_travel, .int mo_lift, .int mo_cool, .int mo_homeX, .int mo_homeY, .ref h_mo_bars, .int mo_barMany, .ref h_mo_seams, .int mo_seamMany, .ref h_mo_rowSeam, .ref h_mo_rowWay, .int mo_rowMany, .long mo_lowUp, .long mo_lowDown, .long mo_highUp, .long mo_highDown, .ref h_mo_quarters, .ref h_mo_begins, .ref h_mo_ends, .ref h_mo_rests, .ref h_mo_bestRow, .ref h_mo_lows, .ref h_mo_highs, .int mo_touchMany, .int mo_shiftX, .int mo_shiftY, .ref h_mo_acts, .ref h_mo_actMany, .ref h_mo_done, .ref h_mo_left, .ref h_mo_waited, .ref h_mo_ran, .int mo_hasRun, .ref h_mo_reached])), (h_mo_bars, cI κ 16 mo_bars), (h_mo_seams, cI κ 48 mo_seams)] s.heap.size (fun (u : (Int64) × (Int64) × (Int64) × (Int64)) => [(h_mo, .inr (10, [.int mo_middleX, .int mo_middleY, .int mo_linkA, .int mo_linkB, .int mo_flatness, .int mo_gap, .int mo_turn, .int mo_travel, .int mo_lift, .int mo_cool, .int mo_homeX, .int mo_homeY, .ref h_mo_bars, .int mo_barMany, .ref h_mo_seams, .int mo_seamMany, .ref h_mo_rowSeam, .ref h_mo_rowWay, .int mo_rowMany, .long u.1, .long u.2.1, .long u.2.2.1, .long u.2.2.2, .ref h_mo_quarters, .ref h_mo_begins, .ref h_mo_ends, .ref h_mo_rests, .ref h_mo_bestRow, .ref h_mo_lows, .ref h_mo_highs, .int mo_touchMany, .int mo_shiftX, .int mo_shiftY, .ref h_mo_acts, .ref h_mo_actMany, .ref h_mo_done, .ref h_mo_left, .ref h_mo_waited, .ref h_mo_ran, .int mo_hasRun, .ref h_mo_reached])), (h_mo_bars, cI κ 16 mo_bars), (h_mo_seams, cI κ 48 mo_seams)])) (va_A [(h_mo, .inr (10, [.int mo_middleX, .int mo_middleY, .int mo_linkA, .int mo_linkB, .int mo_flatness, .int mo_gap, .int mo_turn, .int mo_travel, .int mo_lift, .int mo_cool, .int mo_homeX, .int mo_homeY, .ref h_mo_bars, .int mo_barMany, .ref h_mo_seams, .int mo_seamMany, .ref h_mo_rowSeam, .ref h_mo_rowWay, .int mo_rowMany, .long mo_lowUp, .long mo_lowDown, .long mo_highUp, .long mo_highDown, .ref h_mo_quarters, .ref h_mo_begins, .ref h_mo_ends, .ref h_mo_rests, .ref h_mo_bestRow, .ref h_mo_lows, .ref h_mo_highs, .int mo_touchMany, .int mo_shiftX, .int mo_shiftY, .ref h_mo_acts, .ref h_mo_actMany, .ref h_mo_done, .ref h_mo_left, .ref h_mo_waited, .ref h_mo_ran, .int mo_hasRun, .ref h_mo_reached])), (h_mo_bars, cI κ 16 mo_bars), (h_mo_seams, cI κ 48 mo_seams)] s.heap.size)) args s 0 0 (va_A [(h_mo, .inr (10, [.int mo_middleX, .int mo_middleY, .int mo_linkA, .int mo_linkB, .int mo_flatness, .int mo_gap, .int mo_turn, .int mo_travel, .int mo_lift, .int mo_cool, .int mo_homeX, .int mo_homeY, .ref h_mo_bars, .int mo_barMany, .ref h_mo_seams, .int mo_seamMany, .ref h_mo_rowSeam, .ref h_mo_rowWay, .int mo_rowMany, .long mo_lowUp, .long mo_lowDown, .long mo_highUp, .long mo_highDown, .ref h_mo_quarters, .ref h_mo_begins, .ref h_mo_ends, .ref h_mo_rests, .ref h_mo_bestRow, .ref h_mo_lows, .ref h_mo_highs, .int mo_touchMany, .int mo_shiftX, .int mo_shiftY, .ref h_mo_acts, .ref h_mo_actMany, .ref h_mo_done, .ref h_mo_left, .ref h_mo_waited, .ref h_mo_ran, .int mo_hasRun, .ref h_mo_reached])), (h_mo_bars, cI κ 16 mo_bars), (h_mo_seams, cI κ 48 mo_seams)] s.heap.size)) D 8 (some (va_A [(h_mo, .inr (10, [.int mo_middleX, .int mo_middleY, .int mo_linkA, .int mo_linkB, .int mo_flatness, .int mo_gap, .int mo_turn, .int mo_travel, .int mo_lift, .int mo_cool, .int mo_homeX, .int mo_homeY, .ref h_mo_bars, .int mo_barMany, .ref h_mo_seams, .int mo_seamMany, .ref h_mo_rowSeam, .ref h_mo_rowWay, .int mo_rowMany, .long mo_lowUp, .long mo_lowDown, .long mo_highUp, .long mo_highDown, .ref h_mo_quarters, .ref h_mo_begins, .ref h_mo_ends, .ref h_mo_rests, .ref h_mo_bestRow, .ref h_mo_lows, .ref h_mo_highs, .int mo_touchMany, .int mo_shiftX, .int mo_shiftY, .ref h_mo_acts, .ref h_mo_actMany, .ref h_mo_done, .ref h_mo_left, .ref h_mo_waited, .ref h_mo_ran, .int mo_hasRun, .ref h_mo_reached])), (h_mo_bars, cI κ 16 mo_bars), (h_mo_seams, cI κ 48 mo_seams)] s.heap.size)) [(h_mo, .inr (10, [.int mo_middleX, .int mo_middleY, .int mo_linkA, .int mo_linkB, .int mo_flatness, .int mo_gap, .int mo_turn, .int mo_travel, .int mo_lift, .int mo_cool, .int mo_homeX, .int mo_homeY, .ref h_mo_bars, .int mo_barMany, .ref h_mo_seams, .int mo_seamMany, .ref h_mo_rowSeam, .ref h_mo_rowWay, .int mo_rowMany, .long mo_lowUp, .long mo_lowDown, .long mo_highUp, .long mo_highDown, .ref h_mo_quarters, .ref h_mo_begins, .ref h_mo_ends, .ref h_mo_rests, .ref h_mo_bestRow, .ref h_mo_lows, .ref h_mo_highs, .int mo_touchMany, .int mo_shiftX, .int mo_shiftY, .ref h_mo_acts, .ref h_mo_actMany, .ref h_mo_done, .ref h_mo_left, .ref h_mo_waited, .ref h_mo_ran, .int mo_hasRun, .ref h_mo_reached])), (h_mo_bars, cI κ 16 mo_bars), (h_mo_seams, cI κ 48 mo_seams)] [(0, .ref h_mo), (3, .int r_1), (4, .int r_2), (5, .int r_3), (6, .int r_4)] 58 [.int w_6] := by
    intro w_6 h
    unfold wp_Model_lacking_j58_19 at h
    refine z_istore C [(7, .int w_6), (0, .ref h_mo), (3, .int r_1), (4, .int r_2), (5, .int r_3), (6, .int r_4)] d_Model_lacking_58 rfl rfl ?_
    refine z_iload C d_Model_lacking_60 0 rfl ?_
    refine z_aload C d_Model_lacking_62 1 rfl ?_
    refine z_iload C d_Model_lacking_63 2 rfl ?_
    refine z_iload C d_Model_lacking_64 3 rfl ?_
    refine z_iload C d_Model_lacking_66 4 rfl ?_
    refine z_iload C d_Model_lacking_68 5 rfl ?_
    refine z_vei C (rest := [.int w_6]) (wr := [(h_mo_seams, cI κ 48 mo_seams)]) (fun sz => c_Model_isFree l D κ h_mo h_mo_bars h_mo_seams h_mo_rowSeam h_mo_rowWay h_mo_quarters h_mo_begins h_mo_ends h_mo_rests h_mo_bestRow h_mo_lows h_mo_highs h_mo_acts h_mo_actMany h_mo_done h_mo_left h_mo_waited h_mo_ran h_mo_reached mo_middleX mo_middleY mo_linkA mo_linkB mo_flatness mo_gap mo_turn mo_travel mo_lift mo_cool mo_homeX mo_homeY mo_barMany mo_seamMany mo_rowMany mo_lowUp mo_lowDown mo_highUp mo_highDown mo_touchMany mo_shiftX mo_shiftY mo_hasRun mo_bars r_1 r_2 r_3 r_4 sz _ h) cv_Model_187 ⟨rfl, rfl⟩ ⟨⟨Nat.le_of_ble_eq_true rfl, Nat.le_of_ble_eq_true rfl⟩, Nat.le_of_ble_eq_true rfl, Nat.le_of_ble_eq_true rfl⟩ 0 rfl [0, 1] [2] rfl rfl rfl (fun u => [(h_mo, .inr (10, [.int mo_middleX, .int mo_middleY, .int mo_linkA, .int mo_linkB, .int mo_flatness, .int mo_gap, .int mo_turn, .int mo_travel, .int mo_lift, .int mo_cool, .int mo_homeX, .int mo_homeY, .ref h_mo_bars, .int mo_barMany, .ref h_mo_seams, .int mo_seamMany, .ref h_mo_rowSeam, .ref h_mo_rowWay, .int mo_rowMany, .long u.1, .long u.2.1, .long u.2.2.1, .long u.2.2.2, .ref h_mo_quarters, .ref h_mo_begins, .ref h_mo_ends, .ref h_mo_rests, .ref h_mo_bestRow, .ref h_mo_lows, .ref h_mo_highs, .int mo_touchMany, .int mo_shiftX, .int mo_shiftY, .ref h_mo_acts, .ref h_mo_actMany, .ref h_mo_done, .ref h_mo_left, .ref h_mo_waited, .ref h_mo_ran, .int mo_hasRun, .ref h_mo_reached])), (h_mo_bars, cI κ 16 mo_bars), (h_mo_seams, cI κ 48 mo_seams)]) [1, 2, 0] rfl (fun _ => rfl) rfl rfl (Nat.le_of_ble_eq_true rfl) d_Model_lacking_70 (fun r_7 u_11 h => ?_)
    obtain ⟨mo_lowUp_8, mo_lowDown_9, mo_highUp_10, mo_highDown_11⟩ := u_11
    (try dsimp only at h); (try dsimp only)
    have J_81 : ∀ (w_12 : Int32), wp_Model_lacking_j81_18 mo_flatness post r_1 r_2 r_3 r_4 w_6 mo_lowUp_8 mo_lowDown_9 mo_highUp_10 mo_highDown_11 w_12 → Zw p l e rm_Model_lacking s m args below meth c 0 0 (MQ below (va_Qi (fun (r : Int32) (u : (Int64) × (Int64) × (Int64) × (Int64)) => post r u.1 u.2.1 u.2.2.1 u.2.2.2) (QB D [(h_mo, .inr (10, [.int mo_middleX, .int mo_middleY, .int mo_linkA, .int mo_linkB, .int mo_flatness, .int mo_gap, .int mo_turn, .int mo_travel, .int mo_lift, .int mo_cool, .int mo_homeX, .int mo_homeY, .ref h_mo_bars, .int mo_barMany, .ref h_mo_seams, .int mo_seamMany, .ref h_mo_rowSeam, .ref h_mo_rowWay, .int mo_rowMany, .long mo_lowUp, .long mo_lowDown, .long mo_highUp, .long mo_highDown, .ref h_mo_quarters, .ref h_mo_begins, .ref h_mo_ends, .ref h_mo_rests, .ref h_mo_bestRow, .ref h_mo_lows, .ref h_mo_highs, .int mo_touchMany, .int mo_shiftX, .int mo_shiftY, .ref h_mo_acts, .ref h_mo_actMany, .ref h_mo_done, .ref h_mo_left, .ref h_mo_waited, .ref h_mo_ran, .int mo_hasRun, .ref h_mo_reached])), (h_mo_bars, cI κ 16 mo_bars), (h_mo_seams, cI κ 48 mo_seams)] s.heap.size (fun (u : (Int64) × (Int64) × (Int64) × (Int64)) => [(h_mo, .inr (10, [.int mo_middleX, .int mo_middleY, .int mo_linkA, .int mo_linkB, .int mo_flatness, .int mo_gap, .int mo_turn, .int mo_travel, .int mo_lift, .int mo_cool, .int mo_homeX, .int mo_homeY, .ref h_mo_bars, .int mo_barMany, .ref h_mo_seams, .int mo_seamMany, .ref h_mo_rowSeam, .ref h_mo_rowWay, .int mo_rowMany, .long u.1, .long u.2.1, .long u.2.2.1, .long u.2.2.2, .ref h_mo_quarters, .ref h_mo_begins, .ref h_mo_ends, .ref h_mo_rests, .ref h_mo_bestRow, .ref h_mo_lows, .ref h_mo_highs, .int mo_touchMany, .int mo_shiftX, .int mo_shiftY, .ref h_mo_acts, .ref h_mo_actMany, .ref h_mo_done, .ref h_mo_left, .ref h_mo_waited, .ref h_mo_ran, .int mo_hasRun, .ref h_mo_reached])), (h_mo_bars, cI κ 16 mo_bars), (h_mo_seams, cI κ 48 mo_seams)])) (va_A [(h_mo, .inr (10, [.int mo_middleX, .int mo_middleY, .int mo_linkA, .int mo_linkB, .int mo_flatness, .int mo_gap, .int mo_turn, .int mo_travel, .int mo_lift, .int mo_cool, .int mo_homeX, .int mo_homeY, .ref h_mo_bars, .int mo_barMany, .ref h_mo_seams, .int mo_seamMany, .ref h_mo_rowSeam, .ref h_mo_rowWay, .int mo_rowMany, .long mo_lowUp, .long mo_lowDown, .long mo_highUp, .long mo_highDown, .ref h_mo_quarters, .ref h_mo_begins, .ref h_mo_ends, .ref h_mo_rests, .ref h_mo_bestRow, .ref h_mo_lows, .ref h_mo_highs, .int mo_touchMany, .int mo_shiftX, .int mo_shiftY, .ref h_mo_acts, .ref h_mo_actMany, .ref h_mo_done, .ref h_mo_left, .ref h_mo_waited, .ref h_mo_ran, .int mo_hasRun, .ref h_mo_reached])), (h_mo_bars, cI κ 16 mo_bars), (h_mo_seams, cI κ 48 mo_seams)] s.heap.size)) args s 0 0 (va_A [(h_mo, .inr (10, [.int mo_middleX, .int mo_middleY, .int mo_linkA, .int mo_linkB, .int mo_flatness, .int mo_gap, .int mo_turn, .int mo_travel, .int mo_lift, .int mo_cool, .int mo_homeX, .int mo_homeY, .ref h_mo_bars, .int mo_barMany, .ref h_mo_seams, .int mo_seamMany, .ref h_mo_rowSeam, .ref h_mo_rowWay, .int mo_rowMany, .long mo_lowUp, .long mo_lowDown, .long mo_highUp, .long mo_highDown, .ref h_mo_quarters, .ref h_mo_begins, .ref h_mo_ends, .ref h_mo_rests, .ref h_mo_bestRow, .ref h_mo_lows, .ref h_mo_highs, .int mo_touchMany, .int mo_shiftX, .int mo_shiftY, .ref h_mo_acts, .ref h_mo_actMany, .ref h_mo_done, .ref h_mo_left, .ref h_mo_waited, .ref h_mo_ran, .int mo_hasRun, .ref h_mo_reached])), (h_mo_bars, cI κ 16 mo_bars), (h_mo_seams, cI κ 48 mo_seams)] s.heap.size)) D 8 (some (va_A [(h_mo, .inr (10, [.int mo_middleX, .int mo_middleY, .int mo_linkA, .int mo_linkB, .int mo_flatness, .int mo_gap, .int mo_turn, .int mo_travel, .int mo_lift, .int mo_cool, .int mo_homeX, .int mo_homeY, .ref h_mo_bars, .int mo_barMany, .ref h_mo_seams, .int mo_seamMany, .ref h_mo_rowSeam, .ref h_mo_rowWay, .int mo_rowMany, .long mo_lowUp, .long mo_lowDown, .long mo_highUp, .long mo_highDown, .ref h_mo_quarters, .ref h_mo_begins, .ref h_mo_ends, .ref h_mo_rests, .ref h_mo_bestRow, .ref h_mo_lows, .ref h_mo_highs, .int mo_touchMany, .int mo_shiftX, .int mo_shiftY, .ref h_mo_acts, .ref h_mo_actMany, .ref h_mo_done, .ref h_mo_left, .ref h_mo_waited, .ref h_mo_ran, .int mo_hasRun, .ref h_mo_reached])), (h_mo_bars, cI κ 16 mo_bars), (h_mo_seams, cI κ 48 mo_seams)] s.heap.size)) [(h_mo, .inr (10, [.int mo_middleX, .int mo_middleY, .int mo_linkA, .int mo_linkB, .int mo_flatness, .int mo_gap, .int mo_turn, .int mo_travel, .int mo_lift, .int mo_cool, .int mo_homeX, .int mo_homeY, .ref h_mo_bars, .int mo_barMany, .ref h_mo_seams, .int mo_seamMany, .ref h_mo_rowSeam, .ref h_mo_rowWay, .int mo_rowMany, .long mo_lowUp_8, .long mo_lowDown_9, .long mo_highUp_10, .long mo_highDown_11, .ref h_mo_quarters, .ref h_mo_begins, .ref h_mo_ends, .ref h_mo_rests, .ref h_mo_bestRow, .ref h_mo_lows, .ref h_mo_highs, .int mo_touchMany, .int mo_shiftX, .int mo_shiftY, .ref h_mo_acts, .ref h_mo_actMany, .ref h_mo_done, .ref h_mo_left, .ref h_mo_waited, .ref h_mo_ran, .int mo_hasRun, .ref h_mo_reached])), (h_mo_bars, cI κ 16 mo_bars), (h_mo_seams, cI κ 48 mo_seams)] [(0, .ref h_mo), (3, .int r_1), (4, .int r_2), (5, .int r_3), (6, .int r_4)] 81 [.int w_12, .int w_6] := by
      intro w_12 h
      unfold wp_Model_lacking_j81_18 at h
      refine z_iadd C d_Model_lacking_81 ?_
      refine z_topi (fun x7_13 ex7_13 => ?_)
      replace h := h x7_13 ex7_13
      refine z_istore C [(7, .int x7_13), (0, .ref h_mo), (3, .int r_1), (4, .int r_2), (5, .int r_3), (6, .int r_4)] d_Model_lacking_82 rfl rfl ?_
      refine z_iload C d_Model_lacking_84 0 rfl ?_
      refine z_iload C d_Model_lacking_86 5 rfl ?_
      refine z_iload C d_Model_lacking_88 3 rfl ?_
      refine z_isub C d_Model_lacking_90 ?_
      refine z_spi C (rest := [.int x7_13]) (c_Model_size l D κ (r_4 - r_2) _ h) cs_Model_190 ⟨rfl, rfl⟩ ⟨⟨Nat.le_of_ble_eq_true rfl, Nat.le_of_ble_eq_true rfl⟩, Nat.le_of_ble_eq_true rfl, Nat.le_of_ble_eq_true rfl⟩ [] rfl rfl rfl (Nat.le_of_ble_eq_true rfl) d_Model_lacking_91 (fun r_14 h => ?_)
      refine z_k C d_Model_lacking_94 ?_
      refine z_imul C d_Model_lacking_96 ?_
      refine z_aload C d_Model_lacking_97 1 rfl ?_
      refine z_get C fl_Model_16 0 rfl rfl d_Model_lacking_98 ?_
      refine z_iload C d_Model_lacking_101 4 rfl ?_
      refine z_iload C d_Model_lacking_103 2 rfl ?_
      refine z_isub C d_Model_lacking_104 ?_
      refine z_spi C (rest := [.int mo_flatness, .int (r_14 * (100 : Int32)), .int x7_13]) (c_Model_size l D κ (r_3 - r_1) _ h) cs_Model_190 ⟨rfl, rfl⟩ ⟨⟨Nat.le_of_ble_eq_true rfl, Nat.le_of_ble_eq_true rfl⟩, Nat.le_of_ble_eq_true rfl, Nat.le_of_ble_eq_true rfl⟩ [] rfl rfl rfl (Nat.le_of_ble_eq_true rfl) d_Model_lacking_105 (fun r_15 h => ?_)
      refine z_imul C d_Model_lacking_108 ?_
      refine z_icmp_gt C d_Model_lacking_109 (fun c_16 => ?_) (fun c_16 => ?_)
      · replace h := h.1 c_16
        refine z_k C d_Model_lacking_116 ?_
        refine z_iadd C d_Model_lacking_117 ?_
        refine z_topi (fun x7_17 ex7_17 => ?_)
        replace h := h x7_17 ex7_17
        refine z_istore C [(7, .int x7_17), (0, .ref h_mo), (3, .int r_1), (4, .int r_2), (5, .int r_3), (6, .int r_4)] d_Model_lacking_118 rfl rfl ?_
        refine z_iload C d_Model_lacking_120 0 rfl ?_
        exact ze_iret C (mo_lowUp_8, mo_lowDown_9, mo_highUp_10, mo_highDown_11) hr hlk rfl d_Model_lacking_122 h
      · replace h := h.2 c_16
        refine z_k C d_Model_lacking_112 ?_
        refine z_goto C d_Model_lacking_113 ?_
        refine z_iadd C d_Model_lacking_117 ?_
        refine z_topi (fun x7_18 ex7_18 => ?_)
        replace h := h x7_18 ex7_18
        refine z_istore C [(7, .int x7_18), (0, .ref h_mo), (3, .int r_1), (4, .int r_2), (5, .int r_3), (6, .int r_4)] d_Model_lacking_118 rfl rfl ?_
        refine z_iload C d_Model_lacking_120 0 rfl ?_
        exact ze_iret C (mo_lowUp_8, mo_lowDown_9, mo_highUp_10, mo_highDown_11) hr hlk rfl d_Model_lacking_122 h
    refine z_if_eq C d_Model_lacking_73 (fun c_19 => ?_) (fun c_19 => ?_)
    · replace h := h.1 c_19
      refine z_k C d_Model_lacking_80 ?_
      refine z_sub [1, 2, 3, 4, 5] [(0, .ref h_mo), (3, .int r_1), (4, .int r_2), (5, .int r_3), (6, .int r_4)] rfl ?_
      exact J_81 (2 : Int32) h
    · replace h := h.2 c_19
      refine z_k C d_Model_lacking_76 ?_
      refine z_goto C d_Model_lacking_77 ?_
      refine z_sub [1, 2, 3, 4, 5] [(0, .ref h_mo), (3, .int r_1), (4, .int r_2), (5, .int r_3), (6, .int r_4)] rfl ?_
      exact J_81 (0 : Int32) h
  refine z_if_eq C d_Model_lacking_50 (fun c_20 => ?_) (fun c_20 => ?_)
  · replace h := h.1 c_20
    refine z_k C d_Model_lacking_57 ?_
    refine z_sub [4, 3, 2, 1, 0] [(0, .ref h_mo), (3, .int r_1), (4, .int r_2), (5, .int r_3), (6, .int r_4)] rfl ?_
    exact J_58 (1 : Int32) h
  · replace h := h.2 c_20
    refine z_k C d_Model_lacking_53 ?_
    refine z_goto C d_Model_lacking_54 ?_
    refine z_sub [4, 3, 2, 1, 0] [(0, .ref h_mo), (3, .int r_1), (4, .int r_2), (5, .int r_3), (6, .int r_4)] rfl ?_
    exact J_58 (0 : Int32) h
def wpB_Model_quarterOf_2 (mo_middleX : Int32) (mo_middleY : Int32) (mo_linkA : Int32) (mo_linkB : Int32) (mo_flatness : Int32) (mo_barMany : Int32) (mo_shiftX : Int32) (mo_shiftY : Int32) (mo_bars : Nat → Int32) (mo_seams : Nat → Int32) (p0 : Int32) (post : Int32 → Int64 → Int64 → Int64 → Int64 → Prop) (ih_2 : Int64 → Int64 → Int64 → Int64 → Int32 → Prop) (mo_highDown_1 : Int64) (mo_highUp_2 : Int64) (mo_lowDown_3 : Int64) (mo_lowUp_4 : Int64) (x2_5 : Int32) : Prop :=
  (((4 : Int32) ≤ x2_5 → (post (-6 : Int32) mo_lowUp_4 mo_lowDown_3 mo_highUp_2 mo_highDown_1)) ∧ (¬ (4 : Int32) ≤ x2_5 → (wp_Model_lacking mo_middleX mo_middleY mo_linkA mo_linkB mo_flatness mo_barMany mo_lowUp_4 mo_lowDown_3 mo_highUp_2 mo_highDown_1 mo_shiftX mo_shiftY mo_bars mo_seams p0 x2_5 (fun r_7 mo_lowUp_8 mo_lowDown_9 mo_highUp_10 mo_highDown_11 => ((¬ r_7 = 0 → (∀ x2_13 : Int32, x2_13 = x2_5 + (1 : Int32) → (ih_2 mo_highDown_11 mo_highUp_10 mo_lowDown_9 mo_lowUp_8 x2_13))) ∧ (r_7 = 0 → (post x2_5 mo_lowUp_8 mo_lowDown_9 mo_highUp_10 mo_highDown_11)))))))
noncomputable def wpL_Model_quarterOf_2 (mo_middleX : Int32) (mo_middleY : Int32) (mo_linkA : Int32) (mo_linkB : Int32) (mo_flatness : Int32) (mo_barMany : Int32) (mo_shiftX : Int32) (mo_shiftY : Int32) (mo_bars : Nat → Int32) (mo_seams : Nat → Int32) (p0 : Int32) (post : Int32 → Int64 → Int64 → Int64 → Int64 → Prop) : Nat → Int64 → Int64 → Int64 → Int64 → Int32 → Prop := fun n => @Nat.rec (fun _ => Int64 → Int64 → Int64 → Int64 → Int32 → Prop) (fun _ _ _ _ _ => False) (fun _ ih_2 => wpB_Model_quarterOf_2 mo_middleX mo_middleY mo_linkA mo_linkB mo_flatness mo_barMany mo_shiftX mo_shiftY mo_bars mo_seams p0 post ih_2) n
def wp_Model_quarterOf (mo_middleX : Int32) (mo_middleY : Int32) (mo_linkA : Int32) (mo_linkB : Int32) (mo_flatness : Int32) (mo_barMany : Int32) (mo_lowUp : Int64) (mo_lowDown : Int64) (mo_highUp : Int64) (mo_highDown : Int64) (mo_shiftX : Int32) (mo_shiftY : Int32) (mo_bars : Nat → Int32) (mo_seams : Nat → Int32) (p0 : Int32) (post : Int32 → Int64 → Int64 → Int64 → Int64 → Prop) : Prop :=
  (∃ n : Nat, wpL_Model_quarterOf_2 mo_middleX mo_middleY mo_linkA mo_linkB mo_flatness mo_barMany mo_shiftX mo_shiftY mo_bars mo_seams p0 post n mo_highDown mo_highUp mo_lowDown mo_lowUp (0 : Int32))
abbrev rm_Model_quarterOf : Room := { frames := 4, cells := 0, slots := 0, locals := 108 }
set_option maxHeartbeats 4000000 in
set_option maxRecDepth 100000 in
theorem c_Model_quarterOf (l : Launch) (D : va_G) (κ : KT) (h_mo : Nat) (h_mo_bars : Nat) (h_mo_seams : Nat) (h_mo_rowSeam : Nat) (h_mo_rowWay : Nat) (h_mo_quarters : Nat) (h_mo_begins : Nat) (h_mo_ends : Nat) (h_mo_rests : Nat) (h_mo_bestRow : Nat) (h_mo_lows : Nat) (h_mo_highs : Nat) (h_mo_acts : Nat) (h_mo_actMany : Nat) (h_mo_done : Nat) (h_mo_left : Nat) (h_mo_waited : Nat) (h_mo_ran : Nat) (h_mo_reached : Nat) (mo_middleX : Int32) (mo_middleY : Int32) (mo_linkA : Int32) (mo_linkB : Int32) (mo_flatness : Int32) (mo_gap : Int32) (mo_turn : Int32) (mo_travel : Int32) (mo_lift : Int32) (mo_cool : Int32) (mo_homeX : Int32) (mo_homeY : Int32) (mo_barMany : Int32) (mo_seamMany : Int32) (mo_rowMany : Int32) (mo_lowUp : Int64) (mo_lowDown : Int64) (mo_highUp : Int64) (mo_highDown : Int64) (mo_touchMany : Int32) (mo_shiftX : Int32) (mo_shiftY : Int32) (mo_hasRun : Int32) (mo_bars : Nat → Int32) (mo_seams : Nat → Int32) (p0 : Int32) (sz : Nat) (post : Int32 → Int64 → Int64 → Int64 → Int64 → Prop) (h : wp_Model_quarterOf mo_middleX mo_middleY mo_linkA mo_linkB mo_flatness mo_barMany mo_lowUp mo_lowDown mo_highUp mo_highDown mo_shiftX mo_shiftY mo_bars mo_seams p0 post) : Met l y_Model_quarterOf (wsG y_Model_quarterOf b_Model_quarterOf 3 (some .int)) rm_Model_quarterOf (PE D κ [.ref h_mo, .int p0] [(h_mo, .inr (10, [.int mo_middleX, .int mo_middleY, .int mo_linkA, .int mo_linkB, .int mo_flatness, .int mo_gap, .int mo_turn, .int mo_travel, .int mo_lift, .int mo_cool, .int mo_homeX, .int mo_homeY, .ref h_mo_bars, .int mo_barMany, .ref h_mo_seams, .int mo_seamMany, .ref h_mo_rowSeam, .ref h_mo_rowWay, .int mo_rowMany, .long mo_lowUp, .long mo_lowDown, .long mo_highUp, .long mo_highDown, .ref h_mo_quarters, .ref h_mo_begins, .ref h_mo_ends, .ref h_mo_rests, .ref h_mo_bestRow, .ref h_mo_lows, .ref h_mo_highs, .int mo_touchMany, .int mo_shiftX, .int mo_shiftY, .ref h_mo_acts, .ref h_mo_actMany, .ref h_mo_done, .ref h_mo_left, .ref h_mo_waited, .ref h_mo_ran, .int mo_hasRun, .ref h_mo_reached])), (h_mo_bars, cI κ 16 mo_bars), (h_mo_seams, cI κ 48 mo_seams)] sz) (va_Qi (fun (r : Int32) (u : (Int64) × (Int64) × (Int64) × (Int64)) => post r u.1 u.2.1 u.2.2.1 u.2.2.2) (QB D [(h_mo, .inr (10, [.int mo_middleX, .int mo_middleY, .int mo_linkA, .int mo_linkB, .int mo_flatness, .int mo_gap, .int mo_turn, .int mo_travel, .int mo_lift, .int mo_cool, .int mo_homeX, .int mo_homeY, .ref h_mo_bars, .int mo_barMany, .ref h_mo_seams, .int mo_seamMany, .ref h_mo_rowSeam, .ref h_mo_rowWay, .int mo_rowMany, .long mo_lowUp, .long mo_lowDown, .long mo_highUp, .long mo_highDown, .ref h_mo_quarters, .ref h_mo_begins, .ref h_mo_ends, .ref h_mo_rests, .ref h_mo_bestRow, .ref h_mo_lows, .ref h_mo_highs, .int mo_touchMany, .int mo_shiftX, .int mo_shiftY, .ref h_mo_acts, .ref h_mo_actMany, .ref h_mo_done, .ref h_mo_left, .ref h_mo_waited, .ref h_mo_ran, .int mo_hasRun, .ref h_mo_reached])), (h_mo_bars, cI κ 16 mo_bars), (h_mo_seams, cI κ 48 mo_seams)] sz (fun (u : (Int64) × (Int64) × (Int64) × (Int64)) => [(h_mo, .inr (10, [.int mo_middleX, .int mo_middleY, .int mo_linkA, .int mo_linkB, .int mo_flatness, .int mo_gap, .int mo_turn, .int mo_travel, .int mo_lift, .int mo_cool, .int mo_homeX, .int mo_homeY, .ref h_mo_bars, .int mo_barMany, .ref h_mo_seams, .int mo_seamMany, .ref h_mo_rowSeam, .ref h_mo_rowWay, .int mo_rowMany, .long u.1, .long u.2.1, .long u.2.2.1, .long u.2.2.2, .ref h_mo_quarters, .ref h_mo_begins, .ref h_mo_ends, .ref h_mo_rests, .ref h_mo_bestRow, .ref h_mo_lows, .ref h_mo_highs, .int mo_touchMany, .int mo_shiftX, .int mo_shiftY, .ref h_mo_acts, .ref h_mo_actMany, .ref h_mo_done, .ref h_mo_left, .ref h_mo_waited, .ref h_mo_ran, .int mo_hasRun, .ref h_mo_reached])), (h_mo_bars, cI κ 16 mo_bars), (h_mo_seams, cI κ 48 mo_seams)])) (va_A [(h_mo, .inr (10, [.int mo_middleX, .int mo_middleY, .int mo_linkA, .int mo_linkB, .int mo_flatness, .int mo_gap, .int mo_turn, .int mo_travel, .int mo_lift, .int mo_cool, .int mo_homeX, .int mo_homeY, .ref h_mo_bars, .int mo_barMany, .ref h_mo_seams, .int mo_seamMany, .ref h_mo_rowSeam, .ref h_mo_rowWay, .int mo_rowMany, .long mo_lowUp, .long mo_lowDown, .long mo_highUp, .long mo_highDown, .ref h_mo_quarters, .ref h_mo_begins, .ref h_mo_ends, .ref h_mo_rests, .ref h_mo_bestRow, .ref h_mo_lows, .ref h_mo_highs, .int mo_touchMany, .int mo_shiftX, .int mo_shiftY, .ref h_mo_acts, .ref h_mo_actMany, .ref h_mo_done, .ref h_mo_left, .ref h_mo_waited, .ref h_mo_ran, .int mo_hasRun, .ref h_mo_reached])), (h_mo_bars, cI κ 16 mo_bars), (h_mo_seams, cI κ 48 mo_seams)] sz)) 0 0 (va_A [(h_mo, .inr (10, [.int mo_middleX, .int mo_middleY, .int mo_linkA, .int mo_linkB, .int mo_flatness, .int mo_gap, .int mo_turn, .int mo_travel, .int mo_lift, .int mo_cool, .int mo_homeX, .int mo_homeY, .ref h_mo_bars, .int mo_barMany, .ref h_mo_seams, .int mo_seamMany, .ref h_mo_rowSeam, .ref h_mo_rowWay, .int mo_rowMany, .long mo_lowUp, .long mo_lowDown, .long mo_highUp, .long mo_highDown, .ref h_mo_quarters, .ref h_mo_begins, .ref h_mo_ends, .ref h_mo_rests, .ref h_mo_bestRow, .ref h_mo_lows, .ref h_mo_highs, .int mo_touchMany, .int mo_shiftX, .int mo_shiftY, .ref h_mo_acts, .ref h_mo_actMany, .ref h_mo_done, .ref h_mo_left, .ref h_mo_waited, .ref h_mo_ran, .int mo_hasRun, .ref h_mo_reached])), (h_mo_bars, cI κ 16 mo_bars), (h_mo_seams, cI κ 48 mo_seams)] sz) := by
  refine ze_start [(0, .ref h_mo), (1, .int p0)] rfl (Nat.le_of_ble_eq_true rfl) rfl ?_
  intro p e s m args below meth c C hr hlk hnm hsz
  subst hsz
  unfold wp_Model_quarterOf at h
  refine z_k C d_Model_quarterOf_0 ?_
  refine z_istore C [(2, .int (0 : Int32)), (0, .ref h_mo), (1, .int p0)] d_Model_quarterOf_1 rfl rfl ?_
  obtain ⟨n_2, h⟩ := h
  have LP_2 : ∀ (n : Nat) (mo_highDown_1 : Int64) (mo_highUp_2 : Int64) (mo_lowDown_3 : Int64) (mo_lowUp_4 : Int64) (x2_5 : Int32), wpL_Model_quarterOf_2 mo_middleX mo_middleY mo_linkA mo_linkB mo_flatness mo_barMany mo_shiftX mo_shiftY mo_bars mo_seams p0 post n mo_highDown_1 mo_highUp_2 mo_lowDown_3 mo_lowUp_4 x2_5 → Zw p l e rm_Model_quarterOf s m args below meth c 0 0 (MQ below (va_Qi (fun (r : Int32) (u : (Int64) × (Int64) × (Int64) × (Int64)) => post r u.1 u.2.1 u.2.2.1 u.2.2.2) (QB D [(h_mo, .inr (10, [.int mo_middleX, .int mo_middleY, .int mo_linkA, .int mo_linkB, .int mo_flatness, .int mo_gap, .int mo_turn, .int mo_travel, .int mo_lift, .int mo_cool, .int mo_homeX, .int mo_homeY, .ref h_mo_bars, .int mo_barMany, .ref h_mo_seams, .int mo_seamMany, .ref h_mo_rowSeam, .ref h_mo_rowWay, .int mo_rowMany, .long mo_lowUp, .long mo_lowDown, .long mo_highUp, .long mo_highDown, .ref h_mo_quarters, .ref h_mo_begins, .ref h_mo_ends, .ref h_mo_rests, .ref h_mo_bestRow, .ref h_mo_lows, .ref h_mo_highs, .int mo_touchMany, .int mo_shiftX, .int mo_shiftY, .ref h_mo_acts, .ref h_mo_actMany, .ref h_mo_done, .ref h_mo_left, .ref h_mo_waited, .ref h_mo_ran, .int mo_hasRun, .ref h_mo_reached])), (h_mo_bars, cI κ 16 mo_bars), (h_mo_seams, cI κ 48 mo_seams)] s.heap.size (fun (u : (Int64) × (Int64) × (Int64) × (Int64)) => [(h_mo, .inr (10, [.int mo_middleX, .int mo_middleY, .int mo_linkA, .int mo_linkB, .int mo_flatness, .int mo_gap, .int mo_turn, .int mo_travel, .int mo_lift, .int mo_cool, .int mo_homeX, .int mo_homeY, .ref h_mo_bars, .int mo_barMany, .ref h_mo_seams, .int mo_seamMany, .ref h_mo_rowSeam, .ref h_mo_rowWay, .int mo_rowMany, .long u.1, .long u.2.1, .long u.2.2.1, .long u.2.2.2, .ref h_mo_quarters, .ref h_mo_begins, .ref h_mo_ends, .ref h_mo_rests, .ref h_mo_bestRow, .ref h_mo_lows, .ref h_mo_highs, .int mo_touchMany, .int mo_shiftX, .int mo_shiftY, .ref h_mo_acts, .ref h_mo_actMany, .ref h_mo_done, .ref h_mo_left, .ref h_mo_waited, .ref h_mo_ran, .int mo_hasRun, .ref h_mo_reached])), (h_mo_bars, cI κ 16 mo_bars), (h_mo_seams, cI κ 48 mo_seams)])) (va_A [(h_mo, .inr (10, [.int mo_middleX, .int mo_middleY, .int mo_linkA, .int mo_linkB, .int mo_flatness, .int mo_gap, .int mo_turn, .int mo_travel, .int mo_lift, .int mo_cool, .int mo_homeX, .int mo_homeY, .ref h_mo_bars, .int mo_barMany, .ref h_mo_seams, .int mo_seamMany, .ref h_mo_rowSeam, .ref h_mo_rowWay, .int mo_rowMany, .long mo_lowUp, .long mo_lowDown, .long mo_highUp, .long mo_highDown, .ref h_mo_quarters, .ref h_mo_begins, .ref h_mo_ends, .ref h_mo_rests, .ref h_mo_bestRow, .ref h_mo_lows, .ref h_mo_highs, .int mo_touchMany, .int mo_shiftX, .int mo_shiftY, .ref h_mo_acts, .ref h_mo_actMany, .ref h_mo_done, .ref h_mo_left, .ref h_mo_waited, .ref h_mo_ran, .int mo_hasRun, .ref h_mo_reached])), (h_mo_bars, cI κ 16 mo_bars), (h_mo_seams, cI κ 48 mo_seams)] s.heap.size)) args s 0 0 (va_A [(h_mo, .inr (10, [.int mo_middleX, .int mo_middleY, .int mo_linkA, .int mo_linkB, .int mo_flatness, .int mo_gap, .int mo_turn, .int mo_travel, .int mo_lift, .int mo_cool, .int mo_homeX, .int mo_homeY, .ref h_mo_bars, .int mo_barMany, .ref h_mo_seams, .int mo_seamMany, .ref h_mo_rowSeam, .ref h_mo_rowWay, .int mo_rowMany, .long mo_lowUp, .long mo_lowDown, .long mo_highUp, .long mo_highDown, .ref h_mo_quarters, .ref h_mo_begins, .ref h_mo_ends, .ref h_mo_rests, .ref h_mo_bestRow, .ref h_mo_lows, .ref h_mo_highs, .int mo_touchMany, .int mo_shiftX, .int mo_shiftY, .ref h_mo_acts, .ref h_mo_actMany, .ref h_mo_done, .ref h_mo_left, .ref h_mo_waited, .ref h_mo_ran, .int mo_hasRun, .ref h_mo_reached])), (h_mo_bars, cI κ 16 mo_bars), (h_mo_seams, cI κ 48 mo_seams)] s.heap.size)) D 3 (some (va_A [(h_mo, .inr (10, [.int mo_middleX, .int mo_middleY, .int mo_linkA, .int mo_linkB, .int mo_flatness, .int mo_gap, .int mo_turn, .int mo_travel, .int mo_lift, .int mo_cool, .int mo_homeX, .int mo_homeY, .ref h_mo_bars, .int mo_barMany, .ref h_mo_seams, .int mo_seamMany, .ref h_mo_rowSeam, .ref h_mo_rowWay, .int mo_rowMany, .long mo_lowUp, .long mo_lowDown, .long mo_highUp, .long mo_highDown, .ref h_mo_quarters, .ref h_mo_begins, .ref h_mo_ends, .ref h_mo_rests, .ref h_mo_bestRow, .ref h_mo_lows, .ref h_mo_highs, .int mo_touchMany, .int mo_shiftX, .int mo_shiftY, .ref h_mo_acts, .ref h_mo_actMany, .ref h_mo_done, .ref h_mo_left, .ref h_mo_waited, .ref h_mo_ran, .int mo_hasRun, .ref h_mo_reached])), (h_mo_bars, cI κ 16 mo_bars), (h_mo_seams, cI κ 48 mo_seams)] s.heap.size)) [(h_mo, .inr (10, [.int mo_middleX, .int mo_middleY, .int mo_linkA, .int mo_linkB, .int mo_flatness, .int mo_gap, .int mo_turn, .int mo_travel, .int mo_lift, .int mo_cool, .int mo_homeX, .int mo_homeY, .ref h_mo_bars, .int mo_barMany, .ref h_mo_seams, .int mo_seamMany, .ref h_mo_rowSeam, .ref h_mo_rowWay, .int mo_rowMany, .long mo_lowUp_4, .long mo_lowDown_3, .long mo_highUp_2, .long mo_highDown_1, .ref h_mo_quarters, .ref h_mo_begins, .ref h_mo_ends, .ref h_mo_rests, .ref h_mo_bestRow, .ref h_mo_lows, .ref h_mo_highs, .int mo_touchMany, .int mo_shiftX, .int mo_shiftY, .ref h_mo_acts, .ref h_mo_actMany, .ref h_mo_done, .ref h_mo_left, .ref h_mo_waited, .ref h_mo_ran, .int mo_hasRun, .ref h_mo_reached])), (h_mo_bars, cI κ 16 mo_bars), (h_mo_seams, cI κ 48 mo_seams)] [(0, .ref h_mo), (1, .int p0), (2, .int x2_5)] 2 [] := by
    intro n
    induction n with
    | zero => intro mo_highDown_1 mo_highUp_2 mo_lowDown_3 mo_lowUp_4 x2_5 h; exact False.elim h
    | succ nn_2 IH_2 =>
      intro mo_highDown_1 mo_highUp_2 mo_lowDown_3 mo_lowUp_4 x2_5 h
      have h : wpB_Model_quarterOf_2 mo_middleX mo_middleY mo_linkA mo_linkB mo_flatness mo_barMany mo_shiftX mo_shiftY mo_bars mo_seams p0 post (wpL_Model_quarterOf_2 mo_middleX mo_middleY mo_linkA mo_linkB mo_flatness mo_barMany mo_shiftX mo_shiftY mo_bars mo_seams p0 post nn_2) mo_highDown_1 mo_highUp_2 mo_lowDown_3 mo_lowUp_4 x2_5 := h
      unfold wpB_Model_quarterOf_2 at h
      refine z_iload C d_Model_quarterOf_2 2 rfl ?_
      refine z_k C d_Model_quarterOf_3 ?_
      refine z_icmp_ge C d_Model_quarterOf_4 (fun c_6 => ?_) (fun c_6 => ?_)
      · replace h := h.1 c_6
        refine z_k C d_Model_quarterOf_24 ?_
        exact ze_iret C (mo_lowUp_4, mo_lowDown_3, mo_highUp_2, mo_highDown_1) hr hlk rfl d_Model_quarterOf_26 h
      · replace h := h.2 c_6
        refine z_aload C d_Model_quarterOf_7 0 rfl ?_
        refine z_iload C d_Model_quarterOf_8 1 rfl ?_
        refine z_iload C d_Model_quarterOf_9 2 rfl ?_
        refine z_vei C (rest := []) (wr := []) (fun sz => c_Model_lacking l D κ h_mo h_mo_bars h_mo_seams h_mo_rowSeam h_mo_rowWay h_mo_quarters h_mo_begins h_mo_ends h_mo_rests h_mo_bestRow h_mo_lows h_mo_highs h_mo_acts h_mo_actMany h_mo_done h_mo_left h_mo_waited h_mo_ran h_mo_reached mo_middleX mo_middleY mo_linkA mo_linkB mo_flatness mo_gap mo_turn mo_travel mo_lift mo_cool mo_homeX mo_homeY mo_barMany mo_seamMany mo_rowMany mo_lowUp_4 mo_lowDown_3 mo_highUp_2 mo_highDown_1 mo_touchMany mo_shiftX mo_shiftY mo_hasRun mo_bars mo_seams p0 x2_5 sz _ h) cv_Model_194 ⟨rfl, rfl⟩ ⟨⟨Nat.le_of_ble_eq_true rfl, Nat.le_of_ble_eq_true rfl⟩, Nat.le_of_ble_eq_true rfl, Nat.le_of_ble_eq_true rfl⟩ 0 rfl [0, 1, 2] [] rfl rfl rfl (fun u => [(h_mo, .inr (10, [.int mo_middleX, .int mo_middleY, .int mo_linkA, .int mo_linkB, .int mo_flatness, .int mo_gap, .int mo_turn, .int mo_travel, .int mo_lift, .int mo_cool, .int mo_homeX, .int mo_homeY, .ref h_mo_bars, .int mo_barMany, .ref h_mo_seams, .int mo_seamMany, .ref h_mo_rowSeam, .ref h_mo_rowWay, .int mo_rowMany, .long u.1, .long u.2.1, .long u.2.2.1, .long u.2.2.2, .ref h_mo_quarters, .ref h_mo_begins, .ref h_mo_ends, .ref h_mo_rests, .ref h_mo_bestRow, .ref h_mo_lows, .ref h_mo_highs, .int mo_touchMany, .int mo_shiftX, .int mo_shiftY, .ref h_mo_acts, .ref h_mo_actMany, .ref h_mo_done, .ref h_mo_left, .ref h_mo_waited, .ref h_mo_ran, .int mo_hasRun, .ref h_mo_reached])), (h_mo_bars, cI κ 16 mo_bars), (h_mo_seams, cI κ 48 mo_seams)]) [0, 1, 2] rfl (fun _ => rfl) rfl rfl (Nat.le_of_ble_eq_true rfl) d_Model_quarterOf_10 (fun r_7 u_11 h => ?_)
        obtain ⟨mo_lowUp_8, mo_lowDown_9, mo_highUp_10, mo_highDown_11⟩ := u_11
        (try dsimp only at h); (try dsimp only)
        refine z_if_ne C d_Model_quarterOf_13 (fun c_12 => ?_) (fun c_12 => ?_)
        · replace h := h.1 c_12
          obtain ⟨x2_13, ex2_13⟩ : ∃ y : Int32, y = x2_5 + (1 : Int32) := ⟨_, rfl⟩
          replace h := h x2_13 ex2_13
          refine z_iinc C [(2, .int x2_13), (0, .ref h_mo), (1, .int p0)] d_Model_quarterOf_18 (j := 2) rfl (by rw [ex2_13]; rfl) rfl rfl ?_
          refine z_goto C d_Model_quarterOf_21 ?_
          refine z_sub [1, 2, 0] [(0, .ref h_mo), (1, .int p0), (2, .int x2_13)] rfl ?_
          exact IH_2 mo_highDown_11 mo_highUp_10 mo_lowDown_9 mo_lowUp_8 x2_13 h
        · replace h := h.2 c_12
          refine z_iload C d_Model_quarterOf_16 2 rfl ?_
          exact ze_iret C (mo_lowUp_8, mo_lowDown_9, mo_highUp_10, mo_highDown_11) hr hlk rfl d_Model_quarterOf_17 h
  refine z_sub [1, 2, 0] [(0, .ref h_mo), (1, .int p0), (2, .int (0 : Int32))] rfl ?_
  exact LP_2 n_2 mo_highDown mo_highUp mo_lowDown mo_lowUp (0 : Int32) h
def wpB_Model_lengthOf_46 (post : Int32 → Prop) (r_2 : Int64) (ih_46 : Int32 → Prop) (x5_3 : Int32) : Prop :=
  ((0 ≤ (lg_cmp (x5_3.toInt64 * x5_3.toInt64) r_2) → (post x5_3)) ∧ (¬ 0 ≤ (lg_cmp (x5_3.toInt64 * x5_3.toInt64) r_2) → (∀ x5_5 : Int32, x5_5 = x5_3 + (1 : Int32) → (ih_46 x5_5))))
noncomputable def wpL_Model_lengthOf_46 (post : Int32 → Prop) (r_2 : Int64) : Nat → Int32 → Prop := fun n => @Nat.rec (fun _ => Int32 → Prop) (fun _ => False) (fun _ ih_46 => wpB_Model_lengthOf_46 post r_2 ih_46) n
def wp_Model_lengthOf (mo_seams : Nat → Int32) (p0 : Int32) (post : Int32 → Prop) : Prop :=
  (∀ x2_1 : Int32, x2_1 = (6 : Int32) * p0 → (vp_in (x2_1 + (2 : Int32)) 48 ∧ (vp_in x2_1 48 ∧ (vp_in (x2_1 + (3 : Int32)) 48 ∧ (vp_in (x2_1 + (1 : Int32)) 48 ∧ (wp_Model_square (((mo_seams ((x2_1 + (2 : Int32)).toNatClampNeg)) - (mo_seams (x2_1.toNatClampNeg))).toInt64) (((mo_seams ((x2_1 + (3 : Int32)).toNatClampNeg)) - (mo_seams ((x2_1 + (1 : Int32)).toNatClampNeg))).toInt64) (fun r_2 => (∃ n : Nat, wpL_Model_lengthOf_46 post r_2 n (0 : Int32)))))))))
abbrev rm_Model_lengthOf : Room := { frames := 1, cells := 0, slots := 0, locals := 23 }
set_option maxHeartbeats 4000000 in
set_option maxRecDepth 100000 in
theorem c_Model_lengthOf (l : Launch) (D : va_G) (κ : KT) (h_mo : Nat) (h_mo_bars : Nat) (h_mo_seams : Nat) (h_mo_rowSeam : Nat) (h_mo_rowWay : Nat) (h_mo_quarters : Nat) (h_mo_begins : Nat) (h_mo_ends : Nat) (h_mo_rests : Nat) (h_mo_bestRow : Nat) (h_mo_lows : Nat) (h_mo_highs : Nat) (h_mo_acts : Nat) (h_mo_actMany : Nat) (h_mo_done : Nat) (h_mo_left : Nat) (h_mo_waited : Nat) (h_mo_ran : Nat) (h_mo_reached : Nat) (mo_middleX : Int32) (mo_middleY : Int32) (mo_linkA : Int32) (mo_linkB : Int32) (mo_flatness : Int32) (mo_gap : Int32) (mo_turn : Int32) (mo_travel : Int32) (mo_lift : Int32) (mo_cool : Int32) (mo_homeX : Int32) (mo_homeY : Int32) (mo_barMany : Int32) (mo_seamMany : Int32) (mo_rowMany : Int32) (mo_lowUp : Int64) (mo_lowDown : Int64) (mo_highUp : Int64) (mo_highDown : Int64) (mo_touchMany : Int32) (mo_shiftX : Int32) (mo_shiftY : Int32) (mo_hasRun : Int32) (mo_seams : Nat → Int32) (p0 : Int32) (post : Int32 → Prop) (h : wp_Model_lengthOf mo_seams p0 post) : Met l y_Model_lengthOf (wsG y_Model_lengthOf b_Model_lengthOf 6 (some .int)) rm_Model_lengthOf (PP D κ [.ref h_mo, .int p0] [(h_mo, .inr (10, [.int mo_middleX, .int mo_middleY, .int mo_linkA, .int mo_linkB, .int mo_flatness, .int mo_gap, .int mo_turn, .int mo_travel, .int mo_lift, .int mo_cool, .int mo_homeX, .int mo_homeY, .ref h_mo_bars, .int mo_barMany, .ref h_mo_seams, .int mo_seamMany, .ref h_mo_rowSeam, .ref h_mo_rowWay, .int mo_rowMany, .long mo_lowUp, .long mo_lowDown, .long mo_highUp, .long mo_highDown, .ref h_mo_quarters, .ref h_mo_begins, .ref h_mo_ends, .ref h_mo_rests, .ref h_mo_bestRow, .ref h_mo_lows, .ref h_mo_highs, .int mo_touchMany, .int mo_shiftX, .int mo_shiftY, .ref h_mo_acts, .ref h_mo_actMany, .ref h_mo_done, .ref h_mo_left, .ref h_mo_waited, .ref h_mo_ran, .int mo_hasRun, .ref h_mo_reached])), (h_mo_seams, cI κ 48 mo_seams)]) (vp_Si post) 0 0 (fun _ => False) := by
  refine zp_start [(0, .ref h_mo), (1, .int p0)] rfl (Nat.le_of_ble_eq_true rfl) rfl ?_
  intro p e s m args below meth c C hr hlk
  unfold wp_Model_lengthOf at h
  refine z_k C d_Model_lengthOf_0 ?_
  refine z_iload C d_Model_lengthOf_2 1 rfl ?_
  refine z_imul C d_Model_lengthOf_3 ?_
  refine z_topi (fun x2_1 ex2_1 => ?_)
  replace h := h x2_1 ex2_1
  refine z_istore C [(2, .int x2_1), (0, .ref h_mo), (1, .int p0)] d_Model_lengthOf_4 rfl rfl ?_
  refine z_aload C d_Model_lengthOf_5 1 rfl ?_
  refine z_get C fl_Model_41 0 rfl rfl d_Model_lengthOf_6 ?_
  refine z_iload C d_Model_lengthOf_9 0 rfl ?_
  refine z_k C d_Model_lengthOf_10 ?_
  refine z_iadd C d_Model_lengthOf_11 ?_
  refine z_iald C 1 rfl h.1 d_Model_lengthOf_12 ?_
  replace h := h.2
  refine z_aload C d_Model_lengthOf_13 1 rfl ?_
  refine z_get C fl_Model_41 0 rfl rfl d_Model_lengthOf_14 ?_
  refine z_iload C d_Model_lengthOf_17 0 rfl ?_
  refine z_iald C 1 rfl h.1 d_Model_lengthOf_18 ?_
  replace h := h.2
  refine z_isub C d_Model_lengthOf_19 ?_
  refine z_i2l C d_Model_lengthOf_20 ?_
  refine z_aload C d_Model_lengthOf_21 1 rfl ?_
  refine z_get C fl_Model_41 0 rfl rfl d_Model_lengthOf_22 ?_
  refine z_iload C d_Model_lengthOf_25 0 rfl ?_
  refine z_k C d_Model_lengthOf_26 ?_
  refine z_iadd C d_Model_lengthOf_27 ?_
  refine z_iald C 1 rfl h.1 d_Model_lengthOf_28 ?_
  replace h := h.2
  refine z_aload C d_Model_lengthOf_29 1 rfl ?_
  refine z_get C fl_Model_41 0 rfl rfl d_Model_lengthOf_30 ?_
  refine z_iload C d_Model_lengthOf_33 0 rfl ?_
  refine z_k C d_Model_lengthOf_34 ?_
  refine z_iadd C d_Model_lengthOf_35 ?_
  refine z_iald C 1 rfl h.1 d_Model_lengthOf_36 ?_
  replace h := h.2
  refine z_isub C d_Model_lengthOf_37 ?_
  refine z_i2l C d_Model_lengthOf_38 ?_
  refine z_spl C (rest := []) (c_Model_square l D κ (((mo_seams ((x2_1 + (2 : Int32)).toNatClampNeg)) - (mo_seams (x2_1.toNatClampNeg))).toInt64) (((mo_seams ((x2_1 + (3 : Int32)).toNatClampNeg)) - (mo_seams ((x2_1 + (1 : Int32)).toNatClampNeg))).toInt64) _ h) cs_Model_151 ⟨rfl, rfl⟩ ⟨⟨Nat.le_of_ble_eq_true rfl, Nat.le_of_ble_eq_true rfl⟩, Nat.le_of_ble_eq_true rfl, Nat.le_of_ble_eq_true rfl⟩ [] rfl rfl rfl (Nat.le_of_ble_eq_true rfl) d_Model_lengthOf_39 (fun r_2 h => ?_)
  refine z_lstore C [(3, .long r_2), (2, .int x2_1), (0, .ref h_mo), (1, .int p0)] d_Model_lengthOf_42 rfl rfl ?_
  refine z_k C d_Model_lengthOf_43 ?_
  refine z_istore C [(5, .int (0 : Int32)), (3, .long r_2), (2, .int x2_1), (0, .ref h_mo), (1, .int p0)] d_Model_lengthOf_44 rfl rfl ?_
  obtain ⟨n_46, h⟩ := h
  have LP_46 : ∀ (n : Nat) (x5_3 : Int32), wpL_Model_lengthOf_46 post r_2 n x5_3 → Zw p l e rm_Model_lengthOf s m args below meth c 0 0 (MQ below (vp_Si post) args s 0 0 (fun _ => False)) D 6 none [(h_mo, .inr (10, [.int mo_middleX, .int mo_middleY, .int mo_linkA, .int mo_linkB, .int mo_flatness, .int mo_gap, .int mo_turn, .int mo_travel, .int mo_lift, .int mo_cool, .int mo_homeX, .int mo_homeY, .ref h_mo_bars, .int mo_barMany, .ref h_mo_seams, .int mo_seamMany, .ref h_mo_rowSeam, .ref h_mo_rowWay, .int mo_rowMany, .long mo_lowUp, .long mo_lowDown, .long mo_highUp, .long mo_highDown, .ref h_mo_quarters, .ref h_mo_begins, .ref h_mo_ends, .ref h_mo_rests, .ref h_mo_bestRow, .ref h_mo_lows, .ref h_mo_highs, .int mo_touchMany, .int mo_shiftX, .int mo_shiftY, .ref h_mo_acts, .ref h_mo_actMany, .ref h_mo_done, .ref h_mo_left, .ref h_mo_waited, .ref h_mo_ran, .int mo_hasRun, .ref h_mo_reached])), (h_mo_seams, cI κ 48 mo_seams)] [(3, .long r_2), (5, .int x5_3)] 46 [] := by
    intro n
    induction n with
    | zero => intro x5_3 h; exact False.elim h
    | succ nn_46 IH_46 =>
      intro x5_3 h
      have h : wpB_Model_lengthOf_46 post r_2 (wpL_Model_lengthOf_46 post r_2 nn_46) x5_3 := h
      unfold wpB_Model_lengthOf_46 at h
      refine z_iload C d_Model_lengthOf_46 1 rfl ?_
      refine z_i2l C d_Model_lengthOf_48 ?_
      refine z_iload C d_Model_lengthOf_49 1 rfl ?_
      refine z_i2l C d_Model_lengthOf_51 ?_
      refine z_lmul C d_Model_lengthOf_52 ?_
      refine z_lload C d_Model_lengthOf_53 0 rfl ?_
      refine z_lcmp C d_Model_lengthOf_54 ?_
      refine z_if_ge C d_Model_lengthOf_55 (fun c_4 => ?_) (fun c_4 => ?_)
      · replace h := h.1 c_4
        refine z_iload C d_Model_lengthOf_64 1 rfl ?_
        exact zp_iret C hr hlk d_Model_lengthOf_66 h
      · replace h := h.2 c_4
        obtain ⟨x5_5, ex5_5⟩ : ∃ y : Int32, y = x5_3 + (1 : Int32) := ⟨_, rfl⟩
        replace h := h x5_5 ex5_5
        refine z_iinc C [(5, .int x5_5), (3, .long r_2)] d_Model_lengthOf_58 (j := 1) rfl (by rw [ex5_5]; rfl) rfl rfl ?_
        refine z_goto C d_Model_lengthOf_61 ?_
        refine z_sub [1, 0] [(3, .long r_2), (5, .int x5_5)] rfl ?_
        exact IH_46 x5_5 h
  refine z_sub [1, 0] [(3, .long r_2), (5, .int (0 : Int32))] rfl ?_
  exact LP_46 n_46 (0 : Int32) h
def wp_Model_timeOf (mo_seams : Nat → Int32) (p0 : Int32) (post : Int32 → Prop) : Prop :=
  (wp_Model_lengthOf mo_seams p0 (fun r_1 => (vp_in (((6 : Int32) * p0) + (4 : Int32)) 48 ∧ (wp_Model_up r_1 (mo_seams ((((6 : Int32) * p0) + (4 : Int32)).toNatClampNeg)) (fun r_2 => (post r_2))))))
abbrev rm_Model_timeOf : Room := { frames := 2, cells := 0, slots := 0, locals := 48 }
set_option maxHeartbeats 4000000 in
set_option maxRecDepth 100000 in
theorem c_Model_timeOf (l : Launch) (D : va_G) (κ : KT) (h_mo : Nat) (h_mo_bars : Nat) (h_mo_seams : Nat) (h_mo_rowSeam : Nat) (h_mo_rowWay : Nat) (h_mo_quarters : Nat) (h_mo_begins : Nat) (h_mo_ends : Nat) (h_mo_rests : Nat) (h_mo_bestRow : Nat) (h_mo_lows : Nat) (h_mo_highs : Nat) (h_mo_acts : Nat) (h_mo_actMany : Nat) (h_mo_done : Nat) (h_mo_left : Nat) (h_mo_waited : Nat) (h_mo_ran : Nat) (h_mo_reached : Nat) (mo_middleX : Int32) (mo_middleY : Int32) (mo_linkA : Int32) (mo_linkB : Int32) (mo_flatness : Int32) (mo_gap : Int32) (mo_turn : Int32) (mo_travel : Int32) (mo_lift : Int32) (mo_cool : Int32) (mo_homeX : Int32) (mo_homeY : Int32) (mo_barMany : Int32) (mo_seamMany : Int32) (mo_rowMany : Int32) (mo_lowUp : Int64) (mo_lowDown : Int64) (mo_highUp : Int64) (mo_highDown : Int64) (mo_touchMany : Int32) (mo_shiftX : Int32) (mo_shiftY : Int32) (mo_hasRun : Int32) (mo_seams : Nat → Int32) (p0 : Int32) (post : Int32 → Prop) (h : wp_Model_timeOf mo_seams p0 post) : Met l y_Model_timeOf (wsG y_Model_timeOf b_Model_timeOf 2 (some .int)) rm_Model_timeOf (PP D κ [.ref h_mo, .int p0] [(h_mo, .inr (10, [.int mo_middleX, .int mo_middleY, .int mo_linkA, .int mo_linkB, .int mo_flatness, .int mo_gap, .int mo_turn, .int mo_travel, .int mo_lift, .int mo_cool, .int mo_homeX, .int mo_homeY, .ref h_mo_bars, .int mo_barMany, .ref h_mo_seams, .int mo_seamMany, .ref h_mo_rowSeam, .ref h_mo_rowWay, .int mo_rowMany, .long mo_lowUp, .long mo_lowDown, .long mo_highUp, .long mo_highDown, .ref h_mo_quarters, .ref h_mo_begins, .ref h_mo_ends, .ref h_mo_rests, .ref h_mo_bestRow, .ref h_mo_lows, .ref h_mo_highs, .int mo_touchMany, .int mo_shiftX, .int mo_shiftY, .ref h_mo_acts, .ref h_mo_actMany, .ref h_mo_done, .ref h_mo_left, .ref h_mo_waited, .ref h_mo_ran, .int mo_hasRun, .ref h_mo_reached])), (h_mo_seams, cI κ 48 mo_seams)]) (vp_Si post) 0 0 (fun _ => False) := by
  refine zp_start [(0, .ref h_mo), (1, .int p0)] rfl (Nat.le_of_ble_eq_true rfl) rfl ?_
  intro p e s m args below meth c C hr hlk
  unfold wp_Model_timeOf at h
  refine z_aload C d_Model_timeOf_0 0 rfl ?_
  refine z_iload C d_Model_timeOf_1 1 rfl ?_
  refine z_vpi C (rest := []) (c_Model_lengthOf l D κ h_mo h_mo_bars h_mo_seams h_mo_rowSeam h_mo_rowWay h_mo_quarters h_mo_begins h_mo_ends h_mo_rests h_mo_bestRow h_mo_lows h_mo_highs h_mo_acts h_mo_actMany h_mo_done h_mo_left h_mo_waited h_mo_ran h_mo_reached mo_middleX mo_middleY mo_linkA mo_linkB mo_flatness mo_gap mo_turn mo_travel mo_lift mo_cool mo_homeX mo_homeY mo_barMany mo_seamMany mo_rowMany mo_lowUp mo_lowDown mo_highUp mo_highDown mo_touchMany mo_shiftX mo_shiftY mo_hasRun mo_seams p0 _ h) cv_Model_198 ⟨rfl, rfl⟩ ⟨⟨Nat.le_of_ble_eq_true rfl, Nat.le_of_ble_eq_true rfl⟩, Nat.le_of_ble_eq_true rfl, Nat.le_of_ble_eq_true rfl⟩ 0 rfl [0, 1] rfl rfl rfl (Nat.le_of_ble_eq_true rfl) d_Model_timeOf_2 (fun r_1 h => ?_)
  refine z_aload C d_Model_timeOf_5 0 rfl ?_
  refine z_get C fl_Model_41 0 rfl rfl d_Model_timeOf_6 ?_
  refine z_k C d_Model_timeOf_9 ?_
  refine z_iload C d_Model_timeOf_11 1 rfl ?_
  refine z_imul C d_Model_timeOf_12 ?_
  refine z_k C d_Model_timeOf_13 ?_
  refine z_iadd C d_Model_timeOf_14 ?_
  refine z_iald C 1 rfl h.1 d_Model_timeOf_15 ?_
  replace h := h.2
  refine z_spi C (rest := []) (c_Model_up l D κ r_1 (mo_seams ((((6 : Int32) * p0) + (4 : Int32)).toNatClampNeg)) _ h) cs_Model_201 ⟨rfl, rfl⟩ ⟨⟨Nat.le_of_ble_eq_true rfl, Nat.le_of_ble_eq_true rfl⟩, Nat.le_of_ble_eq_true rfl, Nat.le_of_ble_eq_true rfl⟩ [] rfl rfl rfl (Nat.le_of_ble_eq_true rfl) d_Model_timeOf_16 (fun r_2 h => ?_)
  exact zp_iret C hr hlk d_Model_timeOf_19 h
def wp_Model_about_j27_15 (mo_middleX : Int32) (mo_middleY : Int32) (mo_shiftX : Int32) (mo_shiftY : Int32) (mo_seams : Nat → Int32) (p0 : Int32) (p1 : Int32) (post : Int32 → Int64 → Int64 → Int64 → Int64 → Prop) (r_3 : Int32) (mo_lowUp_4 : Int64) (mo_lowDown_5 : Int64) (mo_highUp_6 : Int64) (mo_highDown_7 : Int64) (w_8 : Int32) : Prop :=
  (((p1.toInt < 0 ∨ 7 < p1.toInt) → (post (-1002 : Int32) mo_lowUp_4 mo_lowDown_5 mo_highUp_6 mo_highDown_7)) ∧ (p1 = (0 : Int32) → (wp_Model_lengthOf mo_seams p0 (fun r_10 => (post r_10 mo_lowUp_4 mo_lowDown_5 mo_highUp_6 mo_highDown_7)))) ∧ (p1 = (1 : Int32) → (wp_Model_timeOf mo_seams p0 (fun r_11 => (post r_11 mo_lowUp_4 mo_lowDown_5 mo_highUp_6 mo_highDown_7)))) ∧ (p1 = (2 : Int32) → (vp_in (((6 : Int32) * p0) + (5 : Int32)) 48 ∧ (post (mo_seams ((((6 : Int32) * p0) + (5 : Int32)).toNatClampNeg)) mo_lowUp_4 mo_lowDown_5 mo_highUp_6 mo_highDown_7))) ∧ (p1 = (3 : Int32) → (post r_3 mo_lowUp_4 mo_lowDown_5 mo_highUp_6 mo_highDown_7)) ∧ (p1 = (4 : Int32) → (wp_Model_placeOf mo_middleX mo_middleY mo_shiftX mo_shiftY mo_seams p0 (0 : Int32) w_8 (0 : Int32) (fun r_12 => (post r_12 mo_lowUp_4 mo_lowDown_5 mo_highUp_6 mo_highDown_7)))) ∧ (p1 = (5 : Int32) → (wp_Model_placeOf mo_middleX mo_middleY mo_shiftX mo_shiftY mo_seams p0 (0 : Int32) w_8 (1 : Int32) (fun r_13 => (post r_13 mo_lowUp_4 mo_lowDown_5 mo_highUp_6 mo_highDown_7)))) ∧ (p1 = (6 : Int32) → (wp_Model_placeOf mo_middleX mo_middleY mo_shiftX mo_shiftY mo_seams p0 (1 : Int32) w_8 (0 : Int32) (fun r_14 => (post r_14 mo_lowUp_4 mo_lowDown_5 mo_highUp_6 mo_highDown_7)))) ∧ (p1 = (7 : Int32) → (wp_Model_placeOf mo_middleX mo_middleY mo_shiftX mo_shiftY mo_seams p0 (1 : Int32) w_8 (1 : Int32) (fun r_15 => (post r_15 mo_lowUp_4 mo_lowDown_5 mo_highUp_6 mo_highDown_7)))))
def wp_Model_about (mo_middleX : Int32) (mo_middleY : Int32) (mo_linkA : Int32) (mo_linkB : Int32) (mo_flatness : Int32) (mo_barMany : Int32) (mo_seamMany : Int32) (mo_lowUp : Int64) (mo_lowDown : Int64) (mo_highUp : Int64) (mo_highDown : Int64) (mo_shiftX : Int32) (mo_shiftY : Int32) (mo_bars : Nat → Int32) (mo_seams : Nat → Int32) (p0 : Int32) (p1 : Int32) (post : Int32 → Int64 → Int64 → Int64 → Int64 → Prop) : Prop :=
  (wp_Model_isSeam mo_seamMany p0 (fun r_1 => ((¬ r_1 = 0 → (wp_Model_quarterOf mo_middleX mo_middleY mo_linkA mo_linkB mo_flatness mo_barMany mo_lowUp mo_lowDown mo_highUp mo_highDown mo_shiftX mo_shiftY mo_bars mo_seams p0 (fun r_3 mo_lowUp_4 mo_lowDown_5 mo_highUp_6 mo_highDown_7 => ((0 ≤ r_3 → (wp_Model_about_j27_15 mo_middleX mo_middleY mo_shiftX mo_shiftY mo_seams p0 p1 post r_3 mo_lowUp_4 mo_lowDown_5 mo_highUp_6 mo_highDown_7 r_3)) ∧ (¬ 0 ≤ r_3 → (wp_Model_about_j27_15 mo_middleX mo_middleY mo_shiftX mo_shiftY mo_seams p0 p1 post r_3 mo_lowUp_4 mo_lowDown_5 mo_highUp_6 mo_highDown_7 (0 : Int32))))))) ∧ (r_1 = 0 → (post (-1001 : Int32) mo_lowUp mo_lowDown mo_highUp mo_highDown)))))
abbrev rm_Model_about : Room := { frames := 5, cells := 0, slots := 0, locals := 130 }
set_option maxHeartbeats 4000000 in
set_option maxRecDepth 100000 in
theorem c_Model_about (l : Launch) (D : va_G) (κ : KT) (h_mo : Nat) (h_mo_bars : Nat) (h_mo_seams : Nat) (h_mo_rowSeam : Nat) (h_mo_rowWay : Nat) (h_mo_quarters : Nat) (h_mo_begins : Nat) (h_mo_ends : Nat) (h_mo_rests : Nat) (h_mo_bestRow : Nat) (h_mo_lows : Nat) (h_mo_highs : Nat) (h_mo_acts : Nat) (h_mo_actMany : Nat) (h_mo_done : Nat) (h_mo_left : Nat) (h_mo_waited : Nat) (h_mo_ran : Nat) (h_mo_reached : Nat) (mo_middleX : Int32) (mo_middleY : Int32) (mo_linkA : Int32) (mo_linkB : Int32) (mo_flatness : Int32) (mo_gap : Int32) (mo_turn : Int32) (mo_travel : Int32) (mo_lift : Int32) (mo_cool : Int32) (mo_homeX : Int32) (mo_homeY : Int32) (mo_barMany : Int32) (mo_seamMany : Int32) (mo_rowMany : Int32) (mo_lowUp : Int64) (mo_lowDown : Int64) (mo_highUp : Int64) (mo_highDown : Int64) (mo_touchMany : Int32) (mo_shiftX : Int32) (mo_shiftY : Int32) (mo_hasRun : Int32) (mo_bars : Nat → Int32) (mo_seams : Nat → Int32) (p0 : Int32) (p1 : Int32) (sz : Nat) (post : Int32 → Int64 → Int64 → Int64 → Int64 → Prop) (h : wp_Model_about mo_middleX mo_middleY mo_linkA mo_linkB mo_flatness mo_barMany mo_seamMany mo_lowUp mo_lowDown mo_highUp mo_highDown mo_shiftX mo_shiftY mo_bars mo_seams p0 p1 post) : Met l y_Model_about (wsG y_Model_about b_Model_about 5 (some .int)) rm_Model_about (PE D κ [.ref h_mo, .int p0, .int p1] [(h_mo, .inr (10, [.int mo_middleX, .int mo_middleY, .int mo_linkA, .int mo_linkB, .int mo_flatness, .int mo_gap, .int mo_turn, .int mo_travel, .int mo_lift, .int mo_cool, .int mo_homeX, .int mo_homeY, .ref h_mo_bars, .int mo_barMany, .ref h_mo_seams, .int mo_seamMany, .ref h_mo_rowSeam, .ref h_mo_rowWay, .int mo_rowMany, .long mo_lowUp, .long mo_lowDown, .long mo_highUp, .long mo_highDown, .ref h_mo_quarters, .ref h_mo_begins, .ref h_mo_ends, .ref h_mo_rests, .ref h_mo_bestRow, .ref h_mo_lows, .ref h_mo_highs, .int mo_touchMany, .int mo_shiftX, .int mo_shiftY, .ref h_mo_acts, .ref h_mo_actMany, .ref h_mo_done, .ref h_mo_left, .ref h_mo_waited, .ref h_mo_ran, .int mo_hasRun, .ref h_mo_reached])), (h_mo_bars, cI κ 16 mo_bars), (h_mo_seams, cI κ 48 mo_seams)] sz) (va_Qi (fun (r : Int32) (u : (Int64) × (Int64) × (Int64) × (Int64)) => post r u.1 u.2.1 u.2.2.1 u.2.2.2) (QB D [(h_mo, .inr (10, [.int mo_middleX, .int mo_middleY, .int mo_linkA, .int mo_linkB, .int mo_flatness, .int mo_gap, .int mo_turn, .int mo_travel, .int mo_lift, .int mo_cool, .int mo_homeX, .int mo_homeY, .ref h_mo_bars, .int mo_barMany, .ref h_mo_seams, .int mo_seamMany, .ref h_mo_rowSeam, .ref h_mo_rowWay, .int mo_rowMany, .long mo_lowUp, .long mo_lowDown, .long mo_highUp, .long mo_highDown, .ref h_mo_quarters, .ref h_mo_begins, .ref h_mo_ends, .ref h_mo_rests, .ref h_mo_bestRow, .ref h_mo_lows, .ref h_mo_highs, .int mo_touchMany, .int mo_shiftX, .int mo_shiftY, .ref h_mo_acts, .ref h_mo_actMany, .ref h_mo_done, .ref h_mo_left, .ref h_mo_waited, .ref h_mo_ran, .int mo_hasRun, .ref h_mo_reached])), (h_mo_bars, cI κ 16 mo_bars), (h_mo_seams, cI κ 48 mo_seams)] sz (fun (u : (Int64) × (Int64) × (Int64) × (Int64)) => [(h_mo, .inr (10, [.int mo_middleX, .int mo_middleY, .int mo_linkA, .int mo_linkB, .int mo_flatness, .int mo_gap, .int mo_turn, .int mo_travel, .int mo_lift, .int mo_cool, .int mo_homeX, .int mo_homeY, .ref h_mo_bars, .int mo_barMany, .ref h_mo_seams, .int mo_seamMany, .ref h_mo_rowSeam, .ref h_mo_rowWay, .int mo_rowMany, .long u.1, .long u.2.1, .long u.2.2.1, .long u.2.2.2, .ref h_mo_quarters, .ref h_mo_begins, .ref h_mo_ends, .ref h_mo_rests, .ref h_mo_bestRow, .ref h_mo_lows, .ref h_mo_highs, .int mo_touchMany, .int mo_shiftX, .int mo_shiftY, .ref h_mo_acts, .ref h_mo_actMany, .ref h_mo_done, .ref h_mo_left, .ref h_mo_waited, .ref h_mo_ran, .int mo_hasRun, .ref h_mo_reached])), (h_mo_bars, cI κ 16 mo_bars), (h_mo_seams, cI κ 48 mo_seams)])) (va_A [(h_mo, .inr (10, [.int mo_middleX, .int mo_middleY, .int mo_linkA, .int mo_linkB, .int mo_flatness, .int mo_gap, .int mo_turn, .int mo_travel, .int mo_lift, .int mo_cool, .int mo_homeX, .int mo_homeY, .ref h_mo_bars, .int mo_barMany, .ref h_mo_seams, .int mo_seamMany, .ref h_mo_rowSeam, .ref h_mo_rowWay, .int mo_rowMany, .long mo_lowUp, .long mo_lowDown, .long mo_highUp, .long mo_highDown, .ref h_mo_quarters, .ref h_mo_begins, .ref h_mo_ends, .ref h_mo_rests, .ref h_mo_bestRow, .ref h_mo_lows, .ref h_mo_highs, .int mo_touchMany, .int mo_shiftX, .int mo_shiftY, .ref h_mo_acts, .ref h_mo_actMany, .ref h_mo_done, .ref h_mo_left, .ref h_mo_waited, .ref h_mo_ran, .int mo_hasRun, .ref h_mo_reached])), (h_mo_bars, cI κ 16 mo_bars), (h_mo_seams, cI κ 48 mo_seams)] sz)) 0 0 (va_A [(h_mo, .inr (10, [.int mo_middleX, .int mo_middleY, .int mo_linkA, .int mo_linkB, .int mo_flatness, .int mo_gap, .int mo_turn, .int mo_travel, .int mo_lift, .int mo_cool, .int mo_homeX, .int mo_homeY, .ref h_mo_bars, .int mo_barMany, .ref h_mo_seams, .int mo_seamMany, .ref h_mo_rowSeam, .ref h_mo_rowWay, .int mo_rowMany, .long mo_lowUp, .long mo_lowDown, .long mo_highUp, .long mo_highDown, .ref h_mo_quarters, .ref h_mo_begins, .ref h_mo_ends, .ref h_mo_rests, .ref h_mo_bestRow, .ref h_mo_lows, .ref h_mo_highs, .int mo_touchMany, .int mo_shiftX, .int mo_shiftY, .ref h_mo_acts, .ref h_mo_actMany, .ref h_mo_done, .ref h_mo_left, .ref h_mo_waited, .ref h_mo_ran, .int mo_hasRun, .ref h_mo_reached])), (h_mo_bars, cI κ 16 mo_bars), (h_mo_seams, cI κ 48 mo_seams)] sz) := by
  refine ze_start [(0, .ref h_mo), (1, .int p0), (2, .int p1)] rfl (Nat.le_of_ble_eq_true rfl) rfl ?_
  intro p e s m args below meth c C hr hlk hnm hsz
  subst hsz
  unfold wp_Model_about at h
  refine z_aload C d_Model_about_0 0 rfl ?_
  refine z_iload C d_Model_about_1 1 rfl ?_
  refine z_vpi C (rest := []) (c_Model_isSeam l D κ h_mo h_mo_bars h_mo_seams h_mo_rowSeam h_mo_rowWay h_mo_quarters h_mo_begins h_mo_ends h_mo_rests h_mo_bestRow h_mo_lows h_mo_highs h_mo_acts h_mo_actMany h_mo_done h_mo_left h_mo_waited h_mo_ran h_mo_reached mo_middleX mo_middleY mo_linkA mo_linkB mo_flatness mo_gap mo_turn mo_travel mo_lift mo_cool mo_homeX mo_homeY mo_barMany mo_seamMany mo_rowMany mo_lowUp mo_lowDown mo_highUp mo_highDown mo_touchMany mo_shiftX mo_shiftY mo_hasRun p0 _ h) cv_Model_204 ⟨rfl, rfl⟩ ⟨⟨Nat.le_of_ble_eq_true rfl, Nat.le_of_ble_eq_true rfl⟩, Nat.le_of_ble_eq_true rfl, Nat.le_of_ble_eq_true rfl⟩ 0 rfl [0] rfl rfl rfl (Nat.le_of_ble_eq_true rfl) d_Model_about_2 (fun r_1 h => ?_)
  refine z_if_ne C d_Model_about_5 (fun c_2 => ?_) (fun c_2 => ?_)
  · replace h := h.1 c_2
    refine z_aload C d_Model_about_12 0 rfl ?_
    refine z_iload C d_Model_about_13 1 rfl ?_
    refine z_vei C (rest := []) (wr := []) (fun sz => c_Model_quarterOf l D κ h_mo h_mo_bars h_mo_seams h_mo_rowSeam h_mo_rowWay h_mo_quarters h_mo_begins h_mo_ends h_mo_rests h_mo_bestRow h_mo_lows h_mo_highs h_mo_acts h_mo_actMany h_mo_done h_mo_left h_mo_waited h_mo_ran h_mo_reached mo_middleX mo_middleY mo_linkA mo_linkB mo_flatness mo_gap mo_turn mo_travel mo_lift mo_cool mo_homeX mo_homeY mo_barMany mo_seamMany mo_rowMany mo_lowUp mo_lowDown mo_highUp mo_highDown mo_touchMany mo_shiftX mo_shiftY mo_hasRun mo_bars mo_seams p0 sz _ h) cv_Model_208 ⟨rfl, rfl⟩ ⟨⟨Nat.le_of_ble_eq_true rfl, Nat.le_of_ble_eq_true rfl⟩, Nat.le_of_ble_eq_true rfl, Nat.le_of_ble_eq_true rfl⟩ 0 rfl [0, 1, 2] [] rfl rfl rfl (fun u => [(h_mo, .inr (10, [.int mo_middleX, .int mo_middleY, .int mo_linkA, .int mo_linkB, .int mo_flatness, .int mo_gap, .int mo_turn, .int mo_travel, .int mo_lift, .int mo_cool, .int mo_homeX, .int mo_homeY, .ref h_mo_bars, .int mo_barMany, .ref h_mo_seams, .int mo_seamMany, .ref h_mo_rowSeam, .ref h_mo_rowWay, .int mo_rowMany, .long u.1, .long u.2.1, .long u.2.2.1, .long u.2.2.2, .ref h_mo_quarters, .ref h_mo_begins, .ref h_mo_ends, .ref h_mo_rests, .ref h_mo_bestRow, .ref h_mo_lows, .ref h_mo_highs, .int mo_touchMany, .int mo_shiftX, .int mo_shiftY, .ref h_mo_acts, .ref h_mo_actMany, .ref h_mo_done, .ref h_mo_left, .ref h_mo_waited, .ref h_mo_ran, .int mo_hasRun, .ref h_mo_reached])), (h_mo_bars, cI κ 16 mo_bars), (h_mo_seams, cI κ 48 mo_seams)]) [0, 1, 2] rfl (fun _ => rfl) rfl rfl (Nat.le_of_ble_eq_true rfl) d_Model_about_14 (fun r_3 u_7 h => ?_)
    obtain ⟨mo_lowUp_4, mo_lowDown_5, mo_highUp_6, mo_highDown_7⟩ := u_7
    (try dsimp only at h); (try dsimp only)
    refine z_istore C [(3, .int r_3), (0, .ref h_mo), (1, .int p0), (2, .int p1)] d_Model_about_17 rfl rfl ?_
    refine z_iload C d_Model_about_18 0 rfl ?_
    have J_27 : ∀ (w_8 : Int32), wp_Model_about_j27_15 mo_middleX mo_middleY mo_shiftX mo_shiftY mo_seams p0 p1 post r_3 mo_lowUp_4 mo_lowDown_5 mo_highUp_6 mo_highDown_7 w_8 → Zw p l e rm_Model_about s m args below meth c 0 0 (MQ below (va_Qi (fun (r : Int32) (u : (Int64) × (Int64) × (Int64) × (Int64)) => post r u.1 u.2.1 u.2.2.1 u.2.2.2) (QB D [(h_mo, .inr (10, [.int mo_middleX, .int mo_middleY, .int mo_linkA, .int mo_linkB, .int mo_flatness, .int mo_gap, .int mo_turn, .int mo_travel, .int mo_lift, .int mo_cool, .int mo_homeX, .int mo_homeY, .ref h_mo_bars, .int mo_barMany, .ref h_mo_seams, .int mo_seamMany, .ref h_mo_rowSeam, .ref h_mo_rowWay, .int mo_rowMany, .long mo_lowUp, .long mo_lowDown, .long mo_highUp, .long mo_highDown, .ref h_mo_quarters, .ref h_mo_begins, .ref h_mo_ends, .ref h_mo_rests, .ref h_mo_bestRow, .ref h_mo_lows, .ref h_mo_highs, .int mo_touchMany, .int mo_shiftX, .int mo_shiftY, .ref h_mo_acts, .ref h_mo_actMany, .ref h_mo_done, .ref h_mo_left, .ref h_mo_waited, .ref h_mo_ran, .int mo_hasRun, .ref h_mo_reached])), (h_mo_bars, cI κ 16 mo_bars), (h_mo_seams, cI κ 48 mo_seams)] s.heap.size (fun (u : (Int64) × (Int64) × (Int64) × (Int64)) => [(h_mo, .inr (10, [.int mo_middleX, .int mo_middleY, .int mo_linkA, .int mo_linkB, .int mo_flatness, .int mo_gap, .int mo_turn, .int mo_travel, .int mo_lift, .int mo_cool, .int mo_homeX, .int mo_homeY, .ref h_mo_bars, .int mo_barMany, .ref h_mo_seams, .int mo_seamMany, .ref h_mo_rowSeam, .ref h_mo_rowWay, .int mo_rowMany, .long u.1, .long u.2.1, .long u.2.2.1, .long u.2.2.2, .ref h_mo_quarters, .ref h_mo_begins, .ref h_mo_ends, .ref h_mo_rests, .ref h_mo_bestRow, .ref h_mo_lows, .ref h_mo_highs, .int mo_touchMany, .int mo_shiftX, .int mo_shiftY, .ref h_mo_acts, .ref h_mo_actMany, .ref h_mo_done, .ref h_mo_left, .ref h_mo_waited, .ref h_mo_ran, .int mo_hasRun, .ref h_mo_reached])), (h_mo_bars, cI κ 16 mo_bars), (h_mo_seams, cI κ 48 mo_seams)])) (va_A [(h_mo, .inr (10, [.int mo_middleX, .int mo_middleY, .int mo_linkA, .int mo_linkB, .int mo_flatness, .int mo_gap, .int mo_turn, .int mo_travel, .int mo_lift, .int mo_cool, .int mo_homeX, .int mo_homeY, .ref h_mo_bars, .int mo_barMany, .ref h_mo_seams, .int mo_seamMany, .ref h_mo_rowSeam, .ref h_mo_rowWay, .int mo_rowMany, .long mo_lowUp, .long mo_lowDown, .long mo_highUp, .long mo_highDown, .ref h_mo_quarters, .ref h_mo_begins, .ref h_mo_ends, .ref h_mo_rests, .ref h_mo_bestRow, .ref h_mo_lows, .ref h_mo_highs, .int mo_touchMany, .int mo_shiftX, .int mo_shiftY, .ref h_mo_acts, .ref h_mo_actMany, .ref h_mo_done, .ref h_mo_left, .ref h_mo_waited, .ref h_mo_ran, .int mo_hasRun, .ref h_mo_reached])), (h_mo_bars, cI κ 16 mo_bars), (h_mo_seams, cI κ 48 mo_seams)] s.heap.size)) args s 0 0 (va_A [(h_mo, .inr (10, [.int mo_middleX, .int mo_middleY, .int mo_linkA, .int mo_linkB, .int mo_flatness, .int mo_gap, .int mo_turn, .int mo_travel, .int mo_lift, .int mo_cool, .int mo_homeX, .int mo_homeY, .ref h_mo_bars, .int mo_barMany, .ref h_mo_seams, .int mo_seamMany, .ref h_mo_rowSeam, .ref h_mo_rowWay, .int mo_rowMany, .long mo_lowUp, .long mo_lowDown, .long mo_highUp, .long mo_highDown, .ref h_mo_quarters, .ref h_mo_begins, .ref h_mo_ends, .ref h_mo_rests, .ref h_mo_bestRow, .ref h_mo_lows, .ref h_mo_highs, .int mo_touchMany, .int mo_shiftX, .int mo_shiftY, .ref h_mo_acts, .ref h_mo_actMany, .ref h_mo_done, .ref h_mo_left, .ref h_mo_waited, .ref h_mo_ran, .int mo_hasRun, .ref h_mo_reached])), (h_mo_bars, cI κ 16 mo_bars), (h_mo_seams, cI κ 48 mo_seams)] s.heap.size)) D 5 (some (va_A [(h_mo, .inr (10, [.int mo_middleX, .int mo_middleY, .int mo_linkA, .int mo_linkB, .int mo_flatness, .int mo_gap, .int mo_turn, .int mo_travel, .int mo_lift, .int mo_cool, .int mo_homeX, .int mo_homeY, .ref h_mo_bars, .int mo_barMany, .ref h_mo_seams, .int mo_seamMany, .ref h_mo_rowSeam, .ref h_mo_rowWay, .int mo_rowMany, .long mo_lowUp, .long mo_lowDown, .long mo_highUp, .long mo_highDown, .ref h_mo_quarters, .ref h_mo_begins, .ref h_mo_ends, .ref h_mo_rests, .ref h_mo_bestRow, .ref h_mo_lows, .ref h_mo_highs, .int mo_touchMany, .int mo_shiftX, .int mo_shiftY, .ref h_mo_acts, .ref h_mo_actMany, .ref h_mo_done, .ref h_mo_left, .ref h_mo_waited, .ref h_mo_ran, .int mo_hasRun, .ref h_mo_reached])), (h_mo_bars, cI κ 16 mo_bars), (h_mo_seams, cI κ 48 mo_seams)] s.heap.size)) [(h_mo, .inr (10, [.int mo_middleX, .int mo_middleY, .int mo_linkA, .int mo_linkB, .int mo_flatness, .int mo_gap, .int mo_turn, .int mo_travel, .int mo_lift, .int mo_cool, .int mo_homeX, .int mo_homeY, .ref h_mo_bars, .int mo_barMany, .ref h_mo_seams, .int mo_seamMany, .ref h_mo_rowSeam, .ref h_mo_rowWay, .int mo_rowMany, .long mo_lowUp_4, .long mo_lowDown_5, .long mo_highUp_6, .long mo_highDown_7, .ref h_mo_quarters, .ref h_mo_begins, .ref h_mo_ends, .ref h_mo_rests, .ref h_mo_bestRow, .ref h_mo_lows, .ref h_mo_highs, .int mo_touchMany, .int mo_shiftX, .int mo_shiftY, .ref h_mo_acts, .ref h_mo_actMany, .ref h_mo_done, .ref h_mo_left, .ref h_mo_waited, .ref h_mo_ran, .int mo_hasRun, .ref h_mo_reached])), (h_mo_bars, cI κ 16 mo_bars), (h_mo_seams, cI κ 48 mo_seams)] [(0, .ref h_mo), (1, .int p0), (2, .int p1), (3, .int r_3)] 27 [.int w_8] := by
      intro w_8 h
      unfold wp_Model_about_j27_15 at h
      refine z_istore C [(4, .int w_8), (0, .ref h_mo), (1, .int p0), (2, .int p1), (3, .int r_3)] d_Model_about_27 rfl rfl ?_
      refine z_iload C d_Model_about_29 3 rfl ?_
      rcases sw_c7 p1 with c_9 | c_9 | c_9 | c_9 | c_9 | c_9 | c_9 | c_9 | c_9
      · replace h := h.1 c_9
        refine z_swOut C (tgt := 142) d_Model_about_30 c_9 (by decide) ?_
        refine z_k C d_Model_about_142 ?_
        exact ze_iret C (mo_lowUp_4, mo_lowDown_5, mo_highUp_6, mo_highDown_7) hr hlk rfl d_Model_about_145 h
      · replace h := h.2.1 c_9
        refine z_swIn C (tgt := 76) d_Model_about_30 (by rw [c_9]; decide) (by rw [c_9]; decide) (by rw [c_9]; rfl) (by decide) ?_
        refine z_aload C d_Model_about_76 1 rfl ?_
        refine z_iload C d_Model_about_77 2 rfl ?_
        refine z_vpi C (rest := []) (c_Model_lengthOf l D κ h_mo h_mo_bars h_mo_seams h_mo_rowSeam h_mo_rowWay h_mo_quarters h_mo_begins h_mo_ends h_mo_rests h_mo_bestRow h_mo_lows h_mo_highs h_mo_acts h_mo_actMany h_mo_done h_mo_left h_mo_waited h_mo_ran h_mo_reached mo_middleX mo_middleY mo_linkA mo_linkB mo_flatness mo_gap mo_turn mo_travel mo_lift mo_cool mo_homeX mo_homeY mo_barMany mo_seamMany mo_rowMany mo_lowUp_4 mo_lowDown_5 mo_highUp_6 mo_highDown_7 mo_touchMany mo_shiftX mo_shiftY mo_hasRun mo_seams p0 _ h) cv_Model_198 ⟨rfl, rfl⟩ ⟨⟨Nat.le_of_ble_eq_true rfl, Nat.le_of_ble_eq_true rfl⟩, Nat.le_of_ble_eq_true rfl, Nat.le_of_ble_eq_true rfl⟩ 0 rfl [0, 2] rfl rfl rfl (Nat.le_of_ble_eq_true rfl) d_Model_about_78 (fun r_10 h => ?_)
        exact ze_iret C (mo_lowUp_4, mo_lowDown_5, mo_highUp_6, mo_highDown_7) hr hlk rfl d_Model_about_81 h
      · replace h := h.2.2.1 c_9
        refine z_swIn C (tgt := 82) d_Model_about_30 (by rw [c_9]; decide) (by rw [c_9]; decide) (by rw [c_9]; rfl) (by decide) ?_
        refine z_aload C d_Model_about_82 1 rfl ?_
        refine z_iload C d_Model_about_83 2 rfl ?_
        refine z_vpi C (rest := []) (c_Model_timeOf l D κ h_mo h_mo_bars h_mo_seams h_mo_rowSeam h_mo_rowWay h_mo_quarters h_mo_begins h_mo_ends h_mo_rests h_mo_bestRow h_mo_lows h_mo_highs h_mo_acts h_mo_actMany h_mo_done h_mo_left h_mo_waited h_mo_ran h_mo_reached mo_middleX mo_middleY mo_linkA mo_linkB mo_flatness mo_gap mo_turn mo_travel mo_lift mo_cool mo_homeX mo_homeY mo_barMany mo_seamMany mo_rowMany mo_lowUp_4 mo_lowDown_5 mo_highUp_6 mo_highDown_7 mo_touchMany mo_shiftX mo_shiftY mo_hasRun mo_seams p0 _ h) cv_Model_211 ⟨rfl, rfl⟩ ⟨⟨Nat.le_of_ble_eq_true rfl, Nat.le_of_ble_eq_true rfl⟩, Nat.le_of_ble_eq_true rfl, Nat.le_of_ble_eq_true rfl⟩ 0 rfl [0, 2] rfl rfl rfl (Nat.le_of_ble_eq_true rfl) d_Model_about_84 (fun r_11 h => ?_)
        exact ze_iret C (mo_lowUp_4, mo_lowDown_5, mo_highUp_6, mo_highDown_7) hr hlk rfl d_Model_about_87 h
      · replace h := h.2.2.2.1 c_9
        refine z_swIn C (tgt := 88) d_Model_about_30 (by rw [c_9]; decide) (by rw [c_9]; decide) (by rw [c_9]; rfl) (by decide) ?_
        refine z_aload C d_Model_about_88 1 rfl ?_
        refine z_get C fl_Model_41 0 rfl rfl d_Model_about_89 ?_
        refine z_k C d_Model_about_92 ?_
        refine z_iload C d_Model_about_94 2 rfl ?_
        refine z_imul C d_Model_about_95 ?_
        refine z_k C d_Model_about_96 ?_
        refine z_iadd C d_Model_about_97 ?_
        refine z_iald C 2 rfl h.1 d_Model_about_98 ?_
        replace h := h.2
        exact ze_iret C (mo_lowUp_4, mo_lowDown_5, mo_highUp_6, mo_highDown_7) hr hlk rfl d_Model_about_99 h
      · replace h := h.2.2.2.2.1 c_9
        refine z_swIn C (tgt := 100) d_Model_about_30 (by rw [c_9]; decide) (by rw [c_9]; decide) (by rw [c_9]; rfl) (by decide) ?_
        refine z_iload C d_Model_about_100 4 rfl ?_
        exact ze_iret C (mo_lowUp_4, mo_lowDown_5, mo_highUp_6, mo_highDown_7) hr hlk rfl d_Model_about_101 h
      · replace h := h.2.2.2.2.2.1 c_9
        refine z_swIn C (tgt := 102) d_Model_about_30 (by rw [c_9]; decide) (by rw [c_9]; decide) (by rw [c_9]; rfl) (by decide) ?_
        refine z_aload C d_Model_about_102 1 rfl ?_
        refine z_iload C d_Model_about_103 2 rfl ?_
        refine z_k C d_Model_about_104 ?_
        refine z_iload C d_Model_about_105 0 rfl ?_
        refine z_k C d_Model_about_107 ?_
        refine z_vpi C (rest := []) (c_Model_placeOf l D κ h_mo h_mo_bars h_mo_seams h_mo_rowSeam h_mo_rowWay h_mo_quarters h_mo_begins h_mo_ends h_mo_rests h_mo_bestRow h_mo_lows h_mo_highs h_mo_acts h_mo_actMany h_mo_done h_mo_left h_mo_waited h_mo_ran h_mo_reached mo_middleX mo_middleY mo_linkA mo_linkB mo_flatness mo_gap mo_turn mo_travel mo_lift mo_cool mo_homeX mo_homeY mo_barMany mo_seamMany mo_rowMany mo_lowUp_4 mo_lowDown_5 mo_highUp_6 mo_highDown_7 mo_touchMany mo_shiftX mo_shiftY mo_hasRun mo_seams p0 (0 : Int32) w_8 (0 : Int32) _ h) cv_Model_180 ⟨rfl, rfl⟩ ⟨⟨Nat.le_of_ble_eq_true rfl, Nat.le_of_ble_eq_true rfl⟩, Nat.le_of_ble_eq_true rfl, Nat.le_of_ble_eq_true rfl⟩ 0 rfl [0, 2] rfl rfl rfl (Nat.le_of_ble_eq_true rfl) d_Model_about_108 (fun r_12 h => ?_)
        exact ze_iret C (mo_lowUp_4, mo_lowDown_5, mo_highUp_6, mo_highDown_7) hr hlk rfl d_Model_about_111 h
      · replace h := h.2.2.2.2.2.2.1 c_9
        refine z_swIn C (tgt := 112) d_Model_about_30 (by rw [c_9]; decide) (by rw [c_9]; decide) (by rw [c_9]; rfl) (by decide) ?_
        refine z_aload C d_Model_about_112 1 rfl ?_
        refine z_iload C d_Model_about_113 2 rfl ?_
        refine z_k C d_Model_about_114 ?_
        refine z_iload C d_Model_about_115 0 rfl ?_
        refine z_k C d_Model_about_117 ?_
        refine z_vpi C (rest := []) (c_Model_placeOf l D κ h_mo h_mo_bars h_mo_seams h_mo_rowSeam h_mo_rowWay h_mo_quarters h_mo_begins h_mo_ends h_mo_rests h_mo_bestRow h_mo_lows h_mo_highs h_mo_acts h_mo_actMany h_mo_done h_mo_left h_mo_waited h_mo_ran h_mo_reached mo_middleX mo_middleY mo_linkA mo_linkB mo_flatness mo_gap mo_turn mo_travel mo_lift mo_cool mo_homeX mo_homeY mo_barMany mo_seamMany mo_rowMany mo_lowUp_4 mo_lowDown_5 mo_highUp_6 mo_highDown_7 mo_touchMany mo_shiftX mo_shiftY mo_hasRun mo_seams p0 (0 : Int32) w_8 (1 : Int32) _ h) cv_Model_180 ⟨rfl, rfl⟩ ⟨⟨Nat.le_of_ble_eq_true rfl, Nat.le_of_ble_eq_true rfl⟩, Nat.le_of_ble_eq_true rfl, Nat.le_of_ble_eq_true rfl⟩ 0 rfl [0, 2] rfl rfl rfl (Nat.le_of_ble_eq_true rfl) d_Model_about_118 (fun r_13 h => ?_)
        exact ze_iret C (mo_lowUp_4, mo_lowDown_5, mo_highUp_6, mo_highDown_7) hr hlk rfl d_Model_about_121 h
      · replace h := h.2.2.2.2.2.2.2.1 c_9
        refine z_swIn C (tgt := 122) d_Model_about_30 (by rw [c_9]; decide) (by rw [c_9]; decide) (by rw [c_9]; rfl) (by decide) ?_
        refine z_aload C d_Model_about_122 1 rfl ?_
        refine z_iload C d_Model_about_123 2 rfl ?_
        refine z_k C d_Model_about_124 ?_
        refine z_iload C d_Model_about_125 0 rfl ?_
        refine z_k C d_Model_about_127 ?_
        refine z_vpi C (rest := []) (c_Model_placeOf l D κ h_mo h_mo_bars h_mo_seams h_mo_rowSeam h_mo_rowWay h_mo_quarters h_mo_begins h_mo_ends h_mo_rests h_mo_bestRow h_mo_lows h_mo_highs h_mo_acts h_mo_actMany h_mo_done h_mo_left h_mo_waited h_mo_ran h_mo_reached mo_middleX mo_middleY mo_linkA mo_linkB mo_flatness mo_gap mo_turn mo_travel mo_lift mo_cool mo_homeX mo_homeY mo_barMany mo_seamMany mo_rowMany mo_lowUp_4 mo_lowDown_5 mo_highUp_6 mo_highDown_7 mo_touchMany mo_shiftX mo_shiftY mo_hasRun mo_seams p0 (1 : Int32) w_8 (0 : Int32) _ h) cv_Model_180 ⟨rfl, rfl⟩ ⟨⟨Nat.le_of_ble_eq_true rfl, Nat.le_of_ble_eq_true rfl⟩, Nat.le_of_ble_eq_true rfl, Nat.le_of_ble_eq_true rfl⟩ 0 rfl [0, 2] rfl rfl rfl (Nat.le_of_ble_eq_true rfl) d_Model_about_128 (fun r_14 h => ?_)
        exact ze_iret C (mo_lowUp_4, mo_lowDown_5, mo_highUp_6, mo_highDown_7) hr hlk rfl d_Model_about_131 h
      · replace h := h.2.2.2.2.2.2.2.2 c_9
        refine z_swIn C (tgt := 132) d_Model_about_30 (by rw [c_9]; decide) (by rw [c_9]; decide) (by rw [c_9]; rfl) (by decide) ?_
        refine z_aload C d_Model_about_132 1 rfl ?_
        refine z_iload C d_Model_about_133 2 rfl ?_
        refine z_k C d_Model_about_134 ?_
        refine z_iload C d_Model_about_135 0 rfl ?_
        refine z_k C d_Model_about_137 ?_
        refine z_vpi C (rest := []) (c_Model_placeOf l D κ h_mo h_mo_bars h_mo_seams h_mo_rowSeam h_mo_rowWay h_mo_quarters h_mo_begins h_mo_ends h_mo_rests h_mo_bestRow h_mo_lows h_mo_highs h_mo_acts h_mo_actMany h_mo_done h_mo_left h_mo_waited h_mo_ran h_mo_reached mo_middleX mo_middleY mo_linkA mo_linkB mo_flatness mo_gap mo_turn mo_travel mo_lift mo_cool mo_homeX mo_homeY mo_barMany mo_seamMany mo_rowMany mo_lowUp_4 mo_lowDown_5 mo_highUp_6 mo_highDown_7 mo_touchMany mo_shiftX mo_shiftY mo_hasRun mo_seams p0 (1 : Int32) w_8 (1 : Int32) _ h) cv_Model_180 ⟨rfl, rfl⟩ ⟨⟨Nat.le_of_ble_eq_true rfl, Nat.le_of_ble_eq_true rfl⟩, Nat.le_of_ble_eq_true rfl, Nat.le_of_ble_eq_true rfl⟩ 0 rfl [0, 2] rfl rfl rfl (Nat.le_of_ble_eq_true rfl) d_Model_about_138 (fun r_15 h => ?_)
        exact ze_iret C (mo_lowUp_4, mo_lowDown_5, mo_highUp_6, mo_highDown_7) hr hlk rfl d_Model_about_141 h
    refine z_if_ge C d_Model_about_19 (fun c_16 => ?_) (fun c_16 => ?_)
    · replace h := h.1 c_16
      refine z_iload C d_Model_about_26 0 rfl ?_
      refine z_sub [1, 2, 3, 0] [(0, .ref h_mo), (1, .int p0), (2, .int p1), (3, .int r_3)] rfl ?_
      exact J_27 r_3 h
    · replace h := h.2 c_16
      refine z_k C d_Model_about_22 ?_
      refine z_goto C d_Model_about_23 ?_
      refine z_sub [1, 2, 3, 0] [(0, .ref h_mo), (1, .int p0), (2, .int p1), (3, .int r_3)] rfl ?_
      exact J_27 (0 : Int32) h
  · replace h := h.2 c_2
    refine z_k C d_Model_about_8 ?_
    exact ze_iret C (mo_lowUp, mo_lowDown, mo_highUp, mo_highDown) hr hlk rfl d_Model_about_11 h
def wp_Model_lacks (mo_middleX : Int32) (mo_middleY : Int32) (mo_linkA : Int32) (mo_linkB : Int32) (mo_flatness : Int32) (mo_barMany : Int32) (mo_seamMany : Int32) (mo_lowUp : Int64) (mo_lowDown : Int64) (mo_highUp : Int64) (mo_highDown : Int64) (mo_shiftX : Int32) (mo_shiftY : Int32) (mo_bars : Nat → Int32) (mo_seams : Nat → Int32) (p0 : Int32) (p1 : Int32) (post : Int32 → Int64 → Int64 → Int64 → Int64 → Prop) : Prop :=
  (wp_Model_isSeam mo_seamMany p0 (fun r_1 => ((¬ r_1 = 0 → (wp_Model_in p1.toInt64 (0 : Int64) (3 : Int64) (fun r_3 => ((r_3 = 0 → (post (-2 : Int32) mo_lowUp mo_lowDown mo_highUp mo_highDown)) ∧ (¬ r_3 = 0 → (wp_Model_lacking mo_middleX mo_middleY mo_linkA mo_linkB mo_flatness mo_barMany mo_lowUp mo_lowDown mo_highUp mo_highDown mo_shiftX mo_shiftY mo_bars mo_seams p0 p1 (fun r_5 mo_lowUp_6 mo_lowDown_7 mo_highUp_8 mo_highDown_9 => (post r_5 mo_lowUp_6 mo_lowDown_7 mo_highUp_8 mo_highDown_9)))))))) ∧ (r_1 = 0 → (post (-1 : Int32) mo_lowUp mo_lowDown mo_highUp mo_highDown)))))
abbrev rm_Model_lacks : Room := { frames := 4, cells := 0, slots := 0, locals := 108 }
set_option maxHeartbeats 4000000 in
set_option maxRecDepth 100000 in
theorem c_Model_lacks (l : Launch) (D : va_G) (κ : KT) (h_mo : Nat) (h_mo_bars : Nat) (h_mo_seams : Nat) (h_mo_rowSeam : Nat) (h_mo_rowWay : Nat) (h_mo_quarters : Nat) (h_mo_begins : Nat) (h_mo_ends : Nat) (h_mo_rests : Nat) (h_mo_bestRow : Nat) (h_mo_lows : Nat) (h_mo_highs : Nat) (h_mo_acts : Nat) (h_mo_actMany : Nat) (h_mo_done : Nat) (h_mo_left : Nat) (h_mo_waited : Nat) (h_mo_ran : Nat) (h_mo_reached : Nat) (mo_middleX : Int32) (mo_middleY : Int32) (mo_linkA : Int32) (mo_linkB : Int32) (mo_flatness : Int32) (mo_gap : Int32) (mo_turn : Int32) (mo_travel : Int32) (mo_lift : Int32) (mo_cool : Int32) (mo_homeX : Int32) (mo_homeY : Int32) (mo_barMany : Int32) (mo_seamMany : Int32) (mo_rowMany : Int32) (mo_lowUp : Int64) (mo_lowDown : Int64) (mo_highUp : Int64) (mo_highDown : Int64) (mo_touchMany : Int32) (mo_shiftX : Int32) (mo_shiftY : Int32) (mo_hasRun : Int32) (mo_bars : Nat → Int32) (mo_seams : Nat → Int32) (p0 : Int32) (p1 : Int32) (sz : Nat) (post : Int32 → Int64 → Int64 → Int64 → Int64 → Prop) (h : wp_Model_lacks mo_middleX mo_middleY mo_linkA mo_linkB mo_flatness mo_barMany mo_seamMany mo_lowUp mo_lowDown mo_highUp mo_highDown mo_shiftX mo_shiftY mo_bars mo_seams p0 p1 post) : Met l y_Model_lacks (wsG y_Model_lacks b_Model_lacks 3 (some .int)) rm_Model_lacks (PE D κ [.ref h_mo, .int p0, .int p1] [(h_mo, .inr (10, [.int mo_middleX, .int mo_middleY, .int mo_linkA, .int mo_linkB, .int mo_flatness, .int mo_gap, .int mo_turn, .int mo_travel, .int mo_lift, .int mo_cool, .int mo_homeX, .int mo_homeY, .ref h_mo_bars, .int mo_barMany, .ref h_mo_seams, .int mo_seamMany, .ref h_mo_rowSeam, .ref h_mo_rowWay, .int mo_rowMany, .long mo_lowUp, .long mo_lowDown, .long mo_highUp, .long mo_highDown, .ref h_mo_quarters, .ref h_mo_begins, .ref h_mo_ends, .ref h_mo_rests, .ref h_mo_bestRow, .ref h_mo_lows, .ref h_mo_highs, .int mo_touchMany, .int mo_shiftX, .int mo_shiftY, .ref h_mo_acts, .ref h_mo_actMany, .ref h_mo_done, .ref h_mo_left, .ref h_mo_waited, .ref h_mo_ran, .int mo_hasRun, .ref h_mo_reached])), (h_mo_bars, cI κ 16 mo_bars), (h_mo_seams, cI κ 48 mo_seams)] sz) (va_Qi (fun (r : Int32) (u : (Int64) × (Int64) × (Int64) × (Int64)) => post r u.1 u.2.1 u.2.2.1 u.2.2.2) (QB D [(h_mo, .inr (10, [.int mo_middleX, .int mo_middleY, .int mo_linkA, .int mo_linkB, .int mo_flatness, .int mo_gap, .int mo_turn, .int mo_travel, .int mo_lift, .int mo_cool, .int mo_homeX, .int mo_homeY, .ref h_mo_bars, .int mo_barMany, .ref h_mo_seams, .int mo_seamMany, .ref h_mo_rowSeam, .ref h_mo_rowWay, .int mo_rowMany, .long mo_lowUp, .long mo_lowDown, .long mo_highUp, .long mo_highDown, .ref h_mo_quarters, .ref h_mo_begins, .ref h_mo_ends, .ref h_mo_rests, .ref h_mo_bestRow, .ref h_mo_lows, .ref h_mo_highs, .int mo_touchMany, .int mo_shiftX, .int mo_shiftY, .ref h_mo_acts, .ref h_mo_actMany, .ref h_mo_done, .ref h_mo_left, .ref h_mo_waited, .ref h_mo_ran, .int mo_hasRun, .ref h_mo_reached])), (h_mo_bars, cI κ 16 mo_bars), (h_mo_seams, cI κ 48 mo_seams)] sz (fun (u : (Int64) × (Int64) × (Int64) × (Int64)) => [(h_mo, .inr (10, [.int mo_middleX, .int mo_middleY, .int mo_linkA, .int mo_linkB, .int mo_flatness, .int mo_gap, .int mo_turn, .int mo_travel, .int mo_lift, .int mo_cool, .int mo_homeX, .int mo_homeY, .ref h_mo_bars, .int mo_barMany, .ref h_mo_seams, .int mo_seamMany, .ref h_mo_rowSeam, .ref h_mo_rowWay, .int mo_rowMany, .long u.1, .long u.2.1, .long u.2.2.1, .long u.2.2.2, .ref h_mo_quarters, .ref h_mo_begins, .ref h_mo_ends, .ref h_mo_rests, .ref h_mo_bestRow, .ref h_mo_lows, .ref h_mo_highs, .int mo_touchMany, .int mo_shiftX, .int mo_shiftY, .ref h_mo_acts, .ref h_mo_actMany, .ref h_mo_done, .ref h_mo_left, .ref h_mo_waited, .ref h_mo_ran, .int mo_hasRun, .ref h_mo_reached])), (h_mo_bars, cI κ 16 mo_bars), (h_mo_seams, cI κ 48 mo_seams)])) (va_A [(h_mo, .inr (10, [.int mo_middleX, .int mo_middleY, .int mo_linkA, .int mo_linkB, .int mo_flatness, .int mo_gap, .int mo_turn, .int mo_travel, .int mo_lift, .int mo_cool, .int mo_homeX, .int mo_homeY, .ref h_mo_bars, .int mo_barMany, .ref h_mo_seams, .int mo_seamMany, .ref h_mo_rowSeam, .ref h_mo_rowWay, .int mo_rowMany, .long mo_lowUp, .long mo_lowDown, .long mo_highUp, .long mo_highDown, .ref h_mo_quarters, .ref h_mo_begins, .ref h_mo_ends, .ref h_mo_rests, .ref h_mo_bestRow, .ref h_mo_lows, .ref h_mo_highs, .int mo_touchMany, .int mo_shiftX, .int mo_shiftY, .ref h_mo_acts, .ref h_mo_actMany, .ref h_mo_done, .ref h_mo_left, .ref h_mo_waited, .ref h_mo_ran, .int mo_hasRun, .ref h_mo_reached])), (h_mo_bars, cI κ 16 mo_bars), (h_mo_seams, cI κ 48 mo_seams)] sz)) 0 0 (va_A [(h_mo, .inr (10, [.int mo_middleX, .int mo_middleY, .int mo_linkA, .int mo_linkB, .int mo_flatness, .int mo_gap, .int mo_turn, .int mo_travel, .int mo_lift, .int mo_cool, .int mo_homeX, .int mo_homeY, .ref h_mo_bars, .int mo_barMany, .ref h_mo_seams, .int mo_seamMany, .ref h_mo_rowSeam, .ref h_mo_rowWay, .int mo_rowMany, .long mo_lowUp, .long mo_lowDown, .long mo_highUp, .long mo_highDown, .ref h_mo_quarters, .ref h_mo_begins, .ref h_mo_ends, .ref h_mo_rests, .ref h_mo_bestRow, .ref h_mo_lows, .ref h_mo_highs, .int mo_touchMany, .int mo_shiftX, .int mo_shiftY, .ref h_mo_acts, .ref h_mo_actMany, .ref h_mo_done, .ref h_mo_left, .ref h_mo_waited, .ref h_mo_ran, .int mo_hasRun, .ref h_mo_reached])), (h_mo_bars, cI κ 16 mo_bars), (h_mo_seams, cI κ 48 mo_seams)] sz) := by
  refine ze_start [(0, .ref h_mo), (1, .int p0), (2, .int p1)] rfl (Nat.le_of_ble_eq_true rfl) rfl ?_
  intro p e s m args below meth c C hr hlk hnm hsz
  subst hsz
  unfold wp_Model_lacks at h
  refine z_aload C d_Model_lacks_0 0 rfl ?_
  refine z_iload C d_Model_lacks_1 1 rfl ?_
  refine z_vpi C (rest := []) (c_Model_isSeam l D κ h_mo h_mo_bars h_mo_seams h_mo_rowSeam h_mo_rowWay h_mo_quarters h_mo_begins h_mo_ends h_mo_rests h_mo_bestRow h_mo_lows h_mo_highs h_mo_acts h_mo_actMany h_mo_done h_mo_left h_mo_waited h_mo_ran h_mo_reached mo_middleX mo_middleY mo_linkA mo_linkB mo_flatness mo_gap mo_turn mo_travel mo_lift mo_cool mo_homeX mo_homeY mo_barMany mo_seamMany mo_rowMany mo_lowUp mo_lowDown mo_highUp mo_highDown mo_touchMany mo_shiftX mo_shiftY mo_hasRun p0 _ h) cv_Model_204 ⟨rfl, rfl⟩ ⟨⟨Nat.le_of_ble_eq_true rfl, Nat.le_of_ble_eq_true rfl⟩, Nat.le_of_ble_eq_true rfl, Nat.le_of_ble_eq_true rfl⟩ 0 rfl [0] rfl rfl rfl (Nat.le_of_ble_eq_true rfl) d_Model_lacks_2 (fun r_1 h => ?_)
  refine z_if_ne C d_Model_lacks_5 (fun c_2 => ?_) (fun c_2 => ?_)
  · replace h := h.1 c_2
    refine z_iload C d_Model_lacks_10 2 rfl ?_
    refine z_i2l C d_Model_lacks_11 ?_
    refine z_lk C d_Model_lacks_12 ?_
    refine z_ldc2 C d_Model_lacks_13 wk_Model_214 ?_
    refine z_spi C (rest := []) (c_Model_in l D κ p1.toInt64 (0 : Int64) (3 : Int64) _ h) cs_Model_100 ⟨rfl, rfl⟩ ⟨⟨Nat.le_of_ble_eq_true rfl, Nat.le_of_ble_eq_true rfl⟩, Nat.le_of_ble_eq_true rfl, Nat.le_of_ble_eq_true rfl⟩ [] rfl rfl rfl (Nat.le_of_ble_eq_true rfl) d_Model_lacks_16 (fun r_3 h => ?_)
    refine z_if_eq C d_Model_lacks_19 (fun c_4 => ?_) (fun c_4 => ?_)
    · replace h := h.1 c_4
      refine z_k C d_Model_lacks_31 ?_
      exact ze_iret C (mo_lowUp, mo_lowDown, mo_highUp, mo_highDown) hr hlk rfl d_Model_lacks_33 h
    · replace h := h.2 c_4
      refine z_aload C d_Model_lacks_22 0 rfl ?_
      refine z_iload C d_Model_lacks_23 1 rfl ?_
      refine z_iload C d_Model_lacks_24 2 rfl ?_
      refine z_vei C (rest := []) (wr := []) (fun sz => c_Model_lacking l D κ h_mo h_mo_bars h_mo_seams h_mo_rowSeam h_mo_rowWay h_mo_quarters h_mo_begins h_mo_ends h_mo_rests h_mo_bestRow h_mo_lows h_mo_highs h_mo_acts h_mo_actMany h_mo_done h_mo_left h_mo_waited h_mo_ran h_mo_reached mo_middleX mo_middleY mo_linkA mo_linkB mo_flatness mo_gap mo_turn mo_travel mo_lift mo_cool mo_homeX mo_homeY mo_barMany mo_seamMany mo_rowMany mo_lowUp mo_lowDown mo_highUp mo_highDown mo_touchMany mo_shiftX mo_shiftY mo_hasRun mo_bars mo_seams p0 p1 sz _ h) cv_Model_194 ⟨rfl, rfl⟩ ⟨⟨Nat.le_of_ble_eq_true rfl, Nat.le_of_ble_eq_true rfl⟩, Nat.le_of_ble_eq_true rfl, Nat.le_of_ble_eq_true rfl⟩ 0 rfl [0, 1, 2] [] rfl rfl rfl (fun u => [(h_mo, .inr (10, [.int mo_middleX, .int mo_middleY, .int mo_linkA, .int mo_linkB, .int mo_flatness, .int mo_gap, .int mo_turn, .int mo_travel, .int mo_lift, .int mo_cool, .int mo_homeX, .int mo_homeY, .ref h_mo_bars, .int mo_barMany, .ref h_mo_seams, .int mo_seamMany, .ref h_mo_rowSeam, .ref h_mo_rowWay, .int mo_rowMany, .long u.1, .long u.2.1, .long u.2.2.1, .long u.2.2.2, .ref h_mo_quarters, .ref h_mo_begins, .ref h_mo_ends, .ref h_mo_rests, .ref h_mo_bestRow, .ref h_mo_lows, .ref h_mo_highs, .int mo_touchMany, .int mo_shiftX, .int mo_shiftY, .ref h_mo_acts, .ref h_mo_actMany, .ref h_mo_done, .ref h_mo_left, .ref h_mo_waited, .ref h_mo_ran, .int mo_hasRun, .ref h_mo_reached])), (h_mo_bars, cI κ 16 mo_bars), (h_mo_seams, cI κ 48 mo_seams)]) [0, 1, 2] rfl (fun _ => rfl) rfl rfl (Nat.le_of_ble_eq_true rfl) d_Model_lacks_25 (fun r_5 u_9 h => ?_)
      obtain ⟨mo_lowUp_6, mo_lowDown_7, mo_highUp_8, mo_highDown_9⟩ := u_9
      (try dsimp only at h); (try dsimp only)
      refine z_goto C d_Model_lacks_28 ?_
      exact ze_iret C (mo_lowUp_6, mo_lowDown_7, mo_highUp_8, mo_highDown_9) hr hlk rfl d_Model_lacks_33 h
  · replace h := h.2 c_2
    refine z_k C d_Model_lacks_8 ?_
    exact ze_iret C (mo_lowUp, mo_lowDown, mo_highUp, mo_highDown) hr hlk rfl d_Model_lacks_9 h
def wpB_Model_areNear_14 (mo_gap : Int32) (mo_seams : Nat → Int32) (p0 : Int32) (p1 : Int32) (x4_2 : Int32) (ih_5 : Int32 → Int32 → Prop) (ih_14 : Int32 → Int32 → Prop) (x3_4 : Int32) (x5_5 : Int32) : Prop :=
  (((2 : Int32) ≤ x5_5 → (∀ x4_7 : Int32, x4_7 = x4_2 + (1 : Int32) → (ih_5 x3_4 x4_7))) ∧ (¬ (2 : Int32) ≤ x5_5 → (vp_in (((6 : Int32) * p0) + ((2 : Int32) * x4_2)) 48 ∧ (vp_in (((6 : Int32) * p1) + ((2 : Int32) * x5_5)) 48 ∧ (∀ x6_8 : Int32, x6_8 = (mo_seams ((((6 : Int32) * p0) + ((2 : Int32) * x4_2)).toNatClampNeg)) - (mo_seams ((((6 : Int32) * p1) + ((2 : Int32) * x5_5)).toNatClampNeg)) → (vp_in ((((6 : Int32) * p0) + ((2 : Int32) * x4_2)) + (1 : Int32)) 48 ∧ (vp_in ((((6 : Int32) * p1) + ((2 : Int32) * x5_5)) + (1 : Int32)) 48 ∧ (∀ x7_9 : Int32, x7_9 = (mo_seams (((((6 : Int32) * p0) + ((2 : Int32) * x4_2)) + (1 : Int32)).toNatClampNeg)) - (mo_seams (((((6 : Int32) * p1) + ((2 : Int32) * x5_5)) + (1 : Int32)).toNatClampNeg)) → ((¬ x3_4 = 0 → (∀ x5_11 : Int32, x5_11 = x5_5 + (1 : Int32) → (ih_14 (1 : Int32) x5_11))) ∧ (x3_4 = 0 → (wp_Model_square x6_8.toInt64 x7_9.toInt64 (fun r_12 => ((0 < (lg_cmp r_12 ((mo_gap * mo_gap).toInt64)) → (∀ x5_14 : Int32, x5_14 = x5_5 + (1 : Int32) → (ih_14 (0 : Int32) x5_14))) ∧ (¬ 0 < (lg_cmp r_12 ((mo_gap * mo_gap).toInt64)) → (∀ x5_15 : Int32, x5_15 = x5_5 + (1 : Int32) → (ih_14 (1 : Int32) x5_15))))))))))))))))
noncomputable def wpL_Model_areNear_14 (mo_gap : Int32) (mo_seams : Nat → Int32) (p0 : Int32) (p1 : Int32) (x4_2 : Int32) (ih_5 : Int32 → Int32 → Prop) : Nat → Int32 → Int32 → Prop := fun n => @Nat.rec (fun _ => Int32 → Int32 → Prop) (fun _ _ => False) (fun _ ih_14 => wpB_Model_areNear_14 mo_gap mo_seams p0 p1 x4_2 ih_5 ih_14) n
def wpB_Model_areNear_5 (mo_gap : Int32) (mo_seams : Nat → Int32) (p0 : Int32) (p1 : Int32) (post : Int32 → Prop) (ih_5 : Int32 → Int32 → Prop) (x3_1 : Int32) (x4_2 : Int32) : Prop :=
  (((2 : Int32) ≤ x4_2 → ((x3_1 = 0 ∨ x3_1 = 1) ∧ (post x3_1))) ∧ (¬ (2 : Int32) ≤ x4_2 → (∃ n : Nat, wpL_Model_areNear_14 mo_gap mo_seams p0 p1 x4_2 ih_5 n x3_1 (0 : Int32))))
noncomputable def wpL_Model_areNear_5 (mo_gap : Int32) (mo_seams : Nat → Int32) (p0 : Int32) (p1 : Int32) (post : Int32 → Prop) : Nat → Int32 → Int32 → Prop := fun n => @Nat.rec (fun _ => Int32 → Int32 → Prop) (fun _ _ => False) (fun _ ih_5 => wpB_Model_areNear_5 mo_gap mo_seams p0 p1 post ih_5) n
def wp_Model_areNear (mo_gap : Int32) (mo_seams : Nat → Int32) (p0 : Int32) (p1 : Int32) (post : Int32 → Prop) : Prop :=
  (∃ n : Nat, wpL_Model_areNear_5 mo_gap mo_seams p0 p1 post n (0 : Int32) (0 : Int32))
abbrev rm_Model_areNear : Room := { frames := 1, cells := 0, slots := 0, locals := 23 }
set_option maxHeartbeats 4000000 in
set_option maxRecDepth 100000 in
theorem c_Model_areNear (l : Launch) (D : va_G) (κ : KT) (h_mo : Nat) (h_mo_bars : Nat) (h_mo_seams : Nat) (h_mo_rowSeam : Nat) (h_mo_rowWay : Nat) (h_mo_quarters : Nat) (h_mo_begins : Nat) (h_mo_ends : Nat) (h_mo_rests : Nat) (h_mo_bestRow : Nat) (h_mo_lows : Nat) (h_mo_highs : Nat) (h_mo_acts : Nat) (h_mo_actMany : Nat) (h_mo_done : Nat) (h_mo_left : Nat) (h_mo_waited : Nat) (h_mo_ran : Nat) (h_mo_reached : Nat) (mo_middleX : Int32) (mo_middleY : Int32) (mo_linkA : Int32) (mo_linkB : Int32) (mo_flatness : Int32) (mo_gap : Int32) (mo_turn : Int32) (mo_travel : Int32) (mo_lift : Int32) (mo_cool : Int32) (mo_homeX : Int32) (mo_homeY : Int32) (mo_barMany : Int32) (mo_seamMany : Int32) (mo_rowMany : Int32) (mo_lowUp : Int64) (mo_lowDown : Int64) (mo_highUp : Int64) (mo_highDown : Int64) (mo_touchMany : Int32) (mo_shiftX : Int32) (mo_shiftY : Int32) (mo_hasRun : Int32) (mo_seams : Nat → Int32) (p0 : Int32) (p1 : Int32) (post : Int32 → Prop) (h : wp_Model_areNear mo_gap mo_seams p0 p1 post) : Met l y_Model_areNear (wsG y_Model_areNear b_Model_areNear 8 (some .boolean)) rm_Model_areNear (PP D κ [.ref h_mo, .int p0, .int p1] [(h_mo, .inr (10, [.int mo_middleX, .int mo_middleY, .int mo_linkA, .int mo_linkB, .int mo_flatness, .int mo_gap, .int mo_turn, .int mo_travel, .int mo_lift, .int mo_cool, .int mo_homeX, .int mo_homeY, .ref h_mo_bars, .int mo_barMany, .ref h_mo_seams, .int mo_seamMany, .ref h_mo_rowSeam, .ref h_mo_rowWay, .int mo_rowMany, .long mo_lowUp, .long mo_lowDown, .long mo_highUp, .long mo_highDown, .ref h_mo_quarters, .ref h_mo_begins, .ref h_mo_ends, .ref h_mo_rests, .ref h_mo_bestRow, .ref h_mo_lows, .ref h_mo_highs, .int mo_touchMany, .int mo_shiftX, .int mo_shiftY, .ref h_mo_acts, .ref h_mo_actMany, .ref h_mo_done, .ref h_mo_left, .ref h_mo_waited, .ref h_mo_ran, .int mo_hasRun, .ref h_mo_reached])), (h_mo_seams, cI κ 48 mo_seams)]) (vp_Si post) 0 0 (fun _ => False) := by
  refine zp_start [(0, .ref h_mo), (1, .int p0), (2, .int p1)] rfl (Nat.le_of_ble_eq_true rfl) rfl ?_
  intro p e s m args below meth c C hr hlk
  unfold wp_Model_areNear at h
  refine z_k C d_Model_areNear_0 ?_
  refine z_istore C [(3, .int (0 : Int32)), (0, .ref h_mo), (1, .int p0), (2, .int p1)] d_Model_areNear_1 rfl rfl ?_
  refine z_k C d_Model_areNear_2 ?_
  refine z_istore C [(4, .int (0 : Int32)), (3, .int (0 : Int32)), (0, .ref h_mo), (1, .int p0), (2, .int p1)] d_Model_areNear_3 rfl rfl ?_
  obtain ⟨n_5, h⟩ := h
  have LP_5 : ∀ (n : Nat) (x3_1 : Int32) (x4_2 : Int32), wpL_Model_areNear_5 mo_gap mo_seams p0 p1 post n x3_1 x4_2 → Zw p l e rm_Model_areNear s m args below meth c 0 0 (MQ below (vp_Si post) args s 0 0 (fun _ => False)) D 8 none [(h_mo, .inr (10, [.int mo_middleX, .int mo_middleY, .int mo_linkA, .int mo_linkB, .int mo_flatness, .int mo_gap, .int mo_turn, .int mo_travel, .int mo_lift, .int mo_cool, .int mo_homeX, .int mo_homeY, .ref h_mo_bars, .int mo_barMany, .ref h_mo_seams, .int mo_seamMany, .ref h_mo_rowSeam, .ref h_mo_rowWay, .int mo_rowMany, .long mo_lowUp, .long mo_lowDown, .long mo_highUp, .long mo_highDown, .ref h_mo_quarters, .ref h_mo_begins, .ref h_mo_ends, .ref h_mo_rests, .ref h_mo_bestRow, .ref h_mo_lows, .ref h_mo_highs, .int mo_touchMany, .int mo_shiftX, .int mo_shiftY, .ref h_mo_acts, .ref h_mo_actMany, .ref h_mo_done, .ref h_mo_left, .ref h_mo_waited, .ref h_mo_ran, .int mo_hasRun, .ref h_mo_reached])), (h_mo_seams, cI κ 48 mo_seams)] [(0, .ref h_mo), (1, .int p0), (2, .int p1), (3, .int x3_1), (4, .int x4_2)] 5 [] := by
    intro n
    induction n with
    | zero => intro x3_1 x4_2 h; exact False.elim h
    | succ nn_5 IH_5 =>
      intro x3_1 x4_2 h
      have h : wpB_Model_areNear_5 mo_gap mo_seams p0 p1 post (wpL_Model_areNear_5 mo_gap mo_seams p0 p1 post nn_5) x3_1 x4_2 := h
      unfold wpB_Model_areNear_5 at h
      refine z_iload C d_Model_areNear_5 4 rfl ?_
      refine z_k C d_Model_areNear_7 ?_
      refine z_icmp_ge C d_Model_areNear_8 (fun c_3 => ?_) (fun c_3 => ?_)
      · replace h := h.1 c_3
        refine z_iload C d_Model_areNear_131 3 rfl ?_
        exact zp_zret C hr hlk h.1 d_Model_areNear_132 h.2
      · replace h := h.2 c_3
        refine z_k C d_Model_areNear_11 ?_
        refine z_istore C [(5, .int (0 : Int32)), (0, .ref h_mo), (1, .int p0), (2, .int p1), (3, .int x3_1), (4, .int x4_2)] d_Model_areNear_12 rfl rfl ?_
        obtain ⟨n_14, h⟩ := h
        have LP_14 : ∀ (n : Nat) (x3_4 : Int32) (x5_5 : Int32), wpL_Model_areNear_14 mo_gap mo_seams p0 p1 x4_2 (wpL_Model_areNear_5 mo_gap mo_seams p0 p1 post nn_5) n x3_4 x5_5 → Zw p l e rm_Model_areNear s m args below meth c 0 0 (MQ below (vp_Si post) args s 0 0 (fun _ => False)) D 8 none [(h_mo, .inr (10, [.int mo_middleX, .int mo_middleY, .int mo_linkA, .int mo_linkB, .int mo_flatness, .int mo_gap, .int mo_turn, .int mo_travel, .int mo_lift, .int mo_cool, .int mo_homeX, .int mo_homeY, .ref h_mo_bars, .int mo_barMany, .ref h_mo_seams, .int mo_seamMany, .ref h_mo_rowSeam, .ref h_mo_rowWay, .int mo_rowMany, .long mo_lowUp, .long mo_lowDown, .long mo_highUp, .long mo_highDown, .ref h_mo_quarters, .ref h_mo_begins, .ref h_mo_ends, .ref h_mo_rests, .ref h_mo_bestRow, .ref h_mo_lows, .ref h_mo_highs, .int mo_touchMany, .int mo_shiftX, .int mo_shiftY, .ref h_mo_acts, .ref h_mo_actMany, .ref h_mo_done, .ref h_mo_left, .ref h_mo_waited, .ref h_mo_ran, .int mo_hasRun, .ref h_mo_reached])), (h_mo_seams, cI κ 48 mo_seams)] [(0, .ref h_mo), (1, .int p0), (2, .int p1), (3, .int x3_4), (4, .int x4_2), (5, .int x5_5)] 14 [] := by
          intro n
          induction n with
          | zero => intro x3_4 x5_5 h; exact False.elim h
          | succ nn_14 IH_14 =>
            intro x3_4 x5_5 h
            have h : wpB_Model_areNear_14 mo_gap mo_seams p0 p1 x4_2 (wpL_Model_areNear_5 mo_gap mo_seams p0 p1 post nn_5) (wpL_Model_areNear_14 mo_gap mo_seams p0 p1 x4_2 (wpL_Model_areNear_5 mo_gap mo_seams p0 p1 post nn_5) nn_14) x3_4 x5_5 := h
            unfold wpB_Model_areNear_14 at h
            refine z_iload C d_Model_areNear_14 5 rfl ?_
            refine z_k C d_Model_areNear_16 ?_
            refine z_icmp_ge C d_Model_areNear_17 (fun c_6 => ?_) (fun c_6 => ?_)
            · replace h := h.1 c_6
              obtain ⟨x4_7, ex4_7⟩ : ∃ y : Int32, y = x4_2 + (1 : Int32) := ⟨_, rfl⟩
              replace h := h x4_7 ex4_7
              refine z_iinc C [(4, .int x4_7), (0, .ref h_mo), (1, .int p0), (2, .int p1), (3, .int x3_4), (5, .int x5_5)] d_Model_areNear_125 (j := 4) rfl (by rw [ex4_7]; rfl) rfl rfl ?_
              refine z_goto C d_Model_areNear_128 ?_
              refine z_sub [1, 2, 3, 4, 0] [(0, .ref h_mo), (1, .int p0), (2, .int p1), (3, .int x3_4), (4, .int x4_7)] rfl ?_
              exact IH_5 x3_4 x4_7 h
            · replace h := h.2 c_6
              refine z_aload C d_Model_areNear_20 0 rfl ?_
              refine z_get C fl_Model_41 0 rfl rfl d_Model_areNear_21 ?_
              refine z_k C d_Model_areNear_24 ?_
              refine z_iload C d_Model_areNear_26 1 rfl ?_
              refine z_imul C d_Model_areNear_27 ?_
              refine z_k C d_Model_areNear_28 ?_
              refine z_iload C d_Model_areNear_29 4 rfl ?_
              refine z_imul C d_Model_areNear_31 ?_
              refine z_iadd C d_Model_areNear_32 ?_
              refine z_iald C 1 rfl h.1 d_Model_areNear_33 ?_
              replace h := h.2
              refine z_aload C d_Model_areNear_34 0 rfl ?_
              refine z_get C fl_Model_41 0 rfl rfl d_Model_areNear_35 ?_
              refine z_k C d_Model_areNear_38 ?_
              refine z_iload C d_Model_areNear_40 2 rfl ?_
              refine z_imul C d_Model_areNear_41 ?_
              refine z_k C d_Model_areNear_42 ?_
              refine z_iload C d_Model_areNear_43 5 rfl ?_
              refine z_imul C d_Model_areNear_45 ?_
              refine z_iadd C d_Model_areNear_46 ?_
              refine z_iald C 1 rfl h.1 d_Model_areNear_47 ?_
              replace h := h.2
              refine z_isub C d_Model_areNear_48 ?_
              refine z_topi (fun x6_8 ex6_8 => ?_)
              replace h := h x6_8 ex6_8
              refine z_istore C [(6, .int x6_8), (0, .ref h_mo), (1, .int p0), (2, .int p1), (3, .int x3_4), (4, .int x4_2), (5, .int x5_5)] d_Model_areNear_49 rfl rfl ?_
              refine z_aload C d_Model_areNear_51 1 rfl ?_
              refine z_get C fl_Model_41 0 rfl rfl d_Model_areNear_52 ?_
              refine z_k C d_Model_areNear_55 ?_
              refine z_iload C d_Model_areNear_57 2 rfl ?_
              refine z_imul C d_Model_areNear_58 ?_
              refine z_k C d_Model_areNear_59 ?_
              refine z_iload C d_Model_areNear_60 5 rfl ?_
              refine z_imul C d_Model_areNear_62 ?_
              refine z_iadd C d_Model_areNear_63 ?_
              refine z_k C d_Model_areNear_64 ?_
              refine z_iadd C d_Model_areNear_65 ?_
              refine z_iald C 1 rfl h.1 d_Model_areNear_66 ?_
              replace h := h.2
              refine z_aload C d_Model_areNear_67 1 rfl ?_
              refine z_get C fl_Model_41 0 rfl rfl d_Model_areNear_68 ?_
              refine z_k C d_Model_areNear_71 ?_
              refine z_iload C d_Model_areNear_73 3 rfl ?_
              refine z_imul C d_Model_areNear_74 ?_
              refine z_k C d_Model_areNear_75 ?_
              refine z_iload C d_Model_areNear_76 6 rfl ?_
              refine z_imul C d_Model_areNear_78 ?_
              refine z_iadd C d_Model_areNear_79 ?_
              refine z_k C d_Model_areNear_80 ?_
              refine z_iadd C d_Model_areNear_81 ?_
              refine z_iald C 1 rfl h.1 d_Model_areNear_82 ?_
              replace h := h.2
              refine z_isub C d_Model_areNear_83 ?_
              refine z_topi (fun x7_9 ex7_9 => ?_)
              replace h := h x7_9 ex7_9
              refine z_istore C [(7, .int x7_9), (6, .int x6_8), (0, .ref h_mo), (1, .int p0), (2, .int p1), (3, .int x3_4), (4, .int x4_2), (5, .int x5_5)] d_Model_areNear_84 rfl rfl ?_
              refine z_iload C d_Model_areNear_86 5 rfl ?_
              refine z_if_ne C d_Model_areNear_87 (fun c_10 => ?_) (fun c_10 => ?_)
              · replace h := h.1 c_10
                refine z_k C d_Model_areNear_113 ?_
                refine z_goto C d_Model_areNear_114 ?_
                refine z_istore C [(3, .int (1 : Int32)), (7, .int x7_9), (6, .int x6_8), (0, .ref h_mo), (1, .int p0), (2, .int p1), (4, .int x4_2), (5, .int x5_5)] d_Model_areNear_118 rfl rfl ?_
                obtain ⟨x5_11, ex5_11⟩ : ∃ y : Int32, y = x5_5 + (1 : Int32) := ⟨_, rfl⟩
                replace h := h x5_11 ex5_11
                refine z_iinc C [(5, .int x5_11), (3, .int (1 : Int32)), (7, .int x7_9), (6, .int x6_8), (0, .ref h_mo), (1, .int p0), (2, .int p1), (4, .int x4_2)] d_Model_areNear_119 (j := 7) rfl (by rw [ex5_11]; rfl) rfl rfl ?_
                refine z_goto C d_Model_areNear_122 ?_
                refine z_sub [4, 5, 6, 1, 7, 0] [(0, .ref h_mo), (1, .int p0), (2, .int p1), (3, .int (1 : Int32)), (4, .int x4_2), (5, .int x5_11)] rfl ?_
                exact IH_14 (1 : Int32) x5_11 h
              · replace h := h.2 c_10
                refine z_iload C d_Model_areNear_90 1 rfl ?_
                refine z_i2l C d_Model_areNear_92 ?_
                refine z_iload C d_Model_areNear_93 0 rfl ?_
                refine z_i2l C d_Model_areNear_95 ?_
                refine z_spl C (rest := []) (c_Model_square l D κ x6_8.toInt64 x7_9.toInt64 _ h) cs_Model_151 ⟨rfl, rfl⟩ ⟨⟨Nat.le_of_ble_eq_true rfl, Nat.le_of_ble_eq_true rfl⟩, Nat.le_of_ble_eq_true rfl, Nat.le_of_ble_eq_true rfl⟩ [] rfl rfl rfl (Nat.le_of_ble_eq_true rfl) d_Model_areNear_96 (fun r_12 h => ?_)
                refine z_aload C d_Model_areNear_99 2 rfl ?_
                refine z_get C fl_Model_19 0 rfl rfl d_Model_areNear_100 ?_
                refine z_aload C d_Model_areNear_103 2 rfl ?_
                refine z_get C fl_Model_19 0 rfl rfl d_Model_areNear_104 ?_
                refine z_imul C d_Model_areNear_107 ?_
                refine z_i2l C d_Model_areNear_108 ?_
                refine z_lcmp C d_Model_areNear_109 ?_
                refine z_if_gt C d_Model_areNear_110 (fun c_13 => ?_) (fun c_13 => ?_)
                · replace h := h.1 c_13
                  refine z_k C d_Model_areNear_117 ?_
                  refine z_istore C [(3, .int (0 : Int32)), (7, .int x7_9), (6, .int x6_8), (0, .ref h_mo), (1, .int p0), (2, .int p1), (4, .int x4_2), (5, .int x5_5)] d_Model_areNear_118 rfl rfl ?_
                  obtain ⟨x5_14, ex5_14⟩ : ∃ y : Int32, y = x5_5 + (1 : Int32) := ⟨_, rfl⟩
                  replace h := h x5_14 ex5_14
                  refine z_iinc C [(5, .int x5_14), (3, .int (0 : Int32)), (7, .int x7_9), (6, .int x6_8), (0, .ref h_mo), (1, .int p0), (2, .int p1), (4, .int x4_2)] d_Model_areNear_119 (j := 7) rfl (by rw [ex5_14]; rfl) rfl rfl ?_
                  refine z_goto C d_Model_areNear_122 ?_
                  refine z_sub [4, 5, 6, 1, 7, 0] [(0, .ref h_mo), (1, .int p0), (2, .int p1), (3, .int (0 : Int32)), (4, .int x4_2), (5, .int x5_14)] rfl ?_
                  exact IH_14 (0 : Int32) x5_14 h
                · replace h := h.2 c_13
                  refine z_k C d_Model_areNear_113 ?_
                  refine z_goto C d_Model_areNear_114 ?_
                  refine z_istore C [(3, .int (1 : Int32)), (7, .int x7_9), (6, .int x6_8), (0, .ref h_mo), (1, .int p0), (2, .int p1), (4, .int x4_2), (5, .int x5_5)] d_Model_areNear_118 rfl rfl ?_
                  obtain ⟨x5_15, ex5_15⟩ : ∃ y : Int32, y = x5_5 + (1 : Int32) := ⟨_, rfl⟩
                  replace h := h x5_15 ex5_15
                  refine z_iinc C [(5, .int x5_15), (3, .int (1 : Int32)), (7, .int x7_9), (6, .int x6_8), (0, .ref h_mo), (1, .int p0), (2, .int p1), (4, .int x4_2)] d_Model_areNear_119 (j := 7) rfl (by rw [ex5_15]; rfl) rfl rfl ?_
                  refine z_goto C d_Model_areNear_122 ?_
                  refine z_sub [4, 5, 6, 1, 7, 0] [(0, .ref h_mo), (1, .int p0), (2, .int p1), (3, .int (1 : Int32)), (4, .int x4_2), (5, .int x5_15)] rfl ?_
                  exact IH_14 (1 : Int32) x5_15 h
        refine z_sub [1, 2, 3, 4, 5, 0] [(0, .ref h_mo), (1, .int p0), (2, .int p1), (3, .int x3_1), (4, .int x4_2), (5, .int (0 : Int32))] rfl ?_
        exact LP_14 n_14 x3_1 (0 : Int32) h
  refine z_sub [2, 3, 4, 1, 0] [(0, .ref h_mo), (1, .int p0), (2, .int p1), (3, .int (0 : Int32)), (4, .int (0 : Int32))] rfl ?_
  exact LP_5 n_5 (0 : Int32) (0 : Int32) h
def wp_Model_near (mo_gap : Int32) (mo_seamMany : Int32) (mo_seams : Nat → Int32) (p0 : Int32) (p1 : Int32) (post : Int32 → Prop) : Prop :=
  (wp_Model_isSeam mo_seamMany p0 (fun r_1 => ((r_1 = 0 → (post (-1 : Int32))) ∧ (¬ r_1 = 0 → (wp_Model_isSeam mo_seamMany p1 (fun r_3 => ((¬ r_3 = 0 → (wp_Model_areNear mo_gap mo_seams p0 p1 (fun r_5 => ((r_5 = 0 → (post (0 : Int32))) ∧ (¬ r_5 = 0 → (post (1 : Int32))))))) ∧ (r_3 = 0 → (post (-1 : Int32))))))))))
abbrev rm_Model_near : Room := { frames := 2, cells := 0, slots := 0, locals := 50 }
set_option maxHeartbeats 4000000 in
set_option maxRecDepth 100000 in
theorem c_Model_near (l : Launch) (D : va_G) (κ : KT) (h_mo : Nat) (h_mo_bars : Nat) (h_mo_seams : Nat) (h_mo_rowSeam : Nat) (h_mo_rowWay : Nat) (h_mo_quarters : Nat) (h_mo_begins : Nat) (h_mo_ends : Nat) (h_mo_rests : Nat) (h_mo_bestRow : Nat) (h_mo_lows : Nat) (h_mo_highs : Nat) (h_mo_acts : Nat) (h_mo_actMany : Nat) (h_mo_done : Nat) (h_mo_left : Nat) (h_mo_waited : Nat) (h_mo_ran : Nat) (h_mo_reached : Nat) (mo_middleX : Int32) (mo_middleY : Int32) (mo_linkA : Int32) (mo_linkB : Int32) (mo_flatness : Int32) (mo_gap : Int32) (mo_turn : Int32) (mo_travel : Int32) (mo_lift : Int32) (mo_cool : Int32) (mo_homeX : Int32) (mo_homeY : Int32) (mo_barMany : Int32) (mo_seamMany : Int32) (mo_rowMany : Int32) (mo_lowUp : Int64) (mo_lowDown : Int64) (mo_highUp : Int64) (mo_highDown : Int64) (mo_touchMany : Int32) (mo_shiftX : Int32) (mo_shiftY : Int32) (mo_hasRun : Int32) (mo_seams : Nat → Int32) (p0 : Int32) (p1 : Int32) (post : Int32 → Prop) (h : wp_Model_near mo_gap mo_seamMany mo_seams p0 p1 post) : Met l y_Model_near (wsG y_Model_near b_Model_near 3 (some .int)) rm_Model_near (PP D κ [.ref h_mo, .int p0, .int p1] [(h_mo, .inr (10, [.int mo_middleX, .int mo_middleY, .int mo_linkA, .int mo_linkB, .int mo_flatness, .int mo_gap, .int mo_turn, .int mo_travel, .int mo_lift, .int mo_cool, .int mo_homeX, .int mo_homeY, .ref h_mo_bars, .int mo_barMany, .ref h_mo_seams, .int mo_seamMany, .ref h_mo_rowSeam, .ref h_mo_rowWay, .int mo_rowMany, .long mo_lowUp, .long mo_lowDown, .long mo_highUp, .long mo_highDown, .ref h_mo_quarters, .ref h_mo_begins, .ref h_mo_ends, .ref h_mo_rests, .ref h_mo_bestRow, .ref h_mo_lows, .ref h_mo_highs, .int mo_touchMany, .int mo_shiftX, .int mo_shiftY, .ref h_mo_acts, .ref h_mo_actMany, .ref h_mo_done, .ref h_mo_left, .ref h_mo_waited, .ref h_mo_ran, .int mo_hasRun, .ref h_mo_reached])), (h_mo_seams, cI κ 48 mo_seams)]) (vp_Si post) 0 0 (fun _ => False) := by
  refine zp_start [(0, .ref h_mo), (1, .int p0), (2, .int p1)] rfl (Nat.le_of_ble_eq_true rfl) rfl ?_
  intro p e s m args below meth c C hr hlk
  unfold wp_Model_near at h
  refine z_aload C d_Model_near_0 0 rfl ?_
  refine z_iload C d_Model_near_1 1 rfl ?_
  refine z_vpi C (rest := []) (c_Model_isSeam l D κ h_mo h_mo_bars h_mo_seams h_mo_rowSeam h_mo_rowWay h_mo_quarters h_mo_begins h_mo_ends h_mo_rests h_mo_bestRow h_mo_lows h_mo_highs h_mo_acts h_mo_actMany h_mo_done h_mo_left h_mo_waited h_mo_ran h_mo_reached mo_middleX mo_middleY mo_linkA mo_linkB mo_flatness mo_gap mo_turn mo_travel mo_lift mo_cool mo_homeX mo_homeY mo_barMany mo_seamMany mo_rowMany mo_lowUp mo_lowDown mo_highUp mo_highDown mo_touchMany mo_shiftX mo_shiftY mo_hasRun p0 _ h) cv_Model_204 ⟨rfl, rfl⟩ ⟨⟨Nat.le_of_ble_eq_true rfl, Nat.le_of_ble_eq_true rfl⟩, Nat.le_of_ble_eq_true rfl, Nat.le_of_ble_eq_true rfl⟩ 0 rfl [0] rfl rfl rfl (Nat.le_of_ble_eq_true rfl) d_Model_near_2 (fun r_1 h => ?_)
  refine z_if_eq C d_Model_near_5 (fun c_2 => ?_) (fun c_2 => ?_)
  · replace h := h.1 c_2
    refine z_k C d_Model_near_16 ?_
    refine z_goto C d_Model_near_17 ?_
    exact zp_iret C hr hlk d_Model_near_34 h
  · replace h := h.2 c_2
    refine z_aload C d_Model_near_8 0 rfl ?_
    refine z_iload C d_Model_near_9 2 rfl ?_
    refine z_vpi C (rest := []) (c_Model_isSeam l D κ h_mo h_mo_bars h_mo_seams h_mo_rowSeam h_mo_rowWay h_mo_quarters h_mo_begins h_mo_ends h_mo_rests h_mo_bestRow h_mo_lows h_mo_highs h_mo_acts h_mo_actMany h_mo_done h_mo_left h_mo_waited h_mo_ran h_mo_reached mo_middleX mo_middleY mo_linkA mo_linkB mo_flatness mo_gap mo_turn mo_travel mo_lift mo_cool mo_homeX mo_homeY mo_barMany mo_seamMany mo_rowMany mo_lowUp mo_lowDown mo_highUp mo_highDown mo_touchMany mo_shiftX mo_shiftY mo_hasRun p1 _ h) cv_Model_204 ⟨rfl, rfl⟩ ⟨⟨Nat.le_of_ble_eq_true rfl, Nat.le_of_ble_eq_true rfl⟩, Nat.le_of_ble_eq_true rfl, Nat.le_of_ble_eq_true rfl⟩ 0 rfl [0] rfl rfl rfl (Nat.le_of_ble_eq_true rfl) d_Model_near_10 (fun r_3 h => ?_)
    refine z_if_ne C d_Model_near_13 (fun c_4 => ?_) (fun c_4 => ?_)
    · replace h := h.1 c_4
      refine z_aload C d_Model_near_20 0 rfl ?_
      refine z_iload C d_Model_near_21 1 rfl ?_
      refine z_iload C d_Model_near_22 2 rfl ?_
      refine z_vpi C (rest := []) (c_Model_areNear l D κ h_mo h_mo_bars h_mo_seams h_mo_rowSeam h_mo_rowWay h_mo_quarters h_mo_begins h_mo_ends h_mo_rests h_mo_bestRow h_mo_lows h_mo_highs h_mo_acts h_mo_actMany h_mo_done h_mo_left h_mo_waited h_mo_ran h_mo_reached mo_middleX mo_middleY mo_linkA mo_linkB mo_flatness mo_gap mo_turn mo_travel mo_lift mo_cool mo_homeX mo_homeY mo_barMany mo_seamMany mo_rowMany mo_lowUp mo_lowDown mo_highUp mo_highDown mo_touchMany mo_shiftX mo_shiftY mo_hasRun mo_seams p0 p1 _ h) cv_Model_216 ⟨rfl, rfl⟩ ⟨⟨Nat.le_of_ble_eq_true rfl, Nat.le_of_ble_eq_true rfl⟩, Nat.le_of_ble_eq_true rfl, Nat.le_of_ble_eq_true rfl⟩ 0 rfl [0, 1] rfl rfl rfl (Nat.le_of_ble_eq_true rfl) d_Model_near_23 (fun r_5 h => ?_)
      refine z_if_eq C d_Model_near_26 (fun c_6 => ?_) (fun c_6 => ?_)
      · replace h := h.1 c_6
        refine z_k C d_Model_near_33 ?_
        exact zp_iret C hr hlk d_Model_near_34 h
      · replace h := h.2 c_6
        refine z_k C d_Model_near_29 ?_
        refine z_goto C d_Model_near_30 ?_
        exact zp_iret C hr hlk d_Model_near_34 h
    · replace h := h.2 c_4
      refine z_k C d_Model_near_16 ?_
      refine z_goto C d_Model_near_17 ?_
      exact zp_iret C hr hlk d_Model_near_34 h
def wp_Model_free (mo_barMany : Int32) (mo_lowUp : Int64) (mo_lowDown : Int64) (mo_highUp : Int64) (mo_highDown : Int64) (mo_bars : Nat → Int32) (p0 : Int32) (p1 : Int32) (p2 : Int32) (p3 : Int32) (post : Int32 → Int64 → Int64 → Int64 → Int64 → Prop) : Prop :=
  (wp_Model_isFar p0 p1 (fun r_1 => ((¬ r_1 = 0 → (post (-2 : Int32) mo_lowUp mo_lowDown mo_highUp mo_highDown)) ∧ (r_1 = 0 → (wp_Model_isFar p2 p3 (fun r_3 => ((r_3 = 0 → (wp_Model_isFree mo_barMany mo_lowUp mo_lowDown mo_highUp mo_highDown mo_bars p0 p1 p2 p3 (fun r_5 mo_lowUp_6 mo_lowDown_7 mo_highUp_8 mo_highDown_9 => ((r_5 = 0 → (post (0 : Int32) mo_lowUp_6 mo_lowDown_7 mo_highUp_8 mo_highDown_9)) ∧ (¬ r_5 = 0 → (post (1 : Int32) mo_lowUp_6 mo_lowDown_7 mo_highUp_8 mo_highDown_9)))))) ∧ (¬ r_3 = 0 → (post (-2 : Int32) mo_lowUp mo_lowDown mo_highUp mo_highDown)))))))))
abbrev rm_Model_free : Room := { frames := 3, cells := 0, slots := 0, locals := 81 }
set_option maxHeartbeats 4000000 in
set_option maxRecDepth 100000 in
theorem c_Model_free (l : Launch) (D : va_G) (κ : KT) (h_mo : Nat) (h_mo_bars : Nat) (h_mo_seams : Nat) (h_mo_rowSeam : Nat) (h_mo_rowWay : Nat) (h_mo_quarters : Nat) (h_mo_begins : Nat) (h_mo_ends : Nat) (h_mo_rests : Nat) (h_mo_bestRow : Nat) (h_mo_lows : Nat) (h_mo_highs : Nat) (h_mo_acts : Nat) (h_mo_actMany : Nat) (h_mo_done : Nat) (h_mo_left : Nat) (h_mo_waited : Nat) (h_mo_ran : Nat) (h_mo_reached : Nat) (mo_middleX : Int32) (mo_middleY : Int32) (mo_linkA : Int32) (mo_linkB : Int32) (mo_flatness : Int32) (mo_gap : Int32) (mo_turn : Int32) (mo_travel : Int32) (mo_lift : Int32) (mo_cool : Int32) (mo_homeX : Int32) (mo_homeY : Int32) (mo_barMany : Int32) (mo_seamMany : Int32) (mo_rowMany : Int32) (mo_lowUp : Int64) (mo_lowDown : Int64) (mo_highUp : Int64) (mo_highDown : Int64) (mo_touchMany : Int32) (mo_shiftX : Int32) (mo_shiftY : Int32) (mo_hasRun : Int32) (mo_bars : Nat → Int32) (p0 : Int32) (p1 : Int32) (p2 : Int32) (p3 : Int32) (sz : Nat) (post : Int32 → Int64 → Int64 → Int64 → Int64 → Prop) (h : wp_Model_free mo_barMany mo_lowUp mo_lowDown mo_highUp mo_highDown mo_bars p0 p1 p2 p3 post) : Met l y_Model_free (wsG y_Model_free b_Model_free 5 (some .int)) rm_Model_free (PE D κ [.ref h_mo, .int p0, .int p1, .int p2, .int p3] [(h_mo, .inr (10, [.int mo_middleX, .int mo_middleY, .int mo_linkA, .int mo_linkB, .int mo_flatness, .int mo_gap, .int mo_turn, .int mo_travel, .int mo_lift, .int mo_cool, .int mo_homeX, .int mo_homeY, .ref h_mo_bars, .int mo_barMany, .ref h_mo_seams, .int mo_seamMany, .ref h_mo_rowSeam, .ref h_mo_rowWay, .int mo_rowMany, .long mo_lowUp, .long mo_lowDown, .long mo_highUp, .long mo_highDown, .ref h_mo_quarters, .ref h_mo_begins, .ref h_mo_ends, .ref h_mo_rests, .ref h_mo_bestRow, .ref h_mo_lows, .ref h_mo_highs, .int mo_touchMany, .int mo_shiftX, .int mo_shiftY, .ref h_mo_acts, .ref h_mo_actMany, .ref h_mo_done, .ref h_mo_left, .ref h_mo_waited, .ref h_mo_ran, .int mo_hasRun, .ref h_mo_reached])), (h_mo_bars, cI κ 16 mo_bars)] sz) (va_Qi (fun (r : Int32) (u : (Int64) × (Int64) × (Int64) × (Int64)) => post r u.1 u.2.1 u.2.2.1 u.2.2.2) (QB D [(h_mo, .inr (10, [.int mo_middleX, .int mo_middleY, .int mo_linkA, .int mo_linkB, .int mo_flatness, .int mo_gap, .int mo_turn, .int mo_travel, .int mo_lift, .int mo_cool, .int mo_homeX, .int mo_homeY, .ref h_mo_bars, .int mo_barMany, .ref h_mo_seams, .int mo_seamMany, .ref h_mo_rowSeam, .ref h_mo_rowWay, .int mo_rowMany, .long mo_lowUp, .long mo_lowDown, .long mo_highUp, .long mo_highDown, .ref h_mo_quarters, .ref h_mo_begins, .ref h_mo_ends, .ref h_mo_rests, .ref h_mo_bestRow, .ref h_mo_lows, .ref h_mo_highs, .int mo_touchMany, .int mo_shiftX, .int mo_shiftY, .ref h_mo_acts, .ref h_mo_actMany, .ref h_mo_done, .ref h_mo_left, .ref h_mo_waited, .ref h_mo_ran, .int mo_hasRun, .ref h_mo_reached])), (h_mo_bars, cI κ 16 mo_bars)] sz (fun (u : (Int64) × (Int64) × (Int64) × (Int64)) => [(h_mo, .inr (10, [.int mo_middleX, .int mo_middleY, .int mo_linkA, .int mo_linkB, .int mo_flatness, .int mo_gap, .int mo_turn, .int mo_travel, .int mo_lift, .int mo_cool, .int mo_homeX, .int mo_homeY, .ref h_mo_bars, .int mo_barMany, .ref h_mo_seams, .int mo_seamMany, .ref h_mo_rowSeam, .ref h_mo_rowWay, .int mo_rowMany, .long u.1, .long u.2.1, .long u.2.2.1, .long u.2.2.2, .ref h_mo_quarters, .ref h_mo_begins, .ref h_mo_ends, .ref h_mo_rests, .ref h_mo_bestRow, .ref h_mo_lows, .ref h_mo_highs, .int mo_touchMany, .int mo_shiftX, .int mo_shiftY, .ref h_mo_acts, .ref h_mo_actMany, .ref h_mo_done, .ref h_mo_left, .ref h_mo_waited, .ref h_mo_ran, .int mo_hasRun, .ref h_mo_reached])), (h_mo_bars, cI κ 16 mo_bars)])) (va_A [(h_mo, .inr (10, [.int mo_middleX, .int mo_middleY, .int mo_linkA, .int mo_linkB, .int mo_flatness, .int mo_gap, .int mo_turn, .int mo_travel, .int mo_lift, .int mo_cool, .int mo_homeX, .int mo_homeY, .ref h_mo_bars, .int mo_barMany, .ref h_mo_seams, .int mo_seamMany, .ref h_mo_rowSeam, .ref h_mo_rowWay, .int mo_rowMany, .long mo_lowUp, .long mo_lowDown, .long mo_highUp, .long mo_highDown, .ref h_mo_quarters, .ref h_mo_begins, .ref h_mo_ends, .ref h_mo_rests, .ref h_mo_bestRow, .ref h_mo_lows, .ref h_mo_highs, .int mo_touchMany, .int mo_shiftX, .int mo_shiftY, .ref h_mo_acts, .ref h_mo_actMany, .ref h_mo_done, .ref h_mo_left, .ref h_mo_waited, .ref h_mo_ran, .int mo_hasRun, .ref h_mo_reached])), (h_mo_bars, cI κ 16 mo_bars)] sz)) 0 0 (va_A [(h_mo, .inr (10, [.int mo_middleX, .int mo_middleY, .int mo_linkA, .int mo_linkB, .int mo_flatness, .int mo_gap, .int mo_turn, .int mo_travel, .int mo_lift, .int mo_cool, .int mo_homeX, .int mo_homeY, .ref h_mo_bars, .int mo_barMany, .ref h_mo_seams, .int mo_seamMany, .ref h_mo_rowSeam, .ref h_mo_rowWay, .int mo_rowMany, .long mo_lowUp, .long mo_lowDown, .long mo_highUp, .long mo_highDown, .ref h_mo_quarters, .ref h_mo_begins, .ref h_mo_ends, .ref h_mo_rests, .ref h_mo_bestRow, .ref h_mo_lows, .ref h_mo_highs, .int mo_touchMany, .int mo_shiftX, .int mo_shiftY, .ref h_mo_acts, .ref h_mo_actMany, .ref h_mo_done, .ref h_mo_left, .ref h_mo_waited, .ref h_mo_ran, .int mo_hasRun, .ref h_mo_reached])), (h_mo_bars, cI κ 16 mo_bars)] sz) := by
  refine ze_start [(0, .ref h_mo), (1, .int p0), (2, .int p1), (3, .int p2), (4, .int p3)] rfl (Nat.le_of_ble_eq_true rfl) rfl ?_
  intro p e s m args below meth c C hr hlk hnm hsz
  subst hsz
  unfold wp_Model_free at h
  refine z_iload C d_Model_free_0 1 rfl ?_
  refine z_iload C d_Model_free_1 2 rfl ?_
  refine z_spi C (rest := []) (c_Model_isFar l D κ p0 p1 _ h) cs_Model_221 ⟨rfl, rfl⟩ ⟨⟨Nat.le_of_ble_eq_true rfl, Nat.le_of_ble_eq_true rfl⟩, Nat.le_of_ble_eq_true rfl, Nat.le_of_ble_eq_true rfl⟩ [] rfl rfl rfl (Nat.le_of_ble_eq_true rfl) d_Model_free_2 (fun r_1 h => ?_)
  refine z_if_ne C d_Model_free_5 (fun c_2 => ?_) (fun c_2 => ?_)
  · replace h := h.1 c_2
    refine z_k C d_Model_free_17 ?_
    exact ze_iret C (mo_lowUp, mo_lowDown, mo_highUp, mo_highDown) hr hlk rfl d_Model_free_19 h
  · replace h := h.2 c_2
    refine z_iload C d_Model_free_8 3 rfl ?_
    refine z_iload C d_Model_free_9 4 rfl ?_
    refine z_spi C (rest := []) (c_Model_isFar l D κ p2 p3 _ h) cs_Model_221 ⟨rfl, rfl⟩ ⟨⟨Nat.le_of_ble_eq_true rfl, Nat.le_of_ble_eq_true rfl⟩, Nat.le_of_ble_eq_true rfl, Nat.le_of_ble_eq_true rfl⟩ [] rfl rfl rfl (Nat.le_of_ble_eq_true rfl) d_Model_free_11 (fun r_3 h => ?_)
    refine z_if_eq C d_Model_free_14 (fun c_4 => ?_) (fun c_4 => ?_)
    · replace h := h.1 c_4
      refine z_aload C d_Model_free_20 0 rfl ?_
      refine z_iload C d_Model_free_21 1 rfl ?_
      refine z_iload C d_Model_free_22 2 rfl ?_
      refine z_iload C d_Model_free_23 3 rfl ?_
      refine z_iload C d_Model_free_24 4 rfl ?_
      refine z_vei C (rest := []) (wr := []) (fun sz => c_Model_isFree l D κ h_mo h_mo_bars h_mo_seams h_mo_rowSeam h_mo_rowWay h_mo_quarters h_mo_begins h_mo_ends h_mo_rests h_mo_bestRow h_mo_lows h_mo_highs h_mo_acts h_mo_actMany h_mo_done h_mo_left h_mo_waited h_mo_ran h_mo_reached mo_middleX mo_middleY mo_linkA mo_linkB mo_flatness mo_gap mo_turn mo_travel mo_lift mo_cool mo_homeX mo_homeY mo_barMany mo_seamMany mo_rowMany mo_lowUp mo_lowDown mo_highUp mo_highDown mo_touchMany mo_shiftX mo_shiftY mo_hasRun mo_bars p0 p1 p2 p3 sz _ h) cv_Model_187 ⟨rfl, rfl⟩ ⟨⟨Nat.le_of_ble_eq_true rfl, Nat.le_of_ble_eq_true rfl⟩, Nat.le_of_ble_eq_true rfl, Nat.le_of_ble_eq_true rfl⟩ 0 rfl [0, 1] [] rfl rfl rfl (fun u => [(h_mo, .inr (10, [.int mo_middleX, .int mo_middleY, .int mo_linkA, .int mo_linkB, .int mo_flatness, .int mo_gap, .int mo_turn, .int mo_travel, .int mo_lift, .int mo_cool, .int mo_homeX, .int mo_homeY, .ref h_mo_bars, .int mo_barMany, .ref h_mo_seams, .int mo_seamMany, .ref h_mo_rowSeam, .ref h_mo_rowWay, .int mo_rowMany, .long u.1, .long u.2.1, .long u.2.2.1, .long u.2.2.2, .ref h_mo_quarters, .ref h_mo_begins, .ref h_mo_ends, .ref h_mo_rests, .ref h_mo_bestRow, .ref h_mo_lows, .ref h_mo_highs, .int mo_touchMany, .int mo_shiftX, .int mo_shiftY, .ref h_mo_acts, .ref h_mo_actMany, .ref h_mo_done, .ref h_mo_left, .ref h_mo_waited, .ref h_mo_ran, .int mo_hasRun, .ref h_mo_reached])), (h_mo_bars, cI κ 16 mo_bars)]) [0, 1] rfl (fun _ => rfl) rfl rfl (Nat.le_of_ble_eq_true rfl) d_Model_free_26 (fun r_5 u_9 h => ?_)
      obtain ⟨mo_lowUp_6, mo_lowDown_7, mo_highUp_8, mo_highDown_9⟩ := u_9
      (try dsimp only at h); (try dsimp only)
      refine z_if_eq C d_Model_free_29 (fun c_10 => ?_) (fun c_10 => ?_)
      · replace h := h.1 c_10
        refine z_k C d_Model_free_36 ?_
        exact ze_iret C (mo_lowUp_6, mo_lowDown_7, mo_highUp_8, mo_highDown_9) hr hlk rfl d_Model_free_37 h
      · replace h := h.2 c_10
        refine z_k C d_Model_free_32 ?_
        refine z_goto C d_Model_free_33 ?_
        exact ze_iret C (mo_lowUp_6, mo_lowDown_7, mo_highUp_8, mo_highDown_9) hr hlk rfl d_Model_free_37 h
    · replace h := h.2 c_4
      refine z_k C d_Model_free_17 ?_
      exact ze_iret C (mo_lowUp, mo_lowDown, mo_highUp, mo_highDown) hr hlk rfl d_Model_free_19 h
