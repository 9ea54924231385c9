abbrev rm_Seam_init : Room := { frames := 1, cells := 0, slots := 0, locals := 12 }
set_option maxHeartbeats 8000000 in
set_option maxRecDepth 100000 in
theorem ci_Seam (l : Launch) (D : va_G) (κ : KT) (h0 : Nat) (sz : Nat) : Met l y_Seam_init (wsG y_Seam_init b_Seam_init 1 none) rm_Seam_init (PX D κ [.ref h0] [(h0, .inr (6, [.int 0, .int 0, .int 0, .int 0, .int 0, .int 0, .int 0]))] sz) (va_Qv (fun (u : Unit) => True) (QB D [(h0, .inr (6, [.int 0, .int 0, .int 0, .int 0, .int 0, .int 0, .int 0]))] sz (fun (u : Unit) => [(h0, .inr (6, [.int 0, .int 0, .int 0, .int 0, .int 0, .int 0, .int 0]))])) (va_A [(h0, .inr (6, [.int 0, .int 0, .int 0, .int 0, .int 0, .int 0, .int 0]))] sz)) 0 0 (va_A [(h0, .inr (6, [.int 0, .int 0, .int 0, .int 0, .int 0, .int 0, .int 0]))] sz) := by
  refine zx_start [(0, .ref h0)] rfl (Nat.le_of_ble_eq_true rfl) rfl ?_
  intro p e s m args below meth c C hr hlk hnm hsz hO
  subst hsz
  refine z_aload C d_Seam_init_0 0 rfl ?_
  refine z_oinit C oi_Seam_1 (Nat.le_of_ble_eq_true rfl) (Nat.le_of_ble_eq_true rfl) d_Seam_init_1 ?_
  exact ze_vret C () hr hlk rfl d_Seam_init_4 trivial
abbrev rm_Acts_init : Room := { frames := 1, cells := 3, slots := 49, locals := 12 }
set_option maxHeartbeats 8000000 in
set_option maxRecDepth 100000 in
theorem ci_Acts (l : Launch) (D : va_G) (κ : KT) (h0 : Nat) (sz : Nat) : Met l y_Acts_init (wsG y_Acts_init b_Acts_init 1 none) rm_Acts_init (PX D κ [.ref h0] [(h0, .inr (0, [.null, .null, .null, .int 0, .int 0, .int 0, .int 0]))] sz) (va_Qv (fun (u : (Nat) × (Nat) × (Nat)) => True) (QB D [(h0, .inr (0, [.null, .null, .null, .int 0, .int 0, .int 0, .int 0]))] sz (fun (u : (Nat) × (Nat) × (Nat)) => [(h0, .inr (0, [.ref u.1, .ref u.2.1, .ref u.2.2, .int 0, .int 0, .int 0, .int 0])), (u.1, cI κ 16 (fun _ => 0)), (u.2.1, cI κ 16 (fun _ => 0)), (u.2.2, cI κ 17 (fun _ => 0))])) (va_A [(h0, .inr (0, [.null, .null, .null, .int 0, .int 0, .int 0, .int 0]))] sz)) 3 49 (va_A [(h0, .inr (0, [.null, .null, .null, .int 0, .int 0, .int 0, .int 0]))] sz) := by
  refine zx_start [(0, .ref h0)] rfl (Nat.le_of_ble_eq_true rfl) rfl ?_
  intro p e s m args below meth c C hr hlk hnm hsz hO
  subst hsz
  refine z_aload C d_Acts_init_0 0 rfl ?_
  refine z_oinit C oi_Acts_3 (Nat.le_of_ble_eq_true rfl) (Nat.le_of_ble_eq_true rfl) d_Acts_init_1 ?_
  refine z_aload C d_Acts_init_4 0 rfl ?_
  refine z_k C d_Acts_init_5 ?_
  refine z_newa C (N := 16) wd_aI (by decide) (by decide) (by decide) (Nat.le_of_ble_eq_true rfl) (Nat.le_of_ble_eq_true rfl) d_Acts_init_7 (fun q1 => ?_)
  (try dsimp only)
  refine z_putF C hnm fp_Acts_9 0 rfl rfl rfl rfl [(h0, .inr (0, [.ref q1, .null, .null, .int 0, .int 0, .int 0, .int 0])), (q1, cI κ 16 (fun _ => 0))] rfl d_Acts_init_9 ?_
  refine z_aload C d_Acts_init_12 0 rfl ?_
  refine z_k C d_Acts_init_13 ?_
  refine z_newa C (N := 16) wd_aI (by decide) (by decide) (by decide) (Nat.le_of_ble_eq_true rfl) (Nat.le_of_ble_eq_true rfl) d_Acts_init_15 (fun q2 => ?_)
  (try dsimp only)
  refine z_putF C hnm fp_Acts_15 0 rfl rfl rfl rfl [(h0, .inr (0, [.ref q1, .ref q2, .null, .int 0, .int 0, .int 0, .int 0])), (q1, cI κ 16 (fun _ => 0)), (q2, cI κ 16 (fun _ => 0))] rfl d_Acts_init_17 ?_
  refine z_aload C d_Acts_init_20 0 rfl ?_
  refine z_k C d_Acts_init_21 ?_
  refine z_newa C (N := 17) wd_aI (by decide) (by decide) (by decide) (Nat.le_of_ble_eq_true rfl) (Nat.le_of_ble_eq_true rfl) d_Acts_init_23 (fun q3 => ?_)
  (try dsimp only)
  refine z_putF C hnm fp_Acts_18 0 rfl rfl rfl rfl [(h0, .inr (0, [.ref q1, .ref q2, .ref q3, .int 0, .int 0, .int 0, .int 0])), (q1, cI κ 16 (fun _ => 0)), (q2, cI κ 16 (fun _ => 0)), (q3, cI κ 17 (fun _ => 0))] rfl d_Acts_init_25 ?_
  exact ze_vret C (q1, q2, q3) hr hlk rfl d_Acts_init_28 trivial
abbrev rm_Touches_init : Room := { frames := 1, cells := 2, slots := 4, locals := 12 }
set_option maxHeartbeats 8000000 in
set_option maxRecDepth 100000 in
theorem ci_Touches (l : Launch) (D : va_G) (κ : KT) (h0 : Nat) (sz : Nat) : Met l y_Touches_init (wsG y_Touches_init b_Touches_init 1 none) rm_Touches_init (PX D κ [.ref h0] [(h0, .inr (8, [.null, .null, .int 0]))] sz) (va_Qv (fun (u : (Nat) × (Nat)) => True) (QB D [(h0, .inr (8, [.null, .null, .int 0]))] sz (fun (u : (Nat) × (Nat)) => [(h0, .inr (8, [.ref u.1, .ref u.2, .int 0])), (u.1, cI κ 2 (upd (upd (fun _ => 0) 0 (-20 : Int32)) 1 (-20 : Int32))), (u.2, cI κ 2 (upd (upd (fun _ => 0) 0 (20 : Int32)) 1 (20 : Int32)))])) (va_A [(h0, .inr (8, [.null, .null, .int 0]))] sz)) 2 4 (va_A [(h0, .inr (8, [.null, .null, .int 0]))] sz) := by
  refine zx_start [(0, .ref h0)] rfl (Nat.le_of_ble_eq_true rfl) rfl ?_
  intro p e s m args below meth c C hr hlk hnm hsz hO
  subst hsz
  refine z_aload C d_Touches_init_0 0 rfl ?_
  refine z_oinit C oi_Touches_1 (Nat.le_of_ble_eq_true rfl) (Nat.le_of_ble_eq_true rfl) d_Touches_init_1 ?_
  refine z_aload C d_Touches_init_4 0 rfl ?_
  refine z_k C d_Touches_init_5 ?_
  refine z_newa C (N := 2) wd_aI (by decide) (by decide) (by decide) (Nat.le_of_ble_eq_true rfl) (Nat.le_of_ble_eq_true rfl) d_Touches_init_6 (fun q1 => ?_)
  (try dsimp only)
  refine z_dup C d_Touches_init_8 rfl ?_
  refine z_k C d_Touches_init_9 ?_
  refine z_k C d_Touches_init_10 ?_
  refine z_iast C 1 rfl (by unfold vp_in; decide) [(h0, .inr (8, [.null, .null, .int 0])), (q1, cI κ 2 (upd (fun _ => 0) 0 (-20 : Int32)))] rfl d_Touches_init_12 ?_
  refine z_dup C d_Touches_init_13 rfl ?_
  refine z_k C d_Touches_init_14 ?_
  refine z_k C d_Touches_init_15 ?_
  refine z_iast C 1 rfl (by unfold vp_in; decide) [(h0, .inr (8, [.null, .null, .int 0])), (q1, cI κ 2 (upd (upd (fun _ => 0) 0 (-20 : Int32)) 1 (-20 : Int32)))] rfl d_Touches_init_17 ?_
  refine z_putF C hnm fp_Touches_9 0 rfl rfl rfl rfl [(h0, .inr (8, [.ref q1, .null, .int 0])), (q1, cI κ 2 (upd (upd (fun _ => 0) 0 (-20 : Int32)) 1 (-20 : Int32)))] rfl d_Touches_init_18 ?_
  refine z_aload C d_Touches_init_21 0 rfl ?_
  refine z_k C d_Touches_init_22 ?_
  refine z_newa C (N := 2) wd_aI (by decide) (by decide) (by decide) (Nat.le_of_ble_eq_true rfl) (Nat.le_of_ble_eq_true rfl) d_Touches_init_23 (fun q2 => ?_)
  (try dsimp only)
  refine z_dup C d_Touches_init_25 rfl ?_
  refine z_k C d_Touches_init_26 ?_
  refine z_k C d_Touches_init_27 ?_
  refine z_iast C 2 rfl (by unfold vp_in; decide) [(h0, .inr (8, [.ref q1, .null, .int 0])), (q1, cI κ 2 (upd (upd (fun _ => 0) 0 (-20 : Int32)) 1 (-20 : Int32))), (q2, cI κ 2 (upd (fun _ => 0) 0 (20 : Int32)))] rfl d_Touches_init_29 ?_
  refine z_dup C d_Touches_init_30 rfl ?_
  refine z_k C d_Touches_init_31 ?_
  refine z_k C d_Touches_init_32 ?_
  refine z_iast C 2 rfl (by unfold vp_in; decide) [(h0, .inr (8, [.ref q1, .null, .int 0])), (q1, cI κ 2 (upd (upd (fun _ => 0) 0 (-20 : Int32)) 1 (-20 : Int32))), (q2, cI κ 2 (upd (upd (fun _ => 0) 0 (20 : Int32)) 1 (20 : Int32)))] rfl d_Touches_init_34 ?_
  refine z_putF C hnm fp_Touches_13 0 rfl rfl rfl rfl [(h0, .inr (8, [.ref q1, .ref q2, .int 0])), (q1, cI κ 2 (upd (upd (fun _ => 0) 0 (-20 : Int32)) 1 (-20 : Int32))), (q2, cI κ 2 (upd (upd (fun _ => 0) 0 (20 : Int32)) 1 (20 : Int32)))] rfl d_Touches_init_35 ?_
  exact ze_vret C (q1, q2) hr hlk rfl d_Touches_init_38 trivial
abbrev rm_Cell_init : Room := { frames := 1, cells := 4, slots := 16, locals := 12 }
set_option maxHeartbeats 8000000 in
set_option maxRecDepth 100000 in
theorem ci_Cell (l : Launch) (D : va_G) (κ : KT) (h0 : Nat) (sz : Nat) : Met l y_Cell_init (wsG y_Cell_init b_Cell_init 1 none) rm_Cell_init (PX D κ [.ref h0] [(h0, .inr (1, [.int 0, .int 0, .int 0, .int 0, .int 0, .int 0, .int 0, .int 0, .null, .null, .null, .null]))] sz) (va_Qv (fun (u : (Nat) × (Nat) × (Nat) × (Nat)) => True) (QB D [(h0, .inr (1, [.int 0, .int 0, .int 0, .int 0, .int 0, .int 0, .int 0, .int 0, .null, .null, .null, .null]))] sz (fun (u : (Nat) × (Nat) × (Nat) × (Nat)) => [(h0, .inr (1, [.int 0, .int 0, .int 0, .int 0, .int (200 : Int32), .int (150 : Int32), .int (100 : Int32), .int 0, .ref u.1, .ref u.2.1, .ref u.2.2.1, .ref u.2.2.2])), (u.1, cI κ 4 (fun _ => 0)), (u.2.1, cI κ 4 (fun _ => 0)), (u.2.2.1, cI κ 4 (fun _ => 0)), (u.2.2.2, cI κ 4 (fun _ => 0))])) (va_A [(h0, .inr (1, [.int 0, .int 0, .int 0, .int 0, .int 0, .int 0, .int 0, .int 0, .null, .null, .null, .null]))] sz)) 4 16 (va_A [(h0, .inr (1, [.int 0, .int 0, .int 0, .int 0, .int 0, .int 0, .int 0, .int 0, .null, .null, .null, .null]))] sz) := by
  refine zx_start [(0, .ref h0)] rfl (Nat.le_of_ble_eq_true rfl) rfl ?_
  intro p e s m args below meth c C hr hlk hnm hsz hO
  subst hsz
  refine z_aload C d_Cell_init_0 0 rfl ?_
  refine z_oinit C oi_Cell_3 (Nat.le_of_ble_eq_true rfl) (Nat.le_of_ble_eq_true rfl) d_Cell_init_1 ?_
  refine z_aload C d_Cell_init_4 0 rfl ?_
  refine z_k C d_Cell_init_5 ?_
  refine z_put C fp_Cell_9 0 rfl rfl rfl rfl [(h0, .inr (1, [.int 0, .int 0, .int 0, .int 0, .int (200 : Int32), .int 0, .int 0, .int 0, .null, .null, .null, .null]))] rfl d_Cell_init_8 ?_
  refine z_aload C d_Cell_init_11 0 rfl ?_
  refine z_k C d_Cell_init_12 ?_
  refine z_put C fp_Cell_15 0 rfl rfl rfl rfl [(h0, .inr (1, [.int 0, .int 0, .int 0, .int 0, .int (200 : Int32), .int (150 : Int32), .int 0, .int 0, .null, .null, .null, .null]))] rfl d_Cell_init_15 ?_
  refine z_aload C d_Cell_init_18 0 rfl ?_
  refine z_k C d_Cell_init_19 ?_
  refine z_put C fp_Cell_18 0 rfl rfl rfl rfl [(h0, .inr (1, [.int 0, .int 0, .int 0, .int 0, .int (200 : Int32), .int (150 : Int32), .int (100 : Int32), .int 0, .null, .null, .null, .null]))] rfl d_Cell_init_21 ?_
  refine z_aload C d_Cell_init_24 0 rfl ?_
  refine z_k C d_Cell_init_25 ?_
  refine z_newa C (N := 4) wd_aI (by decide) (by decide) (by decide) (Nat.le_of_ble_eq_true rfl) (Nat.le_of_ble_eq_true rfl) d_Cell_init_26 (fun q1 => ?_)
  (try dsimp only)
  refine z_putF C hnm fp_Cell_21 0 rfl rfl rfl rfl [(h0, .inr (1, [.int 0, .int 0, .int 0, .int 0, .int (200 : Int32), .int (150 : Int32), .int (100 : Int32), .int 0, .ref q1, .null, .null, .null])), (q1, cI κ 4 (fun _ => 0))] rfl d_Cell_init_28 ?_
  refine z_aload C d_Cell_init_31 0 rfl ?_
  refine z_k C d_Cell_init_32 ?_
  refine z_newa C (N := 4) wd_aI (by decide) (by decide) (by decide) (Nat.le_of_ble_eq_true rfl) (Nat.le_of_ble_eq_true rfl) d_Cell_init_33 (fun q2 => ?_)
  (try dsimp only)
  refine z_putF C hnm fp_Cell_25 0 rfl rfl rfl rfl [(h0, .inr (1, [.int 0, .int 0, .int 0, .int 0, .int (200 : Int32), .int (150 : Int32), .int (100 : Int32), .int 0, .ref q1, .ref q2, .null, .null])), (q1, cI κ 4 (fun _ => 0)), (q2, cI κ 4 (fun _ => 0))] rfl d_Cell_init_35 ?_
  refine z_aload C d_Cell_init_38 0 rfl ?_
  refine z_k C d_Cell_init_39 ?_
  refine z_newa C (N := 4) wd_aI (by decide) (by decide) (by decide) (Nat.le_of_ble_eq_true rfl) (Nat.le_of_ble_eq_true rfl) d_Cell_init_40 (fun q3 => ?_)
  (try dsimp only)
  refine z_putF C hnm fp_Cell_28 0 rfl rfl rfl rfl [(h0, .inr (1, [.int 0, .int 0, .int 0, .int 0, .int (200 : Int32), .int (150 : Int32), .int (100 : Int32), .int 0, .ref q1, .ref q2, .ref q3, .null])), (q1, cI κ 4 (fun _ => 0)), (q2, cI κ 4 (fun _ => 0)), (q3, cI κ 4 (fun _ => 0))] rfl d_Cell_init_42 ?_
  refine z_aload C d_Cell_init_45 0 rfl ?_
  refine z_k C d_Cell_init_46 ?_
  refine z_newa C (N := 4) wd_aI (by decide) (by decide) (by decide) (Nat.le_of_ble_eq_true rfl) (Nat.le_of_ble_eq_true rfl) d_Cell_init_47 (fun q4 => ?_)
  (try dsimp only)
  refine z_putF C hnm fp_Cell_31 0 rfl rfl rfl rfl [(h0, .inr (1, [.int 0, .int 0, .int 0, .int 0, .int (200 : Int32), .int (150 : Int32), .int (100 : Int32), .int 0, .ref q1, .ref q2, .ref q3, .ref q4])), (q1, cI κ 4 (fun _ => 0)), (q2, cI κ 4 (fun _ => 0)), (q3, cI κ 4 (fun _ => 0)), (q4, cI κ 4 (fun _ => 0))] rfl d_Cell_init_49 ?_
  exact ze_vret C (q1, q2, q3, q4) hr hlk rfl d_Cell_init_52 trivial
abbrev rm_Pace_init : Room := { frames := 1, cells := 0, slots := 0, locals := 12 }
set_option maxHeartbeats 8000000 in
set_option maxRecDepth 100000 in
theorem ci_Pace (l : Launch) (D : va_G) (κ : KT) (h0 : Nat) (b0 : Nat) (sz : Nat) : Met l y_Pace_init (wsG y_Pace_init b_Pace_init 2 none) rm_Pace_init (PX D κ [.ref h0, .ref b0] [(h0, .inr (3, [.null, .int 0, .int 0, .int 0, .int 0, .int 0, .int 0]))] sz) (va_Qv (fun (u : Unit) => True) (QB D [(h0, .inr (3, [.null, .int 0, .int 0, .int 0, .int 0, .int 0, .int 0]))] sz (fun (u : Unit) => [(h0, .inr (3, [.ref b0, .int (10 : Int32), .int (20 : Int32), .int (5 : Int32), .int (10 : Int32), .int (0 : Int32), .int (300 : Int32)]))])) (va_A [(h0, .inr (3, [.null, .int 0, .int 0, .int 0, .int 0, .int 0, .int 0]))] sz)) 0 0 (va_A [(h0, .inr (3, [.null, .int 0, .int 0, .int 0, .int 0, .int 0, .int 0]))] sz) := by
  refine zx_start [(0, .ref h0), (1, .ref b0)] rfl (Nat.le_of_ble_eq_true rfl) rfl ?_
  intro p e s m args below meth c C hr hlk hnm hsz hO
  subst hsz
  refine z_aload C d_Pace_init_0 0 rfl ?_
  refine z_oinit C oi_Pace_3 (Nat.le_of_ble_eq_true rfl) (Nat.le_of_ble_eq_true rfl) d_Pace_init_1 ?_
  refine z_aload C d_Pace_init_4 0 rfl ?_
  refine z_k C d_Pace_init_5 ?_
  refine z_put C fp_Pace_9 0 rfl rfl rfl rfl [(h0, .inr (3, [.null, .int (10 : Int32), .int 0, .int 0, .int 0, .int 0, .int 0]))] rfl d_Pace_init_7 ?_
  refine z_aload C d_Pace_init_10 0 rfl ?_
  refine z_k C d_Pace_init_11 ?_
  refine z_put C fp_Pace_15 0 rfl rfl rfl rfl [(h0, .inr (3, [.null, .int (10 : Int32), .int (20 : Int32), .int 0, .int 0, .int 0, .int 0]))] rfl d_Pace_init_13 ?_
  refine z_aload C d_Pace_init_16 0 rfl ?_
  refine z_k C d_Pace_init_17 ?_
  refine z_put C fp_Pace_18 0 rfl rfl rfl rfl [(h0, .inr (3, [.null, .int (10 : Int32), .int (20 : Int32), .int (5 : Int32), .int 0, .int 0, .int 0]))] rfl d_Pace_init_18 ?_
  refine z_aload C d_Pace_init_21 0 rfl ?_
  refine z_k C d_Pace_init_22 ?_
  refine z_put C fp_Pace_21 0 rfl rfl rfl rfl [(h0, .inr (3, [.null, .int (10 : Int32), .int (20 : Int32), .int (5 : Int32), .int (10 : Int32), .int 0, .int 0]))] rfl d_Pace_init_24 ?_
  refine z_aload C d_Pace_init_27 0 rfl ?_
  refine z_k C d_Pace_init_28 ?_
  refine z_put C fp_Pace_24 0 rfl rfl rfl rfl [(h0, .inr (3, [.null, .int (10 : Int32), .int (20 : Int32), .int (5 : Int32), .int (10 : Int32), .int (0 : Int32), .int 0]))] rfl d_Pace_init_29 ?_
  refine z_aload C d_Pace_init_32 0 rfl ?_
  refine z_k C d_Pace_init_33 ?_
  refine z_put C fp_Pace_27 0 rfl rfl rfl rfl [(h0, .inr (3, [.null, .int (10 : Int32), .int (20 : Int32), .int (5 : Int32), .int (10 : Int32), .int (0 : Int32), .int (300 : Int32)]))] rfl d_Pace_init_36 ?_
  refine z_aload C d_Pace_init_39 0 rfl ?_
  refine z_aload C d_Pace_init_40 1 rfl ?_
  refine z_putF C hnm fp_Pace_30 0 rfl rfl rfl rfl [(h0, .inr (3, [.ref b0, .int (10 : Int32), .int (20 : Int32), .int (5 : Int32), .int (10 : Int32), .int (0 : Int32), .int (300 : Int32)]))] rfl d_Pace_init_41 ?_
  exact ze_vret C () hr hlk rfl d_Pace_init_44 trivial
abbrev rm_Part_init : Room := { frames := 2, cells := 9, slots := 64, locals := 32 }
set_option maxHeartbeats 8000000 in
set_option maxRecDepth 100000 in
theorem ci_Part (l : Launch) (D : va_G) (κ : KT) (h0 : Nat) (b0 : Nat) (sz : Nat) : Met l y_Part_init (wsG y_Part_init b_Part_init 3 none) rm_Part_init (PX D κ [.ref h0, .ref b0] [(h0, .inr (4, [.null, .null, .int 0, .int 0]))] sz) (va_Qv (fun (u : (Nat) × (Nat → Nat)) => True) (QB D [(h0, .inr (4, [.null, .null, .int 0, .int 0]))] sz (fun (u : (Nat) × (Nat → Nat)) => [(h0, .inr (4, [.ref b0, .ref u.1, .int 0, .int (20 : Int32)])), (u.1, cS κ 8 (fun i => some (u.2 i))), ((u.2 0), .inr (6, [.int 0, .int 0, .int 0, .int 0, .int 0, .int 0, .int 0])), ((u.2 1), .inr (6, [.int 0, .int 0, .int 0, .int 0, .int 0, .int 0, .int 0])), ((u.2 2), .inr (6, [.int 0, .int 0, .int 0, .int 0, .int 0, .int 0, .int 0])), ((u.2 3), .inr (6, [.int 0, .int 0, .int 0, .int 0, .int 0, .int 0, .int 0])), ((u.2 4), .inr (6, [.int 0, .int 0, .int 0, .int 0, .int 0, .int 0, .int 0])), ((u.2 5), .inr (6, [.int 0, .int 0, .int 0, .int 0, .int 0, .int 0, .int 0])), ((u.2 6), .inr (6, [.int 0, .int 0, .int 0, .int 0, .int 0, .int 0, .int 0])), ((u.2 7), .inr (6, [.int 0, .int 0, .int 0, .int 0, .int 0, .int 0, .int 0]))])) (va_A [(h0, .inr (4, [.null, .null, .int 0, .int 0]))] sz)) 9 64 (va_A [(h0, .inr (4, [.null, .null, .int 0, .int 0]))] sz) := by
  refine zx_start [(0, .ref h0), (1, .ref b0)] rfl (Nat.le_of_ble_eq_true rfl) rfl ?_
  intro p e s m args below meth c C hr hlk hnm hsz hO
  subst hsz
  refine z_aload C d_Part_init_0 0 rfl ?_
  refine z_oinit C oi_Part_3 (Nat.le_of_ble_eq_true rfl) (Nat.le_of_ble_eq_true rfl) d_Part_init_1 ?_
  refine z_aload C d_Part_init_4 0 rfl ?_
  refine z_k C d_Part_init_5 ?_
  refine z_anew C (N := 8) cl_Part_9 hO (by decide) (by decide) (by decide) (Nat.le_of_ble_eq_true rfl) (Nat.le_of_ble_eq_true rfl) d_Part_init_7 (fun q1 => ?_)
  (try dsimp only)
  refine z_putF C hnm fp_Part_11 0 rfl rfl rfl rfl [(h0, .inr (4, [.null, .ref q1, .int 0, .int 0])), (q1, cS κ 8 (fun _ => none))] rfl d_Part_init_10 ?_
  refine z_aload C d_Part_init_13 0 rfl ?_
  refine z_k C d_Part_init_14 ?_
  refine z_put C fp_Part_17 0 rfl rfl rfl rfl [(h0, .inr (4, [.null, .ref q1, .int 0, .int (20 : Int32)])), (q1, cS κ 8 (fun _ => none))] rfl d_Part_init_16 ?_
  refine z_aload C d_Part_init_19 0 rfl ?_
  refine z_aload C d_Part_init_20 1 rfl ?_
  refine z_putF C hnm fp_Part_21 0 rfl rfl rfl rfl [(h0, .inr (4, [.ref b0, .ref q1, .int 0, .int (20 : Int32)])), (q1, cS κ 8 (fun _ => none))] rfl d_Part_init_21 ?_
  refine z_k C d_Part_init_24 ?_
  refine z_istore C [(2, .int (0 : Int32)), (0, .ref h0), (1, .ref b0)] d_Part_init_25 rfl rfl ?_
  refine z_iload C d_Part_init_26 0 rfl ?_
  refine z_k C d_Part_init_27 ?_
  refine z_icmp_ge C d_Part_init_29 (fun c9 => absurd c9 (by decide)) (fun _ => ?_)
  refine z_aload C d_Part_init_32 1 rfl ?_
  refine z_get C fl_Part_11 0 rfl rfl d_Part_init_33 ?_
  refine z_iload C d_Part_init_36 0 rfl ?_
  refine z_new C nw_Part_9 (Nat.le_of_ble_eq_true rfl) (Nat.le_of_ble_eq_true rfl) d_Part_init_37 (fun q2 => ?_)
  (try dsimp only)
  refine z_dup C d_Part_init_40 rfl ?_
  refine z_cni C (host := "SeamCell") (rest := [.ref q2, .int (0 : Int32), .ref q1]) (wr := [(h0, .inr (4, [.ref b0, .ref q1, .int 0, .int (20 : Int32)])), (q1, cS κ 8 (fun _ => none))]) hO (fun sz => ci_Seam l D κ q2 sz) in_Part_25 ⟨rfl, rfl⟩ ⟨(Nat.le_of_ble_eq_true rfl), (Nat.le_of_ble_eq_true rfl)⟩ ⟨(Nat.le_of_ble_eq_true rfl), (Nat.le_of_ble_eq_true rfl)⟩ [2] [0, 1] rfl rfl rfl rfl rfl (Nat.le_of_ble_eq_true rfl) d_Part_init_41 (fun u3 _ => ?_)
  (try dsimp only)
  refine z_aast C 1 2 rfl rfl (by unfold vp_in; decide) [(h0, .inr (4, [.ref b0, .ref q1, .int 0, .int (20 : Int32)])), (q1, cS κ 8 (va_up (fun _ => none) 0 (some q2))), (q2, .inr (6, [.int 0, .int 0, .int 0, .int 0, .int 0, .int 0, .int 0]))] rfl d_Part_init_44 ?_
  refine z_iinc C (v := (1 : Int32)) [(2, .int (1 : Int32)), (0, .ref h0), (1, .ref b0)] d_Part_init_45 (j := 0) rfl (by decide) rfl rfl ?_
  refine z_goto C d_Part_init_48 ?_
  refine z_iload C d_Part_init_26 0 rfl ?_
  refine z_k C d_Part_init_27 ?_
  refine z_icmp_ge C d_Part_init_29 (fun c9 => absurd c9 (by decide)) (fun _ => ?_)
  refine z_aload C d_Part_init_32 1 rfl ?_
  refine z_get C fl_Part_11 0 rfl rfl d_Part_init_33 ?_
  refine z_iload C d_Part_init_36 0 rfl ?_
  refine z_new C nw_Part_9 (Nat.le_of_ble_eq_true rfl) (Nat.le_of_ble_eq_true rfl) d_Part_init_37 (fun q4 => ?_)
  (try dsimp only)
  refine z_dup C d_Part_init_40 rfl ?_
  refine z_cni C (host := "SeamCell") (rest := [.ref q4, .int (1 : Int32), .ref q1]) (wr := [(h0, .inr (4, [.ref b0, .ref q1, .int 0, .int (20 : Int32)])), (q1, cS κ 8 (va_up (fun _ => none) 0 (some q2))), (q2, .inr (6, [.int 0, .int 0, .int 0, .int 0, .int 0, .int 0, .int 0]))]) hO (fun sz => ci_Seam l D κ q4 sz) in_Part_25 ⟨rfl, rfl⟩ ⟨(Nat.le_of_ble_eq_true rfl), (Nat.le_of_ble_eq_true rfl)⟩ ⟨(Nat.le_of_ble_eq_true rfl), (Nat.le_of_ble_eq_true rfl)⟩ [3] [0, 1, 2] rfl rfl rfl rfl rfl (Nat.le_of_ble_eq_true rfl) d_Part_init_41 (fun u5 _ => ?_)
  (try dsimp only)
  refine z_aast C 1 3 rfl rfl (by unfold vp_in; decide) [(h0, .inr (4, [.ref b0, .ref q1, .int 0, .int (20 : Int32)])), (q1, cS κ 8 (va_up (va_up (fun _ => none) 0 (some q2)) 1 (some q4))), (q2, .inr (6, [.int 0, .int 0, .int 0, .int 0, .int 0, .int 0, .int 0])), (q4, .inr (6, [.int 0, .int 0, .int 0, .int 0, .int 0, .int 0, .int 0]))] rfl d_Part_init_44 ?_
  refine z_iinc C (v := (2 : Int32)) [(2, .int (2 : Int32)), (0, .ref h0), (1, .ref b0)] d_Part_init_45 (j := 0) rfl (by decide) rfl rfl ?_
  refine z_goto C d_Part_init_48 ?_
  refine z_iload C d_Part_init_26 0 rfl ?_
  refine z_k C d_Part_init_27 ?_
  refine z_icmp_ge C d_Part_init_29 (fun c9 => absurd c9 (by decide)) (fun _ => ?_)
  refine z_aload C d_Part_init_32 1 rfl ?_
  refine z_get C fl_Part_11 0 rfl rfl d_Part_init_33 ?_
  refine z_iload C d_Part_init_36 0 rfl ?_
  refine z_new C nw_Part_9 (Nat.le_of_ble_eq_true rfl) (Nat.le_of_ble_eq_true rfl) d_Part_init_37 (fun q6 => ?_)
  (try dsimp only)
  refine z_dup C d_Part_init_40 rfl ?_
  refine z_cni C (host := "SeamCell") (rest := [.ref q6, .int (2 : Int32), .ref q1]) (wr := [(h0, .inr (4, [.ref b0, .ref q1, .int 0, .int (20 : Int32)])), (q1, cS κ 8 (va_up (va_up (fun _ => none) 0 (some q2)) 1 (some q4))), (q2, .inr (6, [.int 0, .int 0, .int 0, .int 0, .int 0, .int 0, .int 0])), (q4, .inr (6, [.int 0, .int 0, .int 0, .int 0, .int 0, .int 0, .int 0]))]) hO (fun sz => ci_Seam l D κ q6 sz) in_Part_25 ⟨rfl, rfl⟩ ⟨(Nat.le_of_ble_eq_true rfl), (Nat.le_of_ble_eq_true rfl)⟩ ⟨(Nat.le_of_ble_eq_true rfl), (Nat.le_of_ble_eq_true rfl)⟩ [4] [0, 1, 2, 3] rfl rfl rfl rfl rfl (Nat.le_of_ble_eq_true rfl) d_Part_init_41 (fun u7 _ => ?_)
  (try dsimp only)
  refine z_aast C 1 4 rfl rfl (by unfold vp_in; decide) [(h0, .inr (4, [.ref b0, .ref q1, .int 0, .int (20 : Int32)])), (q1, cS κ 8 (va_up (va_up (va_up (fun _ => none) 0 (some q2)) 1 (some q4)) 2 (some q6))), (q2, .inr (6, [.int 0, .int 0, .int 0, .int 0, .int 0, .int 0, .int 0])), (q4, .inr (6, [.int 0, .int 0, .int 0, .int 0, .int 0, .int 0, .int 0])), (q6, .inr (6, [.int 0, .int 0, .int 0, .int 0, .int 0, .int 0, .int 0]))] rfl d_Part_init_44 ?_
  refine z_iinc C (v := (3 : Int32)) [(2, .int (3 : Int32)), (0, .ref h0), (1, .ref b0)] d_Part_init_45 (j := 0) rfl (by decide) rfl rfl ?_
  refine z_goto C d_Part_init_48 ?_
  refine z_iload C d_Part_init_26 0 rfl ?_
  refine z_k C d_Part_init_27 ?_
  refine z_icmp_ge C d_Part_init_29 (fun c9 => absurd c9 (by decide)) (fun _ => ?_)
  refine z_aload C d_Part_init_32 1 rfl ?_
  refine z_get C fl_Part_11 0 rfl rfl d_Part_init_33 ?_
  refine z_iload C d_Part_init_36 0 rfl ?_
  refine z_new C nw_Part_9 (Nat.le_of_ble_eq_true rfl) (Nat.le_of_ble_eq_true rfl) d_Part_init_37 (fun q8 => ?_)
  (try dsimp only)
  refine z_dup C d_Part_init_40 rfl ?_
  refine z_cni C (host := "SeamCell") (rest := [.ref q8, .int (3 : Int32), .ref q1]) (wr := [(h0, .inr (4, [.ref b0, .ref q1, .int 0, .int (20 : Int32)])), (q1, cS κ 8 (va_up (va_up (va_up (fun _ => none) 0 (some q2)) 1 (some q4)) 2 (some q6))), (q2, .inr (6, [.int 0, .int 0, .int 0, .int 0, .int 0, .int 0, .int 0])), (q4, .inr (6, [.int 0, .int 0, .int 0, .int 0, .int 0, .int 0, .int 0])), (q6, .inr (6, [.int 0, .int 0, .int 0, .int 0, .int 0, .int 0, .int 0]))]) hO (fun sz => ci_Seam l D κ q8 sz) in_Part_25 ⟨rfl, rfl⟩ ⟨(Nat.le_of_ble_eq_true rfl), (Nat.le_of_ble_eq_true rfl)⟩ ⟨(Nat.le_of_ble_eq_true rfl), (Nat.le_of_ble_eq_true rfl)⟩ [5] [0, 1, 2, 3, 4] rfl rfl rfl rfl rfl (Nat.le_of_ble_eq_true rfl) d_Part_init_41 (fun u9 _ => ?_)
  (try dsimp only)
  refine z_aast C 1 5 rfl rfl (by unfold vp_in; decide) [(h0, .inr (4, [.ref b0, .ref q1, .int 0, .int (20 : Int32)])), (q1, cS κ 8 (va_up (va_up (va_up (va_up (fun _ => none) 0 (some q2)) 1 (some q4)) 2 (some q6)) 3 (some q8))), (q2, .inr (6, [.int 0, .int 0, .int 0, .int 0, .int 0, .int 0, .int 0])), (q4, .inr (6, [.int 0, .int 0, .int 0, .int 0, .int 0, .int 0, .int 0])), (q6, .inr (6, [.int 0, .int 0, .int 0, .int 0, .int 0, .int 0, .int 0])), (q8, .inr (6, [.int 0, .int 0, .int 0, .int 0, .int 0, .int 0, .int 0]))] rfl d_Part_init_44 ?_
  refine z_iinc C (v := (4 : Int32)) [(2, .int (4 : Int32)), (0, .ref h0), (1, .ref b0)] d_Part_init_45 (j := 0) rfl (by decide) rfl rfl ?_
  refine z_goto C d_Part_init_48 ?_
  refine z_iload C d_Part_init_26 0 rfl ?_
  refine z_k C d_Part_init_27 ?_
  refine z_icmp_ge C d_Part_init_29 (fun c9 => absurd c9 (by decide)) (fun _ => ?_)
  refine z_aload C d_Part_init_32 1 rfl ?_
  refine z_get C fl_Part_11 0 rfl rfl d_Part_init_33 ?_
  refine z_iload C d_Part_init_36 0 rfl ?_
  refine z_new C nw_Part_9 (Nat.le_of_ble_eq_true rfl) (Nat.le_of_ble_eq_true rfl) d_Part_init_37 (fun q10 => ?_)
  (try dsimp only)
  refine z_dup C d_Part_init_40 rfl ?_
  refine z_cni C (host := "SeamCell") (rest := [.ref q10, .int (4 : Int32), .ref q1]) (wr := [(h0, .inr (4, [.ref b0, .ref q1, .int 0, .int (20 : Int32)])), (q1, cS κ 8 (va_up (va_up (va_up (va_up (fun _ => none) 0 (some q2)) 1 (some q4)) 2 (some q6)) 3 (some q8))), (q2, .inr (6, [.int 0, .int 0, .int 0, .int 0, .int 0, .int 0, .int 0])), (q4, .inr (6, [.int 0, .int 0, .int 0, .int 0, .int 0, .int 0, .int 0])), (q6, .inr (6, [.int 0, .int 0, .int 0, .int 0, .int 0, .int 0, .int 0])), (q8, .inr (6, [.int 0, .int 0, .int 0, .int 0, .int 0, .int 0, .int 0]))]) hO (fun sz => ci_Seam l D κ q10 sz) in_Part_25 ⟨rfl, rfl⟩ ⟨(Nat.le_of_ble_eq_true rfl), (Nat.le_of_ble_eq_true rfl)⟩ ⟨(Nat.le_of_ble_eq_true rfl), (Nat.le_of_ble_eq_true rfl)⟩ [6] [0, 1, 2, 3, 4, 5] rfl rfl rfl rfl rfl (Nat.le_of_ble_eq_true rfl) d_Part_init_41 (fun u11 _ => ?_)
  (try dsimp only)
  refine z_aast C 1 6 rfl rfl (by unfold vp_in; decide) [(h0, .inr (4, [.ref b0, .ref q1, .int 0, .int (20 : Int32)])), (q1, cS κ 8 (va_up (va_up (va_up (va_up (va_up (fun _ => none) 0 (some q2)) 1 (some q4)) 2 (some q6)) 3 (some q8)) 4 (some q10))), (q2, .inr (6, [.int 0, .int 0, .int 0, .int 0, .int 0, .int 0, .int 0])), (q4, .inr (6, [.int 0, .int 0, .int 0, .int 0, .int 0, .int 0, .int 0])), (q6, .inr (6, [.int 0, .int 0, .int 0, .int 0, .int 0, .int 0, .int 0])), (q8, .inr (6, [.int 0, .int 0, .int 0, .int 0, .int 0, .int 0, .int 0])), (q10, .inr (6, [.int 0, .int 0, .int 0, .int 0, .int 0, .int 0, .int 0]))] rfl d_Part_init_44 ?_
  refine z_iinc C (v := (5 : Int32)) [(2, .int (5 : Int32)), (0, .ref h0), (1, .ref b0)] d_Part_init_45 (j := 0) rfl (by decide) rfl rfl ?_
  refine z_goto C d_Part_init_48 ?_
  refine z_iload C d_Part_init_26 0 rfl ?_
  refine z_k C d_Part_init_27 ?_
  refine z_icmp_ge C d_Part_init_29 (fun c9 => absurd c9 (by decide)) (fun _ => ?_)
  refine z_aload C d_Part_init_32 1 rfl ?_
  refine z_get C fl_Part_11 0 rfl rfl d_Part_init_33 ?_
  refine z_iload C d_Part_init_36 0 rfl ?_
  refine z_new C nw_Part_9 (Nat.le_of_ble_eq_true rfl) (Nat.le_of_ble_eq_true rfl) d_Part_init_37 (fun q12 => ?_)
  (try dsimp only)
  refine z_dup C d_Part_init_40 rfl ?_
  refine z_cni C (host := "SeamCell") (rest := [.ref q12, .int (5 : Int32), .ref q1]) (wr := [(h0, .inr (4, [.ref b0, .ref q1, .int 0, .int (20 : Int32)])), (q1, cS κ 8 (va_up (va_up (va_up (va_up (va_up (fun _ => none) 0 (some q2)) 1 (some q4)) 2 (some q6)) 3 (some q8)) 4 (some q10))), (q2, .inr (6, [.int 0, .int 0, .int 0, .int 0, .int 0, .int 0, .int 0])), (q4, .inr (6, [.int 0, .int 0, .int 0, .int 0, .int 0, .int 0, .int 0])), (q6, .inr (6, [.int 0, .int 0, .int 0, .int 0, .int 0, .int 0, .int 0])), (q8, .inr (6, [.int 0, .int 0, .int 0, .int 0, .int 0, .int 0, .int 0])), (q10, .inr (6, [.int 0, .int 0, .int 0, .int 0, .int 0, .int 0, .int 0]))]) hO (fun sz => ci_Seam l D κ q12 sz) in_Part_25 ⟨rfl, rfl⟩ ⟨(Nat.le_of_ble_eq_true rfl), (Nat.le_of_ble_eq_true rfl)⟩ ⟨(Nat.le_of_ble_eq_true rfl), (Nat.le_of_ble_eq_true rfl)⟩ [7] [0, 1, 2, 3, 4, 5, 6] rfl rfl rfl rfl rfl (Nat.le_of_ble_eq_true rfl) d_Part_init_41 (fun u13 _ => ?_)
  (try dsimp only)
  refine z_aast C 1 7 rfl rfl (by unfold vp_in; decide) [(h0, .inr (4, [.ref b0, .ref q1, .int 0, .int (20 : Int32)])), (q1, cS κ 8 (va_up (va_up (va_up (va_up (va_up (va_up (fun _ => none) 0 (some q2)) 1 (some q4)) 2 (some q6)) 3 (some q8)) 4 (some q10)) 5 (some q12))), (q2, .inr (6, [.int 0, .int 0, .int 0, .int 0, .int 0, .int 0, .int 0])), (q4, .inr (6, [.int 0, .int 0, .int 0, .int 0, .int 0, .int 0, .int 0])), (q6, .inr (6, [.int 0, .int 0, .int 0, .int 0, .int 0, .int 0, .int 0])), (q8, .inr (6, [.int 0, .int 0, .int 0, .int 0, .int 0, .int 0, .int 0])), (q10, .inr (6, [.int 0, .int 0, .int 0, .int 0, .int 0, .int 0, .int 0])), (q12, .inr (6, [.int 0, .int 0, .int 0, .int 0, .int 0, .int 0, .int 0]))] rfl d_Part_init_44 ?_
  refine z_iinc C (v := (6 : Int32)) [(2, .int (6 : Int32)), (0, .ref h0), (1, .ref b0)] d_Part_init_45 (j := 0) rfl (by decide) rfl rfl ?_
  refine z_goto C d_Part_init_48 ?_
  refine z_iload C d_Part_init_26 0 rfl ?_
  refine z_k C d_Part_init_27 ?_
  refine z_icmp_ge C d_Part_init_29 (fun c9 => absurd c9 (by decide)) (fun _ => ?_)
  refine z_aload C d_Part_init_32 1 rfl ?_
  refine z_get C fl_Part_11 0 rfl rfl d_Part_init_33 ?_
  refine z_iload C d_Part_init_36 0 rfl ?_
  refine z_new C nw_Part_9 (Nat.le_of_ble_eq_true rfl) (Nat.le_of_ble_eq_true rfl) d_Part_init_37 (fun q14 => ?_)
  (try dsimp only)
  refine z_dup C d_Part_init_40 rfl ?_
  refine z_cni C (host := "SeamCell") (rest := [.ref q14, .int (6 : Int32), .ref q1]) (wr := [(h0, .inr (4, [.ref b0, .ref q1, .int 0, .int (20 : Int32)])), (q1, cS κ 8 (va_up (va_up (va_up (va_up (va_up (va_up (fun _ => none) 0 (some q2)) 1 (some q4)) 2 (some q6)) 3 (some q8)) 4 (some q10)) 5 (some q12))), (q2, .inr (6, [.int 0, .int 0, .int 0, .int 0, .int 0, .int 0, .int 0])), (q4, .inr (6, [.int 0, .int 0, .int 0, .int 0, .int 0, .int 0, .int 0])), (q6, .inr (6, [.int 0, .int 0, .int 0, .int 0, .int 0, .int 0, .int 0])), (q8, .inr (6, [.int 0, .int 0, .int 0, .int 0, .int 0, .int 0, .int 0])), (q10, .inr (6, [.int 0, .int 0, .int 0, .int 0, .int 0, .int 0, .int 0])), (q12, .inr (6, [.int 0, .int 0, .int 0, .int 0, .int 0, .int 0, .int 0]))]) hO (fun sz => ci_Seam l D κ q14 sz) in_Part_25 ⟨rfl, rfl⟩ ⟨(Nat.le_of_ble_eq_true rfl), (Nat.le_of_ble_eq_true rfl)⟩ ⟨(Nat.le_of_ble_eq_true rfl), (Nat.le_of_ble_eq_true rfl)⟩ [8] [0, 1, 2, 3, 4, 5, 6, 7] rfl rfl rfl rfl rfl (Nat.le_of_ble_eq_true rfl) d_Part_init_41 (fun u15 _ => ?_)
  (try dsimp only)
  refine z_aast C 1 8 rfl rfl (by unfold vp_in; decide) [(h0, .inr (4, [.ref b0, .ref q1, .int 0, .int (20 : Int32)])), (q1, cS κ 8 (va_up (va_up (va_up (va_up (va_up (va_up (va_up (fun _ => none) 0 (some q2)) 1 (some q4)) 2 (some q6)) 3 (some q8)) 4 (some q10)) 5 (some q12)) 6 (some q14))), (q2, .inr (6, [.int 0, .int 0, .int 0, .int 0, .int 0, .int 0, .int 0])), (q4, .inr (6, [.int 0, .int 0, .int 0, .int 0, .int 0, .int 0, .int 0])), (q6, .inr (6, [.int 0, .int 0, .int 0, .int 0, .int 0, .int 0, .int 0])), (q8, .inr (6, [.int 0, .int 0, .int 0, .int 0, .int 0, .int 0, .int 0])), (q10, .inr (6, [.int 0, .int 0, .int 0, .int 0, .int 0, .int 0, .int 0])), (q12, .inr (6, [.int 0, .int 0, .int 0, .int 0, .int 0, .int 0, .int 0])), (q14, .inr (6, [.int 0, .int 0, .int 0, .int 0, .int 0, .int 0, .int 0]))] rfl d_Part_init_44 ?_
  refine z_iinc C (v := (7 : Int32)) [(2, .int (7 : Int32)), (0, .ref h0), (1, .ref b0)] d_Part_init_45 (j := 0) rfl (by decide) rfl rfl ?_
  refine z_goto C d_Part_init_48 ?_
  refine z_iload C d_Part_init_26 0 rfl ?_
  refine z_k C d_Part_init_27 ?_
  refine z_icmp_ge C d_Part_init_29 (fun c9 => absurd c9 (by decide)) (fun _ => ?_)
  refine z_aload C d_Part_init_32 1 rfl ?_
  refine z_get C fl_Part_11 0 rfl rfl d_Part_init_33 ?_
  refine z_iload C d_Part_init_36 0 rfl ?_
  refine z_new C nw_Part_9 (Nat.le_of_ble_eq_true rfl) (Nat.le_of_ble_eq_true rfl) d_Part_init_37 (fun q16 => ?_)
  (try dsimp only)
  refine z_dup C d_Part_init_40 rfl ?_
  refine z_cni C (host := "SeamCell") (rest := [.ref q16, .int (7 : Int32), .ref q1]) (wr := [(h0, .inr (4, [.ref b0, .ref q1, .int 0, .int (20 : Int32)])), (q1, cS κ 8 (va_up (va_up (va_up (va_up (va_up (va_up (va_up (fun _ => none) 0 (some q2)) 1 (some q4)) 2 (some q6)) 3 (some q8)) 4 (some q10)) 5 (some q12)) 6 (some q14))), (q2, .inr (6, [.int 0, .int 0, .int 0, .int 0, .int 0, .int 0, .int 0])), (q4, .inr (6, [.int 0, .int 0, .int 0, .int 0, .int 0, .int 0, .int 0])), (q6, .inr (6, [.int 0, .int 0, .int 0, .int 0, .int 0, .int 0, .int 0])), (q8, .inr (6, [.int 0, .int 0, .int 0, .int 0, .int 0, .int 0, .int 0])), (q10, .inr (6, [.int 0, .int 0, .int 0, .int 0, .int 0, .int 0, .int 0])), (q12, .inr (6, [.int 0, .int 0, .int 0, .int 0, .int 0, .int 0, .int 0])), (q14, .inr (6, [.int 0, .int 0, .int 0, .int 0, .int 0, .int 0, .int 0]))]) hO (fun sz => ci_Seam l D κ q16 sz) in_Part_25 ⟨rfl, rfl⟩ ⟨(Nat.le_of_ble_eq_true rfl), (Nat.le_of_ble_eq_true rfl)⟩ ⟨(Nat.le_of_ble_eq_true rfl), (Nat.le_of_ble_eq_true rfl)⟩ [9] [0, 1, 2, 3, 4, 5, 6, 7, 8] rfl rfl rfl rfl rfl (Nat.le_of_ble_eq_true rfl) d_Part_init_41 (fun u17 _ => ?_)
  (try dsimp only)
  refine z_aast C 1 9 rfl rfl (by unfold vp_in; decide) [(h0, .inr (4, [.ref b0, .ref q1, .int 0, .int (20 : Int32)])), (q1, cS κ 8 (va_up (va_up (va_up (va_up (va_up (va_up (va_up (va_up (fun _ => none) 0 (some q2)) 1 (some q4)) 2 (some q6)) 3 (some q8)) 4 (some q10)) 5 (some q12)) 6 (some q14)) 7 (some q16))), (q2, .inr (6, [.int 0, .int 0, .int 0, .int 0, .int 0, .int 0, .int 0])), (q4, .inr (6, [.int 0, .int 0, .int 0, .int 0, .int 0, .int 0, .int 0])), (q6, .inr (6, [.int 0, .int 0, .int 0, .int 0, .int 0, .int 0, .int 0])), (q8, .inr (6, [.int 0, .int 0, .int 0, .int 0, .int 0, .int 0, .int 0])), (q10, .inr (6, [.int 0, .int 0, .int 0, .int 0, .int 0, .int 0, .int 0])), (q12, .inr (6, [.int 0, .int 0, .int 0, .int 0, .int 0, .int 0, .int 0])), (q14, .inr (6, [.int 0, .int 0, .int 0, .int 0, .int 0, .int 0, .int 0])), (q16, .inr (6, [.int 0, .int 0, .int 0, .int 0, .int 0, .int 0, .int 0]))] rfl d_Part_init_44 ?_
  refine z_iinc C (v := (8 : Int32)) [(2, .int (8 : Int32)), (0, .ref h0), (1, .ref b0)] d_Part_init_45 (j := 0) rfl (by decide) rfl rfl ?_
  refine z_goto C d_Part_init_48 ?_
  refine z_iload C d_Part_init_26 0 rfl ?_
  refine z_k C d_Part_init_27 ?_
  refine z_icmp_ge C d_Part_init_29 (fun _ => ?_) (fun c9 => absurd (by decide) c9)
  refine z_arrS 1 rfl (fun i => some ((fun i => ([q2, q4, q6, q8, q10, q12, q14, q16] : List Nat).getD i 0) i)) (fun j hj => by rcases (show j = 0 ∨ j = 1 ∨ j = 2 ∨ j = 3 ∨ j = 4 ∨ j = 5 ∨ j = 6 ∨ j = 7 by omega) with rfl | rfl | rfl | rfl | rfl | rfl | rfl | rfl <;> rfl) [(h0, .inr (4, [.ref b0, .ref q1, .int 0, .int (20 : Int32)])), (q1, cS κ 8 (fun i => some ((fun i => ([q2, q4, q6, q8, q10, q12, q14, q16] : List Nat).getD i 0) i))), (q2, .inr (6, [.int 0, .int 0, .int 0, .int 0, .int 0, .int 0, .int 0])), (q4, .inr (6, [.int 0, .int 0, .int 0, .int 0, .int 0, .int 0, .int 0])), (q6, .inr (6, [.int 0, .int 0, .int 0, .int 0, .int 0, .int 0, .int 0])), (q8, .inr (6, [.int 0, .int 0, .int 0, .int 0, .int 0, .int 0, .int 0])), (q10, .inr (6, [.int 0, .int 0, .int 0, .int 0, .int 0, .int 0, .int 0])), (q12, .inr (6, [.int 0, .int 0, .int 0, .int 0, .int 0, .int 0, .int 0])), (q14, .inr (6, [.int 0, .int 0, .int 0, .int 0, .int 0, .int 0, .int 0])), (q16, .inr (6, [.int 0, .int 0, .int 0, .int 0, .int 0, .int 0, .int 0]))] rfl ?_
  exact ze_vret C (q1, fun i => ([q2, q4, q6, q8, q10, q12, q14, q16] : List Nat).getD i 0) hr hlk rfl d_Part_init_51 trivial
abbrev rm_Plan_init : Room := { frames := 1, cells := 5, slots := 40, locals := 12 }
set_option maxHeartbeats 8000000 in
set_option maxRecDepth 100000 in
theorem ci_Plan (l : Launch) (D : va_G) (κ : KT) (h0 : Nat) (b0 : Nat) (b1 : Nat) (sz : Nat) : Met l y_Plan_init (wsG y_Plan_init b_Plan_init 3 none) rm_Plan_init (PX D κ [.ref h0, .ref b0, .ref b1] [(h0, .inr (5, [.null, .null, .null, .null, .null, .null, .null, .int 0]))] sz) (va_Qv (fun (u : (Nat) × (Nat) × (Nat) × (Nat) × (Nat)) => True) (QB D [(h0, .inr (5, [.null, .null, .null, .null, .null, .null, .null, .int 0]))] sz (fun (u : (Nat) × (Nat) × (Nat) × (Nat) × (Nat)) => [(h0, .inr (5, [.ref b0, .ref b1, .ref u.1, .ref u.2.1, .ref u.2.2.1, .ref u.2.2.2.1, .ref u.2.2.2.2, .int 0])), (u.1, cI κ 8 (fun _ => 0)), (u.2.1, cI κ 8 (fun _ => 0)), (u.2.2.1, cI κ 8 (fun _ => 0)), (u.2.2.2.1, cI κ 8 (fun _ => 0)), (u.2.2.2.2, cI κ 8 (fun _ => 0))])) (va_A [(h0, .inr (5, [.null, .null, .null, .null, .null, .null, .null, .int 0]))] sz)) 5 40 (va_A [(h0, .inr (5, [.null, .null, .null, .null, .null, .null, .null, .int 0]))] sz) := by
  refine zx_start [(0, .ref h0), (1, .ref b0), (2, .ref b1)] rfl (Nat.le_of_ble_eq_true rfl) rfl ?_
  intro p e s m args below meth c C hr hlk hnm hsz hO
  subst hsz
  refine z_aload C d_Plan_init_0 0 rfl ?_
  refine z_oinit C oi_Plan_3 (Nat.le_of_ble_eq_true rfl) (Nat.le_of_ble_eq_true rfl) d_Plan_init_1 ?_
  refine z_aload C d_Plan_init_4 0 rfl ?_
  refine z_k C d_Plan_init_5 ?_
  refine z_newa C (N := 8) wd_aI (by decide) (by decide) (by decide) (Nat.le_of_ble_eq_true rfl) (Nat.le_of_ble_eq_true rfl) d_Plan_init_7 (fun q1 => ?_)
  (try dsimp only)
  refine z_putF C hnm fp_Plan_9 0 rfl rfl rfl rfl [(h0, .inr (5, [.null, .null, .ref q1, .null, .null, .null, .null, .int 0])), (q1, cI κ 8 (fun _ => 0))] rfl d_Plan_init_9 ?_
  refine z_aload C d_Plan_init_12 0 rfl ?_
  refine z_k C d_Plan_init_13 ?_
  refine z_newa C (N := 8) wd_aI (by decide) (by decide) (by decide) (Nat.le_of_ble_eq_true rfl) (Nat.le_of_ble_eq_true rfl) d_Plan_init_15 (fun q2 => ?_)
  (try dsimp only)
  refine z_putF C hnm fp_Plan_15 0 rfl rfl rfl rfl [(h0, .inr (5, [.null, .null, .ref q1, .ref q2, .null, .null, .null, .int 0])), (q1, cI κ 8 (fun _ => 0)), (q2, cI κ 8 (fun _ => 0))] rfl d_Plan_init_17 ?_
  refine z_aload C d_Plan_init_20 0 rfl ?_
  refine z_k C d_Plan_init_21 ?_
  refine z_newa C (N := 8) wd_aI (by decide) (by decide) (by decide) (Nat.le_of_ble_eq_true rfl) (Nat.le_of_ble_eq_true rfl) d_Plan_init_23 (fun q3 => ?_)
  (try dsimp only)
  refine z_putF C hnm fp_Plan_18 0 rfl rfl rfl rfl [(h0, .inr (5, [.null, .null, .ref q1, .ref q2, .ref q3, .null, .null, .int 0])), (q1, cI κ 8 (fun _ => 0)), (q2, cI κ 8 (fun _ => 0)), (q3, cI κ 8 (fun _ => 0))] rfl d_Plan_init_25 ?_
  refine z_aload C d_Plan_init_28 0 rfl ?_
  refine z_k C d_Plan_init_29 ?_
  refine z_newa C (N := 8) wd_aI (by decide) (by decide) (by decide) (Nat.le_of_ble_eq_true rfl) (Nat.le_of_ble_eq_true rfl) d_Plan_init_31 (fun q4 => ?_)
  (try dsimp only)
  refine z_putF C hnm fp_Plan_21 0 rfl rfl rfl rfl [(h0, .inr (5, [.null, .null, .ref q1, .ref q2, .ref q3, .ref q4, .null, .int 0])), (q1, cI κ 8 (fun _ => 0)), (q2, cI κ 8 (fun _ => 0)), (q3, cI κ 8 (fun _ => 0)), (q4, cI κ 8 (fun _ => 0))] rfl d_Plan_init_33 ?_
  refine z_aload C d_Plan_init_36 0 rfl ?_
  refine z_k C d_Plan_init_37 ?_
  refine z_newa C (N := 8) wd_aI (by decide) (by decide) (by decide) (Nat.le_of_ble_eq_true rfl) (Nat.le_of_ble_eq_true rfl) d_Plan_init_39 (fun q5 => ?_)
  (try dsimp only)
  refine z_putF C hnm fp_Plan_24 0 rfl rfl rfl rfl [(h0, .inr (5, [.null, .null, .ref q1, .ref q2, .ref q3, .ref q4, .ref q5, .int 0])), (q1, cI κ 8 (fun _ => 0)), (q2, cI κ 8 (fun _ => 0)), (q3, cI κ 8 (fun _ => 0)), (q4, cI κ 8 (fun _ => 0)), (q5, cI κ 8 (fun _ => 0))] rfl d_Plan_init_41 ?_
  refine z_aload C d_Plan_init_44 0 rfl ?_
  refine z_aload C d_Plan_init_45 1 rfl ?_
  refine z_putF C hnm fp_Plan_27 0 rfl rfl rfl rfl [(h0, .inr (5, [.ref b0, .null, .ref q1, .ref q2, .ref q3, .ref q4, .ref q5, .int 0])), (q1, cI κ 8 (fun _ => 0)), (q2, cI κ 8 (fun _ => 0)), (q3, cI κ 8 (fun _ => 0)), (q4, cI κ 8 (fun _ => 0)), (q5, cI κ 8 (fun _ => 0))] rfl d_Plan_init_46 ?_
  refine z_aload C d_Plan_init_49 0 rfl ?_
  refine z_aload C d_Plan_init_50 2 rfl ?_
  refine z_putF C hnm fp_Plan_31 0 rfl rfl rfl rfl [(h0, .inr (5, [.ref b0, .ref b1, .ref q1, .ref q2, .ref q3, .ref q4, .ref q5, .int 0])), (q1, cI κ 8 (fun _ => 0)), (q2, cI κ 8 (fun _ => 0)), (q3, cI κ 8 (fun _ => 0)), (q4, cI κ 8 (fun _ => 0)), (q5, cI κ 8 (fun _ => 0))] rfl d_Plan_init_51 ?_
  exact ze_vret C (q1, q2, q3, q4, q5) hr hlk rfl d_Plan_init_54 trivial
abbrev rm_Search_init : Room := { frames := 1, cells := 23, slots := 223, locals := 12 }
set_option maxHeartbeats 8000000 in
set_option maxRecDepth 100000 in
theorem ci_Search (l : Launch) (D : va_G) (κ : KT) (h0 : Nat) (b0 : Nat) (b1 : Nat) (sz : Nat) : Met l y_Search_init (wsG y_Search_init b_Search_init 3 none) rm_Search_init (PX D κ [.ref h0, .ref b0, .ref b1] [(h0, .inr (7, [.null, .null, .null, .null, .null, .null, .null, .null, .null, .null, .null, .null, .int 0, .int 0]))] sz) (va_Qv (fun (u : (Nat) × (Nat) × (Nat) × (Nat) × (Nat) × (Nat) × (Nat) × (Nat) × (Nat → Nat) × (Nat) × (Nat)) => True) (QB D [(h0, .inr (7, [.null, .null, .null, .null, .null, .null, .null, .null, .null, .null, .null, .null, .int 0, .int 0]))] sz (fun (u : (Nat) × (Nat) × (Nat) × (Nat) × (Nat) × (Nat) × (Nat) × (Nat) × (Nat → Nat) × (Nat) × (Nat)) => [(h0, .inr (7, [.ref b0, .ref b1, .ref u.1, .ref u.2.1, .ref u.2.2.1, .ref u.2.2.2.1, .ref u.2.2.2.2.1, .ref u.2.2.2.2.2.1, .ref u.2.2.2.2.2.2.1, .ref u.2.2.2.2.2.2.2.1, .ref u.2.2.2.2.2.2.2.2.2.1, .ref u.2.2.2.2.2.2.2.2.2.2, .int 0, .int 0])), (u.1, cI κ 6 (fun _ => 0)), (u.2.1, cI κ 6 (fun _ => 0)), (u.2.2.1, cI κ 6 (fun _ => 0)), (u.2.2.2.1, cI κ 6 (fun _ => 0)), (u.2.2.2.2.1, cI κ 6 (fun _ => 0)), (u.2.2.2.2.2.1, cI κ 6 (fun _ => 0)), (u.2.2.2.2.2.2.1, cI κ 6 (fun _ => 0)), (u.2.2.2.2.2.2.2.1, cM κ 13 (fun i => some (u.2.2.2.2.2.2.2.2.1 i))), ((u.2.2.2.2.2.2.2.2.1 0), cI κ 12 (fun _ => 0)), ((u.2.2.2.2.2.2.2.2.1 1), cI κ 12 (fun _ => 0)), ((u.2.2.2.2.2.2.2.2.1 2), cI κ 12 (fun _ => 0)), ((u.2.2.2.2.2.2.2.2.1 3), cI κ 12 (fun _ => 0)), ((u.2.2.2.2.2.2.2.2.1 4), cI κ 12 (fun _ => 0)), ((u.2.2.2.2.2.2.2.2.1 5), cI κ 12 (fun _ => 0)), ((u.2.2.2.2.2.2.2.2.1 6), cI κ 12 (fun _ => 0)), ((u.2.2.2.2.2.2.2.2.1 7), cI κ 12 (fun _ => 0)), ((u.2.2.2.2.2.2.2.2.1 8), cI κ 12 (fun _ => 0)), ((u.2.2.2.2.2.2.2.2.1 9), cI κ 12 (fun _ => 0)), ((u.2.2.2.2.2.2.2.2.1 10), cI κ 12 (fun _ => 0)), ((u.2.2.2.2.2.2.2.2.1 11), cI κ 12 (fun _ => 0)), ((u.2.2.2.2.2.2.2.2.1 12), cI κ 12 (fun _ => 0)), (u.2.2.2.2.2.2.2.2.2.1, cI κ 6 (fun _ => 0)), (u.2.2.2.2.2.2.2.2.2.2, cI κ 6 (fun _ => 0))])) (va_A [(h0, .inr (7, [.null, .null, .null, .null, .null, .null, .null, .null, .null, .null, .null, .null, .int 0, .int 0]))] sz)) 23 223 (va_A [(h0, .inr (7, [.null, .null, .null, .null, .null, .null, .null, .null, .null, .null, .null, .null, .int 0, .int 0]))] sz) := by
  refine zx_start [(0, .ref h0), (1, .ref b0), (2, .ref b1)] rfl (Nat.le_of_ble_eq_true rfl) rfl ?_
  intro p e s m args below meth c C hr hlk hnm hsz hO
  subst hsz
  refine z_aload C d_Search_init_0 0 rfl ?_
  refine z_oinit C oi_Search_5 (Nat.le_of_ble_eq_true rfl) (Nat.le_of_ble_eq_true rfl) d_Search_init_1 ?_
  refine z_aload C d_Search_init_4 0 rfl ?_
  refine z_k C d_Search_init_5 ?_
  refine z_newa C (N := 6) wd_aI (by decide) (by decide) (by decide) (Nat.le_of_ble_eq_true rfl) (Nat.le_of_ble_eq_true rfl) d_Search_init_7 (fun q1 => ?_)
  (try dsimp only)
  refine z_putF C hnm fp_Search_11 0 rfl rfl rfl rfl [(h0, .inr (7, [.null, .null, .ref q1, .null, .null, .null, .null, .null, .null, .null, .null, .null, .int 0, .int 0])), (q1, cI κ 6 (fun _ => 0))] rfl d_Search_init_9 ?_
  refine z_aload C d_Search_init_12 0 rfl ?_
  refine z_k C d_Search_init_13 ?_
  refine z_newa C (N := 6) wd_aI (by decide) (by decide) (by decide) (Nat.le_of_ble_eq_true rfl) (Nat.le_of_ble_eq_true rfl) d_Search_init_15 (fun q2 => ?_)
  (try dsimp only)
  refine z_putF C hnm fp_Search_15 0 rfl rfl rfl rfl [(h0, .inr (7, [.null, .null, .ref q1, .ref q2, .null, .null, .null, .null, .null, .null, .null, .null, .int 0, .int 0])), (q1, cI κ 6 (fun _ => 0)), (q2, cI κ 6 (fun _ => 0))] rfl d_Search_init_17 ?_
  refine z_aload C d_Search_init_20 0 rfl ?_
  refine z_k C d_Search_init_21 ?_
  refine z_newa C (N := 6) wd_aI (by decide) (by decide) (by decide) (Nat.le_of_ble_eq_true rfl) (Nat.le_of_ble_eq_true rfl) d_Search_init_23 (fun q3 => ?_)
  (try dsimp only)
  refine z_putF C hnm fp_Search_18 0 rfl rfl rfl rfl [(h0, .inr (7, [.null, .null, .ref q1, .ref q2, .ref q3, .null, .null, .null, .null, .null, .null, .null, .int 0, .int 0])), (q1, cI κ 6 (fun _ => 0)), (q2, cI κ 6 (fun _ => 0)), (q3, cI κ 6 (fun _ => 0))] rfl d_Search_init_25 ?_
  refine z_aload C d_Search_init_28 0 rfl ?_
  refine z_k C d_Search_init_29 ?_
  refine z_newa C (N := 6) wd_aI (by decide) (by decide) (by decide) (Nat.le_of_ble_eq_true rfl) (Nat.le_of_ble_eq_true rfl) d_Search_init_31 (fun q4 => ?_)
  (try dsimp only)
  refine z_putF C hnm fp_Search_21 0 rfl rfl rfl rfl [(h0, .inr (7, [.null, .null, .ref q1, .ref q2, .ref q3, .ref q4, .null, .null, .null, .null, .null, .null, .int 0, .int 0])), (q1, cI κ 6 (fun _ => 0)), (q2, cI κ 6 (fun _ => 0)), (q3, cI κ 6 (fun _ => 0)), (q4, cI κ 6 (fun _ => 0))] rfl d_Search_init_33 ?_
  refine z_aload C d_Search_init_36 0 rfl ?_
  refine z_k C d_Search_init_37 ?_
  refine z_newa C (N := 6) wd_aI (by decide) (by decide) (by decide) (Nat.le_of_ble_eq_true rfl) (Nat.le_of_ble_eq_true rfl) d_Search_init_39 (fun q5 => ?_)
  (try dsimp only)
  refine z_putF C hnm fp_Search_24 0 rfl rfl rfl rfl [(h0, .inr (7, [.null, .null, .ref q1, .ref q2, .ref q3, .ref q4, .ref q5, .null, .null, .null, .null, .null, .int 0, .int 0])), (q1, cI κ 6 (fun _ => 0)), (q2, cI κ 6 (fun _ => 0)), (q3, cI κ 6 (fun _ => 0)), (q4, cI κ 6 (fun _ => 0)), (q5, cI κ 6 (fun _ => 0))] rfl d_Search_init_41 ?_
  refine z_aload C d_Search_init_44 0 rfl ?_
  refine z_k C d_Search_init_45 ?_
  refine z_newa C (N := 6) wd_aI (by decide) (by decide) (by decide) (Nat.le_of_ble_eq_true rfl) (Nat.le_of_ble_eq_true rfl) d_Search_init_47 (fun q6 => ?_)
  (try dsimp only)
  refine z_putF C hnm fp_Search_27 0 rfl rfl rfl rfl [(h0, .inr (7, [.null, .null, .ref q1, .ref q2, .ref q3, .ref q4, .ref q5, .ref q6, .null, .null, .null, .null, .int 0, .int 0])), (q1, cI κ 6 (fun _ => 0)), (q2, cI κ 6 (fun _ => 0)), (q3, cI κ 6 (fun _ => 0)), (q4, cI κ 6 (fun _ => 0)), (q5, cI κ 6 (fun _ => 0)), (q6, cI κ 6 (fun _ => 0))] rfl d_Search_init_49 ?_
  refine z_aload C d_Search_init_52 0 rfl ?_
  refine z_k C d_Search_init_53 ?_
  refine z_newa C (N := 6) wd_aI (by decide) (by decide) (by decide) (Nat.le_of_ble_eq_true rfl) (Nat.le_of_ble_eq_true rfl) d_Search_init_55 (fun q7 => ?_)
  (try dsimp only)
  refine z_putF C hnm fp_Search_30 0 rfl rfl rfl rfl [(h0, .inr (7, [.null, .null, .ref q1, .ref q2, .ref q3, .ref q4, .ref q5, .ref q6, .ref q7, .null, .null, .null, .int 0, .int 0])), (q1, cI κ 6 (fun _ => 0)), (q2, cI κ 6 (fun _ => 0)), (q3, cI κ 6 (fun _ => 0)), (q4, cI κ 6 (fun _ => 0)), (q5, cI κ 6 (fun _ => 0)), (q6, cI κ 6 (fun _ => 0)), (q7, cI κ 6 (fun _ => 0))] rfl d_Search_init_57 ?_
  refine z_aload C d_Search_init_60 0 rfl ?_
  refine z_k C d_Search_init_61 ?_
  refine z_k C d_Search_init_63 ?_
  refine z_mnew C cl_Search_33 hO wd_aI (Nat.le_of_ble_eq_true rfl) (Nat.le_of_ble_eq_true rfl) d_Search_init_65 (fun q8 r9 => ?_)
  (try dsimp only)
  refine z_putF C hnm fp_Search_35 0 rfl rfl rfl rfl [(h0, .inr (7, [.null, .null, .ref q1, .ref q2, .ref q3, .ref q4, .ref q5, .ref q6, .ref q7, .ref q8, .null, .null, .int 0, .int 0])), (q1, cI κ 6 (fun _ => 0)), (q2, cI κ 6 (fun _ => 0)), (q3, cI κ 6 (fun _ => 0)), (q4, cI κ 6 (fun _ => 0)), (q5, cI κ 6 (fun _ => 0)), (q6, cI κ 6 (fun _ => 0)), (q7, cI κ 6 (fun _ => 0)), (q8, cM κ 13 (fun i => some (r9 i))), ((r9 0), cI κ 12 (fun _ => 0)), ((r9 1), cI κ 12 (fun _ => 0)), ((r9 2), cI κ 12 (fun _ => 0)), ((r9 3), cI κ 12 (fun _ => 0)), ((r9 4), cI κ 12 (fun _ => 0)), ((r9 5), cI κ 12 (fun _ => 0)), ((r9 6), cI κ 12 (fun _ => 0)), ((r9 7), cI κ 12 (fun _ => 0)), ((r9 8), cI κ 12 (fun _ => 0)), ((r9 9), cI κ 12 (fun _ => 0)), ((r9 10), cI κ 12 (fun _ => 0)), ((r9 11), cI κ 12 (fun _ => 0)), ((r9 12), cI κ 12 (fun _ => 0))] rfl d_Search_init_69 ?_
  refine z_aload C d_Search_init_72 0 rfl ?_
  refine z_k C d_Search_init_73 ?_
  refine z_newa C (N := 6) wd_aI (by decide) (by decide) (by decide) (Nat.le_of_ble_eq_true rfl) (Nat.le_of_ble_eq_true rfl) d_Search_init_75 (fun q10 => ?_)
  (try dsimp only)
  refine z_putF C hnm fp_Search_38 0 rfl rfl rfl rfl [(h0, .inr (7, [.null, .null, .ref q1, .ref q2, .ref q3, .ref q4, .ref q5, .ref q6, .ref q7, .ref q8, .ref q10, .null, .int 0, .int 0])), (q1, cI κ 6 (fun _ => 0)), (q2, cI κ 6 (fun _ => 0)), (q3, cI κ 6 (fun _ => 0)), (q4, cI κ 6 (fun _ => 0)), (q5, cI κ 6 (fun _ => 0)), (q6, cI κ 6 (fun _ => 0)), (q7, cI κ 6 (fun _ => 0)), (q8, cM κ 13 (fun i => some (r9 i))), ((r9 0), cI κ 12 (fun _ => 0)), ((r9 1), cI κ 12 (fun _ => 0)), ((r9 2), cI κ 12 (fun _ => 0)), ((r9 3), cI κ 12 (fun _ => 0)), ((r9 4), cI κ 12 (fun _ => 0)), ((r9 5), cI κ 12 (fun _ => 0)), ((r9 6), cI κ 12 (fun _ => 0)), ((r9 7), cI κ 12 (fun _ => 0)), ((r9 8), cI κ 12 (fun _ => 0)), ((r9 9), cI κ 12 (fun _ => 0)), ((r9 10), cI κ 12 (fun _ => 0)), ((r9 11), cI κ 12 (fun _ => 0)), ((r9 12), cI κ 12 (fun _ => 0)), (q10, cI κ 6 (fun _ => 0))] rfl d_Search_init_77 ?_
  refine z_aload C d_Search_init_80 0 rfl ?_
  refine z_k C d_Search_init_81 ?_
  refine z_newa C (N := 6) wd_aI (by decide) (by decide) (by decide) (Nat.le_of_ble_eq_true rfl) (Nat.le_of_ble_eq_true rfl) d_Search_init_83 (fun q11 => ?_)
  (try dsimp only)
  refine z_putF C hnm fp_Search_41 0 rfl rfl rfl rfl [(h0, .inr (7, [.null, .null, .ref q1, .ref q2, .ref q3, .ref q4, .ref q5, .ref q6, .ref q7, .ref q8, .ref q10, .ref q11, .int 0, .int 0])), (q1, cI κ 6 (fun _ => 0)), (q2, cI κ 6 (fun _ => 0)), (q3, cI κ 6 (fun _ => 0)), (q4, cI κ 6 (fun _ => 0)), (q5, cI κ 6 (fun _ => 0)), (q6, cI κ 6 (fun _ => 0)), (q7, cI κ 6 (fun _ => 0)), (q8, cM κ 13 (fun i => some (r9 i))), ((r9 0), cI κ 12 (fun _ => 0)), ((r9 1), cI κ 12 (fun _ => 0)), ((r9 2), cI κ 12 (fun _ => 0)), ((r9 3), cI κ 12 (fun _ => 0)), ((r9 4), cI κ 12 (fun _ => 0)), ((r9 5), cI κ 12 (fun _ => 0)), ((r9 6), cI κ 12 (fun _ => 0)), ((r9 7), cI κ 12 (fun _ => 0)), ((r9 8), cI κ 12 (fun _ => 0)), ((r9 9), cI κ 12 (fun _ => 0)), ((r9 10), cI κ 12 (fun _ => 0)), ((r9 11), cI κ 12 (fun _ => 0)), ((r9 12), cI κ 12 (fun _ => 0)), (q10, cI κ 6 (fun _ => 0)), (q11, cI κ 6 (fun _ => 0))] rfl d_Search_init_85 ?_
  refine z_aload C d_Search_init_88 0 rfl ?_
  refine z_aload C d_Search_init_89 1 rfl ?_
  refine z_putF C hnm fp_Search_44 0 rfl rfl rfl rfl [(h0, .inr (7, [.ref b0, .null, .ref q1, .ref q2, .ref q3, .ref q4, .ref q5, .ref q6, .ref q7, .ref q8, .ref q10, .ref q11, .int 0, .int 0])), (q1, cI κ 6 (fun _ => 0)), (q2, cI κ 6 (fun _ => 0)), (q3, cI κ 6 (fun _ => 0)), (q4, cI κ 6 (fun _ => 0)), (q5, cI κ 6 (fun _ => 0)), (q6, cI κ 6 (fun _ => 0)), (q7, cI κ 6 (fun _ => 0)), (q8, cM κ 13 (fun i => some (r9 i))), ((r9 0), cI κ 12 (fun _ => 0)), ((r9 1), cI κ 12 (fun _ => 0)), ((r9 2), cI κ 12 (fun _ => 0)), ((r9 3), cI κ 12 (fun _ => 0)), ((r9 4), cI κ 12 (fun _ => 0)), ((r9 5), cI κ 12 (fun _ => 0)), ((r9 6), cI κ 12 (fun _ => 0)), ((r9 7), cI κ 12 (fun _ => 0)), ((r9 8), cI κ 12 (fun _ => 0)), ((r9 9), cI κ 12 (fun _ => 0)), ((r9 10), cI κ 12 (fun _ => 0)), ((r9 11), cI κ 12 (fun _ => 0)), ((r9 12), cI κ 12 (fun _ => 0)), (q10, cI κ 6 (fun _ => 0)), (q11, cI κ 6 (fun _ => 0))] rfl d_Search_init_90 ?_
  refine z_aload C d_Search_init_93 0 rfl ?_
  refine z_aload C d_Search_init_94 2 rfl ?_
  refine z_putF C hnm fp_Search_48 0 rfl rfl rfl rfl [(h0, .inr (7, [.ref b0, .ref b1, .ref q1, .ref q2, .ref q3, .ref q4, .ref q5, .ref q6, .ref q7, .ref q8, .ref q10, .ref q11, .int 0, .int 0])), (q1, cI κ 6 (fun _ => 0)), (q2, cI κ 6 (fun _ => 0)), (q3, cI κ 6 (fun _ => 0)), (q4, cI κ 6 (fun _ => 0)), (q5, cI κ 6 (fun _ => 0)), (q6, cI κ 6 (fun _ => 0)), (q7, cI κ 6 (fun _ => 0)), (q8, cM κ 13 (fun i => some (r9 i))), ((r9 0), cI κ 12 (fun _ => 0)), ((r9 1), cI κ 12 (fun _ => 0)), ((r9 2), cI κ 12 (fun _ => 0)), ((r9 3), cI κ 12 (fun _ => 0)), ((r9 4), cI κ 12 (fun _ => 0)), ((r9 5), cI κ 12 (fun _ => 0)), ((r9 6), cI κ 12 (fun _ => 0)), ((r9 7), cI κ 12 (fun _ => 0)), ((r9 8), cI κ 12 (fun _ => 0)), ((r9 9), cI κ 12 (fun _ => 0)), ((r9 10), cI κ 12 (fun _ => 0)), ((r9 11), cI κ 12 (fun _ => 0)), ((r9 12), cI κ 12 (fun _ => 0)), (q10, cI κ 6 (fun _ => 0)), (q11, cI κ 6 (fun _ => 0))] rfl d_Search_init_95 ?_
  exact ze_vret C (q1, q2, q3, q4, q5, q6, q7, q8, r9, q10, q11) hr hlk rfl d_Search_init_98 trivial
abbrev rm_Crew_init : Room := { frames := 2, cells := 10, slots := 406, locals := 32 }
set_option maxHeartbeats 8000000 in
set_option maxRecDepth 100000 in
theorem ci_Crew (l : Launch) (D : va_G) (κ : KT) (h0 : Nat) (sz : Nat) : Met l y_Crew_init (wsG y_Crew_init b_Crew_init 1 none) rm_Crew_init (PX D κ [.ref h0] [(h0, .inr (2, [.null, .null, .null, .null, .int 0]))] sz) (va_Qv (fun (u : (Nat) × (Nat) × (Nat) × (Nat) × (Nat) × (Nat) × (Nat) × (Nat) × (Nat) × (Nat)) => True) (QB D [(h0, .inr (2, [.null, .null, .null, .null, .int 0]))] sz (fun (u : (Nat) × (Nat) × (Nat) × (Nat) × (Nat) × (Nat) × (Nat) × (Nat) × (Nat) × (Nat)) => [(h0, .inr (2, [.ref u.1, .ref u.2.2.2.2.1, .ref u.2.2.2.2.2.2.2.2.1, .ref u.2.2.2.2.2.2.2.2.2, .int 0])), (u.1, .inr (0, [.ref u.2.1, .ref u.2.2.1, .ref u.2.2.2.1, .int 0, .int 0, .int 0, .int 0])), (u.2.1, cI κ 16 (fun _ => 0)), (u.2.2.1, cI κ 16 (fun _ => 0)), (u.2.2.2.1, cI κ 17 (fun _ => 0)), (u.2.2.2.2.1, .inr (0, [.ref u.2.2.2.2.2.1, .ref u.2.2.2.2.2.2.1, .ref u.2.2.2.2.2.2.2.1, .int 0, .int 0, .int 0, .int 0])), (u.2.2.2.2.2.1, cI κ 16 (fun _ => 0)), (u.2.2.2.2.2.2.1, cI κ 16 (fun _ => 0)), (u.2.2.2.2.2.2.2.1, cI κ 17 (fun _ => 0)), (u.2.2.2.2.2.2.2.2.1, cZ κ 289 (fun _ => 0)), (u.2.2.2.2.2.2.2.2.2, cI κ 5 (fun _ => 0))])) (va_A [(h0, .inr (2, [.null, .null, .null, .null, .int 0]))] sz)) 10 406 (va_A [(h0, .inr (2, [.null, .null, .null, .null, .int 0]))] sz) := by
  refine zx_start [(0, .ref h0)] rfl (Nat.le_of_ble_eq_true rfl) rfl ?_
  intro p e s m args below meth c C hr hlk hnm hsz hO
  subst hsz
  refine z_aload C d_Crew_init_0 0 rfl ?_
  refine z_oinit C oi_Crew_3 (Nat.le_of_ble_eq_true rfl) (Nat.le_of_ble_eq_true rfl) d_Crew_init_1 ?_
  refine z_aload C d_Crew_init_4 0 rfl ?_
  refine z_new C nw_Crew_9 (Nat.le_of_ble_eq_true rfl) (Nat.le_of_ble_eq_true rfl) d_Crew_init_5 (fun q1 => ?_)
  (try dsimp only)
  refine z_dup C d_Crew_init_8 rfl ?_
  refine z_cni C (host := "SeamCell") (rest := [.ref q1, .ref h0]) (wr := [(h0, .inr (2, [.null, .null, .null, .null, .int 0]))]) hO (fun sz => ci_Acts l D κ q1 sz) in_Crew_11 ⟨rfl, rfl⟩ ⟨(Nat.le_of_ble_eq_true rfl), (Nat.le_of_ble_eq_true rfl)⟩ ⟨(Nat.le_of_ble_eq_true rfl), (Nat.le_of_ble_eq_true rfl)⟩ [1] [0] rfl rfl rfl rfl rfl (Nat.le_of_ble_eq_true rfl) d_Crew_init_9 (fun u5 _ => ?_)
  obtain ⟨q2, q3, q4⟩ := u5
  (try dsimp only)
  refine z_putF C hnm fp_Crew_12 0 rfl rfl rfl rfl [(h0, .inr (2, [.ref q1, .null, .null, .null, .int 0])), (q1, .inr (0, [.ref q2, .ref q3, .ref q4, .int 0, .int 0, .int 0, .int 0])), (q2, cI κ 16 (fun _ => 0)), (q3, cI κ 16 (fun _ => 0)), (q4, cI κ 17 (fun _ => 0))] rfl d_Crew_init_12 ?_
  refine z_aload C d_Crew_init_15 0 rfl ?_
  refine z_new C nw_Crew_9 (Nat.le_of_ble_eq_true rfl) (Nat.le_of_ble_eq_true rfl) d_Crew_init_16 (fun q6 => ?_)
  (try dsimp only)
  refine z_dup C d_Crew_init_19 rfl ?_
  refine z_cni C (host := "SeamCell") (rest := [.ref q6, .ref h0]) (wr := [(h0, .inr (2, [.ref q1, .null, .null, .null, .int 0])), (q1, .inr (0, [.ref q2, .ref q3, .ref q4, .int 0, .int 0, .int 0, .int 0])), (q2, cI κ 16 (fun _ => 0)), (q3, cI κ 16 (fun _ => 0)), (q4, cI κ 17 (fun _ => 0))]) hO (fun sz => ci_Acts l D κ q6 sz) in_Crew_11 ⟨rfl, rfl⟩ ⟨(Nat.le_of_ble_eq_true rfl), (Nat.le_of_ble_eq_true rfl)⟩ ⟨(Nat.le_of_ble_eq_true rfl), (Nat.le_of_ble_eq_true rfl)⟩ [5] [0, 1, 2, 3, 4] rfl rfl rfl rfl rfl (Nat.le_of_ble_eq_true rfl) d_Crew_init_20 (fun u10 _ => ?_)
  obtain ⟨q7, q8, q9⟩ := u10
  (try dsimp only)
  refine z_putF C hnm fp_Crew_18 0 rfl rfl rfl rfl [(h0, .inr (2, [.ref q1, .ref q6, .null, .null, .int 0])), (q1, .inr (0, [.ref q2, .ref q3, .ref q4, .int 0, .int 0, .int 0, .int 0])), (q2, cI κ 16 (fun _ => 0)), (q3, cI κ 16 (fun _ => 0)), (q4, cI κ 17 (fun _ => 0)), (q6, .inr (0, [.ref q7, .ref q8, .ref q9, .int 0, .int 0, .int 0, .int 0])), (q7, cI κ 16 (fun _ => 0)), (q8, cI κ 16 (fun _ => 0)), (q9, cI κ 17 (fun _ => 0))] rfl d_Crew_init_23 ?_
  refine z_aload C d_Crew_init_26 0 rfl ?_
  refine z_k C d_Crew_init_27 ?_
  refine z_newz C (N := 289) wd_aZ (by decide) (by decide) (by decide) (Nat.le_of_ble_eq_true rfl) (Nat.le_of_ble_eq_true rfl) d_Crew_init_30 (fun q11 => ?_)
  (try dsimp only)
  refine z_putF C hnm fp_Crew_21 0 rfl rfl rfl rfl [(h0, .inr (2, [.ref q1, .ref q6, .ref q11, .null, .int 0])), (q1, .inr (0, [.ref q2, .ref q3, .ref q4, .int 0, .int 0, .int 0, .int 0])), (q2, cI κ 16 (fun _ => 0)), (q3, cI κ 16 (fun _ => 0)), (q4, cI κ 17 (fun _ => 0)), (q6, .inr (0, [.ref q7, .ref q8, .ref q9, .int 0, .int 0, .int 0, .int 0])), (q7, cI κ 16 (fun _ => 0)), (q8, cI κ 16 (fun _ => 0)), (q9, cI κ 17 (fun _ => 0)), (q11, cZ κ 289 (fun _ => 0))] rfl d_Crew_init_32 ?_
  refine z_aload C d_Crew_init_35 0 rfl ?_
  refine z_k C d_Crew_init_36 ?_
  refine z_newa C (N := 5) wd_aI (by decide) (by decide) (by decide) (Nat.le_of_ble_eq_true rfl) (Nat.le_of_ble_eq_true rfl) d_Crew_init_37 (fun q12 => ?_)
  (try dsimp only)
  refine z_putF C hnm fp_Crew_25 0 rfl rfl rfl rfl [(h0, .inr (2, [.ref q1, .ref q6, .ref q11, .ref q12, .int 0])), (q1, .inr (0, [.ref q2, .ref q3, .ref q4, .int 0, .int 0, .int 0, .int 0])), (q2, cI κ 16 (fun _ => 0)), (q3, cI κ 16 (fun _ => 0)), (q4, cI κ 17 (fun _ => 0)), (q6, .inr (0, [.ref q7, .ref q8, .ref q9, .int 0, .int 0, .int 0, .int 0])), (q7, cI κ 16 (fun _ => 0)), (q8, cI κ 16 (fun _ => 0)), (q9, cI κ 17 (fun _ => 0)), (q11, cZ κ 289 (fun _ => 0)), (q12, cI κ 5 (fun _ => 0))] rfl d_Crew_init_39 ?_
  exact ze_vret C (q1, q2, q3, q4, q6, q7, q8, q9, q11, q12) hr hlk rfl d_Crew_init_42 trivial
abbrev rm_SeamCell_init : Room := { frames := 3, cells := 60, slots := 806, locals := 54 }
set_option maxHeartbeats 8000000 in
set_option maxRecDepth 100000 in
theorem ci_SeamCell (l : Launch) (D : va_G) (κ : KT) (h0 : Nat) (sz : Nat) : Met l y_SeamCell_init (wsG y_SeamCell_init b_SeamCell_init 1 none) rm_SeamCell_init (PX D κ [.ref h0] [(h0, .inr (9, [.null, .null, .null, .null, .null, .null, .null]))] sz) (va_Qv (fun (u : (Nat) × (Nat) × (Nat) × (Nat) × (Nat) × (Nat) × (Nat) × (Nat → Nat) × (Nat) × (Nat) × (Nat) × (Nat) × (Nat) × (Nat) × (Nat) × (Nat) × (Nat) × (Nat) × (Nat) × (Nat) × (Nat) × (Nat) × (Nat) × (Nat) × (Nat → Nat) × (Nat) × (Nat) × (Nat) × (Nat) × (Nat) × (Nat) × (Nat) × (Nat) × (Nat) × (Nat) × (Nat) × (Nat) × (Nat) × (Nat) × (Nat) × (Nat)) => True) (QB D [(h0, .inr (9, [.null, .null, .null, .null, .null, .null, .null]))] sz (fun (u : (Nat) × (Nat) × (Nat) × (Nat) × (Nat) × (Nat) × (Nat) × (Nat → Nat) × (Nat) × (Nat) × (Nat) × (Nat) × (Nat) × (Nat) × (Nat) × (Nat) × (Nat) × (Nat) × (Nat) × (Nat) × (Nat) × (Nat) × (Nat) × (Nat) × (Nat → Nat) × (Nat) × (Nat) × (Nat) × (Nat) × (Nat) × (Nat) × (Nat) × (Nat) × (Nat) × (Nat) × (Nat) × (Nat) × (Nat) × (Nat) × (Nat) × (Nat)) => [(h0, .inr (9, [.ref u.1, .ref u.2.2.2.2.2.1, .ref u.2.2.2.2.2.2.2.2.1, .ref u.2.2.2.2.2.2.2.2.2.1, .ref u.2.2.2.2.2.2.2.2.2.2.2.2.2.2.2.1, .ref u.2.2.2.2.2.2.2.2.2.2.2.2.2.2.2.2.2.2.2.2.2.2.2.2.2.2.2.1, .ref u.2.2.2.2.2.2.2.2.2.2.2.2.2.2.2.2.2.2.2.2.2.2.2.2.2.2.2.2.2.2.1])), (u.1, .inr (1, [.int 0, .int 0, .int 0, .int 0, .int (200 : Int32), .int (150 : Int32), .int (100 : Int32), .int 0, .ref u.2.1, .ref u.2.2.1, .ref u.2.2.2.1, .ref u.2.2.2.2.1])), (u.2.1, cI κ 4 (fun _ => 0)), (u.2.2.1, cI κ 4 (fun _ => 0)), (u.2.2.2.1, cI κ 4 (fun _ => 0)), (u.2.2.2.2.1, cI κ 4 (fun _ => 0)), (u.2.2.2.2.2.1, .inr (4, [.ref u.1, .ref u.2.2.2.2.2.2.1, .int 0, .int (20 : Int32)])), (u.2.2.2.2.2.2.1, cS κ 8 (fun i => some (u.2.2.2.2.2.2.2.1 i))), ((u.2.2.2.2.2.2.2.1 0), .inr (6, [.int 0, .int 0, .int 0, .int 0, .int 0, .int 0, .int 0])), ((u.2.2.2.2.2.2.2.1 1), .inr (6, [.int 0, .int 0, .int 0, .int 0, .int 0, .int 0, .int 0])), ((u.2.2.2.2.2.2.2.1 2), .inr (6, [.int 0, .int 0, .int 0, .int 0, .int 0, .int 0, .int 0])), ((u.2.2.2.2.2.2.2.1 3), .inr (6, [.int 0, .int 0, .int 0, .int 0, .int 0, .int 0, .int 0])), ((u.2.2.2.2.2.2.2.1 4), .inr (6, [.int 0, .int 0, .int 0, .int 0, .int 0, .int 0, .int 0])), ((u.2.2.2.2.2.2.2.1 5), .inr (6, [.int 0, .int 0, .int 0, .int 0, .int 0, .int 0, .int 0])), ((u.2.2.2.2.2.2.2.1 6), .inr (6, [.int 0, .int 0, .int 0, .int 0, .int 0, .int 0, .int 0])), ((u.2.2.2.2.2.2.2.1 7), .inr (6, [.int 0, .int 0, .int 0, .int 0, .int 0, .int 0, .int 0])), (u.2.2.2.2.2.2.2.2.1, .inr (3, [.ref u.1, .int (10 : Int32), .int (20 : Int32), .int (5 : Int32), .int (10 : Int32), .int (0 : Int32), .int (300 : Int32)])), (u.2.2.2.2.2.2.2.2.2.1, .inr (5, [.ref u.2.2.2.2.2.1, .ref u.2.2.2.2.2.2.2.2.1, .ref u.2.2.2.2.2.2.2.2.2.2.1, .ref u.2.2.2.2.2.2.2.2.2.2.2.1, .ref u.2.2.2.2.2.2.2.2.2.2.2.2.1, .ref u.2.2.2.2.2.2.2.2.2.2.2.2.2.1, .ref u.2.2.2.2.2.2.2.2.2.2.2.2.2.2.1, .int 0])), (u.2.2.2.2.2.2.2.2.2.2.1, cI κ 8 (fun _ => 0)), (u.2.2.2.2.2.2.2.2.2.2.2.1, cI κ 8 (fun _ => 0)), (u.2.2.2.2.2.2.2.2.2.2.2.2.1, cI κ 8 (fun _ => 0)), (u.2.2.2.2.2.2.2.2.2.2.2.2.2.1, cI κ 8 (fun _ => 0)), (u.2.2.2.2.2.2.2.2.2.2.2.2.2.2.1, cI κ 8 (fun _ => 0)), (u.2.2.2.2.2.2.2.2.2.2.2.2.2.2.2.1, .inr (7, [.ref u.2.2.2.2.2.1, .ref u.2.2.2.2.2.2.2.2.1, .ref u.2.2.2.2.2.2.2.2.2.2.2.2.2.2.2.2.1, .ref u.2.2.2.2.2.2.2.2.2.2.2.2.2.2.2.2.2.1, .ref u.2.2.2.2.2.2.2.2.2.2.2.2.2.2.2.2.2.2.1, .ref u.2.2.2.2.2.2.2.2.2.2.2.2.2.2.2.2.2.2.2.1, .ref u.2.2.2.2.2.2.2.2.2.2.2.2.2.2.2.2.2.2.2.2.1, .ref u.2.2.2.2.2.2.2.2.2.2.2.2.2.2.2.2.2.2.2.2.2.1, .ref u.2.2.2.2.2.2.2.2.2.2.2.2.2.2.2.2.2.2.2.2.2.2.1, .ref u.2.2.2.2.2.2.2.2.2.2.2.2.2.2.2.2.2.2.2.2.2.2.2.1, .ref u.2.2.2.2.2.2.2.2.2.2.2.2.2.2.2.2.2.2.2.2.2.2.2.2.2.1, .ref u.2.2.2.2.2.2.2.2.2.2.2.2.2.2.2.2.2.2.2.2.2.2.2.2.2.2.1, .int 0, .int 0])), (u.2.2.2.2.2.2.2.2.2.2.2.2.2.2.2.2.1, cI κ 6 (fun _ => 0)), (u.2.2.2.2.2.2.2.2.2.2.2.2.2.2.2.2.2.1, cI κ 6 (fun _ => 0)), (u.2.2.2.2.2.2.2.2.2.2.2.2.2.2.2.2.2.2.1, cI κ 6 (fun _ => 0)), (u.2.2.2.2.2.2.2.2.2.2.2.2.2.2.2.2.2.2.2.1, cI κ 6 (fun _ => 0)), (u.2.2.2.2.2.2.2.2.2.2.2.2.2.2.2.2.2.2.2.2.1, cI κ 6 (fun _ => 0)), (u.2.2.2.2.2.2.2.2.2.2.2.2.2.2.2.2.2.2.2.2.2.1, cI κ 6 (fun _ => 0)), (u.2.2.2.2.2.2.2.2.2.2.2.2.2.2.2.2.2.2.2.2.2.2.1, cI κ 6 (fun _ => 0)), (u.2.2.2.2.2.2.2.2.2.2.2.2.2.2.2.2.2.2.2.2.2.2.2.1, cM κ 13 (fun i => some (u.2.2.2.2.2.2.2.2.2.2.2.2.2.2.2.2.2.2.2.2.2.2.2.2.1 i))), ((u.2.2.2.2.2.2.2.2.2.2.2.2.2.2.2.2.2.2.2.2.2.2.2.2.1 0), cI κ 12 (fun _ => 0)), ((u.2.2.2.2.2.2.2.2.2.2.2.2.2.2.2.2.2.2.2.2.2.2.2.2.1 1), cI κ 12 (fun _ => 0)), ((u.2.2.2.2.2.2.2.2.2.2.2.2.2.2.2.2.2.2.2.2.2.2.2.2.1 2), cI κ 12 (fun _ => 0)), ((u.2.2.2.2.2.2.2.2.2.2.2.2.2.2.2.2.2.2.2.2.2.2.2.2.1 3), cI κ 12 (fun _ => 0)), ((u.2.2.2.2.2.2.2.2.2.2.2.2.2.2.2.2.2.2.2.2.2.2.2.2.1 4), cI κ 12 (fun _ => 0)), ((u.2.2.2.2.2.2.2.2.2.2.2.2.2.2.2.2.2.2.2.2.2.2.2.2.1 5), cI κ 12 (fun _ => 0)), ((u.2.2.2.2.2.2.2.2.2.2.2.2.2.2.2.2.2.2.2.2.2.2.2.2.1 6), cI κ 12 (fun _ => 0)), ((u.2.2.2.2.2.2.2.2.2.2.2.2.2.2.2.2.2.2.2.2.2.2.2.2.1 7), cI κ 12 (fun _ => 0)), ((u.2.2.2.2.2.2.2.2.2.2.2.2.2.2.2.2.2.2.2.2.2.2.2.2.1 8), cI κ 12 (fun _ => 0)), ((u.2.2.2.2.2.2.2.2.2.2.2.2.2.2.2.2.2.2.2.2.2.2.2.2.1 9), cI κ 12 (fun _ => 0)), ((u.2.2.2.2.2.2.2.2.2.2.2.2.2.2.2.2.2.2.2.2.2.2.2.2.1 10), cI κ 12 (fun _ => 0)), ((u.2.2.2.2.2.2.2.2.2.2.2.2.2.2.2.2.2.2.2.2.2.2.2.2.1 11), cI κ 12 (fun _ => 0)), ((u.2.2.2.2.2.2.2.2.2.2.2.2.2.2.2.2.2.2.2.2.2.2.2.2.1 12), cI κ 12 (fun _ => 0)), (u.2.2.2.2.2.2.2.2.2.2.2.2.2.2.2.2.2.2.2.2.2.2.2.2.2.1, cI κ 6 (fun _ => 0)), (u.2.2.2.2.2.2.2.2.2.2.2.2.2.2.2.2.2.2.2.2.2.2.2.2.2.2.1, cI κ 6 (fun _ => 0)), (u.2.2.2.2.2.2.2.2.2.2.2.2.2.2.2.2.2.2.2.2.2.2.2.2.2.2.2.1, .inr (8, [.ref u.2.2.2.2.2.2.2.2.2.2.2.2.2.2.2.2.2.2.2.2.2.2.2.2.2.2.2.2.1, .ref u.2.2.2.2.2.2.2.2.2.2.2.2.2.2.2.2.2.2.2.2.2.2.2.2.2.2.2.2.2.1, .int 0])), (u.2.2.2.2.2.2.2.2.2.2.2.2.2.2.2.2.2.2.2.2.2.2.2.2.2.2.2.2.1, cI κ 2 (upd (upd (fun _ => 0) 0 (-20 : Int32)) 1 (-20 : Int32))), (u.2.2.2.2.2.2.2.2.2.2.2.2.2.2.2.2.2.2.2.2.2.2.2.2.2.2.2.2.2.1, cI κ 2 (upd (upd (fun _ => 0) 0 (20 : Int32)) 1 (20 : Int32))), (u.2.2.2.2.2.2.2.2.2.2.2.2.2.2.2.2.2.2.2.2.2.2.2.2.2.2.2.2.2.2.1, .inr (2, [.ref u.2.2.2.2.2.2.2.2.2.2.2.2.2.2.2.2.2.2.2.2.2.2.2.2.2.2.2.2.2.2.2.1, .ref u.2.2.2.2.2.2.2.2.2.2.2.2.2.2.2.2.2.2.2.2.2.2.2.2.2.2.2.2.2.2.2.2.2.2.2.1, .ref u.2.2.2.2.2.2.2.2.2.2.2.2.2.2.2.2.2.2.2.2.2.2.2.2.2.2.2.2.2.2.2.2.2.2.2.2.2.2.2.1, .ref u.2.2.2.2.2.2.2.2.2.2.2.2.2.2.2.2.2.2.2.2.2.2.2.2.2.2.2.2.2.2.2.2.2.2.2.2.2.2.2.2, .int 0])), (u.2.2.2.2.2.2.2.2.2.2.2.2.2.2.2.2.2.2.2.2.2.2.2.2.2.2.2.2.2.2.2.1, .inr (0, [.ref u.2.2.2.2.2.2.2.2.2.2.2.2.2.2.2.2.2.2.2.2.2.2.2.2.2.2.2.2.2.2.2.2.1, .ref u.2.2.2.2.2.2.2.2.2.2.2.2.2.2.2.2.2.2.2.2.2.2.2.2.2.2.2.2.2.2.2.2.2.1, .ref u.2.2.2.2.2.2.2.2.2.2.2.2.2.2.2.2.2.2.2.2.2.2.2.2.2.2.2.2.2.2.2.2.2.2.1, .int 0, .int 0, .int 0, .int 0])), (u.2.2.2.2.2.2.2.2.2.2.2.2.2.2.2.2.2.2.2.2.2.2.2.2.2.2.2.2.2.2.2.2.1, cI κ 16 (fun _ => 0)), (u.2.2.2.2.2.2.2.2.2.2.2.2.2.2.2.2.2.2.2.2.2.2.2.2.2.2.2.2.2.2.2.2.2.1, cI κ 16 (fun _ => 0)), (u.2.2.2.2.2.2.2.2.2.2.2.2.2.2.2.2.2.2.2.2.2.2.2.2.2.2.2.2.2.2.2.2.2.2.1, cI κ 17 (fun _ => 0)), (u.2.2.2.2.2.2.2.2.2.2.2.2.2.2.2.2.2.2.2.2.2.2.2.2.2.2.2.2.2.2.2.2.2.2.2.1, .inr (0, [.ref u.2.2.2.2.2.2.2.2.2.2.2.2.2.2.2.2.2.2.2.2.2.2.2.2.2.2.2.2.2.2.2.2.2.2.2.2.1, .ref u.2.2.2.2.2.2.2.2.2.2.2.2.2.2.2.2.2.2.2.2.2.2.2.2.2.2.2.2.2.2.2.2.2.2.2.2.2.1, .ref u.2.2.2.2.2.2.2.2.2.2.2.2.2.2.2.2.2.2.2.2.2.2.2.2.2.2.2.2.2.2.2.2.2.2.2.2.2.2.1, .int 0, .int 0, .int 0, .int 0])), (u.2.2.2.2.2.2.2.2.2.2.2.2.2.2.2.2.2.2.2.2.2.2.2.2.2.2.2.2.2.2.2.2.2.2.2.2.1, cI κ 16 (fun _ => 0)), (u.2.2.2.2.2.2.2.2.2.2.2.2.2.2.2.2.2.2.2.2.2.2.2.2.2.2.2.2.2.2.2.2.2.2.2.2.2.1, cI κ 16 (fun _ => 0)), (u.2.2.2.2.2.2.2.2.2.2.2.2.2.2.2.2.2.2.2.2.2.2.2.2.2.2.2.2.2.2.2.2.2.2.2.2.2.2.1, cI κ 17 (fun _ => 0)), (u.2.2.2.2.2.2.2.2.2.2.2.2.2.2.2.2.2.2.2.2.2.2.2.2.2.2.2.2.2.2.2.2.2.2.2.2.2.2.2.1, cZ κ 289 (fun _ => 0)), (u.2.2.2.2.2.2.2.2.2.2.2.2.2.2.2.2.2.2.2.2.2.2.2.2.2.2.2.2.2.2.2.2.2.2.2.2.2.2.2.2, cI κ 5 (fun _ => 0))])) (va_A [(h0, .inr (9, [.null, .null, .null, .null, .null, .null, .null]))] sz)) 60 806 (va_A [(h0, .inr (9, [.null, .null, .null, .null, .null, .null, .null]))] sz) := by
  refine zx_start [(0, .ref h0)] rfl (Nat.le_of_ble_eq_true rfl) rfl ?_
  intro p e s m args below meth c C hr hlk hnm hsz hO
  subst hsz
  refine z_aload C d_SeamCell_init_0 0 rfl ?_
  refine z_oinit C oi_SeamCell_1 (Nat.le_of_ble_eq_true rfl) (Nat.le_of_ble_eq_true rfl) d_SeamCell_init_1 ?_
  refine z_aload C d_SeamCell_init_4 0 rfl ?_
  refine z_new C nw_SeamCell_7 (Nat.le_of_ble_eq_true rfl) (Nat.le_of_ble_eq_true rfl) d_SeamCell_init_5 (fun q1 => ?_)
  (try dsimp only)
  refine z_dup C d_SeamCell_init_8 rfl ?_
  refine z_cni C (host := "SeamCell") (rest := [.ref q1, .ref h0]) (wr := [(h0, .inr (9, [.null, .null, .null, .null, .null, .null, .null]))]) hO (fun sz => ci_Cell l D κ q1 sz) in_SeamCell_9 ⟨rfl, rfl⟩ ⟨(Nat.le_of_ble_eq_true rfl), (Nat.le_of_ble_eq_true rfl)⟩ ⟨(Nat.le_of_ble_eq_true rfl), (Nat.le_of_ble_eq_true rfl)⟩ [1] [0] rfl rfl rfl rfl rfl (Nat.le_of_ble_eq_true rfl) d_SeamCell_init_9 (fun u6 _ => ?_)
  obtain ⟨q2, q3, q4, q5⟩ := u6
  (try dsimp only)
  refine z_putF C hnm fp_SeamCell_10 0 rfl rfl rfl rfl [(h0, .inr (9, [.ref q1, .null, .null, .null, .null, .null, .null])), (q1, .inr (1, [.int 0, .int 0, .int 0, .int 0, .int (200 : Int32), .int (150 : Int32), .int (100 : Int32), .int 0, .ref q2, .ref q3, .ref q4, .ref q5])), (q2, cI κ 4 (fun _ => 0)), (q3, cI κ 4 (fun _ => 0)), (q4, cI κ 4 (fun _ => 0)), (q5, cI κ 4 (fun _ => 0))] rfl d_SeamCell_init_12 ?_
  refine z_aload C d_SeamCell_init_15 0 rfl ?_
  refine z_new C nw_SeamCell_16 (Nat.le_of_ble_eq_true rfl) (Nat.le_of_ble_eq_true rfl) d_SeamCell_init_16 (fun q7 => ?_)
  (try dsimp only)
  refine z_dup C d_SeamCell_init_19 rfl ?_
  refine z_aload C d_SeamCell_init_20 0 rfl ?_
  refine z_get C fl_SeamCell_10 0 rfl rfl d_SeamCell_init_21 ?_
  refine z_ci C (host := "SeamCell") (rest := [.ref q7, .ref h0]) (wr := [(h0, .inr (9, [.ref q1, .null, .null, .null, .null, .null, .null])), (q1, .inr (1, [.int 0, .int 0, .int 0, .int 0, .int (200 : Int32), .int (150 : Int32), .int (100 : Int32), .int 0, .ref q2, .ref q3, .ref q4, .ref q5])), (q2, cI κ 4 (fun _ => 0)), (q3, cI κ 4 (fun _ => 0)), (q4, cI κ 4 (fun _ => 0)), (q5, cI κ 4 (fun _ => 0))]) hO (fun sz => ci_Part l D κ q7 q1 sz) iw_SeamCell_18 ⟨rfl, rfl⟩ ⟨(Nat.le_of_ble_eq_true rfl), (Nat.le_of_ble_eq_true rfl)⟩ ⟨(Nat.le_of_ble_eq_true rfl), (Nat.le_of_ble_eq_true rfl)⟩ [6] [0, 1, 2, 3, 4, 5] rfl rfl rfl rfl rfl (Nat.le_of_ble_eq_true rfl) d_SeamCell_init_24 (fun u10 _ => ?_)
  obtain ⟨q8, r9⟩ := u10
  (try dsimp only)
  refine z_putF C hnm fp_SeamCell_21 0 rfl rfl rfl rfl [(h0, .inr (9, [.ref q1, .ref q7, .null, .null, .null, .null, .null])), (q1, .inr (1, [.int 0, .int 0, .int 0, .int 0, .int (200 : Int32), .int (150 : Int32), .int (100 : Int32), .int 0, .ref q2, .ref q3, .ref q4, .ref q5])), (q2, cI κ 4 (fun _ => 0)), (q3, cI κ 4 (fun _ => 0)), (q4, cI κ 4 (fun _ => 0)), (q5, cI κ 4 (fun _ => 0)), (q7, .inr (4, [.ref q1, .ref q8, .int 0, .int (20 : Int32)])), (q8, cS κ 8 (fun i => some (r9 i))), ((r9 0), .inr (6, [.int 0, .int 0, .int 0, .int 0, .int 0, .int 0, .int 0])), ((r9 1), .inr (6, [.int 0, .int 0, .int 0, .int 0, .int 0, .int 0, .int 0])), ((r9 2), .inr (6, [.int 0, .int 0, .int 0, .int 0, .int 0, .int 0, .int 0])), ((r9 3), .inr (6, [.int 0, .int 0, .int 0, .int 0, .int 0, .int 0, .int 0])), ((r9 4), .inr (6, [.int 0, .int 0, .int 0, .int 0, .int 0, .int 0, .int 0])), ((r9 5), .inr (6, [.int 0, .int 0, .int 0, .int 0, .int 0, .int 0, .int 0])), ((r9 6), .inr (6, [.int 0, .int 0, .int 0, .int 0, .int 0, .int 0, .int 0])), ((r9 7), .inr (6, [.int 0, .int 0, .int 0, .int 0, .int 0, .int 0, .int 0]))] rfl d_SeamCell_init_27 ?_
  refine z_aload C d_SeamCell_init_30 0 rfl ?_
  refine z_new C nw_SeamCell_25 (Nat.le_of_ble_eq_true rfl) (Nat.le_of_ble_eq_true rfl) d_SeamCell_init_31 (fun q11 => ?_)
  (try dsimp only)
  refine z_dup C d_SeamCell_init_34 rfl ?_
  refine z_aload C d_SeamCell_init_35 0 rfl ?_
  refine z_get C fl_SeamCell_10 0 rfl rfl d_SeamCell_init_36 ?_
  refine z_ci C (host := "SeamCell") (rest := [.ref q11, .ref h0]) (wr := [(h0, .inr (9, [.ref q1, .ref q7, .null, .null, .null, .null, .null])), (q1, .inr (1, [.int 0, .int 0, .int 0, .int 0, .int (200 : Int32), .int (150 : Int32), .int (100 : Int32), .int 0, .ref q2, .ref q3, .ref q4, .ref q5])), (q2, cI κ 4 (fun _ => 0)), (q3, cI κ 4 (fun _ => 0)), (q4, cI κ 4 (fun _ => 0)), (q5, cI κ 4 (fun _ => 0)), (q7, .inr (4, [.ref q1, .ref q8, .int 0, .int (20 : Int32)])), (q8, cS κ 8 (fun i => some (r9 i))), ((r9 0), .inr (6, [.int 0, .int 0, .int 0, .int 0, .int 0, .int 0, .int 0])), ((r9 1), .inr (6, [.int 0, .int 0, .int 0, .int 0, .int 0, .int 0, .int 0])), ((r9 2), .inr (6, [.int 0, .int 0, .int 0, .int 0, .int 0, .int 0, .int 0])), ((r9 3), .inr (6, [.int 0, .int 0, .int 0, .int 0, .int 0, .int 0, .int 0])), ((r9 4), .inr (6, [.int 0, .int 0, .int 0, .int 0, .int 0, .int 0, .int 0])), ((r9 5), .inr (6, [.int 0, .int 0, .int 0, .int 0, .int 0, .int 0, .int 0])), ((r9 6), .inr (6, [.int 0, .int 0, .int 0, .int 0, .int 0, .int 0, .int 0])), ((r9 7), .inr (6, [.int 0, .int 0, .int 0, .int 0, .int 0, .int 0, .int 0]))]) hO (fun sz => ci_Pace l D κ q11 q1 sz) iw_SeamCell_27 ⟨rfl, rfl⟩ ⟨(Nat.le_of_ble_eq_true rfl), (Nat.le_of_ble_eq_true rfl)⟩ ⟨(Nat.le_of_ble_eq_true rfl), (Nat.le_of_ble_eq_true rfl)⟩ [16] [0, 1, 2, 3, 4, 5, 6, 7, 8, 9, 10, 11, 12, 13, 14, 15] rfl rfl rfl rfl rfl (Nat.le_of_ble_eq_true rfl) d_SeamCell_init_39 (fun u12 _ => ?_)
  (try dsimp only)
  refine z_putF C hnm fp_SeamCell_28 0 rfl rfl rfl rfl [(h0, .inr (9, [.ref q1, .ref q7, .ref q11, .null, .null, .null, .null])), (q1, .inr (1, [.int 0, .int 0, .int 0, .int 0, .int (200 : Int32), .int (150 : Int32), .int (100 : Int32), .int 0, .ref q2, .ref q3, .ref q4, .ref q5])), (q2, cI κ 4 (fun _ => 0)), (q3, cI κ 4 (fun _ => 0)), (q4, cI κ 4 (fun _ => 0)), (q5, cI κ 4 (fun _ => 0)), (q7, .inr (4, [.ref q1, .ref q8, .int 0, .int (20 : Int32)])), (q8, cS κ 8 (fun i => some (r9 i))), ((r9 0), .inr (6, [.int 0, .int 0, .int 0, .int 0, .int 0, .int 0, .int 0])), ((r9 1), .inr (6, [.int 0, .int 0, .int 0, .int 0, .int 0, .int 0, .int 0])), ((r9 2), .inr (6, [.int 0, .int 0, .int 0, .int 0, .int 0, .int 0, .int 0])), ((r9 3), .inr (6, [.int 0, .int 0, .int 0, .int 0, .int 0, .int 0, .int 0])), ((r9 4), .inr (6, [.int 0, .int 0, .int 0, .int 0, .int 0, .int 0, .int 0])), ((r9 5), .inr (6, [.int 0, .int 0, .int 0, .int 0, .int 0, .int 0, .int 0])), ((r9 6), .inr (6, [.int 0, .int 0, .int 0, .int 0, .int 0, .int 0, .int 0])), ((r9 7), .inr (6, [.int 0, .int 0, .int 0, .int 0, .int 0, .int 0, .int 0])), (q11, .inr (3, [.ref q1, .int (10 : Int32), .int (20 : Int32), .int (5 : Int32), .int (10 : Int32), .int (0 : Int32), .int (300 : Int32)]))] rfl d_SeamCell_init_42 ?_
  refine z_aload C d_SeamCell_init_45 0 rfl ?_
  refine z_new C nw_SeamCell_32 (Nat.le_of_ble_eq_true rfl) (Nat.le_of_ble_eq_true rfl) d_SeamCell_init_46 (fun q13 => ?_)
  (try dsimp only)
  refine z_dup C d_SeamCell_init_49 rfl ?_
  refine z_aload C d_SeamCell_init_50 0 rfl ?_
  refine z_get C fl_SeamCell_21 0 rfl rfl d_SeamCell_init_51 ?_
  refine z_aload C d_SeamCell_init_54 0 rfl ?_
  refine z_get C fl_SeamCell_28 0 rfl rfl d_SeamCell_init_55 ?_
  refine z_ci C (host := "SeamCell") (rest := [.ref q13, .ref h0]) (wr := [(h0, .inr (9, [.ref q1, .ref q7, .ref q11, .null, .null, .null, .null])), (q1, .inr (1, [.int 0, .int 0, .int 0, .int 0, .int (200 : Int32), .int (150 : Int32), .int (100 : Int32), .int 0, .ref q2, .ref q3, .ref q4, .ref q5])), (q2, cI κ 4 (fun _ => 0)), (q3, cI κ 4 (fun _ => 0)), (q4, cI κ 4 (fun _ => 0)), (q5, cI κ 4 (fun _ => 0)), (q7, .inr (4, [.ref q1, .ref q8, .int 0, .int (20 : Int32)])), (q8, cS κ 8 (fun i => some (r9 i))), ((r9 0), .inr (6, [.int 0, .int 0, .int 0, .int 0, .int 0, .int 0, .int 0])), ((r9 1), .inr (6, [.int 0, .int 0, .int 0, .int 0, .int 0, .int 0, .int 0])), ((r9 2), .inr (6, [.int 0, .int 0, .int 0, .int 0, .int 0, .int 0, .int 0])), ((r9 3), .inr (6, [.int 0, .int 0, .int 0, .int 0, .int 0, .int 0, .int 0])), ((r9 4), .inr (6, [.int 0, .int 0, .int 0, .int 0, .int 0, .int 0, .int 0])), ((r9 5), .inr (6, [.int 0, .int 0, .int 0, .int 0, .int 0, .int 0, .int 0])), ((r9 6), .inr (6, [.int 0, .int 0, .int 0, .int 0, .int 0, .int 0, .int 0])), ((r9 7), .inr (6, [.int 0, .int 0, .int 0, .int 0, .int 0, .int 0, .int 0])), (q11, .inr (3, [.ref q1, .int (10 : Int32), .int (20 : Int32), .int (5 : Int32), .int (10 : Int32), .int (0 : Int32), .int (300 : Int32)]))]) hO (fun sz => ci_Plan l D κ q13 q7 q11 sz) iw_SeamCell_34 ⟨rfl, rfl⟩ ⟨(Nat.le_of_ble_eq_true rfl), (Nat.le_of_ble_eq_true rfl)⟩ ⟨(Nat.le_of_ble_eq_true rfl), (Nat.le_of_ble_eq_true rfl)⟩ [17] [0, 1, 2, 3, 4, 5, 6, 7, 8, 9, 10, 11, 12, 13, 14, 15, 16] rfl rfl rfl rfl rfl (Nat.le_of_ble_eq_true rfl) d_SeamCell_init_58 (fun u19 _ => ?_)
  obtain ⟨q14, q15, q16, q17, q18⟩ := u19
  (try dsimp only)
  refine z_putF C hnm fp_SeamCell_37 0 rfl rfl rfl rfl [(h0, .inr (9, [.ref q1, .ref q7, .ref q11, .ref q13, .null, .null, .null])), (q1, .inr (1, [.int 0, .int 0, .int 0, .int 0, .int (200 : Int32), .int (150 : Int32), .int (100 : Int32), .int 0, .ref q2, .ref q3, .ref q4, .ref q5])), (q2, cI κ 4 (fun _ => 0)), (q3, cI κ 4 (fun _ => 0)), (q4, cI κ 4 (fun _ => 0)), (q5, cI κ 4 (fun _ => 0)), (q7, .inr (4, [.ref q1, .ref q8, .int 0, .int (20 : Int32)])), (q8, cS κ 8 (fun i => some (r9 i))), ((r9 0), .inr (6, [.int 0, .int 0, .int 0, .int 0, .int 0, .int 0, .int 0])), ((r9 1), .inr (6, [.int 0, .int 0, .int 0, .int 0, .int 0, .int 0, .int 0])), ((r9 2), .inr (6, [.int 0, .int 0, .int 0, .int 0, .int 0, .int 0, .int 0])), ((r9 3), .inr (6, [.int 0, .int 0, .int 0, .int 0, .int 0, .int 0, .int 0])), ((r9 4), .inr (6, [.int 0, .int 0, .int 0, .int 0, .int 0, .int 0, .int 0])), ((r9 5), .inr (6, [.int 0, .int 0, .int 0, .int 0, .int 0, .int 0, .int 0])), ((r9 6), .inr (6, [.int 0, .int 0, .int 0, .int 0, .int 0, .int 0, .int 0])), ((r9 7), .inr (6, [.int 0, .int 0, .int 0, .int 0, .int 0, .int 0, .int 0])), (q11, .inr (3, [.ref q1, .int (10 : Int32), .int (20 : Int32), .int (5 : Int32), .int (10 : Int32), .int (0 : Int32), .int (300 : Int32)])), (q13, .inr (5, [.ref q7, .ref q11, .ref q14, .ref q15, .ref q16, .ref q17, .ref q18, .int 0])), (q14, cI κ 8 (fun _ => 0)), (q15, cI κ 8 (fun _ => 0)), (q16, cI κ 8 (fun _ => 0)), (q17, cI κ 8 (fun _ => 0)), (q18, cI κ 8 (fun _ => 0))] rfl d_SeamCell_init_61 ?_
  refine z_aload C d_SeamCell_init_64 0 rfl ?_
  refine z_new C nw_SeamCell_41 (Nat.le_of_ble_eq_true rfl) (Nat.le_of_ble_eq_true rfl) d_SeamCell_init_65 (fun q20 => ?_)
  (try dsimp only)
  refine z_dup C d_SeamCell_init_68 rfl ?_
  refine z_aload C d_SeamCell_init_69 0 rfl ?_
  refine z_get C fl_SeamCell_21 0 rfl rfl d_SeamCell_init_70 ?_
  refine z_aload C d_SeamCell_init_73 0 rfl ?_
  refine z_get C fl_SeamCell_28 0 rfl rfl d_SeamCell_init_74 ?_
  refine z_ci C (host := "SeamCell") (rest := [.ref q20, .ref h0]) (wr := [(h0, .inr (9, [.ref q1, .ref q7, .ref q11, .ref q13, .null, .null, .null])), (q1, .inr (1, [.int 0, .int 0, .int 0, .int 0, .int (200 : Int32), .int (150 : Int32), .int (100 : Int32), .int 0, .ref q2, .ref q3, .ref q4, .ref q5])), (q2, cI κ 4 (fun _ => 0)), (q3, cI κ 4 (fun _ => 0)), (q4, cI κ 4 (fun _ => 0)), (q5, cI κ 4 (fun _ => 0)), (q7, .inr (4, [.ref q1, .ref q8, .int 0, .int (20 : Int32)])), (q8, cS κ 8 (fun i => some (r9 i))), ((r9 0), .inr (6, [.int 0, .int 0, .int 0, .int 0, .int 0, .int 0, .int 0])), ((r9 1), .inr (6, [.int 0, .int 0, .int 0, .int 0, .int 0, .int 0, .int 0])), ((r9 2), .inr (6, [.int 0, .int 0, .int 0, .int 0, .int 0, .int 0, .int 0])), ((r9 3), .inr (6, [.int 0, .int 0, .int 0, .int 0, .int 0, .int 0, .int 0])), ((r9 4), .inr (6, [.int 0, .int 0, .int 0, .int 0, .int 0, .int 0, .int 0])), ((r9 5), .inr (6, [.int 0, .int 0, .int 0, .int 0, .int 0, .int 0, .int 0])), ((r9 6), .inr (6, [.int 0, .int 0, .int 0, .int 0, .int 0, .int 0, .int 0])), ((r9 7), .inr (6, [.int 0, .int 0, .int 0, .int 0, .int 0, .int 0, .int 0])), (q11, .inr (3, [.ref q1, .int (10 : Int32), .int (20 : Int32), .int (5 : Int32), .int (10 : Int32), .int (0 : Int32), .int (300 : Int32)])), (q13, .inr (5, [.ref q7, .ref q11, .ref q14, .ref q15, .ref q16, .ref q17, .ref q18, .int 0])), (q14, cI κ 8 (fun _ => 0)), (q15, cI κ 8 (fun _ => 0)), (q16, cI κ 8 (fun _ => 0)), (q17, cI κ 8 (fun _ => 0)), (q18, cI κ 8 (fun _ => 0))]) hO (fun sz => ci_Search l D κ q20 q7 q11 sz) iw_SeamCell_43 ⟨rfl, rfl⟩ ⟨(Nat.le_of_ble_eq_true rfl), (Nat.le_of_ble_eq_true rfl)⟩ ⟨(Nat.le_of_ble_eq_true rfl), (Nat.le_of_ble_eq_true rfl)⟩ [23] [0, 1, 2, 3, 4, 5, 6, 7, 8, 9, 10, 11, 12, 13, 14, 15, 16, 17, 18, 19, 20, 21, 22] rfl rfl rfl rfl rfl (Nat.le_of_ble_eq_true rfl) d_SeamCell_init_77 (fun u32 _ => ?_)
  obtain ⟨q21, q22, q23, q24, q25, q26, q27, q28, r29, q30, q31⟩ := u32
  (try dsimp only)
  refine z_putF C hnm fp_SeamCell_44 0 rfl rfl rfl rfl [(h0, .inr (9, [.ref q1, .ref q7, .ref q11, .ref q13, .ref q20, .null, .null])), (q1, .inr (1, [.int 0, .int 0, .int 0, .int 0, .int (200 : Int32), .int (150 : Int32), .int (100 : Int32), .int 0, .ref q2, .ref q3, .ref q4, .ref q5])), (q2, cI κ 4 (fun _ => 0)), (q3, cI κ 4 (fun _ => 0)), (q4, cI κ 4 (fun _ => 0)), (q5, cI κ 4 (fun _ => 0)), (q7, .inr (4, [.ref q1, .ref q8, .int 0, .int (20 : Int32)])), (q8, cS κ 8 (fun i => some (r9 i))), ((r9 0), .inr (6, [.int 0, .int 0, .int 0, .int 0, .int 0, .int 0, .int 0])), ((r9 1), .inr (6, [.int 0, .int 0, .int 0, .int 0, .int 0, .int 0, .int 0])), ((r9 2), .inr (6, [.int 0, .int 0, .int 0, .int 0, .int 0, .int 0, .int 0])), ((r9 3), .inr (6, [.int 0, .int 0, .int 0, .int 0, .int 0, .int 0, .int 0])), ((r9 4), .inr (6, [.int 0, .int 0, .int 0, .int 0, .int 0, .int 0, .int 0])), ((r9 5), .inr (6, [.int 0, .int 0, .int 0, .int 0, .int 0, .int 0, .int 0])), ((r9 6), .inr (6, [.int 0, .int 0, .int 0, .int 0, .int 0, .int 0, .int 0])), ((r9 7), .inr (6, [.int 0, .int 0, .int 0, .int 0, .int 0, .int 0, .int 0])), (q11, .inr (3, [.ref q1, .int (10 : Int32), .int (20 : Int32), .int (5 : Int32), .int (10 : Int32), .int (0 : Int32), .int (300 : Int32)])), (q13, .inr (5, [.ref q7, .ref q11, .ref q14, .ref q15, .ref q16, .ref q17, .ref q18, .int 0])), (q14, cI κ 8 (fun _ => 0)), (q15, cI κ 8 (fun _ => 0)), (q16, cI κ 8 (fun _ => 0)), (q17, cI κ 8 (fun _ => 0)), (q18, cI κ 8 (fun _ => 0)), (q20, .inr (7, [.ref q7, .ref q11, .ref q21, .ref q22, .ref q23, .ref q24, .ref q25, .ref q26, .ref q27, .ref q28, .ref q30, .ref q31, .int 0, .int 0])), (q21, cI κ 6 (fun _ => 0)), (q22, cI κ 6 (fun _ => 0)), (q23, cI κ 6 (fun _ => 0)), (q24, cI κ 6 (fun _ => 0)), (q25, cI κ 6 (fun _ => 0)), (q26, cI κ 6 (fun _ => 0)), (q27, cI κ 6 (fun _ => 0)), (q28, cM κ 13 (fun i => some (r29 i))), ((r29 0), cI κ 12 (fun _ => 0)), ((r29 1), cI κ 12 (fun _ => 0)), ((r29 2), cI κ 12 (fun _ => 0)), ((r29 3), cI κ 12 (fun _ => 0)), ((r29 4), cI κ 12 (fun _ => 0)), ((r29 5), cI κ 12 (fun _ => 0)), ((r29 6), cI κ 12 (fun _ => 0)), ((r29 7), cI κ 12 (fun _ => 0)), ((r29 8), cI κ 12 (fun _ => 0)), ((r29 9), cI κ 12 (fun _ => 0)), ((r29 10), cI κ 12 (fun _ => 0)), ((r29 11), cI κ 12 (fun _ => 0)), ((r29 12), cI κ 12 (fun _ => 0)), (q30, cI κ 6 (fun _ => 0)), (q31, cI κ 6 (fun _ => 0))] rfl d_SeamCell_init_80 ?_
  refine z_aload C d_SeamCell_init_83 0 rfl ?_
  refine z_new C nw_SeamCell_48 (Nat.le_of_ble_eq_true rfl) (Nat.le_of_ble_eq_true rfl) d_SeamCell_init_84 (fun q33 => ?_)
  (try dsimp only)
  refine z_dup C d_SeamCell_init_87 rfl ?_
  refine z_cni C (host := "SeamCell") (rest := [.ref q33, .ref h0]) (wr := [(h0, .inr (9, [.ref q1, .ref q7, .ref q11, .ref q13, .ref q20, .null, .null])), (q1, .inr (1, [.int 0, .int 0, .int 0, .int 0, .int (200 : Int32), .int (150 : Int32), .int (100 : Int32), .int 0, .ref q2, .ref q3, .ref q4, .ref q5])), (q2, cI κ 4 (fun _ => 0)), (q3, cI κ 4 (fun _ => 0)), (q4, cI κ 4 (fun _ => 0)), (q5, cI κ 4 (fun _ => 0)), (q7, .inr (4, [.ref q1, .ref q8, .int 0, .int (20 : Int32)])), (q8, cS κ 8 (fun i => some (r9 i))), ((r9 0), .inr (6, [.int 0, .int 0, .int 0, .int 0, .int 0, .int 0, .int 0])), ((r9 1), .inr (6, [.int 0, .int 0, .int 0, .int 0, .int 0, .int 0, .int 0])), ((r9 2), .inr (6, [.int 0, .int 0, .int 0, .int 0, .int 0, .int 0, .int 0])), ((r9 3), .inr (6, [.int 0, .int 0, .int 0, .int 0, .int 0, .int 0, .int 0])), ((r9 4), .inr (6, [.int 0, .int 0, .int 0, .int 0, .int 0, .int 0, .int 0])), ((r9 5), .inr (6, [.int 0, .int 0, .int 0, .int 0, .int 0, .int 0, .int 0])), ((r9 6), .inr (6, [.int 0, .int 0, .int 0, .int 0, .int 0, .int 0, .int 0])), ((r9 7), .inr (6, [.int 0, .int 0, .int 0, .int 0, .int 0, .int 0, .int 0])), (q11, .inr (3, [.ref q1, .int (10 : Int32), .int (20 : Int32), .int (5 : Int32), .int (10 : Int32), .int (0 : Int32), .int (300 : Int32)])), (q13, .inr (5, [.ref q7, .ref q11, .ref q14, .ref q15, .ref q16, .ref q17, .ref q18, .int 0])), (q14, cI κ 8 (fun _ => 0)), (q15, cI κ 8 (fun _ => 0)), (q16, cI κ 8 (fun _ => 0)), (q17, cI κ 8 (fun _ => 0)), (q18, cI κ 8 (fun _ => 0)), (q20, .inr (7, [.ref q7, .ref q11, .ref q21, .ref q22, .ref q23, .ref q24, .ref q25, .ref q26, .ref q27, .ref q28, .ref q30, .ref q31, .int 0, .int 0])), (q21, cI κ 6 (fun _ => 0)), (q22, cI κ 6 (fun _ => 0)), (q23, cI κ 6 (fun _ => 0)), (q24, cI κ 6 (fun _ => 0)), (q25, cI κ 6 (fun _ => 0)), (q26, cI κ 6 (fun _ => 0)), (q27, cI κ 6 (fun _ => 0)), (q28, cM κ 13 (fun i => some (r29 i))), ((r29 0), cI κ 12 (fun _ => 0)), ((r29 1), cI κ 12 (fun _ => 0)), ((r29 2), cI κ 12 (fun _ => 0)), ((r29 3), cI κ 12 (fun _ => 0)), ((r29 4), cI κ 12 (fun _ => 0)), ((r29 5), cI κ 12 (fun _ => 0)), ((r29 6), cI κ 12 (fun _ => 0)), ((r29 7), cI κ 12 (fun _ => 0)), ((r29 8), cI κ 12 (fun _ => 0)), ((r29 9), cI κ 12 (fun _ => 0)), ((r29 10), cI κ 12 (fun _ => 0)), ((r29 11), cI κ 12 (fun _ => 0)), ((r29 12), cI κ 12 (fun _ => 0)), (q30, cI κ 6 (fun _ => 0)), (q31, cI κ 6 (fun _ => 0))]) hO (fun sz => ci_Touches l D κ q33 sz) in_SeamCell_50 ⟨rfl, rfl⟩ ⟨(Nat.le_of_ble_eq_true rfl), (Nat.le_of_ble_eq_true rfl)⟩ ⟨(Nat.le_of_ble_eq_true rfl), (Nat.le_of_ble_eq_true rfl)⟩ [47] [0, 1, 2, 3, 4, 5, 6, 7, 8, 9, 10, 11, 12, 13, 14, 15, 16, 17, 18, 19, 20, 21, 22, 23, 24, 25, 26, 27, 28, 29, 30, 31, 32, 33, 34, 35, 36, 37, 38, 39, 40, 41, 42, 43, 44, 45, 46] rfl rfl rfl rfl rfl (Nat.le_of_ble_eq_true rfl) d_SeamCell_init_88 (fun u36 _ => ?_)
  obtain ⟨q34, q35⟩ := u36
  (try dsimp only)
  refine z_putF C hnm fp_SeamCell_51 0 rfl rfl rfl rfl [(h0, .inr (9, [.ref q1, .ref q7, .ref q11, .ref q13, .ref q20, .ref q33, .null])), (q1, .inr (1, [.int 0, .int 0, .int 0, .int 0, .int (200 : Int32), .int (150 : Int32), .int (100 : Int32), .int 0, .ref q2, .ref q3, .ref q4, .ref q5])), (q2, cI κ 4 (fun _ => 0)), (q3, cI κ 4 (fun _ => 0)), (q4, cI κ 4 (fun _ => 0)), (q5, cI κ 4 (fun _ => 0)), (q7, .inr (4, [.ref q1, .ref q8, .int 0, .int (20 : Int32)])), (q8, cS κ 8 (fun i => some (r9 i))), ((r9 0), .inr (6, [.int 0, .int 0, .int 0, .int 0, .int 0, .int 0, .int 0])), ((r9 1), .inr (6, [.int 0, .int 0, .int 0, .int 0, .int 0, .int 0, .int 0])), ((r9 2), .inr (6, [.int 0, .int 0, .int 0, .int 0, .int 0, .int 0, .int 0])), ((r9 3), .inr (6, [.int 0, .int 0, .int 0, .int 0, .int 0, .int 0, .int 0])), ((r9 4), .inr (6, [.int 0, .int 0, .int 0, .int 0, .int 0, .int 0, .int 0])), ((r9 5), .inr (6, [.int 0, .int 0, .int 0, .int 0, .int 0, .int 0, .int 0])), ((r9 6), .inr (6, [.int 0, .int 0, .int 0, .int 0, .int 0, .int 0, .int 0])), ((r9 7), .inr (6, [.int 0, .int 0, .int 0, .int 0, .int 0, .int 0, .int 0])), (q11, .inr (3, [.ref q1, .int (10 : Int32), .int (20 : Int32), .int (5 : Int32), .int (10 : Int32), .int (0 : Int32), .int (300 : Int32)])), (q13, .inr (5, [.ref q7, .ref q11, .ref q14, .ref q15, .ref q16, .ref q17, .ref q18, .int 0])), (q14, cI κ 8 (fun _ => 0)), (q15, cI κ 8 (fun _ => 0)), (q16, cI κ 8 (fun _ => 0)), (q17, cI κ 8 (fun _ => 0)), (q18, cI κ 8 (fun _ => 0)), (q20, .inr (7, [.ref q7, .ref q11, .ref q21, .ref q22, .ref q23, .ref q24, .ref q25, .ref q26, .ref q27, .ref q28, .ref q30, .ref q31, .int 0, .int 0])), (q21, cI κ 6 (fun _ => 0)), (q22, cI κ 6 (fun _ => 0)), (q23, cI κ 6 (fun _ => 0)), (q24, cI κ 6 (fun _ => 0)), (q25, cI κ 6 (fun _ => 0)), (q26, cI κ 6 (fun _ => 0)), (q27, cI κ 6 (fun _ => 0)), (q28, cM κ 13 (fun i => some (r29 i))), ((r29 0), cI κ 12 (fun _ => 0)), ((r29 1), cI κ 12 (fun _ => 0)), ((r29 2), cI κ 12 (fun _ => 0)), ((r29 3), cI κ 12 (fun _ => 0)), ((r29 4), cI κ 12 (fun _ => 0)), ((r29 5), cI κ 12 (fun _ => 0)), ((r29 6), cI κ 12 (fun _ => 0)), ((r29 7), cI κ 12 (fun _ => 0)), ((r29 8), cI κ 12 (fun _ => 0)), ((r29 9), cI κ 12 (fun _ => 0)), ((r29 10), cI κ 12 (fun _ => 0)), ((r29 11), cI κ 12 (fun _ => 0)), ((r29 12), cI κ 12 (fun _ => 0)), (q30, cI κ 6 (fun _ => 0)), (q31, cI κ 6 (fun _ => 0)), (q33, .inr (8, [.ref q34, .ref q35, .int 0])), (q34, cI κ 2 (upd (upd (fun _ => 0) 0 (-20 : Int32)) 1 (-20 : Int32))), (q35, cI κ 2 (upd (upd (fun _ => 0) 0 (20 : Int32)) 1 (20 : Int32)))] rfl d_SeamCell_init_91 ?_
  refine z_aload C d_SeamCell_init_94 0 rfl ?_
  refine z_new C nw_SeamCell_55 (Nat.le_of_ble_eq_true rfl) (Nat.le_of_ble_eq_true rfl) d_SeamCell_init_95 (fun q37 => ?_)
  (try dsimp only)
  refine z_dup C d_SeamCell_init_98 rfl ?_
  refine z_cni C (host := "SeamCell") (rest := [.ref q37, .ref h0]) (wr := [(h0, .inr (9, [.ref q1, .ref q7, .ref q11, .ref q13, .ref q20, .ref q33, .null])), (q1, .inr (1, [.int 0, .int 0, .int 0, .int 0, .int (200 : Int32), .int (150 : Int32), .int (100 : Int32), .int 0, .ref q2, .ref q3, .ref q4, .ref q5])), (q2, cI κ 4 (fun _ => 0)), (q3, cI κ 4 (fun _ => 0)), (q4, cI κ 4 (fun _ => 0)), (q5, cI κ 4 (fun _ => 0)), (q7, .inr (4, [.ref q1, .ref q8, .int 0, .int (20 : Int32)])), (q8, cS κ 8 (fun i => some (r9 i))), ((r9 0), .inr (6, [.int 0, .int 0, .int 0, .int 0, .int 0, .int 0, .int 0])), ((r9 1), .inr (6, [.int 0, .int 0, .int 0, .int 0, .int 0, .int 0, .int 0])), ((r9 2), .inr (6, [.int 0, .int 0, .int 0, .int 0, .int 0, .int 0, .int 0])), ((r9 3), .inr (6, [.int 0, .int 0, .int 0, .int 0, .int 0, .int 0, .int 0])), ((r9 4), .inr (6, [.int 0, .int 0, .int 0, .int 0, .int 0, .int 0, .int 0])), ((r9 5), .inr (6, [.int 0, .int 0, .int 0, .int 0, .int 0, .int 0, .int 0])), ((r9 6), .inr (6, [.int 0, .int 0, .int 0, .int 0, .int 0, .int 0, .int 0])), ((r9 7), .inr (6, [.int 0, .int 0, .int 0, .int 0, .int 0, .int 0, .int 0])), (q11, .inr (3, [.ref q1, .int (10 : Int32), .int (20 : Int32), .int (5 : Int32), .int (10 : Int32), .int (0 : Int32), .int (300 : Int32)])), (q13, .inr (5, [.ref q7, .ref q11, .ref q14, .ref q15, .ref q16, .ref q17, .ref q18, .int 0])), (q14, cI κ 8 (fun _ => 0)), (q15, cI κ 8 (fun _ => 0)), (q16, cI κ 8 (fun _ => 0)), (q17, cI κ 8 (fun _ => 0)), (q18, cI κ 8 (fun _ => 0)), (q20, .inr (7, [.ref q7, .ref q11, .ref q21, .ref q22, .ref q23, .ref q24, .ref q25, .ref q26, .ref q27, .ref q28, .ref q30, .ref q31, .int 0, .int 0])), (q21, cI κ 6 (fun _ => 0)), (q22, cI κ 6 (fun _ => 0)), (q23, cI κ 6 (fun _ => 0)), (q24, cI κ 6 (fun _ => 0)), (q25, cI κ 6 (fun _ => 0)), (q26, cI κ 6 (fun _ => 0)), (q27, cI κ 6 (fun _ => 0)), (q28, cM κ 13 (fun i => some (r29 i))), ((r29 0), cI κ 12 (fun _ => 0)), ((r29 1), cI κ 12 (fun _ => 0)), ((r29 2), cI κ 12 (fun _ => 0)), ((r29 3), cI κ 12 (fun _ => 0)), ((r29 4), cI κ 12 (fun _ => 0)), ((r29 5), cI κ 12 (fun _ => 0)), ((r29 6), cI κ 12 (fun _ => 0)), ((r29 7), cI κ 12 (fun _ => 0)), ((r29 8), cI κ 12 (fun _ => 0)), ((r29 9), cI κ 12 (fun _ => 0)), ((r29 10), cI κ 12 (fun _ => 0)), ((r29 11), cI κ 12 (fun _ => 0)), ((r29 12), cI κ 12 (fun _ => 0)), (q30, cI κ 6 (fun _ => 0)), (q31, cI κ 6 (fun _ => 0)), (q33, .inr (8, [.ref q34, .ref q35, .int 0])), (q34, cI κ 2 (upd (upd (fun _ => 0) 0 (-20 : Int32)) 1 (-20 : Int32))), (q35, cI κ 2 (upd (upd (fun _ => 0) 0 (20 : Int32)) 1 (20 : Int32)))]) hO (fun sz => ci_Crew l D κ q37 sz) in_SeamCell_57 ⟨rfl, rfl⟩ ⟨(Nat.le_of_ble_eq_true rfl), (Nat.le_of_ble_eq_true rfl)⟩ ⟨(Nat.le_of_ble_eq_true rfl), (Nat.le_of_ble_eq_true rfl)⟩ [50] [0, 1, 2, 3, 4, 5, 6, 7, 8, 9, 10, 11, 12, 13, 14, 15, 16, 17, 18, 19, 20, 21, 22, 23, 24, 25, 26, 27, 28, 29, 30, 31, 32, 33, 34, 35, 36, 37, 38, 39, 40, 41, 42, 43, 44, 45, 46, 47, 48, 49] rfl rfl rfl rfl rfl (Nat.le_of_ble_eq_true rfl) d_SeamCell_init_99 (fun u48 _ => ?_)
  obtain ⟨q38, q39, q40, q41, q42, q43, q44, q45, q46, q47⟩ := u48
  (try dsimp only)
  refine z_putF C hnm fp_SeamCell_58 0 rfl rfl rfl rfl [(h0, .inr (9, [.ref q1, .ref q7, .ref q11, .ref q13, .ref q20, .ref q33, .ref q37])), (q1, .inr (1, [.int 0, .int 0, .int 0, .int 0, .int (200 : Int32), .int (150 : Int32), .int (100 : Int32), .int 0, .ref q2, .ref q3, .ref q4, .ref q5])), (q2, cI κ 4 (fun _ => 0)), (q3, cI κ 4 (fun _ => 0)), (q4, cI κ 4 (fun _ => 0)), (q5, cI κ 4 (fun _ => 0)), (q7, .inr (4, [.ref q1, .ref q8, .int 0, .int (20 : Int32)])), (q8, cS κ 8 (fun i => some (r9 i))), ((r9 0), .inr (6, [.int 0, .int 0, .int 0, .int 0, .int 0, .int 0, .int 0])), ((r9 1), .inr (6, [.int 0, .int 0, .int 0, .int 0, .int 0, .int 0, .int 0])), ((r9 2), .inr (6, [.int 0, .int 0, .int 0, .int 0, .int 0, .int 0, .int 0])), ((r9 3), .inr (6, [.int 0, .int 0, .int 0, .int 0, .int 0, .int 0, .int 0])), ((r9 4), .inr (6, [.int 0, .int 0, .int 0, .int 0, .int 0, .int 0, .int 0])), ((r9 5), .inr (6, [.int 0, .int 0, .int 0, .int 0, .int 0, .int 0, .int 0])), ((r9 6), .inr (6, [.int 0, .int 0, .int 0, .int 0, .int 0, .int 0, .int 0])), ((r9 7), .inr (6, [.int 0, .int 0, .int 0, .int 0, .int 0, .int 0, .int 0])), (q11, .inr (3, [.ref q1, .int (10 : Int32), .int (20 : Int32), .int (5 : Int32), .int (10 : Int32), .int (0 : Int32), .int (300 : Int32)])), (q13, .inr (5, [.ref q7, .ref q11, .ref q14, .ref q15, .ref q16, .ref q17, .ref q18, .int 0])), (q14, cI κ 8 (fun _ => 0)), (q15, cI κ 8 (fun _ => 0)), (q16, cI κ 8 (fun _ => 0)), (q17, cI κ 8 (fun _ => 0)), (q18, cI κ 8 (fun _ => 0)), (q20, .inr (7, [.ref q7, .ref q11, .ref q21, .ref q22, .ref q23, .ref q24, .ref q25, .ref q26, .ref q27, .ref q28, .ref q30, .ref q31, .int 0, .int 0])), (q21, cI κ 6 (fun _ => 0)), (q22, cI κ 6 (fun _ => 0)), (q23, cI κ 6 (fun _ => 0)), (q24, cI κ 6 (fun _ => 0)), (q25, cI κ 6 (fun _ => 0)), (q26, cI κ 6 (fun _ => 0)), (q27, cI κ 6 (fun _ => 0)), (q28, cM κ 13 (fun i => some (r29 i))), ((r29 0), cI κ 12 (fun _ => 0)), ((r29 1), cI κ 12 (fun _ => 0)), ((r29 2), cI κ 12 (fun _ => 0)), ((r29 3), cI κ 12 (fun _ => 0)), ((r29 4), cI κ 12 (fun _ => 0)), ((r29 5), cI κ 12 (fun _ => 0)), ((r29 6), cI κ 12 (fun _ => 0)), ((r29 7), cI κ 12 (fun _ => 0)), ((r29 8), cI κ 12 (fun _ => 0)), ((r29 9), cI κ 12 (fun _ => 0)), ((r29 10), cI κ 12 (fun _ => 0)), ((r29 11), cI κ 12 (fun _ => 0)), ((r29 12), cI κ 12 (fun _ => 0)), (q30, cI κ 6 (fun _ => 0)), (q31, cI κ 6 (fun _ => 0)), (q33, .inr (8, [.ref q34, .ref q35, .int 0])), (q34, cI κ 2 (upd (upd (fun _ => 0) 0 (-20 : Int32)) 1 (-20 : Int32))), (q35, cI κ 2 (upd (upd (fun _ => 0) 0 (20 : Int32)) 1 (20 : Int32))), (q37, .inr (2, [.ref q38, .ref q42, .ref q46, .ref q47, .int 0])), (q38, .inr (0, [.ref q39, .ref q40, .ref q41, .int 0, .int 0, .int 0, .int 0])), (q39, cI κ 16 (fun _ => 0)), (q40, cI κ 16 (fun _ => 0)), (q41, cI κ 17 (fun _ => 0)), (q42, .inr (0, [.ref q43, .ref q44, .ref q45, .int 0, .int 0, .int 0, .int 0])), (q43, cI κ 16 (fun _ => 0)), (q44, cI κ 16 (fun _ => 0)), (q45, cI κ 17 (fun _ => 0)), (q46, cZ κ 289 (fun _ => 0)), (q47, cI κ 5 (fun _ => 0))] rfl d_SeamCell_init_102 ?_
  exact ze_vret C (q1, q2, q3, q4, q5, q7, q8, r9, q11, q13, q14, q15, q16, q17, q18, q20, q21, q22, q23, q24, q25, q26, q27, q28, r29, q30, q31, q33, q34, q35, q37, q38, q39, q40, q41, q42, q43, q44, q45, q46, q47) hr hlk rfl d_SeamCell_init_105 trivial
abbrev rm_Model_init : Room := { frames := 1, cells := 18, slots := 490, locals := 21 }
set_option maxHeartbeats 8000000 in
set_option maxRecDepth 100000 in
theorem ci_Model (l : Launch) (D : va_G) (κ : KT) (h0 : Nat) (hshut : wp_Model_shutAnew (fun _ => 0) (fun _ => 0) (fun t lo hi => t = 0 ∧ (∀ k, k < 2 → lo k = -20) ∧ (∀ k, k < 2 → hi k = 20))) (sz : Nat) : Met l y_Model_init (wsG y_Model_init b_Model_init 1 none) rm_Model_init (PX D κ [.ref h0] [(h0, .inr (10, [.int 0, .int 0, .int 0, .int 0, .int 0, .int 0, .int 0, .int 0, .int 0, .int 0, .int 0, .int 0, .null, .int 0, .null, .int 0, .null, .null, .int 0, .long 0, .long 0, .long 0, .long 0, .null, .null, .null, .null, .null, .null, .null, .int 0, .int 0, .int 0, .null, .null, .null, .null, .null, .null, .int 0, .null]))] sz) (va_Qv (fun (u : (Nat) × (Nat) × (Nat) × (Nat) × (Nat) × (Nat) × (Nat) × (Nat) × (Nat) × (Nat) × (Nat) × (Nat) × (Nat) × (Nat) × (Nat) × (Nat) × (Nat) × (Nat) × (Nat → Int32) × (Nat → Int32)) => (∀ k, k < 2 → u.2.2.2.2.2.2.2.2.2.2.2.2.2.2.2.2.2.2.1 k = -20) ∧ (∀ k, k < 2 → u.2.2.2.2.2.2.2.2.2.2.2.2.2.2.2.2.2.2.2 k = 20)) (QB D [(h0, .inr (10, [.int 0, .int 0, .int 0, .int 0, .int 0, .int 0, .int 0, .int 0, .int 0, .int 0, .int 0, .int 0, .null, .int 0, .null, .int 0, .null, .null, .int 0, .long 0, .long 0, .long 0, .long 0, .null, .null, .null, .null, .null, .null, .null, .int 0, .int 0, .int 0, .null, .null, .null, .null, .null, .null, .int 0, .null]))] sz (fun (u : (Nat) × (Nat) × (Nat) × (Nat) × (Nat) × (Nat) × (Nat) × (Nat) × (Nat) × (Nat) × (Nat) × (Nat) × (Nat) × (Nat) × (Nat) × (Nat) × (Nat) × (Nat) × (Nat → Int32) × (Nat → Int32)) => [(u.1, cI κ 16 (fun _ => 0)), (u.2.1, cI κ 48 (fun _ => 0)), (u.2.2.1, cI κ 8 (fun _ => 0)), (u.2.2.2.1, cI κ 8 (fun _ => 0)), (u.2.2.2.2.1, cI κ 8 (fun _ => 0)), (u.2.2.2.2.2.1, cI κ 8 (fun _ => 0)), (u.2.2.2.2.2.2.1, cI κ 8 (fun _ => 0)), (u.2.2.2.2.2.2.2.1, cI κ 8 (fun _ => 0)), (u.2.2.2.2.2.2.2.2.1, cI κ 8 (fun _ => 0)), (u.2.2.2.2.2.2.2.2.2.2.2.1, cI κ 64 (fun _ => 0)), (u.2.2.2.2.2.2.2.2.2.2.2.2.1, cI κ 2 (fun _ => 0)), (u.2.2.2.2.2.2.2.2.2.2.2.2.2.1, cI κ 2 (fun _ => 0)), (u.2.2.2.2.2.2.2.2.2.2.2.2.2.2.1, cI κ 2 (fun _ => 0)), (u.2.2.2.2.2.2.2.2.2.2.2.2.2.2.2.1, cI κ 2 (fun _ => 0)), (u.2.2.2.2.2.2.2.2.2.2.2.2.2.2.2.2.1, cI κ 5 (fun _ => 0)), (u.2.2.2.2.2.2.2.2.2.2.2.2.2.2.2.2.2.1, cZ κ 289 (fun _ => 0)), (h0, .inr (10, [.int 0, .int 0, .int (200 : Int32), .int (150 : Int32), .int (100 : Int32), .int (20 : Int32), .int (10 : Int32), .int (20 : Int32), .int (5 : Int32), .int (10 : Int32), .int 0, .int (300 : Int32), .ref u.1, .int 0, .ref u.2.1, .int 0, .ref u.2.2.1, .ref u.2.2.2.1, .int 0, .long 0, .long 0, .long 0, .long 0, .ref u.2.2.2.2.1, .ref u.2.2.2.2.2.1, .ref u.2.2.2.2.2.2.1, .ref u.2.2.2.2.2.2.2.1, .ref u.2.2.2.2.2.2.2.2.1, .ref u.2.2.2.2.2.2.2.2.2.1, .ref u.2.2.2.2.2.2.2.2.2.2.1, .int 0, .int 0, .int 0, .ref u.2.2.2.2.2.2.2.2.2.2.2.1, .ref u.2.2.2.2.2.2.2.2.2.2.2.2.1, .ref u.2.2.2.2.2.2.2.2.2.2.2.2.2.1, .ref u.2.2.2.2.2.2.2.2.2.2.2.2.2.2.1, .ref u.2.2.2.2.2.2.2.2.2.2.2.2.2.2.2.1, .ref u.2.2.2.2.2.2.2.2.2.2.2.2.2.2.2.2.1, .int 0, .ref u.2.2.2.2.2.2.2.2.2.2.2.2.2.2.2.2.2.1])), (u.2.2.2.2.2.2.2.2.2.1, cI κ 2 u.2.2.2.2.2.2.2.2.2.2.2.2.2.2.2.2.2.2.1), (u.2.2.2.2.2.2.2.2.2.2.1, cI κ 2 u.2.2.2.2.2.2.2.2.2.2.2.2.2.2.2.2.2.2.2)])) (va_A [(h0, .inr (10, [.int 0, .int 0, .int 0, .int 0, .int 0, .int 0, .int 0, .int 0, .int 0, .int 0, .int 0, .int 0, .null, .int 0, .null, .int 0, .null, .null, .int 0, .long 0, .long 0, .long 0, .long 0, .null, .null, .null, .null, .null, .null, .null, .int 0, .int 0, .int 0, .null, .null, .null, .null, .null, .null, .int 0, .null]))] sz)) 18 490 (va_A [(h0, .inr (10, [.int 0, .int 0, .int 0, .int 0, .int 0, .int 0, .int 0, .int 0, .int 0, .int 0, .int 0, .int 0, .null, .int 0, .null, .int 0, .null, .null, .int 0, .long 0, .long 0, .long 0, .long 0, .null, .null, .null, .null, .null, .null, .null, .int 0, .int 0, .int 0, .null, .null, .null, .null, .null, .null, .int 0, .null]))] sz) := by
  refine zx_start [(0, .ref h0)] rfl (Nat.le_of_ble_eq_true rfl) rfl ?_
  intro p e s m args below meth c C hr hlk hnm hsz hO
  subst hsz
  refine z_aload C d_Model_init_0 0 rfl ?_
  refine z_oinit C oi_Model_1 (Nat.le_of_ble_eq_true rfl) (Nat.le_of_ble_eq_true rfl) d_Model_init_1 ?_
  refine z_aload C d_Model_init_4 0 rfl ?_
  refine z_k C d_Model_init_5 ?_
  refine z_put C fp_Model_7 0 rfl rfl rfl rfl [(h0, .inr (10, [.int 0, .int 0, .int (200 : Int32), .int 0, .int 0, .int 0, .int 0, .int 0, .int 0, .int 0, .int 0, .int 0, .null, .int 0, .null, .int 0, .null, .null, .int 0, .long 0, .long 0, .long 0, .long 0, .null, .null, .null, .null, .null, .null, .null, .int 0, .int 0, .int 0, .null, .null, .null, .null, .null, .null, .int 0, .null]))] rfl d_Model_init_8 ?_
  refine z_aload C d_Model_init_11 0 rfl ?_
  refine z_k C d_Model_init_12 ?_
  refine z_put C fp_Model_13 0 rfl rfl rfl rfl [(h0, .inr (10, [.int 0, .int 0, .int (200 : Int32), .int (150 : Int32), .int 0, .int 0, .int 0, .int 0, .int 0, .int 0, .int 0, .int 0, .null, .int 0, .null, .int 0, .null, .null, .int 0, .long 0, .long 0, .long 0, .long 0, .null, .null, .null, .null, .null, .null, .null, .int 0, .int 0, .int 0, .null, .null, .null, .null, .null, .null, .int 0, .null]))] rfl d_Model_init_15 ?_
  refine z_aload C d_Model_init_18 0 rfl ?_
  refine z_k C d_Model_init_19 ?_
  refine z_put C fp_Model_16 0 rfl rfl rfl rfl [(h0, .inr (10, [.int 0, .int 0, .int (200 : Int32), .int (150 : Int32), .int (100 : Int32), .int 0, .int 0, .int 0, .int 0, .int 0, .int 0, .int 0, .null, .int 0, .null, .int 0, .null, .null, .int 0, .long 0, .long 0, .long 0, .long 0, .null, .null, .null, .null, .null, .null, .null, .int 0, .int 0, .int 0, .null, .null, .null, .null, .null, .null, .int 0, .null]))] rfl d_Model_init_21 ?_
  refine z_aload C d_Model_init_24 0 rfl ?_
  refine z_k C d_Model_init_25 ?_
  refine z_put C fp_Model_19 0 rfl rfl rfl rfl [(h0, .inr (10, [.int 0, .int 0, .int (200 : Int32), .int (150 : Int32), .int (100 : Int32), .int (20 : Int32), .int 0, .int 0, .int 0, .int 0, .int 0, .int 0, .null, .int 0, .null, .int 0, .null, .null, .int 0, .long 0, .long 0, .long 0, .long 0, .null, .null, .null, .null, .null, .null, .null, .int 0, .int 0, .int 0, .null, .null, .null, .null, .null, .null, .int 0, .null]))] rfl d_Model_init_27 ?_
  refine z_aload C d_Model_init_30 0 rfl ?_
  refine z_k C d_Model_init_31 ?_
  refine z_put C fp_Model_22 0 rfl rfl rfl rfl [(h0, .inr (10, [.int 0, .int 0, .int (200 : Int32), .int (150 : Int32), .int (100 : Int32), .int (20 : Int32), .int (10 : Int32), .int 0, .int 0, .int 0, .int 0, .int 0, .null, .int 0, .null, .int 0, .null, .null, .int 0, .long 0, .long 0, .long 0, .long 0, .null, .null, .null, .null, .null, .null, .null, .int 0, .int 0, .int 0, .null, .null, .null, .null, .null, .null, .int 0, .null]))] rfl d_Model_init_33 ?_
  refine z_aload C d_Model_init_36 0 rfl ?_
  refine z_k C d_Model_init_37 ?_
  refine z_put C fp_Model_25 0 rfl rfl rfl rfl [(h0, .inr (10, [.int 0, .int 0, .int (200 : Int32), .int (150 : Int32), .int (100 : Int32), .int (20 : Int32), .int (10 : Int32), .int (20 : Int32), .int 0, .int 0, .int 0, .int 0, .null, .int 0, .null, .int 0, .null, .null, .int 0, .long 0, .long 0, .long 0, .long 0, .null, .null, .null, .null, .null, .null, .null, .int 0, .int 0, .int 0, .null, .null, .null, .null, .null, .null, .int 0, .null]))] rfl d_Model_init_39 ?_
  refine z_aload C d_Model_init_42 0 rfl ?_
  refine z_k C d_Model_init_43 ?_
  refine z_put C fp_Model_28 0 rfl rfl rfl rfl [(h0, .inr (10, [.int 0, .int 0, .int (200 : Int32), .int (150 : Int32), .int (100 : Int32), .int (20 : Int32), .int (10 : Int32), .int (20 : Int32), .int (5 : Int32), .int 0, .int 0, .int 0, .null, .int 0, .null, .int 0, .null, .null, .int 0, .long 0, .long 0, .long 0, .long 0, .null, .null, .null, .null, .null, .null, .null, .int 0, .int 0, .int 0, .null, .null, .null, .null, .null, .null, .int 0, .null]))] rfl d_Model_init_44 ?_
  refine z_aload C d_Model_init_47 0 rfl ?_
  refine z_k C d_Model_init_48 ?_
  refine z_put C fp_Model_31 0 rfl rfl rfl rfl [(h0, .inr (10, [.int 0, .int 0, .int (200 : Int32), .int (150 : Int32), .int (100 : Int32), .int (20 : Int32), .int (10 : Int32), .int (20 : Int32), .int (5 : Int32), .int (10 : Int32), .int 0, .int 0, .null, .int 0, .null, .int 0, .null, .null, .int 0, .long 0, .long 0, .long 0, .long 0, .null, .null, .null, .null, .null, .null, .null, .int 0, .int 0, .int 0, .null, .null, .null, .null, .null, .null, .int 0, .null]))] rfl d_Model_init_50 ?_
  refine z_aload C d_Model_init_53 0 rfl ?_
  refine z_k C d_Model_init_54 ?_
  refine z_put C fp_Model_34 0 rfl rfl rfl rfl [(h0, .inr (10, [.int 0, .int 0, .int (200 : Int32), .int (150 : Int32), .int (100 : Int32), .int (20 : Int32), .int (10 : Int32), .int (20 : Int32), .int (5 : Int32), .int (10 : Int32), .int 0, .int (300 : Int32), .null, .int 0, .null, .int 0, .null, .null, .int 0, .long 0, .long 0, .long 0, .long 0, .null, .null, .null, .null, .null, .null, .null, .int 0, .int 0, .int 0, .null, .null, .null, .null, .null, .null, .int 0, .null]))] rfl d_Model_init_57 ?_
  refine z_aload C d_Model_init_60 0 rfl ?_
  refine z_k C d_Model_init_61 ?_
  refine z_newa C (N := 16) wd_aI (by decide) (by decide) (by decide) (Nat.le_of_ble_eq_true rfl) (Nat.le_of_ble_eq_true rfl) d_Model_init_63 (fun q1 => ?_)
  (try dsimp only)
  refine z_putF C hnm fp_Model_37 0 rfl rfl rfl rfl [(h0, .inr (10, [.int 0, .int 0, .int (200 : Int32), .int (150 : Int32), .int (100 : Int32), .int (20 : Int32), .int (10 : Int32), .int (20 : Int32), .int (5 : Int32), .int (10 : Int32), .int 0, .int (300 : Int32), .ref q1, .int 0, .null, .int 0, .null, .null, .int 0, .long 0, .long 0, .long 0, .long 0, .null, .null, .null, .null, .null, .null, .null, .int 0, .int 0, .int 0, .null, .null, .null, .null, .null, .null, .int 0, .null])), (q1, cI κ 16 (fun _ => 0))] rfl d_Model_init_65 ?_
  refine z_aload C d_Model_init_68 0 rfl ?_
  refine z_k C d_Model_init_69 ?_
  refine z_newa C (N := 48) wd_aI (by decide) (by decide) (by decide) (Nat.le_of_ble_eq_true rfl) (Nat.le_of_ble_eq_true rfl) d_Model_init_71 (fun q2 => ?_)
  (try dsimp only)
  refine z_putF C hnm fp_Model_41 0 rfl rfl rfl rfl [(h0, .inr (10, [.int 0, .int 0, .int (200 : Int32), .int (150 : Int32), .int (100 : Int32), .int (20 : Int32), .int (10 : Int32), .int (20 : Int32), .int (5 : Int32), .int (10 : Int32), .int 0, .int (300 : Int32), .ref q1, .int 0, .ref q2, .int 0, .null, .null, .int 0, .long 0, .long 0, .long 0, .long 0, .null, .null, .null, .null, .null, .null, .null, .int 0, .int 0, .int 0, .null, .null, .null, .null, .null, .null, .int 0, .null])), (q1, cI κ 16 (fun _ => 0)), (q2, cI κ 48 (fun _ => 0))] rfl d_Model_init_73 ?_
  refine z_aload C d_Model_init_76 0 rfl ?_
  refine z_k C d_Model_init_77 ?_
  refine z_newa C (N := 8) wd_aI (by decide) (by decide) (by decide) (Nat.le_of_ble_eq_true rfl) (Nat.le_of_ble_eq_true rfl) d_Model_init_79 (fun q3 => ?_)
  (try dsimp only)
  refine z_putF C hnm fp_Model_44 0 rfl rfl rfl rfl [(h0, .inr (10, [.int 0, .int 0, .int (200 : Int32), .int (150 : Int32), .int (100 : Int32), .int (20 : Int32), .int (10 : Int32), .int (20 : Int32), .int (5 : Int32), .int (10 : Int32), .int 0, .int (300 : Int32), .ref q1, .int 0, .ref q2, .int 0, .ref q3, .null, .int 0, .long 0, .long 0, .long 0, .long 0, .null, .null, .null, .null, .null, .null, .null, .int 0, .int 0, .int 0, .null, .null, .null, .null, .null, .null, .int 0, .null])), (q1, cI κ 16 (fun _ => 0)), (q2, cI κ 48 (fun _ => 0)), (q3, cI κ 8 (fun _ => 0))] rfl d_Model_init_81 ?_
  refine z_aload C d_Model_init_84 0 rfl ?_
  refine z_k C d_Model_init_85 ?_
  refine z_newa C (N := 8) wd_aI (by decide) (by decide) (by decide) (Nat.le_of_ble_eq_true rfl) (Nat.le_of_ble_eq_true rfl) d_Model_init_87 (fun q4 => ?_)
  (try dsimp only)
  refine z_putF C hnm fp_Model_47 0 rfl rfl rfl rfl [(h0, .inr (10, [.int 0, .int 0, .int (200 : Int32), .int (150 : Int32), .int (100 : Int32), .int (20 : Int32), .int (10 : Int32), .int (20 : Int32), .int (5 : Int32), .int (10 : Int32), .int 0, .int (300 : Int32), .ref q1, .int 0, .ref q2, .int 0, .ref q3, .ref q4, .int 0, .long 0, .long 0, .long 0, .long 0, .null, .null, .null, .null, .null, .null, .null, .int 0, .int 0, .int 0, .null, .null, .null, .null, .null, .null, .int 0, .null])), (q1, cI κ 16 (fun _ => 0)), (q2, cI κ 48 (fun _ => 0)), (q3, cI κ 8 (fun _ => 0)), (q4, cI κ 8 (fun _ => 0))] rfl d_Model_init_89 ?_
  refine z_aload C d_Model_init_92 0 rfl ?_
  refine z_k C d_Model_init_93 ?_
  refine z_newa C (N := 8) wd_aI (by decide) (by decide) (by decide) (Nat.le_of_ble_eq_true rfl) (Nat.le_of_ble_eq_true rfl) d_Model_init_95 (fun q5 => ?_)
  (try dsimp only)
  refine z_putF C hnm fp_Model_50 0 rfl rfl rfl rfl [(h0, .inr (10, [.int 0, .int 0, .int (200 : Int32), .int (150 : Int32), .int (100 : Int32), .int (20 : Int32), .int (10 : Int32), .int (20 : Int32), .int (5 : Int32), .int (10 : Int32), .int 0, .int (300 : Int32), .ref q1, .int 0, .ref q2, .int 0, .ref q3, .ref q4, .int 0, .long 0, .long 0, .long 0, .long 0, .ref q5, .null, .null, .null, .null, .null, .null, .int 0, .int 0, .int 0, .null, .null, .null, .null, .null, .null, .int 0, .null])), (q1, cI κ 16 (fun _ => 0)), (q2, cI κ 48 (fun _ => 0)), (q3, cI κ 8 (fun _ => 0)), (q4, cI κ 8 (fun _ => 0)), (q5, cI κ 8 (fun _ => 0))] rfl d_Model_init_97 ?_
  refine z_aload C d_Model_init_100 0 rfl ?_
  refine z_k C d_Model_init_101 ?_
  refine z_newa C (N := 8) wd_aI (by decide) (by decide) (by decide) (Nat.le_of_ble_eq_true rfl) (Nat.le_of_ble_eq_true rfl) d_Model_init_103 (fun q6 => ?_)
  (try dsimp only)
  refine z_putF C hnm fp_Model_53 0 rfl rfl rfl rfl [(h0, .inr (10, [.int 0, .int 0, .int (200 : Int32), .int (150 : Int32), .int (100 : Int32), .int (20 : Int32), .int (10 : Int32), .int (20 : Int32), .int (5 : Int32), .int (10 : Int32), .int 0, .int (300 : Int32), .ref q1, .int 0, .ref q2, .int 0, .ref q3, .ref q4, .int 0, .long 0, .long 0, .long 0, .long 0, .ref q5, .ref q6, .null, .null, .null, .null, .null, .int 0, .int 0, .int 0, .null, .null, .null, .null, .null, .null, .int 0, .null])), (q1, cI κ 16 (fun _ => 0)), (q2, cI κ 48 (fun _ => 0)), (q3, cI κ 8 (fun _ => 0)), (q4, cI κ 8 (fun _ => 0)), (q5, cI κ 8 (fun _ => 0)), (q6, cI κ 8 (fun _ => 0))] rfl d_Model_init_105 ?_
  refine z_aload C d_Model_init_108 0 rfl ?_
  refine z_k C d_Model_init_109 ?_
  refine z_newa C (N := 8) wd_aI (by decide) (by decide) (by decide) (Nat.le_of_ble_eq_true rfl) (Nat.le_of_ble_eq_true rfl) d_Model_init_111 (fun q7 => ?_)
  (try dsimp only)
  refine z_putF C hnm fp_Model_56 0 rfl rfl rfl rfl [(h0, .inr (10, [.int 0, .int 0, .int (200 : Int32), .int (150 : Int32), .int (100 : Int32), .int (20 : Int32), .int (10 : Int32), .int (20 : Int32), .int (5 : Int32), .int (10 : Int32), .int 0, .int (300 : Int32), .ref q1, .int 0, .ref q2, .int 0, .ref q3, .ref q4, .int 0, .long 0, .long 0, .long 0, .long 0, .ref q5, .ref q6, .ref q7, .null, .null, .null, .null, .int 0, .int 0, .int 0, .null, .null, .null, .null, .null, .null, .int 0, .null])), (q1, cI κ 16 (fun _ => 0)), (q2, cI κ 48 (fun _ => 0)), (q3, cI κ 8 (fun _ => 0)), (q4, cI κ 8 (fun _ => 0)), (q5, cI κ 8 (fun _ => 0)), (q6, cI κ 8 (fun _ => 0)), (q7, cI κ 8 (fun _ => 0))] rfl d_Model_init_113 ?_
  refine z_aload C d_Model_init_116 0 rfl ?_
  refine z_k C d_Model_init_117 ?_
  refine z_newa C (N := 8) wd_aI (by decide) (by decide) (by decide) (Nat.le_of_ble_eq_true rfl) (Nat.le_of_ble_eq_true rfl) d_Model_init_119 (fun q8 => ?_)
  (try dsimp only)
  refine z_putF C hnm fp_Model_59 0 rfl rfl rfl rfl [(h0, .inr (10, [.int 0, .int 0, .int (200 : Int32), .int (150 : Int32), .int (100 : Int32), .int (20 : Int32), .int (10 : Int32), .int (20 : Int32), .int (5 : Int32), .int (10 : Int32), .int 0, .int (300 : Int32), .ref q1, .int 0, .ref q2, .int 0, .ref q3, .ref q4, .int 0, .long 0, .long 0, .long 0, .long 0, .ref q5, .ref q6, .ref q7, .ref q8, .null, .null, .null, .int 0, .int 0, .int 0, .null, .null, .null, .null, .null, .null, .int 0, .null])), (q1, cI κ 16 (fun _ => 0)), (q2, cI κ 48 (fun _ => 0)), (q3, cI κ 8 (fun _ => 0)), (q4, cI κ 8 (fun _ => 0)), (q5, cI κ 8 (fun _ => 0)), (q6, cI κ 8 (fun _ => 0)), (q7, cI κ 8 (fun _ => 0)), (q8, cI κ 8 (fun _ => 0))] rfl d_Model_init_121 ?_
  refine z_aload C d_Model_init_124 0 rfl ?_
  refine z_k C d_Model_init_125 ?_
  refine z_newa C (N := 8) wd_aI (by decide) (by decide) (by decide) (Nat.le_of_ble_eq_true rfl) (Nat.le_of_ble_eq_true rfl) d_Model_init_127 (fun q9 => ?_)
  (try dsimp only)
  refine z_putF C hnm fp_Model_62 0 rfl rfl rfl rfl [(h0, .inr (10, [.int 0, .int 0, .int (200 : Int32), .int (150 : Int32), .int (100 : Int32), .int (20 : Int32), .int (10 : Int32), .int (20 : Int32), .int (5 : Int32), .int (10 : Int32), .int 0, .int (300 : Int32), .ref q1, .int 0, .ref q2, .int 0, .ref q3, .ref q4, .int 0, .long 0, .long 0, .long 0, .long 0, .ref q5, .ref q6, .ref q7, .ref q8, .ref q9, .null, .null, .int 0, .int 0, .int 0, .null, .null, .null, .null, .null, .null, .int 0, .null])), (q1, cI κ 16 (fun _ => 0)), (q2, cI κ 48 (fun _ => 0)), (q3, cI κ 8 (fun _ => 0)), (q4, cI κ 8 (fun _ => 0)), (q5, cI κ 8 (fun _ => 0)), (q6, cI κ 8 (fun _ => 0)), (q7, cI κ 8 (fun _ => 0)), (q8, cI κ 8 (fun _ => 0)), (q9, cI κ 8 (fun _ => 0))] rfl d_Model_init_129 ?_
  refine z_aload C d_Model_init_132 0 rfl ?_
  refine z_k C d_Model_init_133 ?_
  refine z_newa C (N := 2) wd_aI (by decide) (by decide) (by decide) (Nat.le_of_ble_eq_true rfl) (Nat.le_of_ble_eq_true rfl) d_Model_init_134 (fun q10 => ?_)
  (try dsimp only)
  refine z_putF C hnm fp_Model_65 0 rfl rfl rfl rfl [(h0, .inr (10, [.int 0, .int 0, .int (200 : Int32), .int (150 : Int32), .int (100 : Int32), .int (20 : Int32), .int (10 : Int32), .int (20 : Int32), .int (5 : Int32), .int (10 : Int32), .int 0, .int (300 : Int32), .ref q1, .int 0, .ref q2, .int 0, .ref q3, .ref q4, .int 0, .long 0, .long 0, .long 0, .long 0, .ref q5, .ref q6, .ref q7, .ref q8, .ref q9, .ref q10, .null, .int 0, .int 0, .int 0, .null, .null, .null, .null, .null, .null, .int 0, .null])), (q1, cI κ 16 (fun _ => 0)), (q2, cI κ 48 (fun _ => 0)), (q3, cI κ 8 (fun _ => 0)), (q4, cI κ 8 (fun _ => 0)), (q5, cI κ 8 (fun _ => 0)), (q6, cI κ 8 (fun _ => 0)), (q7, cI κ 8 (fun _ => 0)), (q8, cI κ 8 (fun _ => 0)), (q9, cI κ 8 (fun _ => 0)), (q10, cI κ 2 (fun _ => 0))] rfl d_Model_init_136 ?_
  refine z_aload C d_Model_init_139 0 rfl ?_
  refine z_k C d_Model_init_140 ?_
  refine z_newa C (N := 2) wd_aI (by decide) (by decide) (by decide) (Nat.le_of_ble_eq_true rfl) (Nat.le_of_ble_eq_true rfl) d_Model_init_141 (fun q11 => ?_)
  (try dsimp only)
  refine z_putF C hnm fp_Model_68 0 rfl rfl rfl rfl [(h0, .inr (10, [.int 0, .int 0, .int (200 : Int32), .int (150 : Int32), .int (100 : Int32), .int (20 : Int32), .int (10 : Int32), .int (20 : Int32), .int (5 : Int32), .int (10 : Int32), .int 0, .int (300 : Int32), .ref q1, .int 0, .ref q2, .int 0, .ref q3, .ref q4, .int 0, .long 0, .long 0, .long 0, .long 0, .ref q5, .ref q6, .ref q7, .ref q8, .ref q9, .ref q10, .ref q11, .int 0, .int 0, .int 0, .null, .null, .null, .null, .null, .null, .int 0, .null])), (q1, cI κ 16 (fun _ => 0)), (q2, cI κ 48 (fun _ => 0)), (q3, cI κ 8 (fun _ => 0)), (q4, cI κ 8 (fun _ => 0)), (q5, cI κ 8 (fun _ => 0)), (q6, cI κ 8 (fun _ => 0)), (q7, cI κ 8 (fun _ => 0)), (q8, cI κ 8 (fun _ => 0)), (q9, cI κ 8 (fun _ => 0)), (q10, cI κ 2 (fun _ => 0)), (q11, cI κ 2 (fun _ => 0))] rfl d_Model_init_143 ?_
  refine z_aload C d_Model_init_146 0 rfl ?_
  refine z_k C d_Model_init_147 ?_
  refine z_newa C (N := 64) wd_aI (by decide) (by decide) (by decide) (Nat.le_of_ble_eq_true rfl) (Nat.le_of_ble_eq_true rfl) d_Model_init_149 (fun q12 => ?_)
  (try dsimp only)
  refine z_putF C hnm fp_Model_71 0 rfl rfl rfl rfl [(h0, .inr (10, [.int 0, .int 0, .int (200 : Int32), .int (150 : Int32), .int (100 : Int32), .int (20 : Int32), .int (10 : Int32), .int (20 : Int32), .int (5 : Int32), .int (10 : Int32), .int 0, .int (300 : Int32), .ref q1, .int 0, .ref q2, .int 0, .ref q3, .ref q4, .int 0, .long 0, .long 0, .long 0, .long 0, .ref q5, .ref q6, .ref q7, .ref q8, .ref q9, .ref q10, .ref q11, .int 0, .int 0, .int 0, .ref q12, .null, .null, .null, .null, .null, .int 0, .null])), (q1, cI κ 16 (fun _ => 0)), (q2, cI κ 48 (fun _ => 0)), (q3, cI κ 8 (fun _ => 0)), (q4, cI κ 8 (fun _ => 0)), (q5, cI κ 8 (fun _ => 0)), (q6, cI κ 8 (fun _ => 0)), (q7, cI κ 8 (fun _ => 0)), (q8, cI κ 8 (fun _ => 0)), (q9, cI κ 8 (fun _ => 0)), (q10, cI κ 2 (fun _ => 0)), (q11, cI κ 2 (fun _ => 0)), (q12, cI κ 64 (fun _ => 0))] rfl d_Model_init_151 ?_
  refine z_aload C d_Model_init_154 0 rfl ?_
  refine z_k C d_Model_init_155 ?_
  refine z_newa C (N := 2) wd_aI (by decide) (by decide) (by decide) (Nat.le_of_ble_eq_true rfl) (Nat.le_of_ble_eq_true rfl) d_Model_init_156 (fun q13 => ?_)
  (try dsimp only)
  refine z_putF C hnm fp_Model_74 0 rfl rfl rfl rfl [(h0, .inr (10, [.int 0, .int 0, .int (200 : Int32), .int (150 : Int32), .int (100 : Int32), .int (20 : Int32), .int (10 : Int32), .int (20 : Int32), .int (5 : Int32), .int (10 : Int32), .int 0, .int (300 : Int32), .ref q1, .int 0, .ref q2, .int 0, .ref q3, .ref q4, .int 0, .long 0, .long 0, .long 0, .long 0, .ref q5, .ref q6, .ref q7, .ref q8, .ref q9, .ref q10, .ref q11, .int 0, .int 0, .int 0, .ref q12, .ref q13, .null, .null, .null, .null, .int 0, .null])), (q1, cI κ 16 (fun _ => 0)), (q2, cI κ 48 (fun _ => 0)), (q3, cI κ 8 (fun _ => 0)), (q4, cI κ 8 (fun _ => 0)), (q5, cI κ 8 (fun _ => 0)), (q6, cI κ 8 (fun _ => 0)), (q7, cI κ 8 (fun _ => 0)), (q8, cI κ 8 (fun _ => 0)), (q9, cI κ 8 (fun _ => 0)), (q10, cI κ 2 (fun _ => 0)), (q11, cI κ 2 (fun _ => 0)), (q12, cI κ 64 (fun _ => 0)), (q13, cI κ 2 (fun _ => 0))] rfl d_Model_init_158 ?_
  refine z_aload C d_Model_init_161 0 rfl ?_
  refine z_k C d_Model_init_162 ?_
  refine z_newa C (N := 2) wd_aI (by decide) (by decide) (by decide) (Nat.le_of_ble_eq_true rfl) (Nat.le_of_ble_eq_true rfl) d_Model_init_163 (fun q14 => ?_)
  (try dsimp only)
  refine z_putF C hnm fp_Model_77 0 rfl rfl rfl rfl [(h0, .inr (10, [.int 0, .int 0, .int (200 : Int32), .int (150 : Int32), .int (100 : Int32), .int (20 : Int32), .int (10 : Int32), .int (20 : Int32), .int (5 : Int32), .int (10 : Int32), .int 0, .int (300 : Int32), .ref q1, .int 0, .ref q2, .int 0, .ref q3, .ref q4, .int 0, .long 0, .long 0, .long 0, .long 0, .ref q5, .ref q6, .ref q7, .ref q8, .ref q9, .ref q10, .ref q11, .int 0, .int 0, .int 0, .ref q12, .ref q13, .ref q14, .null, .null, .null, .int 0, .null])), (q1, cI κ 16 (fun _ => 0)), (q2, cI κ 48 (fun _ => 0)), (q3, cI κ 8 (fun _ => 0)), (q4, cI κ 8 (fun _ => 0)), (q5, cI κ 8 (fun _ => 0)), (q6, cI κ 8 (fun _ => 0)), (q7, cI κ 8 (fun _ => 0)), (q8, cI κ 8 (fun _ => 0)), (q9, cI κ 8 (fun _ => 0)), (q10, cI κ 2 (fun _ => 0)), (q11, cI κ 2 (fun _ => 0)), (q12, cI κ 64 (fun _ => 0)), (q13, cI κ 2 (fun _ => 0)), (q14, cI κ 2 (fun _ => 0))] rfl d_Model_init_165 ?_
  refine z_aload C d_Model_init_168 0 rfl ?_
  refine z_k C d_Model_init_169 ?_
  refine z_newa C (N := 2) wd_aI (by decide) (by decide) (by decide) (Nat.le_of_ble_eq_true rfl) (Nat.le_of_ble_eq_true rfl) d_Model_init_170 (fun q15 => ?_)
  (try dsimp only)
  refine z_putF C hnm fp_Model_80 0 rfl rfl rfl rfl [(h0, .inr (10, [.int 0, .int 0, .int (200 : Int32), .int (150 : Int32), .int (100 : Int32), .int (20 : Int32), .int (10 : Int32), .int (20 : Int32), .int (5 : Int32), .int (10 : Int32), .int 0, .int (300 : Int32), .ref q1, .int 0, .ref q2, .int 0, .ref q3, .ref q4, .int 0, .long 0, .long 0, .long 0, .long 0, .ref q5, .ref q6, .ref q7, .ref q8, .ref q9, .ref q10, .ref q11, .int 0, .int 0, .int 0, .ref q12, .ref q13, .ref q14, .ref q15, .null, .null, .int 0, .null])), (q1, cI κ 16 (fun _ => 0)), (q2, cI κ 48 (fun _ => 0)), (q3, cI κ 8 (fun _ => 0)), (q4, cI κ 8 (fun _ => 0)), (q5, cI κ 8 (fun _ => 0)), (q6, cI κ 8 (fun _ => 0)), (q7, cI κ 8 (fun _ => 0)), (q8, cI κ 8 (fun _ => 0)), (q9, cI κ 8 (fun _ => 0)), (q10, cI κ 2 (fun _ => 0)), (q11, cI κ 2 (fun _ => 0)), (q12, cI κ 64 (fun _ => 0)), (q13, cI κ 2 (fun _ => 0)), (q14, cI κ 2 (fun _ => 0)), (q15, cI κ 2 (fun _ => 0))] rfl d_Model_init_172 ?_
  refine z_aload C d_Model_init_175 0 rfl ?_
  refine z_k C d_Model_init_176 ?_
  refine z_newa C (N := 2) wd_aI (by decide) (by decide) (by decide) (Nat.le_of_ble_eq_true rfl) (Nat.le_of_ble_eq_true rfl) d_Model_init_177 (fun q16 => ?_)
  (try dsimp only)
  refine z_putF C hnm fp_Model_83 0 rfl rfl rfl rfl [(h0, .inr (10, [.int 0, .int 0, .int (200 : Int32), .int (150 : Int32), .int (100 : Int32), .int (20 : Int32), .int (10 : Int32), .int (20 : Int32), .int (5 : Int32), .int (10 : Int32), .int 0, .int (300 : Int32), .ref q1, .int 0, .ref q2, .int 0, .ref q3, .ref q4, .int 0, .long 0, .long 0, .long 0, .long 0, .ref q5, .ref q6, .ref q7, .ref q8, .ref q9, .ref q10, .ref q11, .int 0, .int 0, .int 0, .ref q12, .ref q13, .ref q14, .ref q15, .ref q16, .null, .int 0, .null])), (q1, cI κ 16 (fun _ => 0)), (q2, cI κ 48 (fun _ => 0)), (q3, cI κ 8 (fun _ => 0)), (q4, cI κ 8 (fun _ => 0)), (q5, cI κ 8 (fun _ => 0)), (q6, cI κ 8 (fun _ => 0)), (q7, cI κ 8 (fun _ => 0)), (q8, cI κ 8 (fun _ => 0)), (q9, cI κ 8 (fun _ => 0)), (q10, cI κ 2 (fun _ => 0)), (q11, cI κ 2 (fun _ => 0)), (q12, cI κ 64 (fun _ => 0)), (q13, cI κ 2 (fun _ => 0)), (q14, cI κ 2 (fun _ => 0)), (q15, cI κ 2 (fun _ => 0)), (q16, cI κ 2 (fun _ => 0))] rfl d_Model_init_179 ?_
  refine z_aload C d_Model_init_182 0 rfl ?_
  refine z_k C d_Model_init_183 ?_
  refine z_newa C (N := 5) wd_aI (by decide) (by decide) (by decide) (Nat.le_of_ble_eq_true rfl) (Nat.le_of_ble_eq_true rfl) d_Model_init_184 (fun q17 => ?_)
  (try dsimp only)
  refine z_putF C hnm fp_Model_86 0 rfl rfl rfl rfl [(h0, .inr (10, [.int 0, .int 0, .int (200 : Int32), .int (150 : Int32), .int (100 : Int32), .int (20 : Int32), .int (10 : Int32), .int (20 : Int32), .int (5 : Int32), .int (10 : Int32), .int 0, .int (300 : Int32), .ref q1, .int 0, .ref q2, .int 0, .ref q3, .ref q4, .int 0, .long 0, .long 0, .long 0, .long 0, .ref q5, .ref q6, .ref q7, .ref q8, .ref q9, .ref q10, .ref q11, .int 0, .int 0, .int 0, .ref q12, .ref q13, .ref q14, .ref q15, .ref q16, .ref q17, .int 0, .null])), (q1, cI κ 16 (fun _ => 0)), (q2, cI κ 48 (fun _ => 0)), (q3, cI κ 8 (fun _ => 0)), (q4, cI κ 8 (fun _ => 0)), (q5, cI κ 8 (fun _ => 0)), (q6, cI κ 8 (fun _ => 0)), (q7, cI κ 8 (fun _ => 0)), (q8, cI κ 8 (fun _ => 0)), (q9, cI κ 8 (fun _ => 0)), (q10, cI κ 2 (fun _ => 0)), (q11, cI κ 2 (fun _ => 0)), (q12, cI κ 64 (fun _ => 0)), (q13, cI κ 2 (fun _ => 0)), (q14, cI κ 2 (fun _ => 0)), (q15, cI κ 2 (fun _ => 0)), (q16, cI κ 2 (fun _ => 0)), (q17, cI κ 5 (fun _ => 0))] rfl d_Model_init_186 ?_
  refine z_aload C d_Model_init_189 0 rfl ?_
  refine z_k C d_Model_init_190 ?_
  refine z_newz C (N := 289) wd_aZ (by decide) (by decide) (by decide) (Nat.le_of_ble_eq_true rfl) (Nat.le_of_ble_eq_true rfl) d_Model_init_193 (fun q18 => ?_)
  (try dsimp only)
  refine z_putF C hnm fp_Model_89 0 rfl rfl rfl rfl [(h0, .inr (10, [.int 0, .int 0, .int (200 : Int32), .int (150 : Int32), .int (100 : Int32), .int (20 : Int32), .int (10 : Int32), .int (20 : Int32), .int (5 : Int32), .int (10 : Int32), .int 0, .int (300 : Int32), .ref q1, .int 0, .ref q2, .int 0, .ref q3, .ref q4, .int 0, .long 0, .long 0, .long 0, .long 0, .ref q5, .ref q6, .ref q7, .ref q8, .ref q9, .ref q10, .ref q11, .int 0, .int 0, .int 0, .ref q12, .ref q13, .ref q14, .ref q15, .ref q16, .ref q17, .int 0, .ref q18])), (q1, cI κ 16 (fun _ => 0)), (q2, cI κ 48 (fun _ => 0)), (q3, cI κ 8 (fun _ => 0)), (q4, cI κ 8 (fun _ => 0)), (q5, cI κ 8 (fun _ => 0)), (q6, cI κ 8 (fun _ => 0)), (q7, cI κ 8 (fun _ => 0)), (q8, cI κ 8 (fun _ => 0)), (q9, cI κ 8 (fun _ => 0)), (q10, cI κ 2 (fun _ => 0)), (q11, cI κ 2 (fun _ => 0)), (q12, cI κ 64 (fun _ => 0)), (q13, cI κ 2 (fun _ => 0)), (q14, cI κ 2 (fun _ => 0)), (q15, cI κ 2 (fun _ => 0)), (q16, cI κ 2 (fun _ => 0)), (q17, cI κ 5 (fun _ => 0)), (q18, cZ κ 289 (fun _ => 0))] rfl d_Model_init_195 ?_
  refine z_aload C d_Model_init_198 0 rfl ?_
  refine z_vev C (rest := []) (wr := [(q1, cI κ 16 (fun _ => 0)), (q2, cI κ 48 (fun _ => 0)), (q3, cI κ 8 (fun _ => 0)), (q4, cI κ 8 (fun _ => 0)), (q5, cI κ 8 (fun _ => 0)), (q6, cI κ 8 (fun _ => 0)), (q7, cI κ 8 (fun _ => 0)), (q8, cI κ 8 (fun _ => 0)), (q9, cI κ 8 (fun _ => 0)), (q12, cI κ 64 (fun _ => 0)), (q13, cI κ 2 (fun _ => 0)), (q14, cI κ 2 (fun _ => 0)), (q15, cI κ 2 (fun _ => 0)), (q16, cI κ 2 (fun _ => 0)), (q17, cI κ 5 (fun _ => 0)), (q18, cZ κ 289 (fun _ => 0))]) (fun sz => c_Model_shutAnew l D κ h0 q1 q2 q3 q4 q5 q6 q7 q8 q9 q10 q11 q12 q13 q14 q15 q16 q17 q18 0 0 (200 : Int32) (150 : Int32) (100 : Int32) (20 : Int32) (10 : Int32) (20 : Int32) (5 : Int32) (10 : Int32) 0 (300 : Int32) 0 0 0 0 0 0 0 0 0 0 0 (fun _ => 0) (fun _ => 0) sz (fun t lo hi => t = 0 ∧ (∀ k, k < 2 → lo k = -20) ∧ (∀ k, k < 2 → hi k = 20)) hshut) cv_Model_93 ⟨rfl, rfl⟩ ⟨⟨(Nat.le_of_ble_eq_true rfl), (Nat.le_of_ble_eq_true rfl)⟩, (Nat.le_of_ble_eq_true rfl), (Nat.le_of_ble_eq_true rfl)⟩ 0 rfl [0, 10, 11] [1, 2, 3, 4, 5, 6, 7, 8, 9, 12, 13, 14, 15, 16, 17, 18] rfl rfl rfl (fun u => [(q1, cI κ 16 (fun _ => 0)), (q2, cI κ 48 (fun _ => 0)), (q3, cI κ 8 (fun _ => 0)), (q4, cI κ 8 (fun _ => 0)), (q5, cI κ 8 (fun _ => 0)), (q6, cI κ 8 (fun _ => 0)), (q7, cI κ 8 (fun _ => 0)), (q8, cI κ 8 (fun _ => 0)), (q9, cI κ 8 (fun _ => 0)), (q12, cI κ 64 (fun _ => 0)), (q13, cI κ 2 (fun _ => 0)), (q14, cI κ 2 (fun _ => 0)), (q15, cI κ 2 (fun _ => 0)), (q16, cI κ 2 (fun _ => 0)), (q17, cI κ 5 (fun _ => 0)), (q18, cZ κ 289 (fun _ => 0)), (h0, .inr (10, [.int 0, .int 0, .int (200 : Int32), .int (150 : Int32), .int (100 : Int32), .int (20 : Int32), .int (10 : Int32), .int (20 : Int32), .int (5 : Int32), .int (10 : Int32), .int 0, .int (300 : Int32), .ref q1, .int 0, .ref q2, .int 0, .ref q3, .ref q4, .int 0, .long 0, .long 0, .long 0, .long 0, .ref q5, .ref q6, .ref q7, .ref q8, .ref q9, .ref q10, .ref q11, .int u.1, .int 0, .int 0, .ref q12, .ref q13, .ref q14, .ref q15, .ref q16, .ref q17, .int 0, .ref q18])), (q10, cI κ 2 u.2.1), (q11, cI κ 2 u.2.2)]) [0, 1, 2, 3, 4, 5, 6, 7, 8, 9, 10, 11, 12, 13, 14, 15, 16, 17, 18] rfl (fun _ => rfl) rfl rfl (Nat.le_of_ble_eq_true rfl) d_Model_init_199 (fun u hu => ?_)
  obtain ⟨t9, lo9, hi9⟩ := u
  (try dsimp only at hu); (try dsimp only)
  obtain ⟨rfl, hu1, hu2⟩ := hu
  (try dsimp only)
  exact ze_vret C (q1, q2, q3, q4, q5, q6, q7, q8, q9, q10, q11, q12, q13, q14, q15, q16, q17, q18, lo9, hi9) hr hlk rfl d_Model_init_202 ⟨hu1, hu2⟩
