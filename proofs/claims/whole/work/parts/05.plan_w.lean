def wpB_Plan_holds_2 (pl_count : Int32) (pl_seam : Nat → Int32) (p0 : Int32) (post : Int32 → Prop) (ih_2 : Int32 → Prop) (x2_1 : Int32) : Prop :=
  ((pl_count ≤ x2_1 → (post (0 : Int32))) ∧ (¬ pl_count ≤ x2_1 → (vp_in x2_1 8 ∧ ((¬ (pl_seam (x2_1.toNatClampNeg)) = p0 → (∀ x2_4 : Int32, x2_4 = x2_1 + (1 : Int32) → (ih_2 x2_4))) ∧ ((pl_seam (x2_1.toNatClampNeg)) = p0 → (post (1 : Int32)))))))
noncomputable def wpL_Plan_holds_2 (pl_count : Int32) (pl_seam : Nat → Int32) (p0 : Int32) (post : Int32 → Prop) : Nat → Int32 → Prop := fun n => @Nat.rec (fun _ => Int32 → Prop) (fun _ => False) (fun _ ih_2 => wpB_Plan_holds_2 pl_count pl_seam p0 post ih_2) n
def wp_Plan_holds (pl_count : Int32) (pl_seam : Nat → Int32) (p0 : Int32) (post : Int32 → Prop) : Prop :=
  (∃ n : Nat, wpL_Plan_holds_2 pl_count pl_seam p0 post n (0 : Int32))
abbrev rm_Plan_holds : Room := { frames := 0, cells := 0, slots := 0, locals := 0 }
set_option maxHeartbeats 4000000 in
set_option maxRecDepth 100000 in
theorem c_Plan_holds (l : Launch) (D : va_G) (κ : KT) (h_pl : Nat) (h_pt : Nat) (h_pa : Nat) (h_pl_seam : Nat) (h_pl_way : Nat) (h_pl_begin : Nat) (h_pl_end : Nat) (h_pl_rested : Nat) (pl_count : Int32) (pl_seam : Nat → Int32) (p0 : Int32) (post : Int32 → Prop) (h : wp_Plan_holds pl_count pl_seam p0 post) : Met l y_Plan_holds (wsG y_Plan_holds b_Plan_holds 3 (some .boolean)) rm_Plan_holds (PP D κ [.ref h_pl, .int p0] [(h_pl, .inr (5, [.ref h_pt, .ref h_pa, .ref h_pl_seam, .ref h_pl_way, .ref h_pl_begin, .ref h_pl_end, .ref h_pl_rested, .int pl_count])), (h_pl_seam, cI κ 8 pl_seam)]) (vp_Si post) 0 0 (fun _ => False) := by
  refine zp_start [(0, .ref h_pl), (1, .int p0)] rfl (Nat.le_of_ble_eq_true rfl) rfl ?_
  intro p e s m args below meth c C hr hlk
  unfold wp_Plan_holds at h
  refine z_k C d_Plan_holds_0 ?_
  refine z_istore C [(2, .int (0 : Int32)), (0, .ref h_pl), (1, .int p0)] d_Plan_holds_1 rfl rfl ?_
  obtain ⟨n_2, h⟩ := h
  have LP_2 : ∀ (n : Nat) (x2_1 : Int32), wpL_Plan_holds_2 pl_count pl_seam p0 post n x2_1 → Zw p l e rm_Plan_holds s m args below meth c 0 0 (MQ below (vp_Si post) args s 0 0 (fun _ => False)) D 3 none [(h_pl, .inr (5, [.ref h_pt, .ref h_pa, .ref h_pl_seam, .ref h_pl_way, .ref h_pl_begin, .ref h_pl_end, .ref h_pl_rested, .int pl_count])), (h_pl_seam, cI κ 8 pl_seam)] [(0, .ref h_pl), (1, .int p0), (2, .int x2_1)] 2 [] := by
    intro n
    induction n with
    | zero => intro x2_1 h; exact False.elim h
    | succ nn_2 IH_2 =>
      intro x2_1 h
      have h : wpB_Plan_holds_2 pl_count pl_seam p0 post (wpL_Plan_holds_2 pl_count pl_seam p0 post nn_2) x2_1 := h
      unfold wpB_Plan_holds_2 at h
      refine z_iload C d_Plan_holds_2 2 rfl ?_
      refine z_aload C d_Plan_holds_3 0 rfl ?_
      refine z_get C fl_Plan_35 0 rfl rfl d_Plan_holds_4 ?_
      refine z_icmp_ge C d_Plan_holds_7 (fun c_2 => ?_) (fun c_2 => ?_)
      · replace h := h.1 c_2
        refine z_k C d_Plan_holds_28 ?_
        exact zp_zret C hr hlk (Or.inl rfl) d_Plan_holds_29 h
      · replace h := h.2 c_2
        refine z_aload C d_Plan_holds_10 0 rfl ?_
        refine z_get C fl_Plan_9 0 rfl rfl d_Plan_holds_11 ?_
        refine z_iload C d_Plan_holds_14 2 rfl ?_
        refine z_iald C 1 rfl h.1 d_Plan_holds_15 ?_
        replace h := h.2
        refine z_iload C d_Plan_holds_16 1 rfl ?_
        refine z_icmp_ne C d_Plan_holds_17 (fun c_3 => ?_) (fun c_3 => ?_)
        · replace h := h.1 c_3
          obtain ⟨x2_4, ex2_4⟩ : ∃ y : Int32, y = x2_1 + (1 : Int32) := ⟨_, rfl⟩
          replace h := h x2_4 ex2_4
          refine z_iinc C [(2, .int x2_4), (0, .ref h_pl), (1, .int p0)] d_Plan_holds_22 (j := 2) rfl (by rw [ex2_4]; rfl) rfl rfl ?_
          refine z_goto C d_Plan_holds_25 ?_
          refine z_sub [1, 2, 0] [(0, .ref h_pl), (1, .int p0), (2, .int x2_4)] rfl ?_
          exact IH_2 x2_4 h
        · replace h := h.2 c_3
          refine z_k C d_Plan_holds_20 ?_
          exact zp_zret C hr hlk (Or.inr rfl) d_Plan_holds_21 h
  refine z_sub [1, 2, 0] [(0, .ref h_pl), (1, .int p0), (2, .int (0 : Int32))] rfl ?_
  exact LP_2 n_2 (0 : Int32) h
def wp_Plan_append (pl_count : Int32) (pl_seam : Nat → Int32) (pl_way : Nat → Int32) (p0 : Int32) (p1 : Int32) (post : Int32 → (Nat → Int32) → (Nat → Int32) → Prop) : Prop :=
  ((pl_count < (8 : Int32) → (vp_in pl_count 8 ∧ (∀ g_2 : Nat → Int32, g_2 = upd pl_seam (pl_count.toNatClampNeg) p0 → (vp_in pl_count 8 ∧ (∀ g_3 : Nat → Int32, g_3 = upd pl_way (pl_count.toNatClampNeg) p1 → (∀ f_4 : Int32, f_4 = pl_count + (1 : Int32) → (post f_4 g_2 g_3))))))) ∧ (¬ pl_count < (8 : Int32) → (post pl_count pl_seam pl_way)))
abbrev rm_Plan_append : Room := { frames := 0, cells := 0, slots := 0, locals := 0 }
set_option maxHeartbeats 4000000 in
set_option maxRecDepth 100000 in
theorem c_Plan_append (l : Launch) (D : va_G) (κ : KT) (h_pl : Nat) (h_pt : Nat) (h_pa : Nat) (h_pl_seam : Nat) (h_pl_way : Nat) (h_pl_begin : Nat) (h_pl_end : Nat) (h_pl_rested : Nat) (pl_count : Int32) (pl_seam : Nat → Int32) (pl_way : Nat → Int32) (p0 : Int32) (p1 : Int32) (sz : Nat) (post : Int32 → (Nat → Int32) → (Nat → Int32) → Prop) (h : wp_Plan_append pl_count pl_seam pl_way p0 p1 post) : Met l y_Plan_append (wsG y_Plan_append b_Plan_append 3 none) rm_Plan_append (PE D κ [.ref h_pl, .int p0, .int p1] [(h_pl, .inr (5, [.ref h_pt, .ref h_pa, .ref h_pl_seam, .ref h_pl_way, .ref h_pl_begin, .ref h_pl_end, .ref h_pl_rested, .int pl_count])), (h_pl_seam, cI κ 8 pl_seam), (h_pl_way, cI κ 8 pl_way)] sz) (va_Qv (fun (u : (Int32) × (Nat → Int32) × (Nat → Int32)) => post u.1 u.2.1 u.2.2) (QB D [(h_pl, .inr (5, [.ref h_pt, .ref h_pa, .ref h_pl_seam, .ref h_pl_way, .ref h_pl_begin, .ref h_pl_end, .ref h_pl_rested, .int pl_count])), (h_pl_seam, cI κ 8 pl_seam), (h_pl_way, cI κ 8 pl_way)] sz (fun (u : (Int32) × (Nat → Int32) × (Nat → Int32)) => [(h_pl, .inr (5, [.ref h_pt, .ref h_pa, .ref h_pl_seam, .ref h_pl_way, .ref h_pl_begin, .ref h_pl_end, .ref h_pl_rested, .int u.1])), (h_pl_seam, cI κ 8 u.2.1), (h_pl_way, cI κ 8 u.2.2)])) (va_A [(h_pl, .inr (5, [.ref h_pt, .ref h_pa, .ref h_pl_seam, .ref h_pl_way, .ref h_pl_begin, .ref h_pl_end, .ref h_pl_rested, .int pl_count])), (h_pl_seam, cI κ 8 pl_seam), (h_pl_way, cI κ 8 pl_way)] sz)) 0 0 (va_A [(h_pl, .inr (5, [.ref h_pt, .ref h_pa, .ref h_pl_seam, .ref h_pl_way, .ref h_pl_begin, .ref h_pl_end, .ref h_pl_rested, .int pl_count])), (h_pl_seam, cI κ 8 pl_seam), (h_pl_way, cI κ 8 pl_way)] sz) := by
  refine ze_start [(0, .ref h_pl), (1, .int p0), (2, .int p1)] rfl (Nat.le_of_ble_eq_true rfl) rfl ?_
  intro p e s m args below meth c C hr hlk hnm hsz
  subst hsz
  unfold wp_Plan_append at h
  refine z_aload C d_Plan_append_0 0 rfl ?_
  refine z_get C fl_Plan_35 0 rfl rfl d_Plan_append_1 ?_
  refine z_k C d_Plan_append_4 ?_
  refine z_icmp_lt C d_Plan_append_6 (fun c_1 => ?_) (fun c_1 => ?_)
  · replace h := h.1 c_1
    refine z_aload C d_Plan_append_10 0 rfl ?_
    refine z_get C fl_Plan_9 0 rfl rfl d_Plan_append_11 ?_
    refine z_aload C d_Plan_append_14 0 rfl ?_
    refine z_get C fl_Plan_35 0 rfl rfl d_Plan_append_15 ?_
    refine z_iload C d_Plan_append_18 1 rfl ?_
    obtain ⟨g_2, eg_2⟩ : ∃ y : Nat → Int32, y = upd pl_seam (pl_count.toNatClampNeg) p0 := ⟨_, rfl⟩
    refine z_iast C 1 rfl h.1 [(h_pl, .inr (5, [.ref h_pt, .ref h_pa, .ref h_pl_seam, .ref h_pl_way, .ref h_pl_begin, .ref h_pl_end, .ref h_pl_rested, .int pl_count])), (h_pl_seam, cI κ 8 g_2), (h_pl_way, cI κ 8 pl_way)] (by rw [eg_2]; rfl) d_Plan_append_19 ?_
    replace h := h.2 g_2 eg_2
    refine z_aload C d_Plan_append_20 0 rfl ?_
    refine z_get C fl_Plan_15 0 rfl rfl d_Plan_append_21 ?_
    refine z_aload C d_Plan_append_24 0 rfl ?_
    refine z_get C fl_Plan_35 0 rfl rfl d_Plan_append_25 ?_
    refine z_iload C d_Plan_append_28 2 rfl ?_
    obtain ⟨g_3, eg_3⟩ : ∃ y : Nat → Int32, y = upd pl_way (pl_count.toNatClampNeg) p1 := ⟨_, rfl⟩
    refine z_iast C 2 rfl h.1 [(h_pl, .inr (5, [.ref h_pt, .ref h_pa, .ref h_pl_seam, .ref h_pl_way, .ref h_pl_begin, .ref h_pl_end, .ref h_pl_rested, .int pl_count])), (h_pl_seam, cI κ 8 g_2), (h_pl_way, cI κ 8 g_3)] (by rw [eg_3]; rfl) d_Plan_append_29 ?_
    replace h := h.2 g_3 eg_3
    refine z_aload C d_Plan_append_30 0 rfl ?_
    refine z_dup C d_Plan_append_31 rfl ?_
    refine z_get C fl_Plan_35 0 rfl rfl d_Plan_append_32 ?_
    refine z_k C d_Plan_append_35 ?_
    refine z_iadd C d_Plan_append_36 ?_
    refine z_topi (fun f_4 ef_4 => ?_)
    replace h := h f_4 ef_4
    refine z_put C fp_Plan_35 0 rfl rfl rfl rfl [(h_pl, .inr (5, [.ref h_pt, .ref h_pa, .ref h_pl_seam, .ref h_pl_way, .ref h_pl_begin, .ref h_pl_end, .ref h_pl_rested, .int f_4])), (h_pl_seam, cI κ 8 g_2), (h_pl_way, cI κ 8 g_3)] rfl d_Plan_append_37 ?_
    exact ze_vret C (f_4, g_2, g_3) hr hlk rfl d_Plan_append_40 h
  · replace h := h.2 c_1
    exact ze_vret C (pl_count, pl_seam, pl_way) hr hlk rfl d_Plan_append_9 h
def wpB_Plan_cooledFor_4 (pt_gap : Int32) (pa_cool : Int32) (pl_seam : Nat → Int32) (pl_end : Nat → Int32) (sm_x0 : Nat → Int32) (sm_y0 : Nat → Int32) (sm_x1 : Nat → Int32) (sm_y1 : Nat → Int32) (sm_heat : Nat → Int32) (p0 : Int32) (post : Int32 → Prop) (ih_4 : Int32 → Int32 → Prop) (x2_1 : Int32) (x3_2 : Int32) : Prop :=
  ((p0 ≤ x3_2 → (post x2_1)) ∧ (¬ p0 ≤ x3_2 → (vp_in x3_2 8 ∧ (vp_in p0 8 ∧ (wp_Part_areNear pt_gap sm_x0 sm_y0 sm_x1 sm_y1 (pl_seam (x3_2.toNatClampNeg)) (pl_seam (p0.toNatClampNeg)) (fun r_4 => ((r_4 = 0 → (∀ x3_6 : Int32, x3_6 = x3_2 + (1 : Int32) → (ih_4 x2_1 x3_6))) ∧ (¬ r_4 = 0 → (vp_in x3_2 8 ∧ (vp_in (pl_seam (x3_2.toNatClampNeg)) 8 ∧ (wp_Pace_restTicks pa_cool (sm_heat ((pl_seam (x3_2.toNatClampNeg)).toNatClampNeg)) (fun r_8 => (vp_in x3_2 8 ∧ (∀ x2_9 : Int32, x2_9 = imax x2_1 ((pl_end (x3_2.toNatClampNeg)) + r_8) → (∀ x3_10 : Int32, x3_10 = x3_2 + (1 : Int32) → (ih_4 x2_9 x3_10))))))))))))))))
noncomputable def wpL_Plan_cooledFor_4 (pt_gap : Int32) (pa_cool : Int32) (pl_seam : Nat → Int32) (pl_end : Nat → Int32) (sm_x0 : Nat → Int32) (sm_y0 : Nat → Int32) (sm_x1 : Nat → Int32) (sm_y1 : Nat → Int32) (sm_heat : Nat → Int32) (p0 : Int32) (post : Int32 → Prop) : Nat → Int32 → Int32 → Prop := fun n => @Nat.rec (fun _ => Int32 → Int32 → Prop) (fun _ _ => False) (fun _ ih_4 => wpB_Plan_cooledFor_4 pt_gap pa_cool pl_seam pl_end sm_x0 sm_y0 sm_x1 sm_y1 sm_heat p0 post ih_4) n
def wp_Plan_cooledFor (pt_gap : Int32) (pa_cool : Int32) (pl_seam : Nat → Int32) (pl_end : Nat → Int32) (sm_x0 : Nat → Int32) (sm_y0 : Nat → Int32) (sm_x1 : Nat → Int32) (sm_y1 : Nat → Int32) (sm_heat : Nat → Int32) (p0 : Int32) (post : Int32 → Prop) : Prop :=
  (∃ n : Nat, wpL_Plan_cooledFor_4 pt_gap pa_cool pl_seam pl_end sm_x0 sm_y0 sm_x1 sm_y1 sm_heat p0 post n (0 : Int32) (0 : Int32))
abbrev rm_Plan_cooledFor : Room := { frames := 3, cells := 0, slots := 0, locals := 68 }
set_option maxHeartbeats 4000000 in
set_option maxRecDepth 100000 in
theorem c_Plan_cooledFor (l : Launch) (D : va_G) (κ : KT) (h_pt : Nat) (h_ce : Nat) (h_pt_seams : Nat) (h_pa : Nat) (h_pl : Nat) (h_pl_seam : Nat) (h_pl_way : Nat) (h_pl_begin : Nat) (h_pl_end : Nat) (h_pl_rested : Nat) (h_sm : Nat → Nat) (pt_count : Int32) (pt_gap : Int32) (pa_turn : Int32) (pa_travel : Int32) (pa_lift : Int32) (pa_cool : Int32) (pa_homeX : Int32) (pa_homeY : Int32) (pl_count : Int32) (pl_seam : Nat → Int32) (pl_end : Nat → Int32) (sm_x0 : Nat → Int32) (sm_y0 : Nat → Int32) (sm_x1 : Nat → Int32) (sm_y1 : Nat → Int32) (sm_length : Nat → Int32) (sm_time : Nat → Int32) (sm_heat : Nat → Int32) (p0 : Int32) (post : Int32 → Prop) (h : wp_Plan_cooledFor pt_gap pa_cool pl_seam pl_end sm_x0 sm_y0 sm_x1 sm_y1 sm_heat p0 post) : Met l y_Plan_cooledFor (wsG y_Plan_cooledFor b_Plan_cooledFor 5 (some .int)) rm_Plan_cooledFor (PP D κ [.ref h_pl, .int p0] [(h_pt, .inr (4, [.ref h_ce, .ref h_pt_seams, .int pt_count, .int pt_gap])), (h_pt_seams, cS κ 8 (fun i => some (h_sm i))), (h_pa, .inr (3, [.ref h_ce, .int pa_turn, .int pa_travel, .int pa_lift, .int pa_cool, .int pa_homeX, .int pa_homeY])), (h_pl, .inr (5, [.ref h_pt, .ref h_pa, .ref h_pl_seam, .ref h_pl_way, .ref h_pl_begin, .ref h_pl_end, .ref h_pl_rested, .int pl_count])), (h_pl_seam, cI κ 8 pl_seam), (h_pl_end, cI κ 8 pl_end), (h_sm 0, .inr (6, [.int (sm_x0 0), .int (sm_y0 0), .int (sm_x1 0), .int (sm_y1 0), .int (sm_length 0), .int (sm_time 0), .int (sm_heat 0)])), (h_sm 1, .inr (6, [.int (sm_x0 1), .int (sm_y0 1), .int (sm_x1 1), .int (sm_y1 1), .int (sm_length 1), .int (sm_time 1), .int (sm_heat 1)])), (h_sm 2, .inr (6, [.int (sm_x0 2), .int (sm_y0 2), .int (sm_x1 2), .int (sm_y1 2), .int (sm_length 2), .int (sm_time 2), .int (sm_heat 2)])), (h_sm 3, .inr (6, [.int (sm_x0 3), .int (sm_y0 3), .int (sm_x1 3), .int (sm_y1 3), .int (sm_length 3), .int (sm_time 3), .int (sm_heat 3)])), (h_sm 4, .inr (6, [.int (sm_x0 4), .int (sm_y0 4), .int (sm_x1 4), .int (sm_y1 4), .int (sm_length 4), .int (sm_time 4), .int (sm_heat 4)])), (h_sm 5, .inr (6, [.int (sm_x0 5), .int (sm_y0 5), .int (sm_x1 5), .int (sm_y1 5), .int (sm_length 5), .int (sm_time 5), .int (sm_heat 5)])), (h_sm 6, .inr (6, [.int (sm_x0 6), .int (sm_y0 6), .int (sm_x1 6), .int (sm_y1 6), .int (sm_length 6), .int (sm_time 6), .int (sm_heat 6)])), (h_sm 7, .inr (6, [.int (sm_x0 7), .int (sm_y0 7), .int (sm_x1 7), .int (sm_y1 7), .int (sm_length 7), .int (sm_time 7), .int (sm_heat 7)]))]) (vp_Si post) 0 0 (fun _ => False) := by
  refine zp_start [(0, .ref h_pl), (1, .int p0)] rfl (Nat.le_of_ble_eq_true rfl) rfl ?_
  intro p e s m args below meth c C hr hlk
  unfold wp_Plan_cooledFor at h
  refine z_k C d_Plan_cooledFor_0 ?_
  refine z_istore C [(2, .int (0 : Int32)), (0, .ref h_pl), (1, .int p0)] d_Plan_cooledFor_1 rfl rfl ?_
  refine z_k C d_Plan_cooledFor_2 ?_
  refine z_istore C [(3, .int (0 : Int32)), (2, .int (0 : Int32)), (0, .ref h_pl), (1, .int p0)] d_Plan_cooledFor_3 rfl rfl ?_
  obtain ⟨n_4, h⟩ := h
  have LP_4 : ∀ (n : Nat) (x2_1 : Int32) (x3_2 : Int32), wpL_Plan_cooledFor_4 pt_gap pa_cool pl_seam pl_end sm_x0 sm_y0 sm_x1 sm_y1 sm_heat p0 post n x2_1 x3_2 → Zw p l e rm_Plan_cooledFor s m args below meth c 0 0 (MQ below (vp_Si post) args s 0 0 (fun _ => False)) D 5 none [(h_pt, .inr (4, [.ref h_ce, .ref h_pt_seams, .int pt_count, .int pt_gap])), (h_pt_seams, cS κ 8 (fun i => some (h_sm i))), (h_pa, .inr (3, [.ref h_ce, .int pa_turn, .int pa_travel, .int pa_lift, .int pa_cool, .int pa_homeX, .int pa_homeY])), (h_pl, .inr (5, [.ref h_pt, .ref h_pa, .ref h_pl_seam, .ref h_pl_way, .ref h_pl_begin, .ref h_pl_end, .ref h_pl_rested, .int pl_count])), (h_pl_seam, cI κ 8 pl_seam), (h_pl_end, cI κ 8 pl_end), (h_sm 0, .inr (6, [.int (sm_x0 0), .int (sm_y0 0), .int (sm_x1 0), .int (sm_y1 0), .int (sm_length 0), .int (sm_time 0), .int (sm_heat 0)])), (h_sm 1, .inr (6, [.int (sm_x0 1), .int (sm_y0 1), .int (sm_x1 1), .int (sm_y1 1), .int (sm_length 1), .int (sm_time 1), .int (sm_heat 1)])), (h_sm 2, .inr (6, [.int (sm_x0 2), .int (sm_y0 2), .int (sm_x1 2), .int (sm_y1 2), .int (sm_length 2), .int (sm_time 2), .int (sm_heat 2)])), (h_sm 3, .inr (6, [.int (sm_x0 3), .int (sm_y0 3), .int (sm_x1 3), .int (sm_y1 3), .int (sm_length 3), .int (sm_time 3), .int (sm_heat 3)])), (h_sm 4, .inr (6, [.int (sm_x0 4), .int (sm_y0 4), .int (sm_x1 4), .int (sm_y1 4), .int (sm_length 4), .int (sm_time 4), .int (sm_heat 4)])), (h_sm 5, .inr (6, [.int (sm_x0 5), .int (sm_y0 5), .int (sm_x1 5), .int (sm_y1 5), .int (sm_length 5), .int (sm_time 5), .int (sm_heat 5)])), (h_sm 6, .inr (6, [.int (sm_x0 6), .int (sm_y0 6), .int (sm_x1 6), .int (sm_y1 6), .int (sm_length 6), .int (sm_time 6), .int (sm_heat 6)])), (h_sm 7, .inr (6, [.int (sm_x0 7), .int (sm_y0 7), .int (sm_x1 7), .int (sm_y1 7), .int (sm_length 7), .int (sm_time 7), .int (sm_heat 7)]))] [(0, .ref h_pl), (1, .int p0), (2, .int x2_1), (3, .int x3_2)] 4 [] := by
    intro n
    induction n with
    | zero => intro x2_1 x3_2 h; exact False.elim h
    | succ nn_4 IH_4 =>
      intro x2_1 x3_2 h
      have h : wpB_Plan_cooledFor_4 pt_gap pa_cool pl_seam pl_end sm_x0 sm_y0 sm_x1 sm_y1 sm_heat p0 post (wpL_Plan_cooledFor_4 pt_gap pa_cool pl_seam pl_end sm_x0 sm_y0 sm_x1 sm_y1 sm_heat p0 post nn_4) x2_1 x3_2 := h
      unfold wpB_Plan_cooledFor_4 at h
      refine z_iload C d_Plan_cooledFor_4 3 rfl ?_
      refine z_iload C d_Plan_cooledFor_5 1 rfl ?_
      refine z_icmp_ge C d_Plan_cooledFor_6 (fun c_3 => ?_) (fun c_3 => ?_)
      · replace h := h.1 c_3
        refine z_iload C d_Plan_cooledFor_77 2 rfl ?_
        exact zp_iret C hr hlk d_Plan_cooledFor_78 h
      · replace h := h.2 c_3
        refine z_aload C d_Plan_cooledFor_9 0 rfl ?_
        refine z_get C fl_Plan_27 3 rfl rfl d_Plan_cooledFor_10 ?_
        refine z_aload C d_Plan_cooledFor_13 0 rfl ?_
        refine z_get C fl_Plan_9 3 rfl rfl d_Plan_cooledFor_14 ?_
        refine z_iload C d_Plan_cooledFor_17 3 rfl ?_
        refine z_iald C 4 rfl h.1 d_Plan_cooledFor_18 ?_
        replace h := h.2
        refine z_aload C d_Plan_cooledFor_19 0 rfl ?_
        refine z_get C fl_Plan_9 3 rfl rfl d_Plan_cooledFor_20 ?_
        refine z_iload C d_Plan_cooledFor_23 1 rfl ?_
        refine z_iald C 4 rfl h.1 d_Plan_cooledFor_24 ?_
        replace h := h.2
        refine z_vpi C (rest := []) (c_Part_areNear l D κ h_pt h_ce h_pt_seams h_sm pt_count pt_gap sm_x0 sm_y0 sm_x1 sm_y1 sm_length sm_time sm_heat (pl_seam (x3_2.toNatClampNeg)) (pl_seam (p0.toNatClampNeg)) _ h) cv_Plan_85 ⟨rfl, rfl⟩ ⟨⟨Nat.le_of_ble_eq_true rfl, Nat.le_of_ble_eq_true rfl⟩, Nat.le_of_ble_eq_true rfl, Nat.le_of_ble_eq_true rfl⟩ 0 rfl [0, 1, 6, 7, 8, 9, 10, 11, 12, 13] rfl rfl rfl (Nat.le_of_ble_eq_true rfl) d_Plan_cooledFor_25 (fun r_4 h => ?_)
        refine z_if_eq C d_Plan_cooledFor_28 (fun c_5 => ?_) (fun c_5 => ?_)
        · replace h := h.1 c_5
          obtain ⟨x3_6, ex3_6⟩ : ∃ y : Int32, y = x3_2 + (1 : Int32) := ⟨_, rfl⟩
          replace h := h x3_6 ex3_6
          refine z_iinc C [(3, .int x3_6), (0, .ref h_pl), (1, .int p0), (2, .int x2_1)] d_Plan_cooledFor_71 (j := 3) rfl (by rw [ex3_6]; rfl) rfl rfl ?_
          refine z_goto C d_Plan_cooledFor_74 ?_
          refine z_sub [1, 2, 3, 0] [(0, .ref h_pl), (1, .int p0), (2, .int x2_1), (3, .int x3_6)] rfl ?_
          exact IH_4 x2_1 x3_6 h
        · replace h := h.2 c_5
          refine z_aload C d_Plan_cooledFor_31 0 rfl ?_
          refine z_get C fl_Plan_31 3 rfl rfl d_Plan_cooledFor_32 ?_
          refine z_aload C d_Plan_cooledFor_35 0 rfl ?_
          refine z_get C fl_Plan_27 3 rfl rfl d_Plan_cooledFor_36 ?_
          refine z_get C fl_Plan_76 0 rfl rfl d_Plan_cooledFor_39 ?_
          refine z_aload C d_Plan_cooledFor_42 0 rfl ?_
          refine z_get C fl_Plan_9 3 rfl rfl d_Plan_cooledFor_43 ?_
          refine z_iload C d_Plan_cooledFor_46 3 rfl ?_
          refine z_iald C 4 rfl h.1 d_Plan_cooledFor_47 ?_
          replace h := h.2
          have a_7 := h.1
          refine z_aald C 1 rfl a_7 rfl d_Plan_cooledFor_48 ?_
          replace h := h.2
          refine z_getP8 C fl_Plan_89 6 h_sm (fun j => [.int (sm_x0 j), .int (sm_y0 j), .int (sm_x1 j), .int (sm_y1 j), .int (sm_length j), .int (sm_time j), .int (sm_heat j)]) ((pl_seam (x3_2.toNatClampNeg)).toNatClampNeg) (vp_lt a_7) rfl rfl rfl rfl rfl rfl rfl rfl rfl d_Plan_cooledFor_49 ?_
          refine z_vpi C (rest := []) (c_Pace_restTicks l D κ h_pa h_ce pa_turn pa_travel pa_lift pa_cool pa_homeX pa_homeY (sm_heat ((pl_seam (x3_2.toNatClampNeg)).toNatClampNeg)) _ h) cv_Plan_92 ⟨rfl, rfl⟩ ⟨⟨Nat.le_of_ble_eq_true rfl, Nat.le_of_ble_eq_true rfl⟩, Nat.le_of_ble_eq_true rfl, Nat.le_of_ble_eq_true rfl⟩ 2 rfl [2] rfl rfl rfl (Nat.le_of_ble_eq_true rfl) d_Plan_cooledFor_52 (fun r_8 h => ?_)
          refine z_istore C [(4, .int r_8), (0, .ref h_pl), (1, .int p0), (2, .int x2_1), (3, .int x3_2)] d_Plan_cooledFor_55 rfl rfl ?_
          refine z_iload C d_Plan_cooledFor_57 3 rfl ?_
          refine z_aload C d_Plan_cooledFor_58 1 rfl ?_
          refine z_get C fl_Plan_21 3 rfl rfl d_Plan_cooledFor_59 ?_
          refine z_iload C d_Plan_cooledFor_62 4 rfl ?_
          refine z_iald C 5 rfl h.1 d_Plan_cooledFor_63 ?_
          replace h := h.2
          refine z_iload C d_Plan_cooledFor_64 0 rfl ?_
          refine z_iadd C d_Plan_cooledFor_66 ?_
          refine z_mmax C cm_Plan_71 (Nat.le_of_ble_eq_true rfl) (Nat.le_of_ble_eq_true rfl) ⟨Nat.le_of_ble_eq_true rfl, Nat.le_of_ble_eq_true rfl⟩ d_Plan_cooledFor_67 ?_
          refine z_topi (fun x2_9 ex2_9 => ?_)
          replace h := h x2_9 ex2_9
          refine z_istore C [(2, .int x2_9), (4, .int r_8), (0, .ref h_pl), (1, .int p0), (3, .int x3_2)] d_Plan_cooledFor_70 rfl rfl ?_
          obtain ⟨x3_10, ex3_10⟩ : ∃ y : Int32, y = x3_2 + (1 : Int32) := ⟨_, rfl⟩
          replace h := h x3_10 ex3_10
          refine z_iinc C [(3, .int x3_10), (2, .int x2_9), (4, .int r_8), (0, .ref h_pl), (1, .int p0)] d_Plan_cooledFor_71 (j := 4) rfl (by rw [ex3_10]; rfl) rfl rfl ?_
          refine z_goto C d_Plan_cooledFor_74 ?_
          refine z_sub [3, 4, 1, 0] [(0, .ref h_pl), (1, .int p0), (2, .int x2_9), (3, .int x3_10)] rfl ?_
          exact IH_4 x2_9 x3_10 h
  refine z_sub [2, 3, 1, 0] [(0, .ref h_pl), (1, .int p0), (2, .int (0 : Int32)), (3, .int (0 : Int32))] rfl ?_
  exact LP_4 n_4 (0 : Int32) (0 : Int32) h
def wpB_Plan_reckon_24 (ce_middleX : Int32) (ce_middleY : Int32) (ce_shiftX : Int32) (ce_shiftY : Int32) (ce_linkA : Int32) (ce_linkB : Int32) (ce_flatness : Int32) (ce_barCount : Int32) (ce_barX0 : Nat → Int32) (ce_barY0 : Nat → Int32) (ce_barX1 : Nat → Int32) (ce_barY1 : Nat → Int32) (pt_gap : Int32) (pa_turn : Int32) (pa_travel : Int32) (pa_lift : Int32) (pa_cool : Int32) (pl_count : Int32) (pl_seam : Nat → Int32) (pl_way : Nat → Int32) (sm_x0 : Nat → Int32) (sm_y0 : Nat → Int32) (sm_x1 : Nat → Int32) (sm_y1 : Nat → Int32) (sm_time : Nat → Int32) (sm_heat : Nat → Int32) (post : Int32 → (Nat → Int32) → (Nat → Int32) → (Nat → Int32) → Prop) (ih_24 : (Nat → Int32) → (Nat → Int32) → (Nat → Int32) → Int32 → Int32 → Int32 → Int32 → Int32 → Prop) (pl_begin_1 : Nat → Int32) (pl_end_2 : Nat → Int32) (pl_rested_3 : Nat → Int32) (x1_4 : Int32) (x2_5 : Int32) (x3_6 : Int32) (x4_7 : Int32) (x5_8 : Int32) : Prop :=
  ((pl_count ≤ x5_8 → (post (1 : Int32) pl_begin_1 pl_end_2 pl_rested_3)) ∧ (¬ pl_count ≤ x5_8 → (vp_in x5_8 8 ∧ (wp_Part_quarterOf ce_middleX ce_middleY ce_shiftX ce_shiftY ce_linkA ce_linkB ce_flatness ce_barCount ce_barX0 ce_barY0 ce_barX1 ce_barY1 sm_x0 sm_y0 sm_x1 sm_y1 (pl_seam (x5_8.toNatClampNeg)) (fun r_10 => ((¬ r_10 = (-6 : Int32) → (vp_in x5_8 8 ∧ (vp_in x5_8 8 ∧ (wp_Part_endX ce_middleX ce_shiftX sm_x0 sm_y0 sm_x1 sm_y1 (pl_seam (x5_8.toNatClampNeg)) (pl_way (x5_8.toNatClampNeg)) r_10 (fun r_12 => (vp_in x5_8 8 ∧ (vp_in x5_8 8 ∧ (wp_Part_endY ce_middleY ce_shiftY sm_x0 sm_y0 sm_x1 sm_y1 (pl_seam (x5_8.toNatClampNeg)) (pl_way (x5_8.toNatClampNeg)) r_10 (fun r_13 => (wp_Pace_turnTicks pa_turn x2_5 r_10 (fun r_14 => (wp_Pace_goTicks ce_barCount ce_barX0 ce_barY0 ce_barX1 ce_barY1 pa_travel pa_lift x3_6 x4_7 r_12 r_13 (fun r_15 => (∀ x9_16 : Int32, x9_16 = (x1_4 + r_14) + r_15 → (wp_Plan_cooledFor pt_gap pa_cool pl_seam pl_end_2 sm_x0 sm_y0 sm_x1 sm_y1 sm_heat x5_8 (fun r_17 => (∀ t_18 : Int32, t_18 = imax x9_16 r_17 → (vp_in x5_8 8 ∧ (∀ g_19 : Nat → Int32, g_19 = upd pl_begin_1 (x5_8.toNatClampNeg) t_18 → (vp_in x5_8 8 ∧ (∀ t_20 : Int32, t_20 = (g_19 (x5_8.toNatClampNeg)) - x9_16 → (vp_in x5_8 8 ∧ (∀ g_21 : Nat → Int32, g_21 = upd pl_rested_3 (x5_8.toNatClampNeg) t_20 → (vp_in x5_8 8 ∧ (vp_in x5_8 8 ∧ (vp_in (pl_seam (x5_8.toNatClampNeg)) 8 ∧ (∀ t_23 : Int32, t_23 = (g_19 (x5_8.toNatClampNeg)) + (sm_time ((pl_seam (x5_8.toNatClampNeg)).toNatClampNeg)) → (vp_in x5_8 8 ∧ (∀ g_24 : Nat → Int32, g_24 = upd pl_end_2 (x5_8.toNatClampNeg) t_23 → (vp_in x5_8 8 ∧ (∀ x1_25 : Int32, x1_25 = g_24 (x5_8.toNatClampNeg) → (vp_in x5_8 8 ∧ (vp_in x5_8 8 ∧ (wp_Part_endX ce_middleX ce_shiftX sm_x0 sm_y0 sm_x1 sm_y1 (pl_seam (x5_8.toNatClampNeg)) ((1 : Int32) - (pl_way (x5_8.toNatClampNeg))) r_10 (fun r_26 => (vp_in x5_8 8 ∧ (vp_in x5_8 8 ∧ (wp_Part_endY ce_middleY ce_shiftY sm_x0 sm_y0 sm_x1 sm_y1 (pl_seam (x5_8.toNatClampNeg)) ((1 : Int32) - (pl_way (x5_8.toNatClampNeg))) r_10 (fun r_27 => (∀ x5_28 : Int32, x5_28 = x5_8 + (1 : Int32) → (ih_24 g_19 g_24 g_21 x1_25 r_10 r_26 r_27 x5_28))))))))))))))))))))))))))))))))))))))))) ∧ (r_10 = (-6 : Int32) → (post (0 : Int32) pl_begin_1 pl_end_2 pl_rested_3))))))))
noncomputable def wpL_Plan_reckon_24 (ce_middleX : Int32) (ce_middleY : Int32) (ce_shiftX : Int32) (ce_shiftY : Int32) (ce_linkA : Int32) (ce_linkB : Int32) (ce_flatness : Int32) (ce_barCount : Int32) (ce_barX0 : Nat → Int32) (ce_barY0 : Nat → Int32) (ce_barX1 : Nat → Int32) (ce_barY1 : Nat → Int32) (pt_gap : Int32) (pa_turn : Int32) (pa_travel : Int32) (pa_lift : Int32) (pa_cool : Int32) (pl_count : Int32) (pl_seam : Nat → Int32) (pl_way : Nat → Int32) (sm_x0 : Nat → Int32) (sm_y0 : Nat → Int32) (sm_x1 : Nat → Int32) (sm_y1 : Nat → Int32) (sm_time : Nat → Int32) (sm_heat : Nat → Int32) (post : Int32 → (Nat → Int32) → (Nat → Int32) → (Nat → Int32) → Prop) : Nat → (Nat → Int32) → (Nat → Int32) → (Nat → Int32) → Int32 → Int32 → Int32 → Int32 → Int32 → Prop := fun n => @Nat.rec (fun _ => (Nat → Int32) → (Nat → Int32) → (Nat → Int32) → Int32 → Int32 → Int32 → Int32 → Int32 → Prop) (fun _ _ _ _ _ _ _ _ => False) (fun _ ih_24 => wpB_Plan_reckon_24 ce_middleX ce_middleY ce_shiftX ce_shiftY ce_linkA ce_linkB ce_flatness ce_barCount ce_barX0 ce_barY0 ce_barX1 ce_barY1 pt_gap pa_turn pa_travel pa_lift pa_cool pl_count pl_seam pl_way sm_x0 sm_y0 sm_x1 sm_y1 sm_time sm_heat post ih_24) n
def wp_Plan_reckon (ce_middleX : Int32) (ce_middleY : Int32) (ce_shiftX : Int32) (ce_shiftY : Int32) (ce_linkA : Int32) (ce_linkB : Int32) (ce_flatness : Int32) (ce_barCount : Int32) (ce_barX0 : Nat → Int32) (ce_barY0 : Nat → Int32) (ce_barX1 : Nat → Int32) (ce_barY1 : Nat → Int32) (pt_gap : Int32) (pa_turn : Int32) (pa_travel : Int32) (pa_lift : Int32) (pa_cool : Int32) (pa_homeX : Int32) (pa_homeY : Int32) (pl_count : Int32) (pl_seam : Nat → Int32) (pl_way : Nat → Int32) (pl_begin : Nat → Int32) (pl_end : Nat → Int32) (pl_rested : Nat → Int32) (sm_x0 : Nat → Int32) (sm_y0 : Nat → Int32) (sm_x1 : Nat → Int32) (sm_y1 : Nat → Int32) (sm_time : Nat → Int32) (sm_heat : Nat → Int32) (post : Int32 → (Nat → Int32) → (Nat → Int32) → (Nat → Int32) → Prop) : Prop :=
  (∃ n : Nat, wpL_Plan_reckon_24 ce_middleX ce_middleY ce_shiftX ce_shiftY ce_linkA ce_linkB ce_flatness ce_barCount ce_barX0 ce_barY0 ce_barX1 ce_barY1 pt_gap pa_turn pa_travel pa_lift pa_cool pl_count pl_seam pl_way sm_x0 sm_y0 sm_x1 sm_y1 sm_time sm_heat post n pl_begin pl_end pl_rested (0 : Int32) (0 : Int32) pa_homeX pa_homeY (0 : Int32))
abbrev rm_Plan_reckon : Room := { frames := 5, cells := 0, slots := 0, locals := 128 }
set_option maxHeartbeats 4000000 in
set_option maxRecDepth 100000 in
theorem c_Plan_reckon (l : Launch) (D : va_G) (κ : KT) (h_ce : Nat) (h_ce_barX0 : Nat) (h_ce_barY0 : Nat) (h_ce_barX1 : Nat) (h_ce_barY1 : Nat) (h_pt : Nat) (h_pt_seams : Nat) (h_pa : Nat) (h_pl : Nat) (h_pl_seam : Nat) (h_pl_way : Nat) (h_pl_begin : Nat) (h_pl_end : Nat) (h_pl_rested : Nat) (h_sm : Nat → Nat) (ce_middleX : Int32) (ce_middleY : Int32) (ce_shiftX : Int32) (ce_shiftY : Int32) (ce_linkA : Int32) (ce_linkB : Int32) (ce_flatness : Int32) (ce_barCount : Int32) (ce_barX0 : Nat → Int32) (ce_barY0 : Nat → Int32) (ce_barX1 : Nat → Int32) (ce_barY1 : Nat → Int32) (pt_count : Int32) (pt_gap : Int32) (pa_turn : Int32) (pa_travel : Int32) (pa_lift : Int32) (pa_cool : Int32) (pa_homeX : Int32) (pa_homeY : Int32) (pl_count : Int32) (pl_seam : Nat → Int32) (pl_way : Nat → Int32) (pl_begin : Nat → Int32) (pl_end : Nat → Int32) (pl_rested : Nat → Int32) (sm_x0 : Nat → Int32) (sm_y0 : Nat → Int32) (sm_x1 : Nat → Int32) (sm_y1 : Nat → Int32) (sm_length : Nat → Int32) (sm_time : Nat → Int32) (sm_heat : Nat → Int32) (sz : Nat) (post : Int32 → (Nat → Int32) → (Nat → Int32) → (Nat → Int32) → Prop) (h : wp_Plan_reckon ce_middleX ce_middleY ce_shiftX ce_shiftY ce_linkA ce_linkB ce_flatness ce_barCount ce_barX0 ce_barY0 ce_barX1 ce_barY1 pt_gap pa_turn pa_travel pa_lift pa_cool pa_homeX pa_homeY pl_count pl_seam pl_way pl_begin pl_end pl_rested sm_x0 sm_y0 sm_x1 sm_y1 sm_time sm_heat post) : Met l y_Plan_reckon (wsG y_Plan_reckon b_Plan_reckon 10 (some .boolean)) rm_Plan_reckon (PE D κ [.ref h_pl] [(h_ce, .inr (1, [.int ce_middleX, .int ce_middleY, .int ce_shiftX, .int ce_shiftY, .int ce_linkA, .int ce_linkB, .int ce_flatness, .int ce_barCount, .ref h_ce_barX0, .ref h_ce_barY0, .ref h_ce_barX1, .ref h_ce_barY1])), (h_ce_barX0, cI κ 4 ce_barX0), (h_ce_barY0, cI κ 4 ce_barY0), (h_ce_barX1, cI κ 4 ce_barX1), (h_ce_barY1, cI κ 4 ce_barY1), (h_pt, .inr (4, [.ref h_ce, .ref h_pt_seams, .int pt_count, .int pt_gap])), (h_pt_seams, cS κ 8 (fun i => some (h_sm i))), (h_pa, .inr (3, [.ref h_ce, .int pa_turn, .int pa_travel, .int pa_lift, .int pa_cool, .int pa_homeX, .int pa_homeY])), (h_pl, .inr (5, [.ref h_pt, .ref h_pa, .ref h_pl_seam, .ref h_pl_way, .ref h_pl_begin, .ref h_pl_end, .ref h_pl_rested, .int pl_count])), (h_pl_seam, cI κ 8 pl_seam), (h_pl_way, cI κ 8 pl_way), (h_pl_begin, cI κ 8 pl_begin), (h_pl_end, cI κ 8 pl_end), (h_pl_rested, cI κ 8 pl_rested), (h_sm 0, .inr (6, [.int (sm_x0 0), .int (sm_y0 0), .int (sm_x1 0), .int (sm_y1 0), .int (sm_length 0), .int (sm_time 0), .int (sm_heat 0)])), (h_sm 1, .inr (6, [.int (sm_x0 1), .int (sm_y0 1), .int (sm_x1 1), .int (sm_y1 1), .int (sm_length 1), .int (sm_time 1), .int (sm_heat 1)])), (h_sm 2, .inr (6, [.int (sm_x0 2), .int (sm_y0 2), .int (sm_x1 2), .int (sm_y1 2), .int (sm_length 2), .int (sm_time 2), .int (sm_heat 2)])), (h_sm 3, .inr (6, [.int (sm_x0 3), .int (sm_y0 3), .int (sm_x1 3), .int (sm_y1 3), .int (sm_length 3), .int (sm_time 3), .int (sm_heat 3)])), (h_sm 4, .inr (6, [.int (sm_x0 4), .int (sm_y0 4), .int (sm_x1 4), .int (sm_y1 4), .int (sm_length 4), .int (sm_time 4), .int (sm_heat 4)])), (h_sm 5, .inr (6, [.int (sm_x0 5), .int (sm_y0 5), .int (sm_x1 5), .int (sm_y1 5), .int (sm_length 5), .int (sm_time 5), .int (sm_heat 5)])), (h_sm 6, .inr (6, [.int (sm_x0 6), .int (sm_y0 6), .int (sm_x1 6), .int (sm_y1 6), .int (sm_length 6), .int (sm_time 6), .int (sm_heat 6)])), (h_sm 7, .inr (6, [.int (sm_x0 7), .int (sm_y0 7), .int (sm_x1 7), .int (sm_y1 7), .int (sm_length 7), .int (sm_time 7), .int (sm_heat 7)]))] sz) (va_Qi (fun (r : Int32) (u : (Nat → Int32) × (Nat → Int32) × (Nat → Int32)) => post r u.1 u.2.1 u.2.2) (QB D [(h_ce, .inr (1, [.int ce_middleX, .int ce_middleY, .int ce_shiftX, .int ce_shiftY, .int ce_linkA, .int ce_linkB, .int ce_flatness, .int ce_barCount, .ref h_ce_barX0, .ref h_ce_barY0, .ref h_ce_barX1, .ref h_ce_barY1])), (h_ce_barX0, cI κ 4 ce_barX0), (h_ce_barY0, cI κ 4 ce_barY0), (h_ce_barX1, cI κ 4 ce_barX1), (h_ce_barY1, cI κ 4 ce_barY1), (h_pt, .inr (4, [.ref h_ce, .ref h_pt_seams, .int pt_count, .int pt_gap])), (h_pt_seams, cS κ 8 (fun i => some (h_sm i))), (h_pa, .inr (3, [.ref h_ce, .int pa_turn, .int pa_travel, .int pa_lift, .int pa_cool, .int pa_homeX, .int pa_homeY])), (h_pl, .inr (5, [.ref h_pt, .ref h_pa, .ref h_pl_seam, .ref h_pl_way, .ref h_pl_begin, .ref h_pl_end, .ref h_pl_rested, .int pl_count])), (h_pl_seam, cI κ 8 pl_seam), (h_pl_way, cI κ 8 pl_way), (h_pl_begin, cI κ 8 pl_begin), (h_pl_end, cI κ 8 pl_end), (h_pl_rested, cI κ 8 pl_rested), (h_sm 0, .inr (6, [.int (sm_x0 0), .int (sm_y0 0), .int (sm_x1 0), .int (sm_y1 0), .int (sm_length 0), .int (sm_time 0), .int (sm_heat 0)])), (h_sm 1, .inr (6, [.int (sm_x0 1), .int (sm_y0 1), .int (sm_x1 1), .int (sm_y1 1), .int (sm_length 1), .int (sm_time 1), .int (sm_heat 1)])), (h_sm 2, .inr (6, [.int (sm_x0 2), .int (sm_y0 2), .int (sm_x1 2), .int (sm_y1 2), .int (sm_length 2), .int (sm_time 2), .int (sm_heat 2)])), (h_sm 3, .inr (6, [.int (sm_x0 3), .int (sm_y0 3), .int (sm_x1 3), .int (sm_y1 3), .int (sm_length 3), .int (sm_time 3), .int (sm_heat 3)])), (h_sm 4, .inr (6, [.int (sm_x0 4), .int (sm_y0 4), .int (sm_x1 4), .int (sm_y1 4), .int (sm_length 4), .int (sm_time 4), .int (sm_heat 4)])), (h_sm 5, .inr (6, [.int (sm_x0 5), .int (sm_y0 5), .int (sm_x1 5), .int (sm_y1 5), .int (sm_length 5), .int (sm_time 5), .int (sm_heat 5)])), (h_sm 6, .inr (6, [.int (sm_x0 6), .int (sm_y0 6), .int (sm_x1 6), .int (sm_y1 6), .int (sm_length 6), .int (sm_time 6), .int (sm_heat 6)])), (h_sm 7, .inr (6, [.int (sm_x0 7), .int (sm_y0 7), .int (sm_x1 7), .int (sm_y1 7), .int (sm_length 7), .int (sm_time 7), .int (sm_heat 7)]))] sz (fun (u : (Nat → Int32) × (Nat → Int32) × (Nat → Int32)) => [(h_ce, .inr (1, [.int ce_middleX, .int ce_middleY, .int ce_shiftX, .int ce_shiftY, .int ce_linkA, .int ce_linkB, .int ce_flatness, .int ce_barCount, .ref h_ce_barX0, .ref h_ce_barY0, .ref h_ce_barX1, .ref h_ce_barY1])), (h_ce_barX0, cI κ 4 ce_barX0), (h_ce_barY0, cI κ 4 ce_barY0), (h_ce_barX1, cI κ 4 ce_barX1), (h_ce_barY1, cI κ 4 ce_barY1), (h_pt, .inr (4, [.ref h_ce, .ref h_pt_seams, .int pt_count, .int pt_gap])), (h_pt_seams, cS κ 8 (fun i => some (h_sm i))), (h_pa, .inr (3, [.ref h_ce, .int pa_turn, .int pa_travel, .int pa_lift, .int pa_cool, .int pa_homeX, .int pa_homeY])), (h_pl, .inr (5, [.ref h_pt, .ref h_pa, .ref h_pl_seam, .ref h_pl_way, .ref h_pl_begin, .ref h_pl_end, .ref h_pl_rested, .int pl_count])), (h_pl_seam, cI κ 8 pl_seam), (h_pl_way, cI κ 8 pl_way), (h_pl_begin, cI κ 8 u.1), (h_pl_end, cI κ 8 u.2.1), (h_pl_rested, cI κ 8 u.2.2), (h_sm 0, .inr (6, [.int (sm_x0 0), .int (sm_y0 0), .int (sm_x1 0), .int (sm_y1 0), .int (sm_length 0), .int (sm_time 0), .int (sm_heat 0)])), (h_sm 1, .inr (6, [.int (sm_x0 1), .int (sm_y0 1), .int (sm_x1 1), .int (sm_y1 1), .int (sm_length 1), .int (sm_time 1), .int (sm_heat 1)])), (h_sm 2, .inr (6, [.int (sm_x0 2), .int (sm_y0 2), .int (sm_x1 2), .int (sm_y1 2), .int (sm_length 2), .int (sm_time 2), .int (sm_heat 2)])), (h_sm 3, .inr (6, [.int (sm_x0 3), .int (sm_y0 3), .int (sm_x1 3), .int (sm_y1 3), .int (sm_length 3), .int (sm_time 3), .int (sm_heat 3)])), (h_sm 4, .inr (6, [.int (sm_x0 4), .int (sm_y0 4), .int (sm_x1 4), .int (sm_y1 4), .int (sm_length 4), .int (sm_time 4), .int (sm_heat 4)])), (h_sm 5, .inr (6, [.int (sm_x0 5), .int (sm_y0 5), .int (sm_x1 5), .int (sm_y1 5), .int (sm_length 5), .int (sm_time 5), .int (sm_heat 5)])), (h_sm 6, .inr (6, [.int (sm_x0 6), .int (sm_y0 6), .int (sm_x1 6), .int (sm_y1 6), .int (sm_length 6), .int (sm_time 6), .int (sm_heat 6)])), (h_sm 7, .inr (6, [.int (sm_x0 7), .int (sm_y0 7), .int (sm_x1 7), .int (sm_y1 7), .int (sm_length 7), .int (sm_time 7), .int (sm_heat 7)]))])) (va_A [(h_ce, .inr (1, [.int ce_middleX, .int ce_middleY, .int ce_shiftX, .int ce_shiftY, .int ce_linkA, .int ce_linkB, .int ce_flatness, .int ce_barCount, .ref h_ce_barX0, .ref h_ce_barY0, .ref h_ce_barX1, .ref h_ce_barY1])), (h_ce_barX0, cI κ 4 ce_barX0), (h_ce_barY0, cI κ 4 ce_barY0), (h_ce_barX1, cI κ 4 ce_barX1), (h_ce_barY1, cI κ 4 ce_barY1), (h_pt, .inr (4, [.ref h_ce, .ref h_pt_seams, .int pt_count, .int pt_gap])), (h_pt_seams, cS κ 8 (fun i => some (h_sm i))), (h_pa, .inr (3, [.ref h_ce, .int pa_turn, .int pa_travel, .int pa_lift, .int pa_cool, .int pa_homeX, .int pa_homeY])), (h_pl, .inr (5, [.ref h_pt, .ref h_pa, .ref h_pl_seam, .ref h_pl_way, .ref h_pl_begin, .ref h_pl_end, .ref h_pl_rested, .int pl_count])), (h_pl_seam, cI κ 8 pl_seam), (h_pl_way, cI κ 8 pl_way), (h_pl_begin, cI κ 8 pl_begin), (h_pl_end, cI κ 8 pl_end), (h_pl_rested, cI κ 8 pl_rested), (h_sm 0, .inr (6, [.int (sm_x0 0), .int (sm_y0 0), .int (sm_x1 0), .int (sm_y1 0), .int (sm_length 0), .int (sm_time 0), .int (sm_heat 0)])), (h_sm 1, .inr (6, [.int (sm_x0 1), .int (sm_y0 1), .int (sm_x1 1), .int (sm_y1 1), .int (sm_length 1), .int (sm_time 1), .int (sm_heat 1)])), (h_sm 2, .inr (6, [.int (sm_x0 2), .int (sm_y0 2), .int (sm_x1 2), .int (sm_y1 2), .int (sm_length 2), .int (sm_time 2), .int (sm_heat 2)])), (h_sm 3, .inr (6, [.int (sm_x0 3), .int (sm_y0 3), .int (sm_x1 3), .int (sm_y1 3), .int (sm_length 3), .int (sm_time 3), .int (sm_heat 3)])), (h_sm 4, .inr (6, [.int (sm_x0 4), .int (sm_y0 4), .int (sm_x1 4), .int (sm_y1 4), .int (sm_length 4), .int (sm_time 4), .int (sm_heat 4)])), (h_sm 5, .inr (6, [.int (sm_x0 5), .int (sm_y0 5), .int (sm_x1 5), .int (sm_y1 5), .int (sm_length 5), .int (sm_time 5), .int (sm_heat 5)])), (h_sm 6, .inr (6, [.int (sm_x0 6), .int (sm_y0 6), .int (sm_x1 6), .int (sm_y1 6), .int (sm_length 6), .int (sm_time 6), .int (sm_heat 6)])), (h_sm 7, .inr (6, [.int (sm_x0 7), .int (sm_y0 7), .int (sm_x1 7), .int (sm_y1 7), .int (sm_length 7), .int (sm_time 7), .int (sm_heat 7)]))] sz)) 0 0 (va_A [(h_ce, .inr (1, [.int ce_middleX, .int ce_middleY, .int ce_shiftX, .int ce_shiftY, .int ce_linkA, .int ce_linkB, .int ce_flatness, .int ce_barCount, .ref h_ce_barX0, .ref h_ce_barY0, .ref h_ce_barX1, .ref h_ce_barY1])), (h_ce_barX0, cI κ 4 ce_barX0), (h_ce_barY0, cI κ 4 ce_barY0), (h_ce_barX1, cI κ 4 ce_barX1), (h_ce_barY1, cI κ 4 ce_barY1), (h_pt, .inr (4, [.ref h_ce, .ref h_pt_seams, .int pt_count, .int pt_gap])), (h_pt_seams, cS κ 8 (fun i => some (h_sm i))), (h_pa, .inr (3, [.ref h_ce, .int pa_turn, .int pa_travel, .int pa_lift, .int pa_cool, .int pa_homeX, .int pa_homeY])), (h_pl, .inr (5, [.ref h_pt, .ref h_pa, .ref h_pl_seam, .ref h_pl_way, .ref h_pl_begin, .ref h_pl_end, .ref h_pl_rested, .int pl_count])), (h_pl_seam, cI κ 8 pl_seam), (h_pl_way, cI κ 8 pl_way), (h_pl_begin, cI κ 8 pl_begin), (h_pl_end, cI κ 8 pl_end), (h_pl_rested, cI κ 8 pl_rested), (h_sm 0, .inr (6, [.int (sm_x0 0), .int (sm_y0 0), .int (sm_x1 0), .int (sm_y1 0), .int (sm_length 0), .int (sm_time 0), .int (sm_heat 0)])), (h_sm 1, .inr (6, [.int (sm_x0 1), .int (sm_y0 1), .int (sm_x1 1), .int (sm_y1 1), .int (sm_length 1), .int (sm_time 1), .int (sm_heat 1)])), (h_sm 2, .inr (6, [.int (sm_x0 2), .int (sm_y0 2), .int (sm_x1 2), .int (sm_y1 2), .int (sm_length 2), .int (sm_time 2), .int (sm_heat 2)])), (h_sm 3, .inr (6, [.int (sm_x0 3), .int (sm_y0 3), .int (sm_x1 3), .int (sm_y1 3), .int (sm_length 3), .int (sm_time 3), .int (sm_heat 3)])), (h_sm 4, .inr (6, [.int (sm_x0 4), .int (sm_y0 4), .int (sm_x1 4), .int (sm_y1 4), .int (sm_length 4), .int (sm_time 4), .int (sm_heat 4)])), (h_sm 5, .inr (6, [.int (sm_x0 5), .int (sm_y0 5), .int (sm_x1 5), .int (sm_y1 5), .int (sm_length 5), .int (sm_time 5), .int (sm_heat 5)])), (h_sm 6, .inr (6, [.int (sm_x0 6), .int (sm_y0 6), .int (sm_x1 6), .int (sm_y1 6), .int (sm_length 6), .int (sm_time 6), .int (sm_heat 6)])), (h_sm 7, .inr (6, [.int (sm_x0 7), .int (sm_y0 7), .int (sm_x1 7), .int (sm_y1 7), .int (sm_length 7), .int (sm_time 7), .int (sm_heat 7)]))] sz) := by
  refine ze_start [(0, .ref h_pl)] rfl (Nat.le_of_ble_eq_true rfl) rfl ?_
  intro p e s m args below meth c C hr hlk hnm hsz
  subst hsz
  unfold wp_Plan_reckon at h
  refine z_k C d_Plan_reckon_0 ?_
  refine z_istore C [(1, .int (0 : Int32)), (0, .ref h_pl)] d_Plan_reckon_1 rfl rfl ?_
  refine z_k C d_Plan_reckon_2 ?_
  refine z_istore C [(2, .int (0 : Int32)), (1, .int (0 : Int32)), (0, .ref h_pl)] d_Plan_reckon_3 rfl rfl ?_
  refine z_aload C d_Plan_reckon_4 2 rfl ?_
  refine z_get C fl_Plan_31 8 rfl rfl d_Plan_reckon_5 ?_
  refine z_get C fl_Plan_39 7 rfl rfl d_Plan_reckon_8 ?_
  refine z_istore C [(3, .int pa_homeX), (2, .int (0 : Int32)), (1, .int (0 : Int32)), (0, .ref h_pl)] d_Plan_reckon_11 rfl rfl ?_
  refine z_aload C d_Plan_reckon_12 3 rfl ?_
  refine z_get C fl_Plan_31 8 rfl rfl d_Plan_reckon_13 ?_
  refine z_get C fl_Plan_44 7 rfl rfl d_Plan_reckon_16 ?_
  refine z_istore C [(4, .int pa_homeY), (3, .int pa_homeX), (2, .int (0 : Int32)), (1, .int (0 : Int32)), (0, .ref h_pl)] d_Plan_reckon_19 rfl rfl ?_
  refine z_k C d_Plan_reckon_21 ?_
  refine z_istore C [(5, .int (0 : Int32)), (4, .int pa_homeY), (3, .int pa_homeX), (2, .int (0 : Int32)), (1, .int (0 : Int32)), (0, .ref h_pl)] d_Plan_reckon_22 rfl rfl ?_
  obtain ⟨n_24, h⟩ := h
  have LP_24 : ∀ (n : Nat) (pl_begin_1 : Nat → Int32) (pl_end_2 : Nat → Int32) (pl_rested_3 : Nat → Int32) (x1_4 : Int32) (x2_5 : Int32) (x3_6 : Int32) (x4_7 : Int32) (x5_8 : Int32), wpL_Plan_reckon_24 ce_middleX ce_middleY ce_shiftX ce_shiftY ce_linkA ce_linkB ce_flatness ce_barCount ce_barX0 ce_barY0 ce_barX1 ce_barY1 pt_gap pa_turn pa_travel pa_lift pa_cool pl_count pl_seam pl_way sm_x0 sm_y0 sm_x1 sm_y1 sm_time sm_heat post n pl_begin_1 pl_end_2 pl_rested_3 x1_4 x2_5 x3_6 x4_7 x5_8 → Zw p l e rm_Plan_reckon s m args below meth c 0 0 (MQ below (va_Qi (fun (r : Int32) (u : (Nat → Int32) × (Nat → Int32) × (Nat → Int32)) => post r u.1 u.2.1 u.2.2) (QB D [(h_ce, .inr (1, [.int ce_middleX, .int ce_middleY, .int ce_shiftX, .int ce_shiftY, .int ce_linkA, .int ce_linkB, .int ce_flatness, .int ce_barCount, .ref h_ce_barX0, .ref h_ce_barY0, .ref h_ce_barX1, .ref h_ce_barY1])), (h_ce_barX0, cI κ 4 ce_barX0), (h_ce_barY0, cI κ 4 ce_barY0), (h_ce_barX1, cI κ 4 ce_barX1), (h_ce_barY1, cI κ 4 ce_barY1), (h_pt, .inr (4, [.ref h_ce, .ref h_pt_seams, .int pt_count, .int pt_gap])), (h_pt_seams, cS κ 8 (fun i => some (h_sm i))), (h_pa, .inr (3, [.ref h_ce, .int pa_turn, .int pa_travel, .int pa_lift, .int pa_cool, .int pa_homeX, .int pa_homeY])), (h_pl, .inr (5, [.ref h_pt, .ref h_pa, .ref h_pl_seam, .ref h_pl_way, .ref h_pl_begin, .ref h_pl_end, .ref h_pl_rested, .int pl_count])), (h_pl_seam, cI κ 8 pl_seam), (h_pl_way, cI κ 8 pl_way), (h_pl_begin, cI κ 8 pl_begin), (h_pl_end, cI κ 8 pl_end), (h_pl_rested, cI κ 8 pl_rested), (h_sm 0, .inr (6, [.int (sm_x0 0), .int (sm_y0 0), .int (sm_x1 0), .int (sm_y1 0), .int (sm_length 0), .int (sm_time 0), .int (sm_heat 0)])), (h_sm 1, .inr (6, [.int (sm_x0 1), .int (sm_y0 1), .int (sm_x1 1), .int (sm_y1 1), .int (sm_length 1), .int (sm_time 1), .int (sm_heat 1)])), (h_sm 2, .inr (6, [.int (sm_x0 2), .int (sm_y0 2), .int (sm_x1 2), .int (sm_y1 2), .int (sm_length 2), .int (sm_time 2), .int (sm_heat 2)])), (h_sm 3, .inr (6, [.int (sm_x0 3), .int (sm_y0 3), .int (sm_x1 3), .int (sm_y1 3), .int (sm_length 3), .int (sm_time 3), .int (sm_heat 3)])), (h_sm 4, .inr (6, [.int (sm_x0 4), .int (sm_y0 4), .int (sm_x1 4), .int (sm_y1 4), .int (sm_length 4), .int (sm_time 4), .int (sm_heat 4)])), (h_sm 5, .inr (6, [.int (sm_x0 5), .int (sm_y0 5), .int (sm_x1 5), .int (sm_y1 5), .int (sm_length 5), .int (sm_time 5), .int (sm_heat 5)])), (h_sm 6, .inr (6, [.int (sm_x0 6), .int (sm_y0 6), .int (sm_x1 6), .int (sm_y1 6), .int (sm_length 6), .int (sm_time 6), .int (sm_heat 6)])), (h_sm 7, .inr (6, [.int (sm_x0 7), .int (sm_y0 7), .int (sm_x1 7), .int (sm_y1 7), .int (sm_length 7), .int (sm_time 7), .int (sm_heat 7)]))] s.heap.size (fun (u : (Nat → Int32) × (Nat → Int32) × (Nat → Int32)) => [(h_ce, .inr (1, [.int ce_middleX, .int ce_middleY, .int ce_shiftX, .int ce_shiftY, .int ce_linkA, .int ce_linkB, .int ce_flatness, .int ce_barCount, .ref h_ce_barX0, .ref h_ce_barY0, .ref h_ce_barX1, .ref h_ce_barY1])), (h_ce_barX0, cI κ 4 ce_barX0), (h_ce_barY0, cI κ 4 ce_barY0), (h_ce_barX1, cI κ 4 ce_barX1), (h_ce_barY1, cI κ 4 ce_barY1), (h_pt, .inr (4, [.ref h_ce, .ref h_pt_seams, .int pt_count, .int pt_gap])), (h_pt_seams, cS κ 8 (fun i => some (h_sm i))), (h_pa, .inr (3, [.ref h_ce, .int pa_turn, .int pa_travel, .int pa_lift, .int pa_cool, .int pa_homeX, .int pa_homeY])), (h_pl, .inr (5, [.ref h_pt, .ref h_pa, .ref h_pl_seam, .ref h_pl_way, .ref h_pl_begin, .ref h_pl_end, .ref h_pl_rested, .int pl_count])), (h_pl_seam, cI κ 8 pl_seam), (h_pl_way, cI κ 8 pl_way), (h_pl_begin, cI κ 8 u.1), (h_pl_end, cI κ 8 u.2.1), (h_pl_rested, cI κ 8 u.2.2), (h_sm 0, .inr (6, [.int (sm_x0 0), .int (sm_y0 0), .int (sm_x1 0), .int (sm_y1 0), .int (sm_length 0), .int (sm_time 0), .int (sm_heat 0)])), (h_sm 1, .inr (6, [.int (sm_x0 1), .int (sm_y0 1), .int (sm_x1 1), .int (sm_y1 1), .int (sm_length 1), .int (sm_time 1), .int (sm_heat 1)])), (h_sm 2, .inr (6, [.int (sm_x0 2), .int (sm_y0 2), .int (sm_x1 2), .int (sm_y1 2), .int (sm_length 2), .int (sm_time 2), .int (sm_heat 2)])), (h_sm 3, .inr (6, [.int (sm_x0 3), .int (sm_y0 3), .int (sm_x1 3), .int (sm_y1 3), .int (sm_length 3), .int (sm_time 3), .int (sm_heat 3)])), (h_sm 4, .inr (6, [.int (sm_x0 4), .int (sm_y0 4), .int (sm_x1 4), .int (sm_y1 4), .int (sm_length 4), .int (sm_time 4), .int (sm_heat 4)])), (h_sm 5, .inr (6, [.int (sm_x0 5), .int (sm_y0 5), .int (sm_x1 5), .int (sm_y1 5), .int (sm_length 5), .int (sm_time 5), .int (sm_heat 5)])), (h_sm 6, .inr (6, [.int (sm_x0 6), .int (sm_y0 6), .int (sm_x1 6), .int (sm_y1 6), .int (sm_length 6), .int (sm_time 6), .int (sm_heat 6)])), (h_sm 7, .inr (6, [.int (sm_x0 7), .int (sm_y0 7), .int (sm_x1 7), .int (sm_y1 7), .int (sm_length 7), .int (sm_time 7), .int (sm_heat 7)]))])) (va_A [(h_ce, .inr (1, [.int ce_middleX, .int ce_middleY, .int ce_shiftX, .int ce_shiftY, .int ce_linkA, .int ce_linkB, .int ce_flatness, .int ce_barCount, .ref h_ce_barX0, .ref h_ce_barY0, .ref h_ce_barX1, .ref h_ce_barY1])), (h_ce_barX0, cI κ 4 ce_barX0), (h_ce_barY0, cI κ 4 ce_barY0), (h_ce_barX1, cI κ 4 ce_barX1), (h_ce_barY1, cI κ 4 ce_barY1), (h_pt, .inr (4, [.ref h_ce, .ref h_pt_seams, .int pt_count, .int pt_gap])), (h_pt_seams, cS κ 8 (fun i => some (h_sm i))), (h_pa, .inr (3, [.ref h_ce, .int pa_turn, .int pa_travel, .int pa_lift, .int pa_cool, .int pa_homeX, .int pa_homeY])), (h_pl, .inr (5, [.ref h_pt, .ref h_pa, .ref h_pl_seam, .ref h_pl_way, .ref h_pl_begin, .ref h_pl_end, .ref h_pl_rested, .int pl_count])), (h_pl_seam, cI κ 8 pl_seam), (h_pl_way, cI κ 8 pl_way), (h_pl_begin, cI κ 8 pl_begin), (h_pl_end, cI κ 8 pl_end), (h_pl_rested, cI κ 8 pl_rested), (h_sm 0, .inr (6, [.int (sm_x0 0), .int (sm_y0 0), .int (sm_x1 0), .int (sm_y1 0), .int (sm_length 0), .int (sm_time 0), .int (sm_heat 0)])), (h_sm 1, .inr (6, [.int (sm_x0 1), .int (sm_y0 1), .int (sm_x1 1), .int (sm_y1 1), .int (sm_length 1), .int (sm_time 1), .int (sm_heat 1)])), (h_sm 2, .inr (6, [.int (sm_x0 2), .int (sm_y0 2), .int (sm_x1 2), .int (sm_y1 2), .int (sm_length 2), .int (sm_time 2), .int (sm_heat 2)])), (h_sm 3, .inr (6, [.int (sm_x0 3), .int (sm_y0 3), .int (sm_x1 3), .int (sm_y1 3), .int (sm_length 3), .int (sm_time 3), .int (sm_heat 3)])), (h_sm 4, .inr (6, [.int (sm_x0 4), .int (sm_y0 4), .int (sm_x1 4), .int (sm_y1 4), .int (sm_length 4), .int (sm_time 4), .int (sm_heat 4)])), (h_sm 5, .inr (6, [.int (sm_x0 5), .int (sm_y0 5), .int (sm_x1 5), .int (sm_y1 5), .int (sm_length 5), .int (sm_time 5), .int (sm_heat 5)])), (h_sm 6, .inr (6, [.int (sm_x0 6), .int (sm_y0 6), .int (sm_x1 6), .int (sm_y1 6), .int (sm_length 6), .int (sm_time 6), .int (sm_heat 6)])), (h_sm 7, .inr (6, [.int (sm_x0 7), .int (sm_y0 7), .int (sm_x1 7), .int (sm_y1 7), .int (sm_length 7), .int (sm_time 7), .int (sm_heat 7)]))] s.heap.size)) args s 0 0 (va_A [(h_ce, .inr (1, [.int ce_middleX, .int ce_middleY, .int ce_shiftX, .int ce_shiftY, .int ce_linkA, .int ce_linkB, .int ce_flatness, .int ce_barCount, .ref h_ce_barX0, .ref h_ce_barY0, .ref h_ce_barX1, .ref h_ce_barY1])), (h_ce_barX0, cI κ 4 ce_barX0), (h_ce_barY0, cI κ 4 ce_barY0), (h_ce_barX1, cI κ 4 ce_barX1), (h_ce_barY1, cI κ 4 ce_barY1), (h_pt, .inr (4, [.ref h_ce, .ref h_pt_seams, .int pt_count, .int pt_gap])), (h_pt_seams, cS κ 8 (fun i => some (h_sm i))), (h_pa, .inr (3, [.ref h_ce, .int pa_turn, .int pa_travel, .int pa_lift, .int pa_cool, .int pa_homeX, .int pa_homeY])), (h_pl, .inr (5, [.ref h_pt, .ref h_pa, .ref h_pl_seam, .ref h_pl_way, .ref h_pl_begin, .ref h_pl_end, .ref h_pl_rested, .int pl_count])), (h_pl_seam, cI κ 8 pl_seam), (h_pl_way, cI κ 8 pl_way), (h_pl_begin, cI κ 8 pl_begin), (h_pl_end, cI κ 8 pl_end), (h_pl_rested, cI κ 8 pl_rested), (h_sm 0, .inr (6, [.int (sm_x0 0), .int (sm_y0 0), .int (sm_x1 0), .int (sm_y1 0), .int (sm_length 0), .int (sm_time 0), .int (sm_heat 0)])), (h_sm 1, .inr (6, [.int (sm_x0 1), .int (sm_y0 1), .int (sm_x1 1), .int (sm_y1 1), .int (sm_length 1), .int (sm_time 1), .int (sm_heat 1)])), (h_sm 2, .inr (6, [.int (sm_x0 2), .int (sm_y0 2), .int (sm_x1 2), .int (sm_y1 2), .int (sm_length 2), .int (sm_time 2), .int (sm_heat 2)])), (h_sm 3, .inr (6, [.int (sm_x0 3), .int (sm_y0 3), .int (sm_x1 3), .int (sm_y1 3), .int (sm_length 3), .int (sm_time 3), .int (sm_heat 3)])), (h_sm 4, .inr (6, [.int (sm_x0 4), .int (sm_y0 4), .int (sm_x1 4), .int (sm_y1 4), .int (sm_length 4), .int (sm_time 4), .int (sm_heat 4)])), (h_sm 5, .inr (6, [.int (sm_x0 5), .int (sm_y0 5), .int (sm_x1 5), .int (sm_y1 5), .int (sm_length 5), .int (sm_time 5), .int (sm_heat 5)])), (h_sm 6, .inr (6, [.int (sm_x0 6), .int (sm_y0 6), .int (sm_x1 6), .int (sm_y1 6), .int (sm_length 6), .int (sm_time 6), .int (sm_heat 6)])), (h_sm 7, .inr (6, [.int (sm_x0 7), .int (sm_y0 7), .int (sm_x1 7), .int (sm_y1 7), .int (sm_length 7), .int (sm_time 7), .int (sm_heat 7)]))] s.heap.size)) D 10 (some (va_A [(h_ce, .inr (1, [.int ce_middleX, .int ce_middleY, .int ce_shiftX, .int ce_shiftY, .int ce_linkA, .int ce_linkB, .int ce_flatness, .int ce_barCount, .ref h_ce_barX0, .ref h_ce_barY0, .ref h_ce_barX1, .ref h_ce_barY1])), (h_ce_barX0, cI κ 4 ce_barX0), (h_ce_barY0, cI κ 4 ce_barY0), (h_ce_barX1, cI κ 4 ce_barX1), (h_ce_barY1, cI κ 4 ce_barY1), (h_pt, .inr (4, [.ref h_ce, .ref h_pt_seams, .int pt_count, .int pt_gap])), (h_pt_seams, cS κ 8 (fun i => some (h_sm i))), (h_pa, .inr (3, [.ref h_ce, .int pa_turn, .int pa_travel, .int pa_lift, .int pa_cool, .int pa_homeX, .int pa_homeY])), (h_pl, .inr (5, [.ref h_pt, .ref h_pa, .ref h_pl_seam, .ref h_pl_way, .ref h_pl_begin, .ref h_pl_end, .ref h_pl_rested, .int pl_count])), (h_pl_seam, cI κ 8 pl_seam), (h_pl_way, cI κ 8 pl_way), (h_pl_begin, cI κ 8 pl_begin), (h_pl_end, cI κ 8 pl_end), (h_pl_rested, cI κ 8 pl_rested), (h_sm 0, .inr (6, [.int (sm_x0 0), .int (sm_y0 0), .int (sm_x1 0), .int (sm_y1 0), .int (sm_length 0), .int (sm_time 0), .int (sm_heat 0)])), (h_sm 1, .inr (6, [.int (sm_x0 1), .int (sm_y0 1), .int (sm_x1 1), .int (sm_y1 1), .int (sm_length 1), .int (sm_time 1), .int (sm_heat 1)])), (h_sm 2, .inr (6, [.int (sm_x0 2), .int (sm_y0 2), .int (sm_x1 2), .int (sm_y1 2), .int (sm_length 2), .int (sm_time 2), .int (sm_heat 2)])), (h_sm 3, .inr (6, [.int (sm_x0 3), .int (sm_y0 3), .int (sm_x1 3), .int (sm_y1 3), .int (sm_length 3), .int (sm_time 3), .int (sm_heat 3)])), (h_sm 4, .inr (6, [.int (sm_x0 4), .int (sm_y0 4), .int (sm_x1 4), .int (sm_y1 4), .int (sm_length 4), .int (sm_time 4), .int (sm_heat 4)])), (h_sm 5, .inr (6, [.int (sm_x0 5), .int (sm_y0 5), .int (sm_x1 5), .int (sm_y1 5), .int (sm_length 5), .int (sm_time 5), .int (sm_heat 5)])), (h_sm 6, .inr (6, [.int (sm_x0 6), .int (sm_y0 6), .int (sm_x1 6), .int (sm_y1 6), .int (sm_length 6), .int (sm_time 6), .int (sm_heat 6)])), (h_sm 7, .inr (6, [.int (sm_x0 7), .int (sm_y0 7), .int (sm_x1 7), .int (sm_y1 7), .int (sm_length 7), .int (sm_time 7), .int (sm_heat 7)]))] s.heap.size)) [(h_ce, .inr (1, [.int ce_middleX, .int ce_middleY, .int ce_shiftX, .int ce_shiftY, .int ce_linkA, .int ce_linkB, .int ce_flatness, .int ce_barCount, .ref h_ce_barX0, .ref h_ce_barY0, .ref h_ce_barX1, .ref h_ce_barY1])), (h_ce_barX0, cI κ 4 ce_barX0), (h_ce_barY0, cI κ 4 ce_barY0), (h_ce_barX1, cI κ 4 ce_barX1), (h_ce_barY1, cI κ 4 ce_barY1), (h_pt, .inr (4, [.ref h_ce, .ref h_pt_seams, .int pt_count, .int pt_gap])), (h_pt_seams, cS κ 8 (fun i => some (h_sm i))), (h_pa, .inr (3, [.ref h_ce, .int pa_turn, .int pa_travel, .int pa_lift, .int pa_cool, .int pa_homeX, .int pa_homeY])), (h_pl, .inr (5, [.ref h_pt, .ref h_pa, .ref h_pl_seam, .ref h_pl_way, .ref h_pl_begin, .ref h_pl_end, .ref h_pl_rested, .int pl_count])), (h_pl_seam, cI κ 8 pl_seam), (h_pl_way, cI κ 8 pl_way), (h_pl_begin, cI κ 8 pl_begin_1), (h_pl_end, cI κ 8 pl_end_2), (h_pl_rested, cI κ 8 pl_rested_3), (h_sm 0, .inr (6, [.int (sm_x0 0), .int (sm_y0 0), .int (sm_x1 0), .int (sm_y1 0), .int (sm_length 0), .int (sm_time 0), .int (sm_heat 0)])), (h_sm 1, .inr (6, [.int (sm_x0 1), .int (sm_y0 1), .int (sm_x1 1), .int (sm_y1 1), .int (sm_length 1), .int (sm_time 1), .int (sm_heat 1)])), (h_sm 2, .inr (6, [.int (sm_x0 2), .int (sm_y0 2), .int (sm_x1 2), .int (sm_y1 2), .int (sm_length 2), .int (sm_time 2), .int (sm_heat 2)])), (h_sm 3, .inr (6, [.int (sm_x0 3), .int (sm_y0 3), .int (sm_x1 3), .int (sm_y1 3), .int (sm_length 3), .int (sm_time 3), .int (sm_heat 3)])), (h_sm 4, .inr (6, [.int (sm_x0 4), .int (sm_y0 4), .int (sm_x1 4), .int (sm_y1 4), .int (sm_length 4), .int (sm_time 4), .int (sm_heat 4)])), (h_sm 5, .inr (6, [.int (sm_x0 5), .int (sm_y0 5), .int (sm_x1 5), .int (sm_y1 5), .int (sm_length 5), .int (sm_time 5), .int (sm_heat 5)])), (h_sm 6, .inr (6, [.int (sm_x0 6), .int (sm_y0 6), .int (sm_x1 6), .int (sm_y1 6), .int (sm_length 6), .int (sm_time 6), .int (sm_heat 6)])), (h_sm 7, .inr (6, [.int (sm_x0 7), .int (sm_y0 7), .int (sm_x1 7), .int (sm_y1 7), .int (sm_length 7), .int (sm_time 7), .int (sm_heat 7)]))] [(0, .ref h_pl), (1, .int x1_4), (2, .int x2_5), (3, .int x3_6), (4, .int x4_7), (5, .int x5_8)] 24 [] := by
    intro n
    induction n with
    | zero => intro pl_begin_1 pl_end_2 pl_rested_3 x1_4 x2_5 x3_6 x4_7 x5_8 h; exact False.elim h
    | succ nn_24 IH_24 =>
      intro pl_begin_1 pl_end_2 pl_rested_3 x1_4 x2_5 x3_6 x4_7 x5_8 h
      have h : wpB_Plan_reckon_24 ce_middleX ce_middleY ce_shiftX ce_shiftY ce_linkA ce_linkB ce_flatness ce_barCount ce_barX0 ce_barY0 ce_barX1 ce_barY1 pt_gap pa_turn pa_travel pa_lift pa_cool pl_count pl_seam pl_way sm_x0 sm_y0 sm_x1 sm_y1 sm_time sm_heat post (wpL_Plan_reckon_24 ce_middleX ce_middleY ce_shiftX ce_shiftY ce_linkA ce_linkB ce_flatness ce_barCount ce_barX0 ce_barY0 ce_barX1 ce_barY1 pt_gap pa_turn pa_travel pa_lift pa_cool pl_count pl_seam pl_way sm_x0 sm_y0 sm_x1 sm_y1 sm_time sm_heat post nn_24) pl_begin_1 pl_end_2 pl_rested_3 x1_4 x2_5 x3_6 x4_7 x5_8 := h
      unfold wpB_Plan_reckon_24 at h
      refine z_iload C d_Plan_reckon_24 5 rfl ?_
      refine z_aload C d_Plan_reckon_26 0 rfl ?_
      refine z_get C fl_Plan_35 8 rfl rfl d_Plan_reckon_27 ?_
      refine z_icmp_ge C d_Plan_reckon_30 (fun c_9 => ?_) (fun c_9 => ?_)
      · replace h := h.1 c_9
        refine z_k C d_Plan_reckon_275 ?_
        exact ze_zret C (pl_begin_1, pl_end_2, pl_rested_3) hr hlk (Or.inr rfl) rfl d_Plan_reckon_276 h
      · replace h := h.2 c_9
        refine z_aload C d_Plan_reckon_33 0 rfl ?_
        refine z_get C fl_Plan_27 8 rfl rfl d_Plan_reckon_34 ?_
        refine z_aload C d_Plan_reckon_37 0 rfl ?_
        refine z_get C fl_Plan_9 8 rfl rfl d_Plan_reckon_38 ?_
        refine z_iload C d_Plan_reckon_41 5 rfl ?_
        refine z_iald C 9 rfl h.1 d_Plan_reckon_43 ?_
        replace h := h.2
        refine z_vpi C (rest := []) (c_Part_quarterOf l D κ h_ce h_ce_barX0 h_ce_barY0 h_ce_barX1 h_ce_barY1 h_pt h_pt_seams h_sm ce_middleX ce_middleY ce_shiftX ce_shiftY ce_linkA ce_linkB ce_flatness ce_barCount ce_barX0 ce_barY0 ce_barX1 ce_barY1 pt_count pt_gap sm_x0 sm_y0 sm_x1 sm_y1 sm_length sm_time sm_heat (pl_seam (x5_8.toNatClampNeg)) _ h) cv_Plan_47 ⟨rfl, rfl⟩ ⟨⟨Nat.le_of_ble_eq_true rfl, Nat.le_of_ble_eq_true rfl⟩, Nat.le_of_ble_eq_true rfl, Nat.le_of_ble_eq_true rfl⟩ 5 rfl [0, 1, 2, 3, 4, 5, 6, 14, 15, 16, 17, 18, 19, 20, 21] rfl rfl rfl (Nat.le_of_ble_eq_true rfl) d_Plan_reckon_44 (fun r_10 h => ?_)
        refine z_istore C [(6, .int r_10), (0, .ref h_pl), (1, .int x1_4), (2, .int x2_5), (3, .int x3_6), (4, .int x4_7), (5, .int x5_8)] d_Plan_reckon_47 rfl rfl ?_
        refine z_iload C d_Plan_reckon_49 0 rfl ?_
        refine z_k C d_Plan_reckon_51 ?_
        refine z_icmp_ne C d_Plan_reckon_53 (fun c_11 => ?_) (fun c_11 => ?_)
        · replace h := h.1 c_11
          refine z_aload C d_Plan_reckon_58 1 rfl ?_
          refine z_get C fl_Plan_27 8 rfl rfl d_Plan_reckon_59 ?_
          refine z_aload C d_Plan_reckon_62 1 rfl ?_
          refine z_get C fl_Plan_9 8 rfl rfl d_Plan_reckon_63 ?_
          refine z_iload C d_Plan_reckon_66 6 rfl ?_
          refine z_iald C 9 rfl h.1 d_Plan_reckon_68 ?_
          replace h := h.2
          refine z_aload C d_Plan_reckon_69 1 rfl ?_
          refine z_get C fl_Plan_15 8 rfl rfl d_Plan_reckon_70 ?_
          refine z_iload C d_Plan_reckon_73 6 rfl ?_
          refine z_iald C 10 rfl h.1 d_Plan_reckon_75 ?_
          replace h := h.2
          refine z_iload C d_Plan_reckon_76 0 rfl ?_
          refine z_vpi C (rest := []) (c_Part_endX l D κ h_ce h_ce_barX0 h_ce_barY0 h_ce_barX1 h_ce_barY1 h_pt h_pt_seams h_sm ce_middleX ce_middleY ce_shiftX ce_shiftY ce_linkA ce_linkB ce_flatness ce_barCount pt_count pt_gap sm_x0 sm_y0 sm_x1 sm_y1 sm_length sm_time sm_heat (pl_seam (x5_8.toNatClampNeg)) (pl_way (x5_8.toNatClampNeg)) r_10 _ h) cv_Plan_53 ⟨rfl, rfl⟩ ⟨⟨Nat.le_of_ble_eq_true rfl, Nat.le_of_ble_eq_true rfl⟩, Nat.le_of_ble_eq_true rfl, Nat.le_of_ble_eq_true rfl⟩ 5 rfl [0, 5, 6, 14, 15, 16, 17, 18, 19, 20, 21] rfl rfl rfl (Nat.le_of_ble_eq_true rfl) d_Plan_reckon_78 (fun r_12 h => ?_)
          refine z_istore C [(7, .int r_12), (6, .int r_10), (0, .ref h_pl), (1, .int x1_4), (2, .int x2_5), (3, .int x3_6), (4, .int x4_7), (5, .int x5_8)] d_Plan_reckon_81 rfl rfl ?_
          refine z_aload C d_Plan_reckon_83 2 rfl ?_
          refine z_get C fl_Plan_27 8 rfl rfl d_Plan_reckon_84 ?_
          refine z_aload C d_Plan_reckon_87 2 rfl ?_
          refine z_get C fl_Plan_9 8 rfl rfl d_Plan_reckon_88 ?_
          refine z_iload C d_Plan_reckon_91 7 rfl ?_
          refine z_iald C 9 rfl h.1 d_Plan_reckon_93 ?_
          replace h := h.2
          refine z_aload C d_Plan_reckon_94 2 rfl ?_
          refine z_get C fl_Plan_15 8 rfl rfl d_Plan_reckon_95 ?_
          refine z_iload C d_Plan_reckon_98 7 rfl ?_
          refine z_iald C 10 rfl h.1 d_Plan_reckon_100 ?_
          replace h := h.2
          refine z_iload C d_Plan_reckon_101 1 rfl ?_
          refine z_vpi C (rest := []) (c_Part_endY l D κ h_ce h_ce_barX0 h_ce_barY0 h_ce_barX1 h_ce_barY1 h_pt h_pt_seams h_sm ce_middleX ce_middleY ce_shiftX ce_shiftY ce_linkA ce_linkB ce_flatness ce_barCount pt_count pt_gap sm_x0 sm_y0 sm_x1 sm_y1 sm_length sm_time sm_heat (pl_seam (x5_8.toNatClampNeg)) (pl_way (x5_8.toNatClampNeg)) r_10 _ h) cv_Plan_57 ⟨rfl, rfl⟩ ⟨⟨Nat.le_of_ble_eq_true rfl, Nat.le_of_ble_eq_true rfl⟩, Nat.le_of_ble_eq_true rfl, Nat.le_of_ble_eq_true rfl⟩ 5 rfl [0, 5, 6, 14, 15, 16, 17, 18, 19, 20, 21] rfl rfl rfl (Nat.le_of_ble_eq_true rfl) d_Plan_reckon_103 (fun r_13 h => ?_)
          refine z_istore C [(8, .int r_13), (7, .int r_12), (6, .int r_10), (0, .ref h_pl), (1, .int x1_4), (2, .int x2_5), (3, .int x3_6), (4, .int x4_7), (5, .int x5_8)] d_Plan_reckon_106 rfl rfl ?_
          refine z_iload C d_Plan_reckon_108 4 rfl ?_
          refine z_aload C d_Plan_reckon_109 3 rfl ?_
          refine z_get C fl_Plan_31 8 rfl rfl d_Plan_reckon_110 ?_
          refine z_iload C d_Plan_reckon_113 5 rfl ?_
          refine z_iload C d_Plan_reckon_114 2 rfl ?_
          refine z_vpi C (rest := [.int x1_4]) (c_Pace_turnTicks l D κ h_pa h_ce pa_turn pa_travel pa_lift pa_cool pa_homeX pa_homeY x2_5 r_10 _ h) cv_Plan_60 ⟨rfl, rfl⟩ ⟨⟨Nat.le_of_ble_eq_true rfl, Nat.le_of_ble_eq_true rfl⟩, Nat.le_of_ble_eq_true rfl, Nat.le_of_ble_eq_true rfl⟩ 7 rfl [7] rfl rfl rfl (Nat.le_of_ble_eq_true rfl) d_Plan_reckon_116 (fun r_14 h => ?_)
          refine z_iadd C d_Plan_reckon_119 ?_
          refine z_aload C d_Plan_reckon_120 3 rfl ?_
          refine z_get C fl_Plan_31 8 rfl rfl d_Plan_reckon_121 ?_
          refine z_iload C d_Plan_reckon_124 6 rfl ?_
          refine z_iload C d_Plan_reckon_125 7 rfl ?_
          refine z_iload C d_Plan_reckon_127 1 rfl ?_
          refine z_iload C d_Plan_reckon_129 0 rfl ?_
          refine z_vpi C (rest := [.int (x1_4 + r_14)]) (c_Pace_goTicks l D κ h_ce h_ce_barX0 h_ce_barY0 h_ce_barX1 h_ce_barY1 h_pa ce_middleX ce_middleY ce_shiftX ce_shiftY ce_linkA ce_linkB ce_flatness ce_barCount ce_barX0 ce_barY0 ce_barX1 ce_barY1 pa_turn pa_travel pa_lift pa_cool pa_homeX pa_homeY x3_6 x4_7 r_12 r_13 _ h) cv_Plan_64 ⟨rfl, rfl⟩ ⟨⟨Nat.le_of_ble_eq_true rfl, Nat.le_of_ble_eq_true rfl⟩, Nat.le_of_ble_eq_true rfl, Nat.le_of_ble_eq_true rfl⟩ 7 rfl [0, 1, 2, 3, 4, 7] rfl rfl rfl (Nat.le_of_ble_eq_true rfl) d_Plan_reckon_131 (fun r_15 h => ?_)
          refine z_iadd C d_Plan_reckon_134 ?_
          refine z_topi (fun x9_16 ex9_16 => ?_)
          replace h := h x9_16 ex9_16
          refine z_istore C [(9, .int x9_16), (8, .int r_13), (7, .int r_12), (6, .int r_10), (0, .ref h_pl), (1, .int x1_4), (2, .int x2_5), (3, .int x3_6), (4, .int x4_7), (5, .int x5_8)] d_Plan_reckon_135 rfl rfl ?_
          refine z_aload C d_Plan_reckon_137 4 rfl ?_
          refine z_get C fl_Plan_18 8 rfl rfl d_Plan_reckon_138 ?_
          refine z_iload C d_Plan_reckon_141 9 rfl ?_
          refine z_iload C d_Plan_reckon_143 0 rfl ?_
          refine z_aload C d_Plan_reckon_145 4 rfl ?_
          refine z_iload C d_Plan_reckon_146 9 rfl ?_
          refine z_vpi C (rest := [.int x9_16, .int x5_8, .ref h_pl_begin]) (c_Plan_cooledFor l D κ h_pt h_ce h_pt_seams h_pa h_pl h_pl_seam h_pl_way h_pl_begin h_pl_end h_pl_rested h_sm pt_count pt_gap pa_turn pa_travel pa_lift pa_cool pa_homeX pa_homeY pl_count pl_seam pl_end_2 sm_x0 sm_y0 sm_x1 sm_y1 sm_length sm_time sm_heat x5_8 _ h) cv_Plan_68 ⟨rfl, rfl⟩ ⟨⟨Nat.le_of_ble_eq_true rfl, Nat.le_of_ble_eq_true rfl⟩, Nat.le_of_ble_eq_true rfl, Nat.le_of_ble_eq_true rfl⟩ 8 rfl [5, 6, 7, 8, 9, 12, 14, 15, 16, 17, 18, 19, 20, 21] rfl rfl rfl (Nat.le_of_ble_eq_true rfl) d_Plan_reckon_148 (fun r_17 h => ?_)
          refine z_mmax C cm_Plan_71 (Nat.le_of_ble_eq_true rfl) (Nat.le_of_ble_eq_true rfl) ⟨Nat.le_of_ble_eq_true rfl, Nat.le_of_ble_eq_true rfl⟩ d_Plan_reckon_151 ?_
          refine z_topi (fun t_18 et_18 => ?_)
          replace h := h t_18 et_18
          obtain ⟨g_19, eg_19⟩ : ∃ y : Nat → Int32, y = upd pl_begin_1 (x5_8.toNatClampNeg) t_18 := ⟨_, rfl⟩
          refine z_iast C 11 rfl h.1 [(h_ce, .inr (1, [.int ce_middleX, .int ce_middleY, .int ce_shiftX, .int ce_shiftY, .int ce_linkA, .int ce_linkB, .int ce_flatness, .int ce_barCount, .ref h_ce_barX0, .ref h_ce_barY0, .ref h_ce_barX1, .ref h_ce_barY1])), (h_ce_barX0, cI κ 4 ce_barX0), (h_ce_barY0, cI κ 4 ce_barY0), (h_ce_barX1, cI κ 4 ce_barX1), (h_ce_barY1, cI κ 4 ce_barY1), (h_pt, .inr (4, [.ref h_ce, .ref h_pt_seams, .int pt_count, .int pt_gap])), (h_pt_seams, cS κ 8 (fun i => some (h_sm i))), (h_pa, .inr (3, [.ref h_ce, .int pa_turn, .int pa_travel, .int pa_lift, .int pa_cool, .int pa_homeX, .int pa_homeY])), (h_pl, .inr (5, [.ref h_pt, .ref h_pa, .ref h_pl_seam, .ref h_pl_way, .ref h_pl_begin, .ref h_pl_end, .ref h_pl_rested, .int pl_count])), (h_pl_seam, cI κ 8 pl_seam), (h_pl_way, cI κ 8 pl_way), (h_pl_begin, cI κ 8 g_19), (h_pl_end, cI κ 8 pl_end_2), (h_pl_rested, cI κ 8 pl_rested_3), (h_sm 0, .inr (6, [.int (sm_x0 0), .int (sm_y0 0), .int (sm_x1 0), .int (sm_y1 0), .int (sm_length 0), .int (sm_time 0), .int (sm_heat 0)])), (h_sm 1, .inr (6, [.int (sm_x0 1), .int (sm_y0 1), .int (sm_x1 1), .int (sm_y1 1), .int (sm_length 1), .int (sm_time 1), .int (sm_heat 1)])), (h_sm 2, .inr (6, [.int (sm_x0 2), .int (sm_y0 2), .int (sm_x1 2), .int (sm_y1 2), .int (sm_length 2), .int (sm_time 2), .int (sm_heat 2)])), (h_sm 3, .inr (6, [.int (sm_x0 3), .int (sm_y0 3), .int (sm_x1 3), .int (sm_y1 3), .int (sm_length 3), .int (sm_time 3), .int (sm_heat 3)])), (h_sm 4, .inr (6, [.int (sm_x0 4), .int (sm_y0 4), .int (sm_x1 4), .int (sm_y1 4), .int (sm_length 4), .int (sm_time 4), .int (sm_heat 4)])), (h_sm 5, .inr (6, [.int (sm_x0 5), .int (sm_y0 5), .int (sm_x1 5), .int (sm_y1 5), .int (sm_length 5), .int (sm_time 5), .int (sm_heat 5)])), (h_sm 6, .inr (6, [.int (sm_x0 6), .int (sm_y0 6), .int (sm_x1 6), .int (sm_y1 6), .int (sm_length 6), .int (sm_time 6), .int (sm_heat 6)])), (h_sm 7, .inr (6, [.int (sm_x0 7), .int (sm_y0 7), .int (sm_x1 7), .int (sm_y1 7), .int (sm_length 7), .int (sm_time 7), .int (sm_heat 7)]))] (by rw [eg_19]; rfl) d_Plan_reckon_154 ?_
          replace h := h.2 g_19 eg_19
          refine z_aload C d_Plan_reckon_155 4 rfl ?_
          refine z_get C fl_Plan_24 8 rfl rfl d_Plan_reckon_156 ?_
          refine z_iload C d_Plan_reckon_159 9 rfl ?_
          refine z_aload C d_Plan_reckon_161 4 rfl ?_
          refine z_get C fl_Plan_18 8 rfl rfl d_Plan_reckon_162 ?_
          refine z_iload C d_Plan_reckon_165 9 rfl ?_
          refine z_iald C 11 rfl h.1 d_Plan_reckon_167 ?_
          replace h := h.2
          refine z_iload C d_Plan_reckon_168 0 rfl ?_
          refine z_isub C d_Plan_reckon_170 ?_
          refine z_topi (fun t_20 et_20 => ?_)
          replace h := h t_20 et_20
          obtain ⟨g_21, eg_21⟩ : ∃ y : Nat → Int32, y = upd pl_rested_3 (x5_8.toNatClampNeg) t_20 := ⟨_, rfl⟩
          refine z_iast C 13 rfl h.1 [(h_ce, .inr (1, [.int ce_middleX, .int ce_middleY, .int ce_shiftX, .int ce_shiftY, .int ce_linkA, .int ce_linkB, .int ce_flatness, .int ce_barCount, .ref h_ce_barX0, .ref h_ce_barY0, .ref h_ce_barX1, .ref h_ce_barY1])), (h_ce_barX0, cI κ 4 ce_barX0), (h_ce_barY0, cI κ 4 ce_barY0), (h_ce_barX1, cI κ 4 ce_barX1), (h_ce_barY1, cI κ 4 ce_barY1), (h_pt, .inr (4, [.ref h_ce, .ref h_pt_seams, .int pt_count, .int pt_gap])), (h_pt_seams, cS κ 8 (fun i => some (h_sm i))), (h_pa, .inr (3, [.ref h_ce, .int pa_turn, .int pa_travel, .int pa_lift, .int pa_cool, .int pa_homeX, .int pa_homeY])), (h_pl, .inr (5, [.ref h_pt, .ref h_pa, .ref h_pl_seam, .ref h_pl_way, .ref h_pl_begin, .ref h_pl_end, .ref h_pl_rested, .int pl_count])), (h_pl_seam, cI κ 8 pl_seam), (h_pl_way, cI κ 8 pl_way), (h_pl_begin, cI κ 8 g_19), (h_pl_end, cI κ 8 pl_end_2), (h_pl_rested, cI κ 8 g_21), (h_sm 0, .inr (6, [.int (sm_x0 0), .int (sm_y0 0), .int (sm_x1 0), .int (sm_y1 0), .int (sm_length 0), .int (sm_time 0), .int (sm_heat 0)])), (h_sm 1, .inr (6, [.int (sm_x0 1), .int (sm_y0 1), .int (sm_x1 1), .int (sm_y1 1), .int (sm_length 1), .int (sm_time 1), .int (sm_heat 1)])), (h_sm 2, .inr (6, [.int (sm_x0 2), .int (sm_y0 2), .int (sm_x1 2), .int (sm_y1 2), .int (sm_length 2), .int (sm_time 2), .int (sm_heat 2)])), (h_sm 3, .inr (6, [.int (sm_x0 3), .int (sm_y0 3), .int (sm_x1 3), .int (sm_y1 3), .int (sm_length 3), .int (sm_time 3), .int (sm_heat 3)])), (h_sm 4, .inr (6, [.int (sm_x0 4), .int (sm_y0 4), .int (sm_x1 4), .int (sm_y1 4), .int (sm_length 4), .int (sm_time 4), .int (sm_heat 4)])), (h_sm 5, .inr (6, [.int (sm_x0 5), .int (sm_y0 5), .int (sm_x1 5), .int (sm_y1 5), .int (sm_length 5), .int (sm_time 5), .int (sm_heat 5)])), (h_sm 6, .inr (6, [.int (sm_x0 6), .int (sm_y0 6), .int (sm_x1 6), .int (sm_y1 6), .int (sm_length 6), .int (sm_time 6), .int (sm_heat 6)])), (h_sm 7, .inr (6, [.int (sm_x0 7), .int (sm_y0 7), .int (sm_x1 7), .int (sm_y1 7), .int (sm_length 7), .int (sm_time 7), .int (sm_heat 7)]))] (by rw [eg_21]; rfl) d_Plan_reckon_171 ?_
          replace h := h.2 g_21 eg_21
          refine z_aload C d_Plan_reckon_172 4 rfl ?_
          refine z_get C fl_Plan_21 8 rfl rfl d_Plan_reckon_173 ?_
          refine z_iload C d_Plan_reckon_176 9 rfl ?_
          refine z_aload C d_Plan_reckon_178 4 rfl ?_
          refine z_get C fl_Plan_18 8 rfl rfl d_Plan_reckon_179 ?_
          refine z_iload C d_Plan_reckon_182 9 rfl ?_
          refine z_iald C 11 rfl h.1 d_Plan_reckon_184 ?_
          replace h := h.2
          refine z_aload C d_Plan_reckon_185 4 rfl ?_
          refine z_get C fl_Plan_27 8 rfl rfl d_Plan_reckon_186 ?_
          refine z_get C fl_Plan_76 5 rfl rfl d_Plan_reckon_189 ?_
          refine z_aload C d_Plan_reckon_192 4 rfl ?_
          refine z_get C fl_Plan_9 8 rfl rfl d_Plan_reckon_193 ?_
          refine z_iload C d_Plan_reckon_196 9 rfl ?_
          refine z_iald C 9 rfl h.1 d_Plan_reckon_198 ?_
          replace h := h.2
          have a_22 := h.1
          refine z_aald C 6 rfl a_22 rfl d_Plan_reckon_199 ?_
          replace h := h.2
          refine z_getP8 C fl_Plan_80 14 h_sm (fun j => [.int (sm_x0 j), .int (sm_y0 j), .int (sm_x1 j), .int (sm_y1 j), .int (sm_length j), .int (sm_time j), .int (sm_heat j)]) ((pl_seam (x5_8.toNatClampNeg)).toNatClampNeg) (vp_lt a_22) rfl rfl rfl rfl rfl rfl rfl rfl rfl d_Plan_reckon_200 ?_
          refine z_iadd C d_Plan_reckon_203 ?_
          refine z_topi (fun t_23 et_23 => ?_)
          replace h := h t_23 et_23
          obtain ⟨g_24, eg_24⟩ : ∃ y : Nat → Int32, y = upd pl_end_2 (x5_8.toNatClampNeg) t_23 := ⟨_, rfl⟩
          refine z_iast C 12 rfl h.1 [(h_ce, .inr (1, [.int ce_middleX, .int ce_middleY, .int ce_shiftX, .int ce_shiftY, .int ce_linkA, .int ce_linkB, .int ce_flatness, .int ce_barCount, .ref h_ce_barX0, .ref h_ce_barY0, .ref h_ce_barX1, .ref h_ce_barY1])), (h_ce_barX0, cI κ 4 ce_barX0), (h_ce_barY0, cI κ 4 ce_barY0), (h_ce_barX1, cI κ 4 ce_barX1), (h_ce_barY1, cI κ 4 ce_barY1), (h_pt, .inr (4, [.ref h_ce, .ref h_pt_seams, .int pt_count, .int pt_gap])), (h_pt_seams, cS κ 8 (fun i => some (h_sm i))), (h_pa, .inr (3, [.ref h_ce, .int pa_turn, .int pa_travel, .int pa_lift, .int pa_cool, .int pa_homeX, .int pa_homeY])), (h_pl, .inr (5, [.ref h_pt, .ref h_pa, .ref h_pl_seam, .ref h_pl_way, .ref h_pl_begin, .ref h_pl_end, .ref h_pl_rested, .int pl_count])), (h_pl_seam, cI κ 8 pl_seam), (h_pl_way, cI κ 8 pl_way), (h_pl_begin, cI κ 8 g_19), (h_pl_end, cI κ 8 g_24), (h_pl_rested, cI κ 8 g_21), (h_sm 0, .inr (6, [.int (sm_x0 0), .int (sm_y0 0), .int (sm_x1 0), .int (sm_y1 0), .int (sm_length 0), .int (sm_time 0), .int (sm_heat 0)])), (h_sm 1, .inr (6, [.int (sm_x0 1), .int (sm_y0 1), .int (sm_x1 1), .int (sm_y1 1), .int (sm_length 1), .int (sm_time 1), .int (sm_heat 1)])), (h_sm 2, .inr (6, [.int (sm_x0 2), .int (sm_y0 2), .int (sm_x1 2), .int (sm_y1 2), .int (sm_length 2), .int (sm_time 2), .int (sm_heat 2)])), (h_sm 3, .inr (6, [.int (sm_x0 3), .int (sm_y0 3), .int (sm_x1 3), .int (sm_y1 3), .int (sm_length 3), .int (sm_time 3), .int (sm_heat 3)])), (h_sm 4, .inr (6, [.int (sm_x0 4), .int (sm_y0 4), .int (sm_x1 4), .int (sm_y1 4), .int (sm_length 4), .int (sm_time 4), .int (sm_heat 4)])), (h_sm 5, .inr (6, [.int (sm_x0 5), .int (sm_y0 5), .int (sm_x1 5), .int (sm_y1 5), .int (sm_length 5), .int (sm_time 5), .int (sm_heat 5)])), (h_sm 6, .inr (6, [.int (sm_x0 6), .int (sm_y0 6), .int (sm_x1 6), .int (sm_y1 6), .int (sm_length 6), .int (sm_time 6), .int (sm_heat 6)])), (h_sm 7, .inr (6, [.int (sm_x0 7), .int (sm_y0 7), .int (sm_x1 7), .int (sm_y1 7), .int (sm_length 7), .int (sm_time 7), .int (sm_heat 7)]))] (by rw [eg_24]; rfl) d_Plan_reckon_204 ?_
          replace h := h.2 g_24 eg_24
          refine z_aload C d_Plan_reckon_205 4 rfl ?_
          refine z_get C fl_Plan_21 8 rfl rfl d_Plan_reckon_206 ?_
          refine z_iload C d_Plan_reckon_209 9 rfl ?_
          refine z_iald C 12 rfl h.1 d_Plan_reckon_211 ?_
          replace h := h.2
          refine z_topi (fun x1_25 ex1_25 => ?_)
          replace h := h x1_25 ex1_25
          refine z_istore C [(1, .int x1_25), (9, .int x9_16), (8, .int r_13), (7, .int r_12), (6, .int r_10), (0, .ref h_pl), (2, .int x2_5), (3, .int x3_6), (4, .int x4_7), (5, .int x5_8)] d_Plan_reckon_212 rfl rfl ?_
          refine z_iload C d_Plan_reckon_213 4 rfl ?_
          refine z_istore C [(2, .int r_10), (1, .int x1_25), (9, .int x9_16), (8, .int r_13), (7, .int r_12), (6, .int r_10), (0, .ref h_pl), (3, .int x3_6), (4, .int x4_7), (5, .int x5_8)] d_Plan_reckon_215 rfl rfl ?_
          refine z_aload C d_Plan_reckon_216 6 rfl ?_
          refine z_get C fl_Plan_27 8 rfl rfl d_Plan_reckon_217 ?_
          refine z_aload C d_Plan_reckon_220 6 rfl ?_
          refine z_get C fl_Plan_9 8 rfl rfl d_Plan_reckon_221 ?_
          refine z_iload C d_Plan_reckon_224 9 rfl ?_
          refine z_iald C 9 rfl h.1 d_Plan_reckon_226 ?_
          replace h := h.2
          refine z_k C d_Plan_reckon_227 ?_
          refine z_aload C d_Plan_reckon_228 6 rfl ?_
          refine z_get C fl_Plan_15 8 rfl rfl d_Plan_reckon_229 ?_
          refine z_iload C d_Plan_reckon_232 9 rfl ?_
          refine z_iald C 10 rfl h.1 d_Plan_reckon_234 ?_
          replace h := h.2
          refine z_isub C d_Plan_reckon_235 ?_
          refine z_iload C d_Plan_reckon_236 5 rfl ?_
          refine z_vpi C (rest := []) (c_Part_endX l D κ h_ce h_ce_barX0 h_ce_barY0 h_ce_barX1 h_ce_barY1 h_pt h_pt_seams h_sm ce_middleX ce_middleY ce_shiftX ce_shiftY ce_linkA ce_linkB ce_flatness ce_barCount pt_count pt_gap sm_x0 sm_y0 sm_x1 sm_y1 sm_length sm_time sm_heat (pl_seam (x5_8.toNatClampNeg)) ((1 : Int32) - (pl_way (x5_8.toNatClampNeg))) r_10 _ h) cv_Plan_53 ⟨rfl, rfl⟩ ⟨⟨Nat.le_of_ble_eq_true rfl, Nat.le_of_ble_eq_true rfl⟩, Nat.le_of_ble_eq_true rfl, Nat.le_of_ble_eq_true rfl⟩ 5 rfl [0, 5, 6, 14, 15, 16, 17, 18, 19, 20, 21] rfl rfl rfl (Nat.le_of_ble_eq_true rfl) d_Plan_reckon_238 (fun r_26 h => ?_)
          refine z_istore C [(3, .int r_26), (2, .int r_10), (1, .int x1_25), (9, .int x9_16), (8, .int r_13), (7, .int r_12), (6, .int r_10), (0, .ref h_pl), (4, .int x4_7), (5, .int x5_8)] d_Plan_reckon_241 rfl rfl ?_
          refine z_aload C d_Plan_reckon_242 7 rfl ?_
          refine z_get C fl_Plan_27 8 rfl rfl d_Plan_reckon_243 ?_
          refine z_aload C d_Plan_reckon_246 7 rfl ?_
          refine z_get C fl_Plan_9 8 rfl rfl d_Plan_reckon_247 ?_
          refine z_iload C d_Plan_reckon_250 9 rfl ?_
          refine z_iald C 9 rfl h.1 d_Plan_reckon_252 ?_
          replace h := h.2
          refine z_k C d_Plan_reckon_253 ?_
          refine z_aload C d_Plan_reckon_254 7 rfl ?_
          refine z_get C fl_Plan_15 8 rfl rfl d_Plan_reckon_255 ?_
          refine z_iload C d_Plan_reckon_258 9 rfl ?_
          refine z_iald C 10 rfl h.1 d_Plan_reckon_260 ?_
          replace h := h.2
          refine z_isub C d_Plan_reckon_261 ?_
          refine z_iload C d_Plan_reckon_262 6 rfl ?_
          refine z_vpi C (rest := []) (c_Part_endY l D κ h_ce h_ce_barX0 h_ce_barY0 h_ce_barX1 h_ce_barY1 h_pt h_pt_seams h_sm ce_middleX ce_middleY ce_shiftX ce_shiftY ce_linkA ce_linkB ce_flatness ce_barCount pt_count pt_gap sm_x0 sm_y0 sm_x1 sm_y1 sm_length sm_time sm_heat (pl_seam (x5_8.toNatClampNeg)) ((1 : Int32) - (pl_way (x5_8.toNatClampNeg))) r_10 _ h) cv_Plan_57 ⟨rfl, rfl⟩ ⟨⟨Nat.le_of_ble_eq_true rfl, Nat.le_of_ble_eq_true rfl⟩, Nat.le_of_ble_eq_true rfl, Nat.le_of_ble_eq_true rfl⟩ 5 rfl [0, 5, 6, 14, 15, 16, 17, 18, 19, 20, 21] rfl rfl rfl (Nat.le_of_ble_eq_true rfl) d_Plan_reckon_264 (fun r_27 h => ?_)
          refine z_istore C [(4, .int r_27), (3, .int r_26), (2, .int r_10), (1, .int x1_25), (9, .int x9_16), (8, .int r_13), (7, .int r_12), (6, .int r_10), (0, .ref h_pl), (5, .int x5_8)] d_Plan_reckon_267 rfl rfl ?_
          obtain ⟨x5_28, ex5_28⟩ : ∃ y : Int32, y = x5_8 + (1 : Int32) := ⟨_, rfl⟩
          replace h := h x5_28 ex5_28
          refine z_iinc C [(5, .int x5_28), (4, .int r_27), (3, .int r_26), (2, .int r_10), (1, .int x1_25), (9, .int x9_16), (8, .int r_13), (7, .int r_12), (6, .int r_10), (0, .ref h_pl)] d_Plan_reckon_269 (j := 9) rfl (by rw [ex5_28]; rfl) rfl rfl ?_
          refine z_goto C d_Plan_reckon_272 ?_
          refine z_sub [9, 4, 3, 2, 1, 0] [(0, .ref h_pl), (1, .int x1_25), (2, .int r_10), (3, .int r_26), (4, .int r_27), (5, .int x5_28)] rfl ?_
          exact IH_24 g_19 g_24 g_21 x1_25 r_10 r_26 r_27 x5_28 h
        · replace h := h.2 c_11
          refine z_k C d_Plan_reckon_56 ?_
          exact ze_zret C (pl_begin_1, pl_end_2, pl_rested_3) hr hlk (Or.inl rfl) rfl d_Plan_reckon_57 h
  refine z_sub [5, 4, 3, 2, 1, 0] [(0, .ref h_pl), (1, .int (0 : Int32)), (2, .int (0 : Int32)), (3, .int pa_homeX), (4, .int pa_homeY), (5, .int (0 : Int32))] rfl ?_
  exact LP_24 n_24 pl_begin pl_end pl_rested (0 : Int32) (0 : Int32) pa_homeX pa_homeY (0 : Int32) h
def wp_Plan_lastEnd (pl_count : Int32) (pl_end : Nat → Int32) (post : Int32 → Prop) : Prop :=
  (((1 : Int32) ≤ pl_count → (vp_in (pl_count - (1 : Int32)) 8 ∧ (post (pl_end ((pl_count - (1 : Int32)).toNatClampNeg))))) ∧ (¬ (1 : Int32) ≤ pl_count → (post (0 : Int32))))
abbrev rm_Plan_lastEnd : Room := { frames := 0, cells := 0, slots := 0, locals := 0 }
set_option maxHeartbeats 4000000 in
set_option maxRecDepth 100000 in
theorem c_Plan_lastEnd (l : Launch) (D : va_G) (κ : KT) (h_pl : Nat) (h_pt : Nat) (h_pa : Nat) (h_pl_seam : Nat) (h_pl_way : Nat) (h_pl_begin : Nat) (h_pl_end : Nat) (h_pl_rested : Nat) (pl_count : Int32) (pl_end : Nat → Int32) (post : Int32 → Prop) (h : wp_Plan_lastEnd pl_count pl_end post) : Met l y_Plan_lastEnd (wsG y_Plan_lastEnd b_Plan_lastEnd 1 (some .int)) rm_Plan_lastEnd (PP D κ [.ref h_pl] [(h_pl, .inr (5, [.ref h_pt, .ref h_pa, .ref h_pl_seam, .ref h_pl_way, .ref h_pl_begin, .ref h_pl_end, .ref h_pl_rested, .int pl_count])), (h_pl_end, cI κ 8 pl_end)]) (vp_Si post) 0 0 (fun _ => False) := by
  refine zp_start [(0, .ref h_pl)] rfl (Nat.le_of_ble_eq_true rfl) rfl ?_
  intro p e s m args below meth c C hr hlk
  unfold wp_Plan_lastEnd at h
  refine z_aload C d_Plan_lastEnd_0 0 rfl ?_
  refine z_get C fl_Plan_35 0 rfl rfl d_Plan_lastEnd_1 ?_
  refine z_k C d_Plan_lastEnd_4 ?_
  refine z_icmp_ge C d_Plan_lastEnd_5 (fun c_1 => ?_) (fun c_1 => ?_)
  · replace h := h.1 c_1
    refine z_aload C d_Plan_lastEnd_12 0 rfl ?_
    refine z_get C fl_Plan_21 0 rfl rfl d_Plan_lastEnd_13 ?_
    refine z_aload C d_Plan_lastEnd_16 0 rfl ?_
    refine z_get C fl_Plan_35 0 rfl rfl d_Plan_lastEnd_17 ?_
    refine z_k C d_Plan_lastEnd_20 ?_
    refine z_isub C d_Plan_lastEnd_21 ?_
    refine z_iald C 1 rfl h.1 d_Plan_lastEnd_22 ?_
    replace h := h.2
    exact zp_iret C hr hlk d_Plan_lastEnd_23 h
  · replace h := h.2 c_1
    refine z_k C d_Plan_lastEnd_8 ?_
    refine z_goto C d_Plan_lastEnd_9 ?_
    exact zp_iret C hr hlk d_Plan_lastEnd_23 h
def wp_Touches_forget (to_low : Nat → Int32) (to_high : Nat → Int32) (post : Int32 → (Nat → Int32) → (Nat → Int32) → Prop) : Prop :=
  (wp_Arrays_fill 2 to_low (-20 : Int32) (fun to_low_1 => (wp_Arrays_fill 2 to_high (20 : Int32) (fun to_high_2 => (post (0 : Int32) to_low_1 to_high_2)))))
abbrev rm_Touches_forget : Room := { frames := 1, cells := 0, slots := 0, locals := 23 }
set_option maxHeartbeats 4000000 in
set_option maxRecDepth 100000 in
theorem c_Touches_forget (l : Launch) (D : va_G) (κ : KT) (h_to : Nat) (h_to_low : Nat) (h_to_high : Nat) (to_count : Int32) (to_low : Nat → Int32) (to_high : Nat → Int32) (sz : Nat) (post : Int32 → (Nat → Int32) → (Nat → Int32) → Prop) (h : wp_Touches_forget to_low to_high post) : Met l y_Touches_forget (wsG y_Touches_forget b_Touches_forget 1 none) rm_Touches_forget (PE D κ [.ref h_to] [(h_to, .inr (8, [.ref h_to_low, .ref h_to_high, .int to_count])), (h_to_low, cI κ 2 to_low), (h_to_high, cI κ 2 to_high)] sz) (va_Qv (fun (u : (Int32) × (Nat → Int32) × (Nat → Int32)) => post u.1 u.2.1 u.2.2) (QB D [(h_to, .inr (8, [.ref h_to_low, .ref h_to_high, .int to_count])), (h_to_low, cI κ 2 to_low), (h_to_high, cI κ 2 to_high)] sz (fun (u : (Int32) × (Nat → Int32) × (Nat → Int32)) => [(h_to, .inr (8, [.ref h_to_low, .ref h_to_high, .int u.1])), (h_to_low, cI κ 2 u.2.1), (h_to_high, cI κ 2 u.2.2)])) (va_A [(h_to, .inr (8, [.ref h_to_low, .ref h_to_high, .int to_count])), (h_to_low, cI κ 2 to_low), (h_to_high, cI κ 2 to_high)] sz)) 0 0 (va_A [(h_to, .inr (8, [.ref h_to_low, .ref h_to_high, .int to_count])), (h_to_low, cI κ 2 to_low), (h_to_high, cI κ 2 to_high)] sz) := by
  refine ze_start [(0, .ref h_to)] rfl (Nat.le_of_ble_eq_true rfl) rfl ?_
  intro p e s m args below meth c C hr hlk hnm hsz
  subst hsz
  unfold wp_Touches_forget at h
  refine z_aload C d_Touches_forget_0 0 rfl ?_
  refine z_k C d_Touches_forget_1 ?_
  refine z_put C fp_Touches_16 0 rfl rfl rfl rfl [(h_to, .inr (8, [.ref h_to_low, .ref h_to_high, .int (0 : Int32)])), (h_to_low, cI κ 2 to_low), (h_to_high, cI κ 2 to_high)] rfl d_Touches_forget_2 ?_
  refine z_aload C d_Touches_forget_5 0 rfl ?_
  refine z_get C fl_Touches_9 0 rfl rfl d_Touches_forget_6 ?_
  refine z_k C d_Touches_forget_9 ?_
  refine z_sev C (rest := []) (wr := [(h_to, .inr (8, [.ref h_to_low, .ref h_to_high, .int (0 : Int32)])), (h_to_high, cI κ 2 to_high)]) (fun sz => c_Arrays_fill l D κ h_to_low 2 to_low (-20 : Int32) sz _ h) cs_Touches_20 ⟨rfl, rfl⟩ ⟨⟨Nat.le_of_ble_eq_true rfl, Nat.le_of_ble_eq_true rfl⟩, Nat.le_of_ble_eq_true rfl, Nat.le_of_ble_eq_true rfl⟩ [1] [0, 2] rfl rfl rfl (fun u => [(h_to, .inr (8, [.ref h_to_low, .ref h_to_high, .int (0 : Int32)])), (h_to_low, cI κ 2 u), (h_to_high, cI κ 2 to_high)]) [0, 2, 1] rfl (fun _ => rfl) rfl rfl (Nat.le_of_ble_eq_true rfl) d_Touches_forget_11 (fun to_low_1 h => ?_)
  (try dsimp only at h); (try dsimp only)
  refine z_aload C d_Touches_forget_14 0 rfl ?_
  refine z_get C fl_Touches_13 0 rfl rfl d_Touches_forget_15 ?_
  refine z_k C d_Touches_forget_18 ?_
  refine z_sev C (rest := []) (wr := [(h_to, .inr (8, [.ref h_to_low, .ref h_to_high, .int (0 : Int32)])), (h_to_low, cI κ 2 to_low_1)]) (fun sz => c_Arrays_fill l D κ h_to_high 2 to_high (20 : Int32) sz _ h) cs_Touches_20 ⟨rfl, rfl⟩ ⟨⟨Nat.le_of_ble_eq_true rfl, Nat.le_of_ble_eq_true rfl⟩, Nat.le_of_ble_eq_true rfl, Nat.le_of_ble_eq_true rfl⟩ [2] [0, 1] rfl rfl rfl (fun u => [(h_to, .inr (8, [.ref h_to_low, .ref h_to_high, .int (0 : Int32)])), (h_to_low, cI κ 2 to_low_1), (h_to_high, cI κ 2 u)]) [0, 1, 2] rfl (fun _ => rfl) rfl rfl (Nat.le_of_ble_eq_true rfl) d_Touches_forget_20 (fun to_high_2 h => ?_)
  (try dsimp only at h); (try dsimp only)
  exact ze_vret C ((0 : Int32), to_low_1, to_high_2) hr hlk rfl d_Touches_forget_23 h
def wp_Touches_narrow (to_count : Int32) (to_low : Nat → Int32) (to_high : Nat → Int32) (p0 : Int32) (p1 : Int32) (p2 : Int32) (post : Int32 → Int32 → (Nat → Int32) → (Nat → Int32) → Prop) : Prop :=
  ((p0 < 0 → (post (0 : Int32) to_count to_low to_high)) ∧ (¬ p0 < 0 → ((p0 ≤ (1 : Int32) → (vp_in p0 2 ∧ (∀ x4_3 : Int32, x4_3 = imax (to_low (p0.toNatClampNeg)) p1 → (vp_in p0 2 ∧ (∀ x5_4 : Int32, x5_4 = imin (to_high (p0.toNatClampNeg)) p2 → ((x4_3 ≤ x5_4 → (vp_in p0 2 ∧ (∀ g_6 : Nat → Int32, g_6 = upd to_low (p0.toNatClampNeg) x4_3 → (vp_in p0 2 ∧ (∀ g_7 : Nat → Int32, g_7 = upd to_high (p0.toNatClampNeg) x5_4 → (∀ f_8 : Int32, f_8 = to_count + (1 : Int32) → (post (1 : Int32) f_8 g_6 g_7))))))) ∧ (¬ x4_3 ≤ x5_4 → (post (0 : Int32) to_count to_low to_high)))))))) ∧ (¬ p0 ≤ (1 : Int32) → (post (0 : Int32) to_count to_low to_high)))))
abbrev rm_Touches_narrow : Room := { frames := 1, cells := 0, slots := 0, locals := 21 }
set_option maxHeartbeats 4000000 in
set_option maxRecDepth 100000 in
theorem c_Touches_narrow (l : Launch) (D : va_G) (κ : KT) (h_to : Nat) (h_to_low : Nat) (h_to_high : Nat) (to_count : Int32) (to_low : Nat → Int32) (to_high : Nat → Int32) (p0 : Int32) (p1 : Int32) (p2 : Int32) (sz : Nat) (post : Int32 → Int32 → (Nat → Int32) → (Nat → Int32) → Prop) (h : wp_Touches_narrow to_count to_low to_high p0 p1 p2 post) : Met l y_Touches_narrow (wsG y_Touches_narrow b_Touches_narrow 6 (some .boolean)) rm_Touches_narrow (PE D κ [.ref h_to, .int p0, .int p1, .int p2] [(h_to, .inr (8, [.ref h_to_low, .ref h_to_high, .int to_count])), (h_to_low, cI κ 2 to_low), (h_to_high, cI κ 2 to_high)] sz) (va_Qi (fun (r : Int32) (u : (Int32) × (Nat → Int32) × (Nat → Int32)) => post r u.1 u.2.1 u.2.2) (QB D [(h_to, .inr (8, [.ref h_to_low, .ref h_to_high, .int to_count])), (h_to_low, cI κ 2 to_low), (h_to_high, cI κ 2 to_high)] sz (fun (u : (Int32) × (Nat → Int32) × (Nat → Int32)) => [(h_to, .inr (8, [.ref h_to_low, .ref h_to_high, .int u.1])), (h_to_low, cI κ 2 u.2.1), (h_to_high, cI κ 2 u.2.2)])) (va_A [(h_to, .inr (8, [.ref h_to_low, .ref h_to_high, .int to_count])), (h_to_low, cI κ 2 to_low), (h_to_high, cI κ 2 to_high)] sz)) 0 0 (va_A [(h_to, .inr (8, [.ref h_to_low, .ref h_to_high, .int to_count])), (h_to_low, cI κ 2 to_low), (h_to_high, cI κ 2 to_high)] sz) := by
  refine ze_start [(0, .ref h_to), (1, .int p0), (2, .int p1), (3, .int p2)] rfl (Nat.le_of_ble_eq_true rfl) rfl ?_
  intro p e s m args below meth c C hr hlk hnm hsz
  subst hsz
  unfold wp_Touches_narrow at h
  refine z_iload C d_Touches_narrow_0 1 rfl ?_
  refine z_if_lt C d_Touches_narrow_1 (fun c_1 => ?_) (fun c_1 => ?_)
  · replace h := h.1 c_1
    refine z_k C d_Touches_narrow_9 ?_
    exact ze_zret C (to_count, to_low, to_high) hr hlk (Or.inl rfl) rfl d_Touches_narrow_10 h
  · replace h := h.2 c_1
    refine z_iload C d_Touches_narrow_4 1 rfl ?_
    refine z_k C d_Touches_narrow_5 ?_
    refine z_icmp_le C d_Touches_narrow_6 (fun c_2 => ?_) (fun c_2 => ?_)
    · replace h := h.1 c_2
      refine z_aload C d_Touches_narrow_11 0 rfl ?_
      refine z_get C fl_Touches_9 0 rfl rfl d_Touches_narrow_12 ?_
      refine z_iload C d_Touches_narrow_15 1 rfl ?_
      refine z_iald C 1 rfl h.1 d_Touches_narrow_16 ?_
      replace h := h.2
      refine z_iload C d_Touches_narrow_17 2 rfl ?_
      refine z_mmax C cm_Touches_26 (Nat.le_of_ble_eq_true rfl) (Nat.le_of_ble_eq_true rfl) ⟨Nat.le_of_ble_eq_true rfl, Nat.le_of_ble_eq_true rfl⟩ d_Touches_narrow_18 ?_
      refine z_topi (fun x4_3 ex4_3 => ?_)
      replace h := h x4_3 ex4_3
      refine z_istore C [(4, .int x4_3), (0, .ref h_to), (1, .int p0), (2, .int p1), (3, .int p2)] d_Touches_narrow_21 rfl rfl ?_
      refine z_aload C d_Touches_narrow_23 1 rfl ?_
      refine z_get C fl_Touches_13 0 rfl rfl d_Touches_narrow_24 ?_
      refine z_iload C d_Touches_narrow_27 2 rfl ?_
      refine z_iald C 2 rfl h.1 d_Touches_narrow_28 ?_
      replace h := h.2
      refine z_iload C d_Touches_narrow_29 4 rfl ?_
      refine z_mmin C cm_Touches_32 (Nat.le_of_ble_eq_true rfl) (Nat.le_of_ble_eq_true rfl) ⟨Nat.le_of_ble_eq_true rfl, Nat.le_of_ble_eq_true rfl⟩ d_Touches_narrow_30 ?_
      refine z_topi (fun x5_4 ex5_4 => ?_)
      replace h := h x5_4 ex5_4
      refine z_istore C [(5, .int x5_4), (4, .int x4_3), (0, .ref h_to), (1, .int p0), (2, .int p1), (3, .int p2)] d_Touches_narrow_33 rfl rfl ?_
      refine z_iload C d_Touches_narrow_35 1 rfl ?_
      refine z_iload C d_Touches_narrow_37 0 rfl ?_
      refine z_icmp_le C d_Touches_narrow_39 (fun c_5 => ?_) (fun c_5 => ?_)
      · replace h := h.1 c_5
        refine z_aload C d_Touches_narrow_44 2 rfl ?_
        refine z_get C fl_Touches_9 0 rfl rfl d_Touches_narrow_45 ?_
        refine z_iload C d_Touches_narrow_48 3 rfl ?_
        refine z_iload C d_Touches_narrow_49 1 rfl ?_
        obtain ⟨g_6, eg_6⟩ : ∃ y : Nat → Int32, y = upd to_low (p0.toNatClampNeg) x4_3 := ⟨_, rfl⟩
        refine z_iast C 1 rfl h.1 [(h_to, .inr (8, [.ref h_to_low, .ref h_to_high, .int to_count])), (h_to_low, cI κ 2 g_6), (h_to_high, cI κ 2 to_high)] (by rw [eg_6]; rfl) d_Touches_narrow_51 ?_
        replace h := h.2 g_6 eg_6
        refine z_aload C d_Touches_narrow_52 2 rfl ?_
        refine z_get C fl_Touches_13 0 rfl rfl d_Touches_narrow_53 ?_
        refine z_iload C d_Touches_narrow_56 3 rfl ?_
        refine z_iload C d_Touches_narrow_57 0 rfl ?_
        obtain ⟨g_7, eg_7⟩ : ∃ y : Nat → Int32, y = upd to_high (p0.toNatClampNeg) x5_4 := ⟨_, rfl⟩
        refine z_iast C 2 rfl h.1 [(h_to, .inr (8, [.ref h_to_low, .ref h_to_high, .int to_count])), (h_to_low, cI κ 2 g_6), (h_to_high, cI κ 2 g_7)] (by rw [eg_7]; rfl) d_Touches_narrow_59 ?_
        replace h := h.2 g_7 eg_7
        refine z_aload C d_Touches_narrow_60 2 rfl ?_
        refine z_dup C d_Touches_narrow_61 rfl ?_
        refine z_get C fl_Touches_16 0 rfl rfl d_Touches_narrow_62 ?_
        refine z_k C d_Touches_narrow_65 ?_
        refine z_iadd C d_Touches_narrow_66 ?_
        refine z_topi (fun f_8 ef_8 => ?_)
        replace h := h f_8 ef_8
        refine z_put C fp_Touches_16 0 rfl rfl rfl rfl [(h_to, .inr (8, [.ref h_to_low, .ref h_to_high, .int f_8])), (h_to_low, cI κ 2 g_6), (h_to_high, cI κ 2 g_7)] rfl d_Touches_narrow_67 ?_
        refine z_k C d_Touches_narrow_70 ?_
        exact ze_zret C (f_8, g_6, g_7) hr hlk (Or.inr rfl) rfl d_Touches_narrow_71 h
      · replace h := h.2 c_5
        refine z_k C d_Touches_narrow_42 ?_
        exact ze_zret C (to_count, to_low, to_high) hr hlk (Or.inl rfl) rfl d_Touches_narrow_43 h
    · replace h := h.2 c_2
      refine z_k C d_Touches_narrow_9 ?_
      exact ze_zret C (to_count, to_low, to_high) hr hlk (Or.inl rfl) rfl d_Touches_narrow_10 h
def wp_Touches_middle (to_low : Nat → Int32) (to_high : Nat → Int32) (p0 : Int32) (post : Int32 → Prop) : Prop :=
  ((p0 < 0 → (post (0 : Int32))) ∧ (¬ p0 < 0 → ((p0 ≤ (1 : Int32) → (vp_in p0 2 ∧ (vp_in p0 2 ∧ (post (((to_low (p0.toNatClampNeg)) + (to_high (p0.toNatClampNeg))) / (2 : Int32)))))) ∧ (¬ p0 ≤ (1 : Int32) → (post (0 : Int32))))))
abbrev rm_Touches_middle : Room := { frames := 0, cells := 0, slots := 0, locals := 0 }
set_option maxHeartbeats 4000000 in
set_option maxRecDepth 100000 in
theorem c_Touches_middle (l : Launch) (D : va_G) (κ : KT) (h_to : Nat) (h_to_low : Nat) (h_to_high : Nat) (to_count : Int32) (to_low : Nat → Int32) (to_high : Nat → Int32) (p0 : Int32) (post : Int32 → Prop) (h : wp_Touches_middle to_low to_high p0 post) : Met l y_Touches_middle (wsG y_Touches_middle b_Touches_middle 2 (some .int)) rm_Touches_middle (PP D κ [.ref h_to, .int p0] [(h_to, .inr (8, [.ref h_to_low, .ref h_to_high, .int to_count])), (h_to_low, cI κ 2 to_low), (h_to_high, cI κ 2 to_high)]) (vp_Si post) 0 0 (fun _ => False) := by
  refine zp_start [(0, .ref h_to), (1, .int p0)] rfl (Nat.le_of_ble_eq_true rfl) rfl ?_
  intro p e s m args below meth c C hr hlk
  unfold wp_Touches_middle at h
  refine z_iload C d_Touches_middle_0 1 rfl ?_
  refine z_if_lt C d_Touches_middle_1 (fun c_1 => ?_) (fun c_1 => ?_)
  · replace h := h.1 c_1
    refine z_k C d_Touches_middle_9 ?_
    refine z_goto C d_Touches_middle_10 ?_
    exact zp_iret C hr hlk d_Touches_middle_28 h
  · replace h := h.2 c_1
    refine z_iload C d_Touches_middle_4 1 rfl ?_
    refine z_k C d_Touches_middle_5 ?_
    refine z_icmp_le C d_Touches_middle_6 (fun c_2 => ?_) (fun c_2 => ?_)
    · replace h := h.1 c_2
      refine z_aload C d_Touches_middle_13 0 rfl ?_
      refine z_get C fl_Touches_9 0 rfl rfl d_Touches_middle_14 ?_
      refine z_iload C d_Touches_middle_17 1 rfl ?_
      refine z_iald C 1 rfl h.1 d_Touches_middle_18 ?_
      replace h := h.2
      refine z_aload C d_Touches_middle_19 0 rfl ?_
      refine z_get C fl_Touches_13 0 rfl rfl d_Touches_middle_20 ?_
      refine z_iload C d_Touches_middle_23 1 rfl ?_
      refine z_iald C 2 rfl h.1 d_Touches_middle_24 ?_
      replace h := h.2
      refine z_iadd C d_Touches_middle_25 ?_
      refine z_k C d_Touches_middle_26 ?_
      refine z_idiv C d_Touches_middle_27 (by decide) ?_
      exact zp_iret C hr hlk d_Touches_middle_28 h
    · replace h := h.2 c_2
      refine z_k C d_Touches_middle_9 ?_
      refine z_goto C d_Touches_middle_10 ?_
      exact zp_iret C hr hlk d_Touches_middle_28 h
def wp_Acts_endsIn (ac_count : Int32) (ac_zonesBehind : Nat → Int32) (p0 : Int32) (post : Int32 → Prop) : Prop :=
  (vp_in ac_count 17 ∧ (((((ac_zonesBehind (ac_count.toNatClampNeg)) >>> (p0 &&& 31)) &&& (1 : Int32)) = 0 → (post (0 : Int32))) ∧ (¬ (((ac_zonesBehind (ac_count.toNatClampNeg)) >>> (p0 &&& 31)) &&& (1 : Int32)) = 0 → (post (1 : Int32)))))
abbrev rm_Acts_endsIn : Room := { frames := 0, cells := 0, slots := 0, locals := 0 }
set_option maxHeartbeats 4000000 in
set_option maxRecDepth 100000 in
theorem c_Acts_endsIn (l : Launch) (D : va_G) (κ : KT) (h_ac : Nat) (h_ac_kinds : Nat) (h_ac_sizes : Nat) (h_ac_zonesBehind : Nat) (ac_count : Int32) (ac_done : Int32) (ac_workLeft : Int32) (ac_waits : Int32) (ac_zonesBehind : Nat → Int32) (p0 : Int32) (post : Int32 → Prop) (h : wp_Acts_endsIn ac_count ac_zonesBehind p0 post) : Met l y_Acts_endsIn (wsG y_Acts_endsIn b_Acts_endsIn 2 (some .boolean)) rm_Acts_endsIn (PP D κ [.ref h_ac, .int p0] [(h_ac, .inr (0, [.ref h_ac_kinds, .ref h_ac_sizes, .ref h_ac_zonesBehind, .int ac_count, .int ac_done, .int ac_workLeft, .int ac_waits])), (h_ac_zonesBehind, cI κ 17 ac_zonesBehind)]) (vp_Si post) 0 0 (fun _ => False) := by
  refine zp_start [(0, .ref h_ac), (1, .int p0)] rfl (Nat.le_of_ble_eq_true rfl) rfl ?_
  intro p e s m args below meth c C hr hlk
  unfold wp_Acts_endsIn at h
  refine z_aload C d_Acts_endsIn_0 0 rfl ?_
  refine z_get C fl_Acts_18 0 rfl rfl d_Acts_endsIn_1 ?_
  refine z_aload C d_Acts_endsIn_4 0 rfl ?_
  refine z_get C fl_Acts_21 0 rfl rfl d_Acts_endsIn_5 ?_
  refine z_iald C 1 rfl h.1 d_Acts_endsIn_8 ?_
  replace h := h.2
  refine z_iload C d_Acts_endsIn_9 1 rfl ?_
  refine z_ishr C d_Acts_endsIn_10 ?_
  refine z_k C d_Acts_endsIn_11 ?_
  refine z_iand C d_Acts_endsIn_12 ?_
  refine z_if_eq C d_Acts_endsIn_13 (fun c_1 => ?_) (fun c_1 => ?_)
  · replace h := h.1 c_1
    refine z_k C d_Acts_endsIn_20 ?_
    exact zp_zret C hr hlk (Or.inl rfl) d_Acts_endsIn_21 h
  · replace h := h.2 c_1
    refine z_k C d_Acts_endsIn_16 ?_
    refine z_goto C d_Acts_endsIn_17 ?_
    exact zp_zret C hr hlk (Or.inr rfl) d_Acts_endsIn_21 h
def wp_Acts_append (ac_count : Int32) (ac_kinds : Nat → Int32) (ac_sizes : Nat → Int32) (ac_zonesBehind : Nat → Int32) (p0 : Int32) (p1 : Int32) (post : Int32 → (Nat → Int32) → (Nat → Int32) → (Nat → Int32) → Prop) : Prop :=
  ((ac_count < (16 : Int32) → (vp_in ac_count 16 ∧ (∀ g_2 : Nat → Int32, g_2 = upd ac_kinds (ac_count.toNatClampNeg) p0 → (vp_in ac_count 16 ∧ (∀ g_3 : Nat → Int32, g_3 = upd ac_sizes (ac_count.toNatClampNeg) p1 → (vp_in ac_count 17 ∧ (∀ x3_4 : Int32, x3_4 = ac_zonesBehind (ac_count.toNatClampNeg) → ((¬ p0 = (1 : Int32) → ((¬ p0 = (2 : Int32) → (∀ f_7 : Int32, f_7 = ac_count + (1 : Int32) → (vp_in f_7 17 ∧ (∀ g_8 : Nat → Int32, g_8 = upd ac_zonesBehind (f_7.toNatClampNeg) x3_4 → (post f_7 g_2 g_3 g_8))))) ∧ (p0 = (2 : Int32) → (∀ x3_9 : Int32, x3_9 = x3_4 &&& (((1 : Int32) <<< (p1 &&& 31)) ^^^ (-1 : Int32)) → (∀ f_10 : Int32, f_10 = ac_count + (1 : Int32) → (vp_in f_10 17 ∧ (∀ g_11 : Nat → Int32, g_11 = upd ac_zonesBehind (f_10.toNatClampNeg) x3_9 → (post f_10 g_2 g_3 g_11)))))))) ∧ (p0 = (1 : Int32) → (∀ x3_12 : Int32, x3_12 = x3_4 ||| ((1 : Int32) <<< (p1 &&& 31)) → ((¬ p0 = (2 : Int32) → (∀ f_14 : Int32, f_14 = ac_count + (1 : Int32) → (vp_in f_14 17 ∧ (∀ g_15 : Nat → Int32, g_15 = upd ac_zonesBehind (f_14.toNatClampNeg) x3_12 → (post f_14 g_2 g_3 g_15))))) ∧ (p0 = (2 : Int32) → (∀ x3_16 : Int32, x3_16 = x3_12 &&& (((1 : Int32) <<< (p1 &&& 31)) ^^^ (-1 : Int32)) → (∀ f_17 : Int32, f_17 = ac_count + (1 : Int32) → (vp_in f_17 17 ∧ (∀ g_18 : Nat → Int32, g_18 = upd ac_zonesBehind (f_17.toNatClampNeg) x3_16 → (post f_17 g_2 g_3 g_18))))))))))))))))) ∧ (¬ ac_count < (16 : Int32) → (post ac_count ac_kinds ac_sizes ac_zonesBehind)))
abbrev rm_Acts_append : Room := { frames := 0, cells := 0, slots := 0, locals := 0 }
set_option maxHeartbeats 4000000 in
set_option maxRecDepth 100000 in
theorem c_Acts_append (l : Launch) (D : va_G) (κ : KT) (h_ac : Nat) (h_ac_kinds : Nat) (h_ac_sizes : Nat) (h_ac_zonesBehind : Nat) (ac_count : Int32) (ac_done : Int32) (ac_workLeft : Int32) (ac_waits : Int32) (ac_kinds : Nat → Int32) (ac_sizes : Nat → Int32) (ac_zonesBehind : Nat → Int32) (p0 : Int32) (p1 : Int32) (sz : Nat) (post : Int32 → (Nat → Int32) → (Nat → Int32) → (Nat → Int32) → Prop) (h : wp_Acts_append ac_count ac_kinds ac_sizes ac_zonesBehind p0 p1 post) : Met l y_Acts_append (wsG y_Acts_append b_Acts_append 4 none) rm_Acts_append (PE D κ [.ref h_ac, .int p0, .int p1] [(h_ac, .inr (0, [.ref h_ac_kinds, .ref h_ac_sizes, .ref h_ac_zonesBehind, .int ac_count, .int ac_done, .int ac_workLeft, .int ac_waits])), (h_ac_kinds, cI κ 16 ac_kinds), (h_ac_sizes, cI κ 16 ac_sizes), (h_ac_zonesBehind, cI κ 17 ac_zonesBehind)] sz) (va_Qv (fun (u : (Int32) × (Nat → Int32) × (Nat → Int32) × (Nat → Int32)) => post u.1 u.2.1 u.2.2.1 u.2.2.2) (QB D [(h_ac, .inr (0, [.ref h_ac_kinds, .ref h_ac_sizes, .ref h_ac_zonesBehind, .int ac_count, .int ac_done, .int ac_workLeft, .int ac_waits])), (h_ac_kinds, cI κ 16 ac_kinds), (h_ac_sizes, cI κ 16 ac_sizes), (h_ac_zonesBehind, cI κ 17 ac_zonesBehind)] sz (fun (u : (Int32) × (Nat → Int32) × (Nat → Int32) × (Nat → Int32)) => [(h_ac, .inr (0, [.ref h_ac_kinds, .ref h_ac_sizes, .ref h_ac_zonesBehind, .int u.1, .int ac_done, .int ac_workLeft, .int ac_waits])), (h_ac_kinds, cI κ 16 u.2.1), (h_ac_sizes, cI κ 16 u.2.2.1), (h_ac_zonesBehind, cI κ 17 u.2.2.2)])) (va_A [(h_ac, .inr (0, [.ref h_ac_kinds, .ref h_ac_sizes, .ref h_ac_zonesBehind, .int ac_count, .int ac_done, .int ac_workLeft, .int ac_waits])), (h_ac_kinds, cI κ 16 ac_kinds), (h_ac_sizes, cI κ 16 ac_sizes), (h_ac_zonesBehind, cI κ 17 ac_zonesBehind)] sz)) 0 0 (va_A [(h_ac, .inr (0, [.ref h_ac_kinds, .ref h_ac_sizes, .ref h_ac_zonesBehind, .int ac_count, .int ac_done, .int ac_workLeft, .int ac_waits])), (h_ac_kinds, cI κ 16 ac_kinds), (h_ac_sizes, cI κ 16 ac_sizes), (h_ac_zonesBehind, cI κ 17 ac_zonesBehind)] sz) := by
  refine ze_start [(0, .ref h_ac), (1, .int p0), (2, .int p1)] rfl (Nat.le_of_ble_eq_true rfl) rfl ?_
  intro p e s m args below meth c C hr hlk hnm hsz
  subst hsz
  unfold wp_Acts_append at h
  refine z_aload C d_Acts_append_0 0 rfl ?_
  refine z_get C fl_Acts_21 0 rfl rfl d_Acts_append_1 ?_
  refine z_k C d_Acts_append_4 ?_
  refine z_icmp_lt C d_Acts_append_6 (fun c_1 => ?_) (fun c_1 => ?_)
  · replace h := h.1 c_1
    refine z_aload C d_Acts_append_10 0 rfl ?_
    refine z_get C fl_Acts_9 0 rfl rfl d_Acts_append_11 ?_
    refine z_aload C d_Acts_append_14 0 rfl ?_
    refine z_get C fl_Acts_21 0 rfl rfl d_Acts_append_15 ?_
    refine z_iload C d_Acts_append_18 1 rfl ?_
    obtain ⟨g_2, eg_2⟩ : ∃ y : Nat → Int32, y = upd ac_kinds (ac_count.toNatClampNeg) p0 := ⟨_, rfl⟩
    refine z_iast C 1 rfl h.1 [(h_ac, .inr (0, [.ref h_ac_kinds, .ref h_ac_sizes, .ref h_ac_zonesBehind, .int ac_count, .int ac_done, .int ac_workLeft, .int ac_waits])), (h_ac_kinds, cI κ 16 g_2), (h_ac_sizes, cI κ 16 ac_sizes), (h_ac_zonesBehind, cI κ 17 ac_zonesBehind)] (by rw [eg_2]; rfl) d_Acts_append_19 ?_
    replace h := h.2 g_2 eg_2
    refine z_aload C d_Acts_append_20 0 rfl ?_
    refine z_get C fl_Acts_15 0 rfl rfl d_Acts_append_21 ?_
    refine z_aload C d_Acts_append_24 0 rfl ?_
    refine z_get C fl_Acts_21 0 rfl rfl d_Acts_append_25 ?_
    refine z_iload C d_Acts_append_28 2 rfl ?_
    obtain ⟨g_3, eg_3⟩ : ∃ y : Nat → Int32, y = upd ac_sizes (ac_count.toNatClampNeg) p1 := ⟨_, rfl⟩
    refine z_iast C 2 rfl h.1 [(h_ac, .inr (0, [.ref h_ac_kinds, .ref h_ac_sizes, .ref h_ac_zonesBehind, .int ac_count, .int ac_done, .int ac_workLeft, .int ac_waits])), (h_ac_kinds, cI κ 16 g_2), (h_ac_sizes, cI κ 16 g_3), (h_ac_zonesBehind, cI κ 17 ac_zonesBehind)] (by rw [eg_3]; rfl) d_Acts_append_29 ?_
    replace h := h.2 g_3 eg_3
    refine z_aload C d_Acts_append_30 0 rfl ?_
    refine z_get C fl_Acts_18 0 rfl rfl d_Acts_append_31 ?_
    refine z_aload C d_Acts_append_34 0 rfl ?_
    refine z_get C fl_Acts_21 0 rfl rfl d_Acts_append_35 ?_
    refine z_iald C 3 rfl h.1 d_Acts_append_38 ?_
    replace h := h.2
    refine z_topi (fun x3_4 ex3_4 => ?_)
    replace h := h x3_4 ex3_4
    refine z_istore C [(3, .int x3_4), (0, .ref h_ac), (1, .int p0), (2, .int p1)] d_Acts_append_39 rfl rfl ?_
    refine z_iload C d_Acts_append_40 2 rfl ?_
    refine z_k C d_Acts_append_41 ?_
    refine z_icmp_ne C d_Acts_append_42 (fun c_5 => ?_) (fun c_5 => ?_)
    · replace h := h.1 c_5
      refine z_iload C d_Acts_append_51 2 rfl ?_
      refine z_k C d_Acts_append_52 ?_
      refine z_icmp_ne C d_Acts_append_53 (fun c_6 => ?_) (fun c_6 => ?_)
      · replace h := h.1 c_6
        refine z_aload C d_Acts_append_64 1 rfl ?_
        refine z_dup C d_Acts_append_65 rfl ?_
        refine z_get C fl_Acts_21 0 rfl rfl d_Acts_append_66 ?_
        refine z_k C d_Acts_append_69 ?_
        refine z_iadd C d_Acts_append_70 ?_
        refine z_topi (fun f_7 ef_7 => ?_)
        replace h := h f_7 ef_7
        refine z_put C fp_Acts_21 0 rfl rfl rfl rfl [(h_ac, .inr (0, [.ref h_ac_kinds, .ref h_ac_sizes, .ref h_ac_zonesBehind, .int f_7, .int ac_done, .int ac_workLeft, .int ac_waits])), (h_ac_kinds, cI κ 16 g_2), (h_ac_sizes, cI κ 16 g_3), (h_ac_zonesBehind, cI κ 17 ac_zonesBehind)] rfl d_Acts_append_71 ?_
        refine z_aload C d_Acts_append_74 1 rfl ?_
        refine z_get C fl_Acts_18 0 rfl rfl d_Acts_append_75 ?_
        refine z_aload C d_Acts_append_78 1 rfl ?_
        refine z_get C fl_Acts_21 0 rfl rfl d_Acts_append_79 ?_
        refine z_iload C d_Acts_append_82 0 rfl ?_
        obtain ⟨g_8, eg_8⟩ : ∃ y : Nat → Int32, y = upd ac_zonesBehind (f_7.toNatClampNeg) x3_4 := ⟨_, rfl⟩
        refine z_iast C 3 rfl h.1 [(h_ac, .inr (0, [.ref h_ac_kinds, .ref h_ac_sizes, .ref h_ac_zonesBehind, .int f_7, .int ac_done, .int ac_workLeft, .int ac_waits])), (h_ac_kinds, cI κ 16 g_2), (h_ac_sizes, cI κ 16 g_3), (h_ac_zonesBehind, cI κ 17 g_8)] (by rw [eg_8]; rfl) d_Acts_append_83 ?_
        replace h := h.2 g_8 eg_8
        exact ze_vret C (f_7, g_2, g_3, g_8) hr hlk rfl d_Acts_append_84 h
      · replace h := h.2 c_6
        refine z_iload C d_Acts_append_56 0 rfl ?_
        refine z_k C d_Acts_append_57 ?_
        refine z_iload C d_Acts_append_58 3 rfl ?_
        refine z_ishl C d_Acts_append_59 ?_
        refine z_k C d_Acts_append_60 ?_
        refine z_ixor C d_Acts_append_61 ?_
        refine z_iand C d_Acts_append_62 ?_
        refine z_topi (fun x3_9 ex3_9 => ?_)
        replace h := h x3_9 ex3_9
        refine z_istore C [(3, .int x3_9), (0, .ref h_ac), (1, .int p0), (2, .int p1)] d_Acts_append_63 rfl rfl ?_
        refine z_aload C d_Acts_append_64 1 rfl ?_
        refine z_dup C d_Acts_append_65 rfl ?_
        refine z_get C fl_Acts_21 0 rfl rfl d_Acts_append_66 ?_
        refine z_k C d_Acts_append_69 ?_
        refine z_iadd C d_Acts_append_70 ?_
        refine z_topi (fun f_10 ef_10 => ?_)
        replace h := h f_10 ef_10
        refine z_put C fp_Acts_21 0 rfl rfl rfl rfl [(h_ac, .inr (0, [.ref h_ac_kinds, .ref h_ac_sizes, .ref h_ac_zonesBehind, .int f_10, .int ac_done, .int ac_workLeft, .int ac_waits])), (h_ac_kinds, cI κ 16 g_2), (h_ac_sizes, cI κ 16 g_3), (h_ac_zonesBehind, cI κ 17 ac_zonesBehind)] rfl d_Acts_append_71 ?_
        refine z_aload C d_Acts_append_74 1 rfl ?_
        refine z_get C fl_Acts_18 0 rfl rfl d_Acts_append_75 ?_
        refine z_aload C d_Acts_append_78 1 rfl ?_
        refine z_get C fl_Acts_21 0 rfl rfl d_Acts_append_79 ?_
        refine z_iload C d_Acts_append_82 0 rfl ?_
        obtain ⟨g_11, eg_11⟩ : ∃ y : Nat → Int32, y = upd ac_zonesBehind (f_10.toNatClampNeg) x3_9 := ⟨_, rfl⟩
        refine z_iast C 3 rfl h.1 [(h_ac, .inr (0, [.ref h_ac_kinds, .ref h_ac_sizes, .ref h_ac_zonesBehind, .int f_10, .int ac_done, .int ac_workLeft, .int ac_waits])), (h_ac_kinds, cI κ 16 g_2), (h_ac_sizes, cI κ 16 g_3), (h_ac_zonesBehind, cI κ 17 g_11)] (by rw [eg_11]; rfl) d_Acts_append_83 ?_
        replace h := h.2 g_11 eg_11
        exact ze_vret C (f_10, g_2, g_3, g_11) hr hlk rfl d_Acts_append_84 h
    · replace h := h.2 c_5
      refine z_iload C d_Acts_append_45 0 rfl ?_
      refine z_k C d_Acts_append_46 ?_
      refine z_iload C d_Acts_append_47 3 rfl ?_
      refine z_ishl C d_Acts_append_48 ?_
      refine z_ior C d_Acts_append_49 ?_
      refine z_topi (fun x3_12 ex3_12 => ?_)
      replace h := h x3_12 ex3_12
      refine z_istore C [(3, .int x3_12), (0, .ref h_ac), (1, .int p0), (2, .int p1)] d_Acts_append_50 rfl rfl ?_
      refine z_iload C d_Acts_append_51 2 rfl ?_
      refine z_k C d_Acts_append_52 ?_
      refine z_icmp_ne C d_Acts_append_53 (fun c_13 => ?_) (fun c_13 => ?_)
      · replace h := h.1 c_13
        refine z_aload C d_Acts_append_64 1 rfl ?_
        refine z_dup C d_Acts_append_65 rfl ?_
        refine z_get C fl_Acts_21 0 rfl rfl d_Acts_append_66 ?_
        refine z_k C d_Acts_append_69 ?_
        refine z_iadd C d_Acts_append_70 ?_
        refine z_topi (fun f_14 ef_14 => ?_)
        replace h := h f_14 ef_14
        refine z_put C fp_Acts_21 0 rfl rfl rfl rfl [(h_ac, .inr (0, [.ref h_ac_kinds, .ref h_ac_sizes, .ref h_ac_zonesBehind, .int f_14, .int ac_done, .int ac_workLeft, .int ac_waits])), (h_ac_kinds, cI κ 16 g_2), (h_ac_sizes, cI κ 16 g_3), (h_ac_zonesBehind, cI κ 17 ac_zonesBehind)] rfl d_Acts_append_71 ?_
        refine z_aload C d_Acts_append_74 1 rfl ?_
        refine z_get C fl_Acts_18 0 rfl rfl d_Acts_append_75 ?_
        refine z_aload C d_Acts_append_78 1 rfl ?_
        refine z_get C fl_Acts_21 0 rfl rfl d_Acts_append_79 ?_
        refine z_iload C d_Acts_append_82 0 rfl ?_
        obtain ⟨g_15, eg_15⟩ : ∃ y : Nat → Int32, y = upd ac_zonesBehind (f_14.toNatClampNeg) x3_12 := ⟨_, rfl⟩
        refine z_iast C 3 rfl h.1 [(h_ac, .inr (0, [.ref h_ac_kinds, .ref h_ac_sizes, .ref h_ac_zonesBehind, .int f_14, .int ac_done, .int ac_workLeft, .int ac_waits])), (h_ac_kinds, cI κ 16 g_2), (h_ac_sizes, cI κ 16 g_3), (h_ac_zonesBehind, cI κ 17 g_15)] (by rw [eg_15]; rfl) d_Acts_append_83 ?_
        replace h := h.2 g_15 eg_15
        exact ze_vret C (f_14, g_2, g_3, g_15) hr hlk rfl d_Acts_append_84 h
      · replace h := h.2 c_13
        refine z_iload C d_Acts_append_56 0 rfl ?_
        refine z_k C d_Acts_append_57 ?_
        refine z_iload C d_Acts_append_58 3 rfl ?_
        refine z_ishl C d_Acts_append_59 ?_
        refine z_k C d_Acts_append_60 ?_
        refine z_ixor C d_Acts_append_61 ?_
        refine z_iand C d_Acts_append_62 ?_
        refine z_topi (fun x3_16 ex3_16 => ?_)
        replace h := h x3_16 ex3_16
        refine z_istore C [(3, .int x3_16), (0, .ref h_ac), (1, .int p0), (2, .int p1)] d_Acts_append_63 rfl rfl ?_
        refine z_aload C d_Acts_append_64 1 rfl ?_
        refine z_dup C d_Acts_append_65 rfl ?_
        refine z_get C fl_Acts_21 0 rfl rfl d_Acts_append_66 ?_
        refine z_k C d_Acts_append_69 ?_
        refine z_iadd C d_Acts_append_70 ?_
        refine z_topi (fun f_17 ef_17 => ?_)
        replace h := h f_17 ef_17
        refine z_put C fp_Acts_21 0 rfl rfl rfl rfl [(h_ac, .inr (0, [.ref h_ac_kinds, .ref h_ac_sizes, .ref h_ac_zonesBehind, .int f_17, .int ac_done, .int ac_workLeft, .int ac_waits])), (h_ac_kinds, cI κ 16 g_2), (h_ac_sizes, cI κ 16 g_3), (h_ac_zonesBehind, cI κ 17 ac_zonesBehind)] rfl d_Acts_append_71 ?_
        refine z_aload C d_Acts_append_74 1 rfl ?_
        refine z_get C fl_Acts_18 0 rfl rfl d_Acts_append_75 ?_
        refine z_aload C d_Acts_append_78 1 rfl ?_
        refine z_get C fl_Acts_21 0 rfl rfl d_Acts_append_79 ?_
        refine z_iload C d_Acts_append_82 0 rfl ?_
        obtain ⟨g_18, eg_18⟩ : ∃ y : Nat → Int32, y = upd ac_zonesBehind (f_17.toNatClampNeg) x3_16 := ⟨_, rfl⟩
        refine z_iast C 3 rfl h.1 [(h_ac, .inr (0, [.ref h_ac_kinds, .ref h_ac_sizes, .ref h_ac_zonesBehind, .int f_17, .int ac_done, .int ac_workLeft, .int ac_waits])), (h_ac_kinds, cI κ 16 g_2), (h_ac_sizes, cI κ 16 g_3), (h_ac_zonesBehind, cI κ 17 g_18)] (by rw [eg_18]; rfl) d_Acts_append_83 ?_
        replace h := h.2 g_18 eg_18
        exact ze_vret C (f_17, g_2, g_3, g_18) hr hlk rfl d_Acts_append_84 h
  · replace h := h.2 c_1
    exact ze_vret C (ac_count, ac_kinds, ac_sizes, ac_zonesBehind) hr hlk rfl d_Acts_append_9 h
def wp_Acts_goes (ac_count : Int32) (ac_kinds : Nat → Int32) (ac_sizes : Nat → Int32) (p0 : Int32) (p1 : Int32) (post : Int32 → Prop) : Prop :=
  ((p0 < 0 → (post (0 : Int32))) ∧ (¬ p0 < 0 → ((p0 < ac_count → (vp_in p0 16 ∧ ((¬ (ac_kinds (p0.toNatClampNeg)) = (1 : Int32) → (post (1 : Int32))) ∧ ((ac_kinds (p0.toNatClampNeg)) = (1 : Int32) → (vp_in p0 16 ∧ ((¬ ((p1 >>> ((ac_sizes (p0.toNatClampNeg)) &&& 31)) &&& (1 : Int32)) = 0 → (post (0 : Int32))) ∧ (((p1 >>> ((ac_sizes (p0.toNatClampNeg)) &&& 31)) &&& (1 : Int32)) = 0 → (post (1 : Int32))))))))) ∧ (¬ p0 < ac_count → (post (0 : Int32))))))
abbrev rm_Acts_goes : Room := { frames := 0, cells := 0, slots := 0, locals := 0 }
set_option maxHeartbeats 4000000 in
set_option maxRecDepth 100000 in
theorem c_Acts_goes (l : Launch) (D : va_G) (κ : KT) (h_ac : Nat) (h_ac_kinds : Nat) (h_ac_sizes : Nat) (h_ac_zonesBehind : Nat) (ac_count : Int32) (ac_done : Int32) (ac_workLeft : Int32) (ac_waits : Int32) (ac_kinds : Nat → Int32) (ac_sizes : Nat → Int32) (p0 : Int32) (p1 : Int32) (post : Int32 → Prop) (h : wp_Acts_goes ac_count ac_kinds ac_sizes p0 p1 post) : Met l y_Acts_goes (wsG y_Acts_goes b_Acts_goes 3 (some .boolean)) rm_Acts_goes (PP D κ [.ref h_ac, .int p0, .int p1] [(h_ac, .inr (0, [.ref h_ac_kinds, .ref h_ac_sizes, .ref h_ac_zonesBehind, .int ac_count, .int ac_done, .int ac_workLeft, .int ac_waits])), (h_ac_kinds, cI κ 16 ac_kinds), (h_ac_sizes, cI κ 16 ac_sizes)]) (vp_Si post) 0 0 (fun _ => False) := by
  refine zp_start [(0, .ref h_ac), (1, .int p0), (2, .int p1)] rfl (Nat.le_of_ble_eq_true rfl) rfl ?_
  intro p e s m args below meth c C hr hlk
  unfold wp_Acts_goes at h
  refine z_iload C d_Acts_goes_0 1 rfl ?_
  refine z_if_lt C d_Acts_goes_1 (fun c_1 => ?_) (fun c_1 => ?_)
  · replace h := h.1 c_1
    refine z_k C d_Acts_goes_12 ?_
    exact zp_zret C hr hlk (Or.inl rfl) d_Acts_goes_13 h
  · replace h := h.2 c_1
    refine z_iload C d_Acts_goes_4 1 rfl ?_
    refine z_aload C d_Acts_goes_5 0 rfl ?_
    refine z_get C fl_Acts_21 0 rfl rfl d_Acts_goes_6 ?_
    refine z_icmp_lt C d_Acts_goes_9 (fun c_2 => ?_) (fun c_2 => ?_)
    · replace h := h.1 c_2
      refine z_aload C d_Acts_goes_14 0 rfl ?_
      refine z_get C fl_Acts_9 0 rfl rfl d_Acts_goes_15 ?_
      refine z_iload C d_Acts_goes_18 1 rfl ?_
      refine z_iald C 1 rfl h.1 d_Acts_goes_19 ?_
      replace h := h.2
      refine z_k C d_Acts_goes_20 ?_
      refine z_icmp_ne C d_Acts_goes_21 (fun c_3 => ?_) (fun c_3 => ?_)
      · replace h := h.1 c_3
        refine z_k C d_Acts_goes_37 ?_
        refine z_goto C d_Acts_goes_38 ?_
        exact zp_zret C hr hlk (Or.inr rfl) d_Acts_goes_42 h
      · replace h := h.2 c_3
        refine z_iload C d_Acts_goes_24 2 rfl ?_
        refine z_aload C d_Acts_goes_25 0 rfl ?_
        refine z_get C fl_Acts_15 0 rfl rfl d_Acts_goes_26 ?_
        refine z_iload C d_Acts_goes_29 1 rfl ?_
        refine z_iald C 2 rfl h.1 d_Acts_goes_30 ?_
        replace h := h.2
        refine z_ishr C d_Acts_goes_31 ?_
        refine z_k C d_Acts_goes_32 ?_
        refine z_iand C d_Acts_goes_33 ?_
        refine z_if_ne C d_Acts_goes_34 (fun c_4 => ?_) (fun c_4 => ?_)
        · replace h := h.1 c_4
          refine z_k C d_Acts_goes_41 ?_
          exact zp_zret C hr hlk (Or.inl rfl) d_Acts_goes_42 h
        · replace h := h.2 c_4
          refine z_k C d_Acts_goes_37 ?_
          refine z_goto C d_Acts_goes_38 ?_
          exact zp_zret C hr hlk (Or.inr rfl) d_Acts_goes_42 h
    · replace h := h.2 c_2
      refine z_k C d_Acts_goes_12 ?_
      exact zp_zret C hr hlk (Or.inl rfl) d_Acts_goes_13 h
def wp_Acts_begin  (post : Int32 → Int32 → Int32 → Prop) : Prop :=
  (post (0 : Int32) (0 : Int32) (0 : Int32))
abbrev rm_Acts_begin : Room := { frames := 0, cells := 0, slots := 0, locals := 0 }
set_option maxHeartbeats 4000000 in
set_option maxRecDepth 100000 in
theorem c_Acts_begin (l : Launch) (D : va_G) (κ : KT) (h_ac : Nat) (h_ac_kinds : Nat) (h_ac_sizes : Nat) (h_ac_zonesBehind : Nat) (ac_count : Int32) (ac_done : Int32) (ac_workLeft : Int32) (ac_waits : Int32) (sz : Nat) (post : Int32 → Int32 → Int32 → Prop) (h : wp_Acts_begin  post) : Met l y_Acts_begin (wsG y_Acts_begin b_Acts_begin 1 none) rm_Acts_begin (PE D κ [.ref h_ac] [(h_ac, .inr (0, [.ref h_ac_kinds, .ref h_ac_sizes, .ref h_ac_zonesBehind, .int ac_count, .int ac_done, .int ac_workLeft, .int ac_waits]))] sz) (va_Qv (fun (u : (Int32) × (Int32) × (Int32)) => post u.1 u.2.1 u.2.2) (QB D [(h_ac, .inr (0, [.ref h_ac_kinds, .ref h_ac_sizes, .ref h_ac_zonesBehind, .int ac_count, .int ac_done, .int ac_workLeft, .int ac_waits]))] sz (fun (u : (Int32) × (Int32) × (Int32)) => [(h_ac, .inr (0, [.ref h_ac_kinds, .ref h_ac_sizes, .ref h_ac_zonesBehind, .int ac_count, .int u.1, .int u.2.1, .int u.2.2]))])) (va_A [(h_ac, .inr (0, [.ref h_ac_kinds, .ref h_ac_sizes, .ref h_ac_zonesBehind, .int ac_count, .int ac_done, .int ac_workLeft, .int ac_waits]))] sz)) 0 0 (va_A [(h_ac, .inr (0, [.ref h_ac_kinds, .ref h_ac_sizes, .ref h_ac_zonesBehind, .int ac_count, .int ac_done, .int ac_workLeft, .int ac_waits]))] sz) := by
  refine ze_start [(0, .ref h_ac)] rfl (Nat.le_of_ble_eq_true rfl) rfl ?_
  intro p e s m args below meth c C hr hlk hnm hsz
  subst hsz
  unfold wp_Acts_begin at h
  refine z_aload C d_Acts_begin_0 0 rfl ?_
  refine z_k C d_Acts_begin_1 ?_
  refine z_put C fp_Acts_25 0 rfl rfl rfl rfl [(h_ac, .inr (0, [.ref h_ac_kinds, .ref h_ac_sizes, .ref h_ac_zonesBehind, .int ac_count, .int (0 : Int32), .int ac_workLeft, .int ac_waits]))] rfl d_Acts_begin_2 ?_
  refine z_aload C d_Acts_begin_5 0 rfl ?_
  refine z_k C d_Acts_begin_6 ?_
  refine z_put C fp_Acts_28 0 rfl rfl rfl rfl [(h_ac, .inr (0, [.ref h_ac_kinds, .ref h_ac_sizes, .ref h_ac_zonesBehind, .int ac_count, .int (0 : Int32), .int (0 : Int32), .int ac_waits]))] rfl d_Acts_begin_7 ?_
  refine z_aload C d_Acts_begin_10 0 rfl ?_
  refine z_k C d_Acts_begin_11 ?_
  refine z_put C fp_Acts_31 0 rfl rfl rfl rfl [(h_ac, .inr (0, [.ref h_ac_kinds, .ref h_ac_sizes, .ref h_ac_zonesBehind, .int ac_count, .int (0 : Int32), .int (0 : Int32), .int (0 : Int32)]))] rfl d_Acts_begin_12 ?_
  exact ze_vret C ((0 : Int32), (0 : Int32), (0 : Int32)) hr hlk rfl d_Acts_begin_15 h
def wp_Acts_isThrough (ac_count : Int32) (ac_done : Int32) (ac_workLeft : Int32) (post : Int32 → Prop) : Prop :=
  ((ac_done < ac_count → (post (0 : Int32))) ∧ (¬ ac_done < ac_count → ((¬ ac_workLeft = 0 → (post (0 : Int32))) ∧ (ac_workLeft = 0 → (post (1 : Int32))))))
abbrev rm_Acts_isThrough : Room := { frames := 0, cells := 0, slots := 0, locals := 0 }
set_option maxHeartbeats 4000000 in
set_option maxRecDepth 100000 in
theorem c_Acts_isThrough (l : Launch) (D : va_G) (κ : KT) (h_ac : Nat) (h_ac_kinds : Nat) (h_ac_sizes : Nat) (h_ac_zonesBehind : Nat) (ac_count : Int32) (ac_done : Int32) (ac_workLeft : Int32) (ac_waits : Int32) (post : Int32 → Prop) (h : wp_Acts_isThrough ac_count ac_done ac_workLeft post) : Met l y_Acts_isThrough (wsG y_Acts_isThrough b_Acts_isThrough 1 (some .boolean)) rm_Acts_isThrough (PP D κ [.ref h_ac] [(h_ac, .inr (0, [.ref h_ac_kinds, .ref h_ac_sizes, .ref h_ac_zonesBehind, .int ac_count, .int ac_done, .int ac_workLeft, .int ac_waits]))]) (vp_Si post) 0 0 (fun _ => False) := by
  refine zp_start [(0, .ref h_ac)] rfl (Nat.le_of_ble_eq_true rfl) rfl ?_
  intro p e s m args below meth c C hr hlk
  unfold wp_Acts_isThrough at h
  refine z_aload C d_Acts_isThrough_0 0 rfl ?_
  refine z_get C fl_Acts_25 0 rfl rfl d_Acts_isThrough_1 ?_
  refine z_aload C d_Acts_isThrough_4 0 rfl ?_
  refine z_get C fl_Acts_21 0 rfl rfl d_Acts_isThrough_5 ?_
  refine z_icmp_lt C d_Acts_isThrough_8 (fun c_1 => ?_) (fun c_1 => ?_)
  · replace h := h.1 c_1
    refine z_k C d_Acts_isThrough_22 ?_
    exact zp_zret C hr hlk (Or.inl rfl) d_Acts_isThrough_23 h
  · replace h := h.2 c_1
    refine z_aload C d_Acts_isThrough_11 0 rfl ?_
    refine z_get C fl_Acts_28 0 rfl rfl d_Acts_isThrough_12 ?_
    refine z_if_ne C d_Acts_isThrough_15 (fun c_2 => ?_) (fun c_2 => ?_)
    · replace h := h.1 c_2
      refine z_k C d_Acts_isThrough_22 ?_
      exact zp_zret C hr hlk (Or.inl rfl) d_Acts_isThrough_23 h
    · replace h := h.2 c_2
      refine z_k C d_Acts_isThrough_18 ?_
      refine z_goto C d_Acts_isThrough_19 ?_
      exact zp_zret C hr hlk (Or.inr rfl) d_Acts_isThrough_23 h
def wp_Acts_zonesNow (ac_done : Int32) (ac_zonesBehind : Nat → Int32) (post : Int32 → Prop) : Prop :=
  (vp_in ac_done 17 ∧ (post (ac_zonesBehind (ac_done.toNatClampNeg))))
abbrev rm_Acts_zonesNow : Room := { frames := 0, cells := 0, slots := 0, locals := 0 }
set_option maxHeartbeats 4000000 in
set_option maxRecDepth 100000 in
theorem c_Acts_zonesNow (l : Launch) (D : va_G) (κ : KT) (h_ac : Nat) (h_ac_kinds : Nat) (h_ac_sizes : Nat) (h_ac_zonesBehind : Nat) (ac_count : Int32) (ac_done : Int32) (ac_workLeft : Int32) (ac_waits : Int32) (ac_zonesBehind : Nat → Int32) (post : Int32 → Prop) (h : wp_Acts_zonesNow ac_done ac_zonesBehind post) : Met l y_Acts_zonesNow (wsG y_Acts_zonesNow b_Acts_zonesNow 1 (some .int)) rm_Acts_zonesNow (PP D κ [.ref h_ac] [(h_ac, .inr (0, [.ref h_ac_kinds, .ref h_ac_sizes, .ref h_ac_zonesBehind, .int ac_count, .int ac_done, .int ac_workLeft, .int ac_waits])), (h_ac_zonesBehind, cI κ 17 ac_zonesBehind)]) (vp_Si post) 0 0 (fun _ => False) := by
  refine zp_start [(0, .ref h_ac)] rfl (Nat.le_of_ble_eq_true rfl) rfl ?_
  intro p e s m args below meth c C hr hlk
  unfold wp_Acts_zonesNow at h
  refine z_aload C d_Acts_zonesNow_0 0 rfl ?_
  refine z_get C fl_Acts_18 0 rfl rfl d_Acts_zonesNow_1 ?_
  refine z_aload C d_Acts_zonesNow_4 0 rfl ?_
  refine z_get C fl_Acts_25 0 rfl rfl d_Acts_zonesNow_5 ?_
  refine z_iald C 1 rfl h.1 d_Acts_zonesNow_8 ?_
  replace h := h.2
  exact zp_iret C hr hlk d_Acts_zonesNow_9 h
def wp_Acts_tick_j144_7 (ac_waits : Int32) (post : Int32 → Int32 → Int32 → Int32 → Prop) (ac_done_3 : Int32) (ac_workLeft_4 : Int32) (w_5 : Int32) : Prop :=
  ((w_5 = 0 → ((w_5 = 0 ∨ w_5 = 1) ∧ (post w_5 ac_done_3 ac_workLeft_4 ac_waits))) ∧ (¬ w_5 = 0 → (∀ f_7 : Int32, f_7 = ac_waits + (1 : Int32) → ((w_5 = 0 ∨ w_5 = 1) ∧ (post w_5 ac_done_3 ac_workLeft_4 f_7)))))
def wp_Acts_tick_j120_9 (ac_count : Int32) (ac_done : Int32) (ac_waits : Int32) (post : Int32 → Int32 → Int32 → Int32 → Prop) (ac_done_3 : Int32) (ac_workLeft_4 : Int32) : Prop :=
  ((¬ ac_done_3 = ac_done → (wp_Acts_tick_j144_7 ac_waits post ac_done_3 ac_workLeft_4 (0 : Int32))) ∧ (ac_done_3 = ac_done → ((ac_count ≤ ac_done_3 → (wp_Acts_tick_j144_7 ac_waits post ac_done_3 ac_workLeft_4 (0 : Int32))) ∧ (¬ ac_count ≤ ac_done_3 → (wp_Acts_tick_j144_7 ac_waits post ac_done_3 ac_workLeft_4 (1 : Int32))))))
def wp_Acts_tick_j72_13 (ac_count : Int32) (ac_done : Int32) (ac_workLeft : Int32) (ac_waits : Int32) (ac_kinds : Nat → Int32) (ac_sizes : Nat → Int32) (post : Int32 → Int32 → Int32 → Int32 → Prop) (ac_done_2 : Int32)  : Prop :=
  ((ac_count ≤ ac_done_2 → (wp_Acts_tick_j120_9 ac_count ac_done ac_waits post ac_done_2 ac_workLeft)) ∧ (¬ ac_count ≤ ac_done_2 → (vp_in ac_done_2 16 ∧ ((¬ (ac_kinds (ac_done_2.toNatClampNeg)) = 0 → (wp_Acts_tick_j120_9 ac_count ac_done ac_waits post ac_done_2 ac_workLeft)) ∧ ((ac_kinds (ac_done_2.toNatClampNeg)) = 0 → (vp_in ac_done_2 16 ∧ (∀ f_12 : Int32, f_12 = (ac_sizes (ac_done_2.toNatClampNeg)) - (1 : Int32) → (∀ f_13 : Int32, f_13 = ac_done_2 + (1 : Int32) → (wp_Acts_tick_j120_9 ac_count ac_done ac_waits post f_13 f_12)))))))))
def wpB_Acts_tick_24 (ac_count : Int32) (ac_done : Int32) (ac_workLeft : Int32) (ac_waits : Int32) (ac_kinds : Nat → Int32) (ac_sizes : Nat → Int32) (p0 : Int32) (post : Int32 → Int32 → Int32 → Int32 → Prop) (ih_24 : Int32 → Prop) (ac_done_2 : Int32) : Prop :=
  ((ac_count ≤ ac_done_2 → (wp_Acts_tick_j72_13 ac_count ac_done ac_workLeft ac_waits ac_kinds ac_sizes post ac_done_2)) ∧ (¬ ac_count ≤ ac_done_2 → (vp_in ac_done_2 16 ∧ (((ac_kinds (ac_done_2.toNatClampNeg)) = 0 → (wp_Acts_tick_j72_13 ac_count ac_done ac_workLeft ac_waits ac_kinds ac_sizes post ac_done_2)) ∧ (¬ (ac_kinds (ac_done_2.toNatClampNeg)) = 0 → (wp_Acts_goes ac_count ac_kinds ac_sizes ac_done_2 p0 (fun r_16 => ((r_16 = 0 → (wp_Acts_tick_j72_13 ac_count ac_done ac_workLeft ac_waits ac_kinds ac_sizes post ac_done_2)) ∧ (¬ r_16 = 0 → (∀ f_18 : Int32, f_18 = ac_done_2 + (1 : Int32) → (ih_24 f_18)))))))))))
noncomputable def wpL_Acts_tick_24 (ac_count : Int32) (ac_done : Int32) (ac_workLeft : Int32) (ac_waits : Int32) (ac_kinds : Nat → Int32) (ac_sizes : Nat → Int32) (p0 : Int32) (post : Int32 → Int32 → Int32 → Int32 → Prop) : Nat → Int32 → Prop := fun n => @Nat.rec (fun _ => Int32 → Prop) (fun _ => False) (fun _ ih_24 => wpB_Acts_tick_24 ac_count ac_done ac_workLeft ac_waits ac_kinds ac_sizes p0 post ih_24) n
def wp_Acts_tick (ac_count : Int32) (ac_done : Int32) (ac_workLeft : Int32) (ac_waits : Int32) (ac_kinds : Nat → Int32) (ac_sizes : Nat → Int32) (p0 : Int32) (post : Int32 → Int32 → Int32 → Int32 → Prop) : Prop :=
  ((ac_workLeft ≤ 0 → (∃ n : Nat, wpL_Acts_tick_24 ac_count ac_done ac_workLeft ac_waits ac_kinds ac_sizes p0 post n ac_done)) ∧ (¬ ac_workLeft ≤ 0 → (∀ f_19 : Int32, f_19 = ac_workLeft - (1 : Int32) → (post (0 : Int32) ac_done f_19 ac_waits))))
abbrev rm_Acts_tick : Room := { frames := 1, cells := 0, slots := 0, locals := 22 }
set_option maxHeartbeats 4000000 in
set_option maxRecDepth 100000 in
theorem c_Acts_tick (l : Launch) (D : va_G) (κ : KT) (h_ac : Nat) (h_ac_kinds : Nat) (h_ac_sizes : Nat) (h_ac_zonesBehind : Nat) (ac_count : Int32) (ac_done : Int32) (ac_workLeft : Int32) (ac_waits : Int32) (ac_kinds : Nat → Int32) (ac_sizes : Nat → Int32) (p0 : Int32) (sz : Nat) (post : Int32 → Int32 → Int32 → Int32 → Prop) (h : wp_Acts_tick ac_count ac_done ac_workLeft ac_waits ac_kinds ac_sizes p0 post) : Met l y_Acts_tick (wsG y_Acts_tick b_Acts_tick 4 (some .boolean)) rm_Acts_tick (PE D κ [.ref h_ac, .int p0] [(h_ac, .inr (0, [.ref h_ac_kinds, .ref h_ac_sizes, .ref h_ac_zonesBehind, .int ac_count, .int ac_done, .int ac_workLeft, .int ac_waits])), (h_ac_kinds, cI κ 16 ac_kinds), (h_ac_sizes, cI κ 16 ac_sizes)] sz) (va_Qi (fun (r : Int32) (u : (Int32) × (Int32) × (Int32)) => post r u.1 u.2.1 u.2.2) (QB D [(h_ac, .inr (0, [.ref h_ac_kinds, .ref h_ac_sizes, .ref h_ac_zonesBehind, .int ac_count, .int ac_done, .int ac_workLeft, .int ac_waits])), (h_ac_kinds, cI κ 16 ac_kinds), (h_ac_sizes, cI κ 16 ac_sizes)] sz (fun (u : (Int32) × (Int32) × (Int32)) => [(h_ac, .inr (0, [.ref h_ac_kinds, .ref h_ac_sizes, .ref h_ac_zonesBehind, .int ac_count, .int u.1, .int u.2.1, .int u.2.2])), (h_ac_kinds, cI κ 16 ac_kinds), (h_ac_sizes, cI κ 16 ac_sizes)])) (va_A [(h_ac, .inr (0, [.ref h_ac_kinds, .ref h_ac_sizes, .ref h_ac_zonesBehind, .int ac_count, .int ac_done, .int ac_workLeft, .int ac_waits])), (h_ac_kinds, cI κ 16 ac_kinds), (h_ac_sizes, cI κ 16 ac_sizes)] sz)) 0 0 (va_A [(h_ac, .inr (0, [.ref h_ac_kinds, .ref h_ac_sizes, .ref h_ac_zonesBehind, .int ac_count, .int ac_done, .int ac_workLeft, .int ac_waits])), (h_ac_kinds, cI κ 16 ac_kinds), (h_ac_sizes, cI κ 16 ac_sizes)] sz) := by
  refine ze_start [(0, .ref h_ac), (1, .int p0)] rfl (Nat.le_of_ble_eq_true rfl) rfl ?_
  intro p e s m args below meth c C hr hlk hnm hsz
  subst hsz
  unfold wp_Acts_tick at h
  refine z_aload C d_Acts_tick_0 0 rfl ?_
  refine z_get C fl_Acts_28 0 rfl rfl d_Acts_tick_1 ?_
  refine z_if_le C d_Acts_tick_4 (fun c_1 => ?_) (fun c_1 => ?_)
  · replace h := h.1 c_1
    refine z_aload C d_Acts_tick_19 0 rfl ?_
    refine z_get C fl_Acts_25 0 rfl rfl d_Acts_tick_20 ?_
    refine z_istore C [(2, .int ac_done), (0, .ref h_ac), (1, .int p0)] d_Acts_tick_23 rfl rfl ?_
    obtain ⟨n_24, h⟩ := h
    have LP_24 : ∀ (n : Nat) (ac_done_2 : Int32), wpL_Acts_tick_24 ac_count ac_done ac_workLeft ac_waits ac_kinds ac_sizes p0 post n ac_done_2 → Zw p l e rm_Acts_tick s m args below meth c 0 0 (MQ below (va_Qi (fun (r : Int32) (u : (Int32) × (Int32) × (Int32)) => post r u.1 u.2.1 u.2.2) (QB D [(h_ac, .inr (0, [.ref h_ac_kinds, .ref h_ac_sizes, .ref h_ac_zonesBehind, .int ac_count, .int ac_done, .int ac_workLeft, .int ac_waits])), (h_ac_kinds, cI κ 16 ac_kinds), (h_ac_sizes, cI κ 16 ac_sizes)] s.heap.size (fun (u : (Int32) × (Int32) × (Int32)) => [(h_ac, .inr (0, [.ref h_ac_kinds, .ref h_ac_sizes, .ref h_ac_zonesBehind, .int ac_count, .int u.1, .int u.2.1, .int u.2.2])), (h_ac_kinds, cI κ 16 ac_kinds), (h_ac_sizes, cI κ 16 ac_sizes)])) (va_A [(h_ac, .inr (0, [.ref h_ac_kinds, .ref h_ac_sizes, .ref h_ac_zonesBehind, .int ac_count, .int ac_done, .int ac_workLeft, .int ac_waits])), (h_ac_kinds, cI κ 16 ac_kinds), (h_ac_sizes, cI κ 16 ac_sizes)] s.heap.size)) args s 0 0 (va_A [(h_ac, .inr (0, [.ref h_ac_kinds, .ref h_ac_sizes, .ref h_ac_zonesBehind, .int ac_count, .int ac_done, .int ac_workLeft, .int ac_waits])), (h_ac_kinds, cI κ 16 ac_kinds), (h_ac_sizes, cI κ 16 ac_sizes)] s.heap.size)) D 4 (some (va_A [(h_ac, .inr (0, [.ref h_ac_kinds, .ref h_ac_sizes, .ref h_ac_zonesBehind, .int ac_count, .int ac_done, .int ac_workLeft, .int ac_waits])), (h_ac_kinds, cI κ 16 ac_kinds), (h_ac_sizes, cI κ 16 ac_sizes)] s.heap.size)) [(h_ac, .inr (0, [.ref h_ac_kinds, .ref h_ac_sizes, .ref h_ac_zonesBehind, .int ac_count, .int ac_done_2, .int ac_workLeft, .int ac_waits])), (h_ac_kinds, cI κ 16 ac_kinds), (h_ac_sizes, cI κ 16 ac_sizes)] [(0, .ref h_ac), (1, .int p0), (2, .int ac_done)] 24 [] := by
      intro n
      induction n with
      | zero => intro ac_done_2 h; exact False.elim h
      | succ nn_24 IH_24 =>
        intro ac_done_2 h
        have h : wpB_Acts_tick_24 ac_count ac_done ac_workLeft ac_waits ac_kinds ac_sizes p0 post (wpL_Acts_tick_24 ac_count ac_done ac_workLeft ac_waits ac_kinds ac_sizes p0 post nn_24) ac_done_2 := h
        unfold wpB_Acts_tick_24 at h
        refine z_aload C d_Acts_tick_24 0 rfl ?_
        refine z_get C fl_Acts_25 0 rfl rfl d_Acts_tick_25 ?_
        refine z_aload C d_Acts_tick_28 0 rfl ?_
        refine z_get C fl_Acts_21 0 rfl rfl d_Acts_tick_29 ?_
        have J_72 : wp_Acts_tick_j72_13 ac_count ac_done ac_workLeft ac_waits ac_kinds ac_sizes post ac_done_2 → Zw p l e rm_Acts_tick s m args below meth c 0 0 (MQ below (va_Qi (fun (r : Int32) (u : (Int32) × (Int32) × (Int32)) => post r u.1 u.2.1 u.2.2) (QB D [(h_ac, .inr (0, [.ref h_ac_kinds, .ref h_ac_sizes, .ref h_ac_zonesBehind, .int ac_count, .int ac_done, .int ac_workLeft, .int ac_waits])), (h_ac_kinds, cI κ 16 ac_kinds), (h_ac_sizes, cI κ 16 ac_sizes)] s.heap.size (fun (u : (Int32) × (Int32) × (Int32)) => [(h_ac, .inr (0, [.ref h_ac_kinds, .ref h_ac_sizes, .ref h_ac_zonesBehind, .int ac_count, .int u.1, .int u.2.1, .int u.2.2])), (h_ac_kinds, cI κ 16 ac_kinds), (h_ac_sizes, cI κ 16 ac_sizes)])) (va_A [(h_ac, .inr (0, [.ref h_ac_kinds, .ref h_ac_sizes, .ref h_ac_zonesBehind, .int ac_count, .int ac_done, .int ac_workLeft, .int ac_waits])), (h_ac_kinds, cI κ 16 ac_kinds), (h_ac_sizes, cI κ 16 ac_sizes)] s.heap.size)) args s 0 0 (va_A [(h_ac, .inr (0, [.ref h_ac_kinds, .ref h_ac_sizes, .ref h_ac_zonesBehind, .int ac_count, .int ac_done, .int ac_workLeft, .int ac_waits])), (h_ac_kinds, cI κ 16 ac_kinds), (h_ac_sizes, cI κ 16 ac_sizes)] s.heap.size)) D 4 (some (va_A [(h_ac, .inr (0, [.ref h_ac_kinds, .ref h_ac_sizes, .ref h_ac_zonesBehind, .int ac_count, .int ac_done, .int ac_workLeft, .int ac_waits])), (h_ac_kinds, cI κ 16 ac_kinds), (h_ac_sizes, cI κ 16 ac_sizes)] s.heap.size)) [(h_ac, .inr (0, [.ref h_ac_kinds, .ref h_ac_sizes, .ref h_ac_zonesBehind, .int ac_count, .int ac_done_2, .int ac_workLeft, .int ac_waits])), (h_ac_kinds, cI κ 16 ac_kinds), (h_ac_sizes, cI κ 16 ac_sizes)] [(0, .ref h_ac), (2, .int ac_done)] 72 [] := by
          intro  h
          unfold wp_Acts_tick_j72_13 at h
          refine z_aload C d_Acts_tick_72 0 rfl ?_
          refine z_get C fl_Acts_25 0 rfl rfl d_Acts_tick_73 ?_
          refine z_aload C d_Acts_tick_76 0 rfl ?_
          refine z_get C fl_Acts_21 0 rfl rfl d_Acts_tick_77 ?_
          have J_120 : ∀ (ac_done_3 : Int32) (ac_workLeft_4 : Int32), wp_Acts_tick_j120_9 ac_count ac_done ac_waits post ac_done_3 ac_workLeft_4 → Zw p l e rm_Acts_tick s m args below meth c 0 0 (MQ below (va_Qi (fun (r : Int32) (u : (Int32) × (Int32) × (Int32)) => post r u.1 u.2.1 u.2.2) (QB D [(h_ac, .inr (0, [.ref h_ac_kinds, .ref h_ac_sizes, .ref h_ac_zonesBehind, .int ac_count, .int ac_done, .int ac_workLeft, .int ac_waits])), (h_ac_kinds, cI κ 16 ac_kinds), (h_ac_sizes, cI κ 16 ac_sizes)] s.heap.size (fun (u : (Int32) × (Int32) × (Int32)) => [(h_ac, .inr (0, [.ref h_ac_kinds, .ref h_ac_sizes, .ref h_ac_zonesBehind, .int ac_count, .int u.1, .int u.2.1, .int u.2.2])), (h_ac_kinds, cI κ 16 ac_kinds), (h_ac_sizes, cI κ 16 ac_sizes)])) (va_A [(h_ac, .inr (0, [.ref h_ac_kinds, .ref h_ac_sizes, .ref h_ac_zonesBehind, .int ac_count, .int ac_done, .int ac_workLeft, .int ac_waits])), (h_ac_kinds, cI κ 16 ac_kinds), (h_ac_sizes, cI κ 16 ac_sizes)] s.heap.size)) args s 0 0 (va_A [(h_ac, .inr (0, [.ref h_ac_kinds, .ref h_ac_sizes, .ref h_ac_zonesBehind, .int ac_count, .int ac_done, .int ac_workLeft, .int ac_waits])), (h_ac_kinds, cI κ 16 ac_kinds), (h_ac_sizes, cI κ 16 ac_sizes)] s.heap.size)) D 4 (some (va_A [(h_ac, .inr (0, [.ref h_ac_kinds, .ref h_ac_sizes, .ref h_ac_zonesBehind, .int ac_count, .int ac_done, .int ac_workLeft, .int ac_waits])), (h_ac_kinds, cI κ 16 ac_kinds), (h_ac_sizes, cI κ 16 ac_sizes)] s.heap.size)) [(h_ac, .inr (0, [.ref h_ac_kinds, .ref h_ac_sizes, .ref h_ac_zonesBehind, .int ac_count, .int ac_done_3, .int ac_workLeft_4, .int ac_waits])), (h_ac_kinds, cI κ 16 ac_kinds), (h_ac_sizes, cI κ 16 ac_sizes)] [(0, .ref h_ac), (2, .int ac_done)] 120 [] := by
            intro ac_done_3 ac_workLeft_4 h
            unfold wp_Acts_tick_j120_9 at h
            refine z_aload C d_Acts_tick_120 0 rfl ?_
            refine z_get C fl_Acts_25 0 rfl rfl d_Acts_tick_121 ?_
            refine z_iload C d_Acts_tick_124 1 rfl ?_
            have J_144 : ∀ (w_5 : Int32), wp_Acts_tick_j144_7 ac_waits post ac_done_3 ac_workLeft_4 w_5 → Zw p l e rm_Acts_tick s m args below meth c 0 0 (MQ below (va_Qi (fun (r : Int32) (u : (Int32) × (Int32) × (Int32)) => post r u.1 u.2.1 u.2.2) (QB D [(h_ac, .inr (0, [.ref h_ac_kinds, .ref h_ac_sizes, .ref h_ac_zonesBehind, .int ac_count, .int ac_done, .int ac_workLeft, .int ac_waits])), (h_ac_kinds, cI κ 16 ac_kinds), (h_ac_sizes, cI κ 16 ac_sizes)] s.heap.size (fun (u : (Int32) × (Int32) × (Int32)) => [(h_ac, .inr (0, [.ref h_ac_kinds, .ref h_ac_sizes, .ref h_ac_zonesBehind, .int ac_count, .int u.1, .int u.2.1, .int u.2.2])), (h_ac_kinds, cI κ 16 ac_kinds), (h_ac_sizes, cI κ 16 ac_sizes)])) (va_A [(h_ac, .inr (0, [.ref h_ac_kinds, .ref h_ac_sizes, .ref h_ac_zonesBehind, .int ac_count, .int ac_done, .int ac_workLeft, .int ac_waits])), (h_ac_kinds, cI κ 16 ac_kinds), (h_ac_sizes, cI κ 16 ac_sizes)] s.heap.size)) args s 0 0 (va_A [(h_ac, .inr (0, [.ref h_ac_kinds, .ref h_ac_sizes, .ref h_ac_zonesBehind, .int ac_count, .int ac_done, .int ac_workLeft, .int ac_waits])), (h_ac_kinds, cI κ 16 ac_kinds), (h_ac_sizes, cI κ 16 ac_sizes)] s.heap.size)) D 4 (some (va_A [(h_ac, .inr (0, [.ref h_ac_kinds, .ref h_ac_sizes, .ref h_ac_zonesBehind, .int ac_count, .int ac_done, .int ac_workLeft, .int ac_waits])), (h_ac_kinds, cI κ 16 ac_kinds), (h_ac_sizes, cI κ 16 ac_sizes)] s.heap.size)) [(h_ac, .inr (0, [.ref h_ac_kinds, .ref h_ac_sizes, .ref h_ac_zonesBehind, .int ac_count, .int ac_done_3, .int ac_workLeft_4, .int ac_waits])), (h_ac_kinds, cI κ 16 ac_kinds), (h_ac_sizes, cI κ 16 ac_sizes)] [(0, .ref h_ac)] 144 [.int w_5] := by
              intro w_5 h
              unfold wp_Acts_tick_j144_7 at h
              refine z_istore C [(3, .int w_5), (0, .ref h_ac)] d_Acts_tick_144 rfl rfl ?_
              refine z_iload C d_Acts_tick_145 0 rfl ?_
              refine z_if_eq C d_Acts_tick_146 (fun c_6 => ?_) (fun c_6 => ?_)
              · replace h := h.1 c_6
                refine z_iload C d_Acts_tick_159 0 rfl ?_
                exact ze_zret C (ac_done_3, ac_workLeft_4, ac_waits) hr hlk h.1 rfl d_Acts_tick_160 h.2
              · replace h := h.2 c_6
                refine z_aload C d_Acts_tick_149 1 rfl ?_
                refine z_dup C d_Acts_tick_150 rfl ?_
                refine z_get C fl_Acts_31 0 rfl rfl d_Acts_tick_151 ?_
                refine z_k C d_Acts_tick_154 ?_
                refine z_iadd C d_Acts_tick_155 ?_
                refine z_topi (fun f_7 ef_7 => ?_)
                replace h := h f_7 ef_7
                refine z_put C fp_Acts_31 0 rfl rfl rfl rfl [(h_ac, .inr (0, [.ref h_ac_kinds, .ref h_ac_sizes, .ref h_ac_zonesBehind, .int ac_count, .int ac_done_3, .int ac_workLeft_4, .int f_7])), (h_ac_kinds, cI κ 16 ac_kinds), (h_ac_sizes, cI κ 16 ac_sizes)] rfl d_Acts_tick_156 ?_
                refine z_iload C d_Acts_tick_159 0 rfl ?_
                exact ze_zret C (ac_done_3, ac_workLeft_4, f_7) hr hlk h.1 rfl d_Acts_tick_160 h.2
            refine z_icmp_ne C d_Acts_tick_125 (fun c_8 => ?_) (fun c_8 => ?_)
            · replace h := h.1 c_8
              refine z_k C d_Acts_tick_143 ?_
              refine z_sub [0] [(0, .ref h_ac)] rfl ?_
              exact J_144 (0 : Int32) h
            · replace h := h.2 c_8
              refine z_aload C d_Acts_tick_128 0 rfl ?_
              refine z_get C fl_Acts_25 0 rfl rfl d_Acts_tick_129 ?_
              refine z_aload C d_Acts_tick_132 0 rfl ?_
              refine z_get C fl_Acts_21 0 rfl rfl d_Acts_tick_133 ?_
              refine z_icmp_ge C d_Acts_tick_136 (fun c_9 => ?_) (fun c_9 => ?_)
              · replace h := h.1 c_9
                refine z_k C d_Acts_tick_143 ?_
                refine z_sub [0] [(0, .ref h_ac)] rfl ?_
                exact J_144 (0 : Int32) h
              · replace h := h.2 c_9
                refine z_k C d_Acts_tick_139 ?_
                refine z_goto C d_Acts_tick_140 ?_
                refine z_sub [0] [(0, .ref h_ac)] rfl ?_
                exact J_144 (1 : Int32) h
          refine z_icmp_ge C d_Acts_tick_80 (fun c_10 => ?_) (fun c_10 => ?_)
          · replace h := h.1 c_10
            refine z_sub [0, 1] [(0, .ref h_ac), (2, .int ac_done)] rfl ?_
            exact J_120 ac_done_2 ac_workLeft h
          · replace h := h.2 c_10
            refine z_aload C d_Acts_tick_83 0 rfl ?_
            refine z_get C fl_Acts_9 0 rfl rfl d_Acts_tick_84 ?_
            refine z_aload C d_Acts_tick_87 0 rfl ?_
            refine z_get C fl_Acts_25 0 rfl rfl d_Acts_tick_88 ?_
            refine z_iald C 1 rfl h.1 d_Acts_tick_91 ?_
            replace h := h.2
            refine z_if_ne C d_Acts_tick_92 (fun c_11 => ?_) (fun c_11 => ?_)
            · replace h := h.1 c_11
              refine z_sub [0, 1] [(0, .ref h_ac), (2, .int ac_done)] rfl ?_
              exact J_120 ac_done_2 ac_workLeft h
            · replace h := h.2 c_11
              refine z_aload C d_Acts_tick_95 0 rfl ?_
              refine z_aload C d_Acts_tick_96 0 rfl ?_
              refine z_get C fl_Acts_15 0 rfl rfl d_Acts_tick_97 ?_
              refine z_aload C d_Acts_tick_100 0 rfl ?_
              refine z_get C fl_Acts_25 0 rfl rfl d_Acts_tick_101 ?_
              refine z_iald C 2 rfl h.1 d_Acts_tick_104 ?_
              replace h := h.2
              refine z_k C d_Acts_tick_105 ?_
              refine z_isub C d_Acts_tick_106 ?_
              refine z_topi (fun f_12 ef_12 => ?_)
              replace h := h f_12 ef_12
              refine z_put C fp_Acts_28 0 rfl rfl rfl rfl [(h_ac, .inr (0, [.ref h_ac_kinds, .ref h_ac_sizes, .ref h_ac_zonesBehind, .int ac_count, .int ac_done_2, .int f_12, .int ac_waits])), (h_ac_kinds, cI κ 16 ac_kinds), (h_ac_sizes, cI κ 16 ac_sizes)] rfl d_Acts_tick_107 ?_
              refine z_aload C d_Acts_tick_110 0 rfl ?_
              refine z_dup C d_Acts_tick_111 rfl ?_
              refine z_get C fl_Acts_25 0 rfl rfl d_Acts_tick_112 ?_
              refine z_k C d_Acts_tick_115 ?_
              refine z_iadd C d_Acts_tick_116 ?_
              refine z_topi (fun f_13 ef_13 => ?_)
              replace h := h f_13 ef_13
              refine z_put C fp_Acts_25 0 rfl rfl rfl rfl [(h_ac, .inr (0, [.ref h_ac_kinds, .ref h_ac_sizes, .ref h_ac_zonesBehind, .int ac_count, .int f_13, .int f_12, .int ac_waits])), (h_ac_kinds, cI κ 16 ac_kinds), (h_ac_sizes, cI κ 16 ac_sizes)] rfl d_Acts_tick_117 ?_
              refine z_sub [0, 1] [(0, .ref h_ac), (2, .int ac_done)] rfl ?_
              exact J_120 f_13 f_12 h
        refine z_icmp_ge C d_Acts_tick_32 (fun c_14 => ?_) (fun c_14 => ?_)
        · replace h := h.1 c_14
          refine z_sub [0, 2] [(0, .ref h_ac), (2, .int ac_done)] rfl ?_
          exact J_72  h
        · replace h := h.2 c_14
          refine z_aload C d_Acts_tick_35 0 rfl ?_
          refine z_get C fl_Acts_9 0 rfl rfl d_Acts_tick_36 ?_
          refine z_aload C d_Acts_tick_39 0 rfl ?_
          refine z_get C fl_Acts_25 0 rfl rfl d_Acts_tick_40 ?_
          refine z_iald C 1 rfl h.1 d_Acts_tick_43 ?_
          replace h := h.2
          refine z_if_eq C d_Acts_tick_44 (fun c_15 => ?_) (fun c_15 => ?_)
          · replace h := h.1 c_15
            refine z_sub [0, 2] [(0, .ref h_ac), (2, .int ac_done)] rfl ?_
            exact J_72  h
          · replace h := h.2 c_15
            refine z_aload C d_Acts_tick_47 0 rfl ?_
            refine z_aload C d_Acts_tick_48 0 rfl ?_
            refine z_get C fl_Acts_25 0 rfl rfl d_Acts_tick_49 ?_
            refine z_iload C d_Acts_tick_52 1 rfl ?_
            refine z_vpi C (rest := []) (c_Acts_goes l D κ h_ac h_ac_kinds h_ac_sizes h_ac_zonesBehind ac_count ac_done_2 ac_workLeft ac_waits ac_kinds ac_sizes ac_done_2 p0 _ h) cv_Acts_34 ⟨rfl, rfl⟩ ⟨⟨Nat.le_of_ble_eq_true rfl, Nat.le_of_ble_eq_true rfl⟩, Nat.le_of_ble_eq_true rfl, Nat.le_of_ble_eq_true rfl⟩ 0 rfl [0, 1, 2] rfl rfl rfl (Nat.le_of_ble_eq_true rfl) d_Acts_tick_53 (fun r_16 h => ?_)
            refine z_if_eq C d_Acts_tick_56 (fun c_17 => ?_) (fun c_17 => ?_)
            · replace h := h.1 c_17
              refine z_sub [0, 2] [(0, .ref h_ac), (2, .int ac_done)] rfl ?_
              exact J_72  h
            · replace h := h.2 c_17
              refine z_aload C d_Acts_tick_59 0 rfl ?_
              refine z_dup C d_Acts_tick_60 rfl ?_
              refine z_get C fl_Acts_25 0 rfl rfl d_Acts_tick_61 ?_
              refine z_k C d_Acts_tick_64 ?_
              refine z_iadd C d_Acts_tick_65 ?_
              refine z_topi (fun f_18 ef_18 => ?_)
              replace h := h f_18 ef_18
              refine z_put C fp_Acts_25 0 rfl rfl rfl rfl [(h_ac, .inr (0, [.ref h_ac_kinds, .ref h_ac_sizes, .ref h_ac_zonesBehind, .int ac_count, .int f_18, .int ac_workLeft, .int ac_waits])), (h_ac_kinds, cI κ 16 ac_kinds), (h_ac_sizes, cI κ 16 ac_sizes)] rfl d_Acts_tick_66 ?_
              refine z_goto C d_Acts_tick_69 ?_
              refine z_sub [0, 1, 2] [(0, .ref h_ac), (1, .int p0), (2, .int ac_done)] rfl ?_
              exact IH_24 f_18 h
    refine z_sub [1, 2, 0] [(0, .ref h_ac), (1, .int p0), (2, .int ac_done)] rfl ?_
    exact LP_24 n_24 ac_done h
  · replace h := h.2 c_1
    refine z_aload C d_Acts_tick_7 0 rfl ?_
    refine z_dup C d_Acts_tick_8 rfl ?_
    refine z_get C fl_Acts_28 0 rfl rfl d_Acts_tick_9 ?_
    refine z_k C d_Acts_tick_12 ?_
    refine z_isub C d_Acts_tick_13 ?_
    refine z_topi (fun f_19 ef_19 => ?_)
    replace h := h f_19 ef_19
    refine z_put C fp_Acts_28 0 rfl rfl rfl rfl [(h_ac, .inr (0, [.ref h_ac_kinds, .ref h_ac_sizes, .ref h_ac_zonesBehind, .int ac_count, .int ac_done, .int f_19, .int ac_waits])), (h_ac_kinds, cI κ 16 ac_kinds), (h_ac_sizes, cI κ 16 ac_sizes)] rfl d_Acts_tick_14 ?_
    refine z_k C d_Acts_tick_17 ?_
    exact ze_zret C (ac_done, f_19, ac_waits) hr hlk (Or.inl rfl) rfl d_Acts_tick_18 h
def wp_Crew_note (cr_latest : Nat → Int32) (a1_done : Int32) (a1_waits : Int32) (a2_done : Int32) (a2_waits : Int32) (p0 : Int32) (post : Int32 → (Nat → Int32) → Prop) : Prop :=
  (∀ g_1 : Nat → Int32, g_1 = upd cr_latest ((0 : Int32).toNatClampNeg) p0 → (∀ g_2 : Nat → Int32, g_2 = upd g_1 ((1 : Int32).toNatClampNeg) a1_done → (∀ g_3 : Nat → Int32, g_3 = upd g_2 ((2 : Int32).toNatClampNeg) a2_done → (∀ g_4 : Nat → Int32, g_4 = upd g_3 ((3 : Int32).toNatClampNeg) a1_waits → (∀ g_5 : Nat → Int32, g_5 = upd g_4 ((4 : Int32).toNatClampNeg) a2_waits → (post (1 : Int32) g_5))))))
abbrev rm_Crew_note : Room := { frames := 0, cells := 0, slots := 0, locals := 0 }
set_option maxHeartbeats 4000000 in
set_option maxRecDepth 100000 in
theorem c_Crew_note (l : Launch) (D : va_G) (κ : KT) (h_cr : Nat) (h_a1 : Nat) (h_a2 : Nat) (h_cr_reached : Nat) (h_cr_latest : Nat) (h_a1_kinds : Nat) (h_a1_sizes : Nat) (h_a1_zonesBehind : Nat) (h_a2_kinds : Nat) (h_a2_sizes : Nat) (h_a2_zonesBehind : Nat) (cr_hasRun : Int32) (cr_latest : Nat → Int32) (a1_count : Int32) (a1_done : Int32) (a1_workLeft : Int32) (a1_waits : Int32) (a2_count : Int32) (a2_done : Int32) (a2_workLeft : Int32) (a2_waits : Int32) (p0 : Int32) (sz : Nat) (post : Int32 → (Nat → Int32) → Prop) (h : wp_Crew_note cr_latest a1_done a1_waits a2_done a2_waits p0 post) : Met l y_Crew_note (wsG y_Crew_note b_Crew_note 2 none) rm_Crew_note (PE D κ [.ref h_cr, .int p0] [(h_cr, .inr (2, [.ref h_a1, .ref h_a2, .ref h_cr_reached, .ref h_cr_latest, .int cr_hasRun])), (h_cr_latest, cI κ 5 cr_latest), (h_a1, .inr (0, [.ref h_a1_kinds, .ref h_a1_sizes, .ref h_a1_zonesBehind, .int a1_count, .int a1_done, .int a1_workLeft, .int a1_waits])), (h_a2, .inr (0, [.ref h_a2_kinds, .ref h_a2_sizes, .ref h_a2_zonesBehind, .int a2_count, .int a2_done, .int a2_workLeft, .int a2_waits]))] sz) (va_Qv (fun (u : (Int32) × (Nat → Int32)) => post u.1 u.2) (QB D [(h_cr, .inr (2, [.ref h_a1, .ref h_a2, .ref h_cr_reached, .ref h_cr_latest, .int cr_hasRun])), (h_cr_latest, cI κ 5 cr_latest), (h_a1, .inr (0, [.ref h_a1_kinds, .ref h_a1_sizes, .ref h_a1_zonesBehind, .int a1_count, .int a1_done, .int a1_workLeft, .int a1_waits])), (h_a2, .inr (0, [.ref h_a2_kinds, .ref h_a2_sizes, .ref h_a2_zonesBehind, .int a2_count, .int a2_done, .int a2_workLeft, .int a2_waits]))] sz (fun (u : (Int32) × (Nat → Int32)) => [(h_cr, .inr (2, [.ref h_a1, .ref h_a2, .ref h_cr_reached, .ref h_cr_latest, .int u.1])), (h_cr_latest, cI κ 5 u.2), (h_a1, .inr (0, [.ref h_a1_kinds, .ref h_a1_sizes, .ref h_a1_zonesBehind, .int a1_count, .int a1_done, .int a1_workLeft, .int a1_waits])), (h_a2, .inr (0, [.ref h_a2_kinds, .ref h_a2_sizes, .ref h_a2_zonesBehind, .int a2_count, .int a2_done, .int a2_workLeft, .int a2_waits]))])) (va_A [(h_cr, .inr (2, [.ref h_a1, .ref h_a2, .ref h_cr_reached, .ref h_cr_latest, .int cr_hasRun])), (h_cr_latest, cI κ 5 cr_latest), (h_a1, .inr (0, [.ref h_a1_kinds, .ref h_a1_sizes, .ref h_a1_zonesBehind, .int a1_count, .int a1_done, .int a1_workLeft, .int a1_waits])), (h_a2, .inr (0, [.ref h_a2_kinds, .ref h_a2_sizes, .ref h_a2_zonesBehind, .int a2_count, .int a2_done, .int a2_workLeft, .int a2_waits]))] sz)) 0 0 (va_A [(h_cr, .inr (2, [.ref h_a1, .ref h_a2, .ref h_cr_reached, .ref h_cr_latest, .int cr_hasRun])), (h_cr_latest, cI κ 5 cr_latest), (h_a1, .inr (0, [.ref h_a1_kinds, .ref h_a1_sizes, .ref h_a1_zonesBehind, .int a1_count, .int a1_done, .int a1_workLeft, .int a1_waits])), (h_a2, .inr (0, [.ref h_a2_kinds, .ref h_a2_sizes, .ref h_a2_zonesBehind, .int a2_count, .int a2_done, .int a2_workLeft, .int a2_waits]))] sz) := by
  refine ze_start [(0, .ref h_cr), (1, .int p0)] rfl (Nat.le_of_ble_eq_true rfl) rfl ?_
  intro p e s m args below meth c C hr hlk hnm hsz
  subst hsz
  unfold wp_Crew_note at h
  refine z_aload C d_Crew_note_0 0 rfl ?_
  refine z_k C d_Crew_note_1 ?_
  refine z_put C fp_Crew_48 0 rfl rfl rfl rfl [(h_cr, .inr (2, [.ref h_a1, .ref h_a2, .ref h_cr_reached, .ref h_cr_latest, .int (1 : Int32)])), (h_cr_latest, cI κ 5 cr_latest), (h_a1, .inr (0, [.ref h_a1_kinds, .ref h_a1_sizes, .ref h_a1_zonesBehind, .int a1_count, .int a1_done, .int a1_workLeft, .int a1_waits])), (h_a2, .inr (0, [.ref h_a2_kinds, .ref h_a2_sizes, .ref h_a2_zonesBehind, .int a2_count, .int a2_done, .int a2_workLeft, .int a2_waits]))] rfl d_Crew_note_2 ?_
  refine z_aload C d_Crew_note_5 0 rfl ?_
  refine z_get C fl_Crew_25 0 rfl rfl d_Crew_note_6 ?_
  refine z_k C d_Crew_note_9 ?_
  refine z_iload C d_Crew_note_10 1 rfl ?_
  obtain ⟨g_1, eg_1⟩ : ∃ y : Nat → Int32, y = upd cr_latest ((0 : Int32).toNatClampNeg) p0 := ⟨_, rfl⟩
  refine z_iast C 1 rfl (by unfold vp_in; decide) [(h_cr, .inr (2, [.ref h_a1, .ref h_a2, .ref h_cr_reached, .ref h_cr_latest, .int (1 : Int32)])), (h_cr_latest, cI κ 5 g_1), (h_a1, .inr (0, [.ref h_a1_kinds, .ref h_a1_sizes, .ref h_a1_zonesBehind, .int a1_count, .int a1_done, .int a1_workLeft, .int a1_waits])), (h_a2, .inr (0, [.ref h_a2_kinds, .ref h_a2_sizes, .ref h_a2_zonesBehind, .int a2_count, .int a2_done, .int a2_workLeft, .int a2_waits]))] (by rw [eg_1]; rfl) d_Crew_note_11 ?_
  replace h := h g_1 eg_1
  refine z_aload C d_Crew_note_12 0 rfl ?_
  refine z_get C fl_Crew_25 0 rfl rfl d_Crew_note_13 ?_
  refine z_k C d_Crew_note_16 ?_
  refine z_aload C d_Crew_note_17 0 rfl ?_
  refine z_get C fl_Crew_12 0 rfl rfl d_Crew_note_18 ?_
  refine z_get C fl_Crew_52 2 rfl rfl d_Crew_note_21 ?_
  obtain ⟨g_2, eg_2⟩ : ∃ y : Nat → Int32, y = upd g_1 ((1 : Int32).toNatClampNeg) a1_done := ⟨_, rfl⟩
  refine z_iast C 1 rfl (by unfold vp_in; decide) [(h_cr, .inr (2, [.ref h_a1, .ref h_a2, .ref h_cr_reached, .ref h_cr_latest, .int (1 : Int32)])), (h_cr_latest, cI κ 5 g_2), (h_a1, .inr (0, [.ref h_a1_kinds, .ref h_a1_sizes, .ref h_a1_zonesBehind, .int a1_count, .int a1_done, .int a1_workLeft, .int a1_waits])), (h_a2, .inr (0, [.ref h_a2_kinds, .ref h_a2_sizes, .ref h_a2_zonesBehind, .int a2_count, .int a2_done, .int a2_workLeft, .int a2_waits]))] (by rw [eg_2]; rfl) d_Crew_note_24 ?_
  replace h := h g_2 eg_2
  refine z_aload C d_Crew_note_25 0 rfl ?_
  refine z_get C fl_Crew_25 0 rfl rfl d_Crew_note_26 ?_
  refine z_k C d_Crew_note_29 ?_
  refine z_aload C d_Crew_note_30 0 rfl ?_
  refine z_get C fl_Crew_18 0 rfl rfl d_Crew_note_31 ?_
  refine z_get C fl_Crew_52 3 rfl rfl d_Crew_note_34 ?_
  obtain ⟨g_3, eg_3⟩ : ∃ y : Nat → Int32, y = upd g_2 ((2 : Int32).toNatClampNeg) a2_done := ⟨_, rfl⟩
  refine z_iast C 1 rfl (by unfold vp_in; decide) [(h_cr, .inr (2, [.ref h_a1, .ref h_a2, .ref h_cr_reached, .ref h_cr_latest, .int (1 : Int32)])), (h_cr_latest, cI κ 5 g_3), (h_a1, .inr (0, [.ref h_a1_kinds, .ref h_a1_sizes, .ref h_a1_zonesBehind, .int a1_count, .int a1_done, .int a1_workLeft, .int a1_waits])), (h_a2, .inr (0, [.ref h_a2_kinds, .ref h_a2_sizes, .ref h_a2_zonesBehind, .int a2_count, .int a2_done, .int a2_workLeft, .int a2_waits]))] (by rw [eg_3]; rfl) d_Crew_note_37 ?_
  replace h := h g_3 eg_3
  refine z_aload C d_Crew_note_38 0 rfl ?_
  refine z_get C fl_Crew_25 0 rfl rfl d_Crew_note_39 ?_
  refine z_k C d_Crew_note_42 ?_
  refine z_aload C d_Crew_note_43 0 rfl ?_
  refine z_get C fl_Crew_12 0 rfl rfl d_Crew_note_44 ?_
  refine z_get C fl_Crew_56 2 rfl rfl d_Crew_note_47 ?_
  obtain ⟨g_4, eg_4⟩ : ∃ y : Nat → Int32, y = upd g_3 ((3 : Int32).toNatClampNeg) a1_waits := ⟨_, rfl⟩
  refine z_iast C 1 rfl (by unfold vp_in; decide) [(h_cr, .inr (2, [.ref h_a1, .ref h_a2, .ref h_cr_reached, .ref h_cr_latest, .int (1 : Int32)])), (h_cr_latest, cI κ 5 g_4), (h_a1, .inr (0, [.ref h_a1_kinds, .ref h_a1_sizes, .ref h_a1_zonesBehind, .int a1_count, .int a1_done, .int a1_workLeft, .int a1_waits])), (h_a2, .inr (0, [.ref h_a2_kinds, .ref h_a2_sizes, .ref h_a2_zonesBehind, .int a2_count, .int a2_done, .int a2_workLeft, .int a2_waits]))] (by rw [eg_4]; rfl) d_Crew_note_50 ?_
  replace h := h g_4 eg_4
  refine z_aload C d_Crew_note_51 0 rfl ?_
  refine z_get C fl_Crew_25 0 rfl rfl d_Crew_note_52 ?_
  refine z_k C d_Crew_note_55 ?_
  refine z_aload C d_Crew_note_56 0 rfl ?_
  refine z_get C fl_Crew_18 0 rfl rfl d_Crew_note_57 ?_
  refine z_get C fl_Crew_56 3 rfl rfl d_Crew_note_60 ?_
  obtain ⟨g_5, eg_5⟩ : ∃ y : Nat → Int32, y = upd g_4 ((4 : Int32).toNatClampNeg) a2_waits := ⟨_, rfl⟩
  refine z_iast C 1 rfl (by unfold vp_in; decide) [(h_cr, .inr (2, [.ref h_a1, .ref h_a2, .ref h_cr_reached, .ref h_cr_latest, .int (1 : Int32)])), (h_cr_latest, cI κ 5 g_5), (h_a1, .inr (0, [.ref h_a1_kinds, .ref h_a1_sizes, .ref h_a1_zonesBehind, .int a1_count, .int a1_done, .int a1_workLeft, .int a1_waits])), (h_a2, .inr (0, [.ref h_a2_kinds, .ref h_a2_sizes, .ref h_a2_zonesBehind, .int a2_count, .int a2_done, .int a2_workLeft, .int a2_waits]))] (by rw [eg_5]; rfl) d_Crew_note_63 ?_
  replace h := h g_5 eg_5
  exact ze_vret C ((1 : Int32), g_5) hr hlk rfl d_Crew_note_64 h
def wp_Crew_firstGoes (a1_count : Int32) (a1_kinds : Nat → Int32) (a1_sizes : Nat → Int32) (a2_zonesBehind : Nat → Int32) (p0 : Int32) (p1 : Int32) (post : Int32 → Prop) : Prop :=
  (vp_in p1 17 ∧ (wp_Acts_goes a1_count a1_kinds a1_sizes p0 (a2_zonesBehind (p1.toNatClampNeg)) (fun r_1 => ((r_1 = 0 ∨ r_1 = 1) ∧ (post r_1)))))
abbrev rm_Crew_firstGoes : Room := { frames := 1, cells := 0, slots := 0, locals := 22 }
set_option maxHeartbeats 4000000 in
set_option maxRecDepth 100000 in
theorem c_Crew_firstGoes (l : Launch) (D : va_G) (κ : KT) (h_cr : Nat) (h_a1 : Nat) (h_a2 : Nat) (h_cr_reached : Nat) (h_cr_latest : Nat) (h_a1_kinds : Nat) (h_a1_sizes : Nat) (h_a1_zonesBehind : Nat) (h_a2_kinds : Nat) (h_a2_sizes : Nat) (h_a2_zonesBehind : Nat) (cr_hasRun : Int32) (a1_count : Int32) (a1_done : Int32) (a1_workLeft : Int32) (a1_waits : Int32) (a1_kinds : Nat → Int32) (a1_sizes : Nat → Int32) (a2_count : Int32) (a2_done : Int32) (a2_workLeft : Int32) (a2_waits : Int32) (a2_zonesBehind : Nat → Int32) (p0 : Int32) (p1 : Int32) (post : Int32 → Prop) (h : wp_Crew_firstGoes a1_count a1_kinds a1_sizes a2_zonesBehind p0 p1 post) : Met l y_Crew_firstGoes (wsG y_Crew_firstGoes b_Crew_firstGoes 3 (some .boolean)) rm_Crew_firstGoes (PP D κ [.ref h_cr, .int p0, .int p1] [(h_cr, .inr (2, [.ref h_a1, .ref h_a2, .ref h_cr_reached, .ref h_cr_latest, .int cr_hasRun])), (h_a1, .inr (0, [.ref h_a1_kinds, .ref h_a1_sizes, .ref h_a1_zonesBehind, .int a1_count, .int a1_done, .int a1_workLeft, .int a1_waits])), (h_a1_kinds, cI κ 16 a1_kinds), (h_a1_sizes, cI κ 16 a1_sizes), (h_a2, .inr (0, [.ref h_a2_kinds, .ref h_a2_sizes, .ref h_a2_zonesBehind, .int a2_count, .int a2_done, .int a2_workLeft, .int a2_waits])), (h_a2_zonesBehind, cI κ 17 a2_zonesBehind)]) (vp_Si post) 0 0 (fun _ => False) := by
  refine zp_start [(0, .ref h_cr), (1, .int p0), (2, .int p1)] rfl (Nat.le_of_ble_eq_true rfl) rfl ?_
  intro p e s m args below meth c C hr hlk
  unfold wp_Crew_firstGoes at h
  refine z_aload C d_Crew_firstGoes_0 0 rfl ?_
  refine z_get C fl_Crew_12 0 rfl rfl d_Crew_firstGoes_1 ?_
  refine z_iload C d_Crew_firstGoes_4 1 rfl ?_
  refine z_aload C d_Crew_firstGoes_5 0 rfl ?_
  refine z_get C fl_Crew_18 0 rfl rfl d_Crew_firstGoes_6 ?_
  refine z_get C fl_Crew_75 4 rfl rfl d_Crew_firstGoes_9 ?_
  refine z_iload C d_Crew_firstGoes_12 2 rfl ?_
  refine z_iald C 5 rfl h.1 d_Crew_firstGoes_13 ?_
  replace h := h.2
  refine z_vpi C (rest := []) (c_Acts_goes l D κ h_a1 h_a1_kinds h_a1_sizes h_a1_zonesBehind a1_count a1_done a1_workLeft a1_waits a1_kinds a1_sizes p0 (a2_zonesBehind (p1.toNatClampNeg)) _ h) cv_Crew_78 ⟨rfl, rfl⟩ ⟨⟨Nat.le_of_ble_eq_true rfl, Nat.le_of_ble_eq_true rfl⟩, Nat.le_of_ble_eq_true rfl, Nat.le_of_ble_eq_true rfl⟩ 1 rfl [1, 2, 3] rfl rfl rfl (Nat.le_of_ble_eq_true rfl) d_Crew_firstGoes_14 (fun r_1 h => ?_)
  exact zp_zret C hr hlk h.1 d_Crew_firstGoes_17 h.2
def wp_Crew_secondGoes (a1_zonesBehind : Nat → Int32) (a2_count : Int32) (a2_kinds : Nat → Int32) (a2_sizes : Nat → Int32) (p0 : Int32) (p1 : Int32) (post : Int32 → Prop) : Prop :=
  (vp_in p0 17 ∧ (wp_Acts_goes a2_count a2_kinds a2_sizes p1 (a1_zonesBehind (p0.toNatClampNeg)) (fun r_1 => ((r_1 = 0 ∨ r_1 = 1) ∧ (post r_1)))))
abbrev rm_Crew_secondGoes : Room := { frames := 1, cells := 0, slots := 0, locals := 22 }
set_option maxHeartbeats 4000000 in
set_option maxRecDepth 100000 in
theorem c_Crew_secondGoes (l : Launch) (D : va_G) (κ : KT) (h_cr : Nat) (h_a1 : Nat) (h_a2 : Nat) (h_cr_reached : Nat) (h_cr_latest : Nat) (h_a1_kinds : Nat) (h_a1_sizes : Nat) (h_a1_zonesBehind : Nat) (h_a2_kinds : Nat) (h_a2_sizes : Nat) (h_a2_zonesBehind : Nat) (cr_hasRun : Int32) (a1_count : Int32) (a1_done : Int32) (a1_workLeft : Int32) (a1_waits : Int32) (a1_zonesBehind : Nat → Int32) (a2_count : Int32) (a2_done : Int32) (a2_workLeft : Int32) (a2_waits : Int32) (a2_kinds : Nat → Int32) (a2_sizes : Nat → Int32) (p0 : Int32) (p1 : Int32) (post : Int32 → Prop) (h : wp_Crew_secondGoes a1_zonesBehind a2_count a2_kinds a2_sizes p0 p1 post) : Met l y_Crew_secondGoes (wsG y_Crew_secondGoes b_Crew_secondGoes 3 (some .boolean)) rm_Crew_secondGoes (PP D κ [.ref h_cr, .int p0, .int p1] [(h_cr, .inr (2, [.ref h_a1, .ref h_a2, .ref h_cr_reached, .ref h_cr_latest, .int cr_hasRun])), (h_a1, .inr (0, [.ref h_a1_kinds, .ref h_a1_sizes, .ref h_a1_zonesBehind, .int a1_count, .int a1_done, .int a1_workLeft, .int a1_waits])), (h_a1_zonesBehind, cI κ 17 a1_zonesBehind), (h_a2, .inr (0, [.ref h_a2_kinds, .ref h_a2_sizes, .ref h_a2_zonesBehind, .int a2_count, .int a2_done, .int a2_workLeft, .int a2_waits])), (h_a2_kinds, cI κ 16 a2_kinds), (h_a2_sizes, cI κ 16 a2_sizes)]) (vp_Si post) 0 0 (fun _ => False) := by
  refine zp_start [(0, .ref h_cr), (1, .int p0), (2, .int p1)] rfl (Nat.le_of_ble_eq_true rfl) rfl ?_
  intro p e s m args below meth c C hr hlk
  unfold wp_Crew_secondGoes at h
  refine z_aload C d_Crew_secondGoes_0 0 rfl ?_
  refine z_get C fl_Crew_18 0 rfl rfl d_Crew_secondGoes_1 ?_
  refine z_iload C d_Crew_secondGoes_4 2 rfl ?_
  refine z_aload C d_Crew_secondGoes_5 0 rfl ?_
  refine z_get C fl_Crew_12 0 rfl rfl d_Crew_secondGoes_6 ?_
  refine z_get C fl_Crew_75 1 rfl rfl d_Crew_secondGoes_9 ?_
  refine z_iload C d_Crew_secondGoes_12 1 rfl ?_
  refine z_iald C 2 rfl h.1 d_Crew_secondGoes_13 ?_
  replace h := h.2
  refine z_vpi C (rest := []) (c_Acts_goes l D κ h_a2 h_a2_kinds h_a2_sizes h_a2_zonesBehind a2_count a2_done a2_workLeft a2_waits a2_kinds a2_sizes p1 (a1_zonesBehind (p0.toNatClampNeg)) _ h) cv_Crew_78 ⟨rfl, rfl⟩ ⟨⟨Nat.le_of_ble_eq_true rfl, Nat.le_of_ble_eq_true rfl⟩, Nat.le_of_ble_eq_true rfl, Nat.le_of_ble_eq_true rfl⟩ 3 rfl [3, 4, 5] rfl rfl rfl (Nat.le_of_ble_eq_true rfl) d_Crew_secondGoes_14 (fun r_1 h => ?_)
  exact zp_zret C hr hlk h.1 d_Crew_secondGoes_17 h.2
def wp_Crew_isLock_j27_7 (cr_reached : Nat → Int32) (a1_count : Int32) (a1_kinds : Nat → Int32) (a1_sizes : Nat → Int32) (a1_zonesBehind : Nat → Int32) (a2_count : Int32) (a2_kinds : Nat → Int32) (a2_sizes : Nat → Int32) (a2_zonesBehind : Nat → Int32) (p0 : Int32) (p1 : Int32) (post : Int32 → Prop) (w_1 : Int32) : Prop :=
  (vp_in ((p0 * (17 : Int32)) + p1) 289 ∧ (((cr_reached (((p0 * (17 : Int32)) + p1).toNatClampNeg)) = 0 → (post (0 : Int32))) ∧ (¬ (cr_reached (((p0 * (17 : Int32)) + p1).toNatClampNeg)) = 0 → ((¬ w_1 = 0 → (post (0 : Int32))) ∧ (w_1 = 0 → (wp_Crew_firstGoes a1_count a1_kinds a1_sizes a2_zonesBehind p0 p1 (fun r_4 => ((¬ r_4 = 0 → (post (0 : Int32))) ∧ (r_4 = 0 → (wp_Crew_secondGoes a1_zonesBehind a2_count a2_kinds a2_sizes p0 p1 (fun r_6 => ((¬ r_6 = 0 → (post (0 : Int32))) ∧ (r_6 = 0 → (post (1 : Int32)))))))))))))))
def wp_Crew_isLock (cr_reached : Nat → Int32) (a1_count : Int32) (a1_kinds : Nat → Int32) (a1_sizes : Nat → Int32) (a1_zonesBehind : Nat → Int32) (a2_count : Int32) (a2_kinds : Nat → Int32) (a2_sizes : Nat → Int32) (a2_zonesBehind : Nat → Int32) (p0 : Int32) (p1 : Int32) (post : Int32 → Prop) : Prop :=
  ((¬ p0 = a1_count → (wp_Crew_isLock_j27_7 cr_reached a1_count a1_kinds a1_sizes a1_zonesBehind a2_count a2_kinds a2_sizes a2_zonesBehind p0 p1 post (0 : Int32))) ∧ (p0 = a1_count → ((¬ p1 = a2_count → (wp_Crew_isLock_j27_7 cr_reached a1_count a1_kinds a1_sizes a1_zonesBehind a2_count a2_kinds a2_sizes a2_zonesBehind p0 p1 post (0 : Int32))) ∧ (p1 = a2_count → (wp_Crew_isLock_j27_7 cr_reached a1_count a1_kinds a1_sizes a1_zonesBehind a2_count a2_kinds a2_sizes a2_zonesBehind p0 p1 post (1 : Int32))))))
abbrev rm_Crew_isLock : Room := { frames := 2, cells := 0, slots := 0, locals := 44 }
set_option maxHeartbeats 4000000 in
set_option maxRecDepth 100000 in
theorem c_Crew_isLock (l : Launch) (D : va_G) (κ : KT) (h_cr : Nat) (h_a1 : Nat) (h_a2 : Nat) (h_cr_reached : Nat) (h_cr_latest : Nat) (h_a1_kinds : Nat) (h_a1_sizes : Nat) (h_a1_zonesBehind : Nat) (h_a2_kinds : Nat) (h_a2_sizes : Nat) (h_a2_zonesBehind : Nat) (cr_hasRun : Int32) (cr_reached : Nat → Int32) (a1_count : Int32) (a1_done : Int32) (a1_workLeft : Int32) (a1_waits : Int32) (a1_kinds : Nat → Int32) (a1_sizes : Nat → Int32) (a1_zonesBehind : Nat → Int32) (a2_count : Int32) (a2_done : Int32) (a2_workLeft : Int32) (a2_waits : Int32) (a2_kinds : Nat → Int32) (a2_sizes : Nat → Int32) (a2_zonesBehind : Nat → Int32) (p0 : Int32) (p1 : Int32) (post : Int32 → Prop) (h : wp_Crew_isLock cr_reached a1_count a1_kinds a1_sizes a1_zonesBehind a2_count a2_kinds a2_sizes a2_zonesBehind p0 p1 post) : Met l y_Crew_isLock (wsG y_Crew_isLock b_Crew_isLock 4 (some .boolean)) rm_Crew_isLock (PP D κ [.ref h_cr, .int p0, .int p1] [(h_cr, .inr (2, [.ref h_a1, .ref h_a2, .ref h_cr_reached, .ref h_cr_latest, .int cr_hasRun])), (h_cr_reached, cZ κ 289 cr_reached), (h_a1, .inr (0, [.ref h_a1_kinds, .ref h_a1_sizes, .ref h_a1_zonesBehind, .int a1_count, .int a1_done, .int a1_workLeft, .int a1_waits])), (h_a1_kinds, cI κ 16 a1_kinds), (h_a1_sizes, cI κ 16 a1_sizes), (h_a1_zonesBehind, cI κ 17 a1_zonesBehind), (h_a2, .inr (0, [.ref h_a2_kinds, .ref h_a2_sizes, .ref h_a2_zonesBehind, .int a2_count, .int a2_done, .int a2_workLeft, .int a2_waits])), (h_a2_kinds, cI κ 16 a2_kinds), (h_a2_sizes, cI κ 16 a2_sizes), (h_a2_zonesBehind, cI κ 17 a2_zonesBehind)]) (vp_Si post) 0 0 (fun _ => False) := by
  refine zp_start [(0, .ref h_cr), (1, .int p0), (2, .int p1)] rfl (Nat.le_of_ble_eq_true rfl) rfl ?_
  intro p e s m args below meth c C hr hlk
  unfold wp_Crew_isLock at h
  refine z_iload C d_Crew_isLock_0 1 rfl ?_
  refine z_aload C d_Crew_isLock_1 0 rfl ?_
  refine z_get C fl_Crew_12 0 rfl rfl d_Crew_isLock_2 ?_
  refine z_get C fl_Crew_62 2 rfl rfl d_Crew_isLock_5 ?_
  have J_27 : ∀ (w_1 : Int32), wp_Crew_isLock_j27_7 cr_reached a1_count a1_kinds a1_sizes a1_zonesBehind a2_count a2_kinds a2_sizes a2_zonesBehind p0 p1 post w_1 → Zw p l e rm_Crew_isLock s m args below meth c 0 0 (MQ below (vp_Si post) args s 0 0 (fun _ => False)) D 4 none [(h_cr, .inr (2, [.ref h_a1, .ref h_a2, .ref h_cr_reached, .ref h_cr_latest, .int cr_hasRun])), (h_cr_reached, cZ κ 289 cr_reached), (h_a1, .inr (0, [.ref h_a1_kinds, .ref h_a1_sizes, .ref h_a1_zonesBehind, .int a1_count, .int a1_done, .int a1_workLeft, .int a1_waits])), (h_a1_kinds, cI κ 16 a1_kinds), (h_a1_sizes, cI κ 16 a1_sizes), (h_a1_zonesBehind, cI κ 17 a1_zonesBehind), (h_a2, .inr (0, [.ref h_a2_kinds, .ref h_a2_sizes, .ref h_a2_zonesBehind, .int a2_count, .int a2_done, .int a2_workLeft, .int a2_waits])), (h_a2_kinds, cI κ 16 a2_kinds), (h_a2_sizes, cI κ 16 a2_sizes), (h_a2_zonesBehind, cI κ 17 a2_zonesBehind)] [(0, .ref h_cr), (1, .int p0), (2, .int p1)] 27 [.int w_1] := by
    intro w_1 h
    unfold wp_Crew_isLock_j27_7 at h
    refine z_istore C [(3, .int w_1), (0, .ref h_cr), (1, .int p0), (2, .int p1)] d_Crew_isLock_27 rfl rfl ?_
    refine z_aload C d_Crew_isLock_28 1 rfl ?_
    refine z_get C fl_Crew_21 0 rfl rfl d_Crew_isLock_29 ?_
    refine z_iload C d_Crew_isLock_32 2 rfl ?_
    refine z_k C d_Crew_isLock_33 ?_
    refine z_imul C d_Crew_isLock_35 ?_
    refine z_iload C d_Crew_isLock_36 3 rfl ?_
    refine z_iadd C d_Crew_isLock_37 ?_
    refine z_zald C 1 rfl h.1 d_Crew_isLock_38 ?_
    replace h := h.2
    refine z_if_eq C d_Crew_isLock_39 (fun c_2 => ?_) (fun c_2 => ?_)
    · replace h := h.1 c_2
      refine z_k C d_Crew_isLock_68 ?_
      exact zp_zret C hr hlk (Or.inl rfl) d_Crew_isLock_69 h
    · replace h := h.2 c_2
      refine z_iload C d_Crew_isLock_42 0 rfl ?_
      refine z_if_ne C d_Crew_isLock_43 (fun c_3 => ?_) (fun c_3 => ?_)
      · replace h := h.1 c_3
        refine z_k C d_Crew_isLock_68 ?_
        exact zp_zret C hr hlk (Or.inl rfl) d_Crew_isLock_69 h
      · replace h := h.2 c_3
        refine z_aload C d_Crew_isLock_46 1 rfl ?_
        refine z_iload C d_Crew_isLock_47 2 rfl ?_
        refine z_iload C d_Crew_isLock_48 3 rfl ?_
        refine z_vpi C (rest := []) (c_Crew_firstGoes l D κ h_cr h_a1 h_a2 h_cr_reached h_cr_latest h_a1_kinds h_a1_sizes h_a1_zonesBehind h_a2_kinds h_a2_sizes h_a2_zonesBehind cr_hasRun a1_count a1_done a1_workLeft a1_waits a1_kinds a1_sizes a2_count a2_done a2_workLeft a2_waits a2_zonesBehind p0 p1 _ h) cv_Crew_69 ⟨rfl, rfl⟩ ⟨⟨Nat.le_of_ble_eq_true rfl, Nat.le_of_ble_eq_true rfl⟩, Nat.le_of_ble_eq_true rfl, Nat.le_of_ble_eq_true rfl⟩ 0 rfl [0, 2, 3, 4, 6, 9] rfl rfl rfl (Nat.le_of_ble_eq_true rfl) d_Crew_isLock_49 (fun r_4 h => ?_)
        refine z_if_ne C d_Crew_isLock_52 (fun c_5 => ?_) (fun c_5 => ?_)
        · replace h := h.1 c_5
          refine z_k C d_Crew_isLock_68 ?_
          exact zp_zret C hr hlk (Or.inl rfl) d_Crew_isLock_69 h
        · replace h := h.2 c_5
          refine z_aload C d_Crew_isLock_55 1 rfl ?_
          refine z_iload C d_Crew_isLock_56 2 rfl ?_
          refine z_iload C d_Crew_isLock_57 3 rfl ?_
          refine z_vpi C (rest := []) (c_Crew_secondGoes l D κ h_cr h_a1 h_a2 h_cr_reached h_cr_latest h_a1_kinds h_a1_sizes h_a1_zonesBehind h_a2_kinds h_a2_sizes h_a2_zonesBehind cr_hasRun a1_count a1_done a1_workLeft a1_waits a1_zonesBehind a2_count a2_done a2_workLeft a2_waits a2_kinds a2_sizes p0 p1 _ h) cv_Crew_72 ⟨rfl, rfl⟩ ⟨⟨Nat.le_of_ble_eq_true rfl, Nat.le_of_ble_eq_true rfl⟩, Nat.le_of_ble_eq_true rfl, Nat.le_of_ble_eq_true rfl⟩ 0 rfl [0, 2, 5, 6, 7, 8] rfl rfl rfl (Nat.le_of_ble_eq_true rfl) d_Crew_isLock_58 (fun r_6 h => ?_)
          refine z_if_ne C d_Crew_isLock_61 (fun c_7 => ?_) (fun c_7 => ?_)
          · replace h := h.1 c_7
            refine z_k C d_Crew_isLock_68 ?_
            exact zp_zret C hr hlk (Or.inl rfl) d_Crew_isLock_69 h
          · replace h := h.2 c_7
            refine z_k C d_Crew_isLock_64 ?_
            refine z_goto C d_Crew_isLock_65 ?_
            exact zp_zret C hr hlk (Or.inr rfl) d_Crew_isLock_69 h
  refine z_icmp_ne C d_Crew_isLock_8 (fun c_8 => ?_) (fun c_8 => ?_)
  · replace h := h.1 c_8
    refine z_k C d_Crew_isLock_26 ?_
    refine z_sub [0, 1, 2] [(0, .ref h_cr), (1, .int p0), (2, .int p1)] rfl ?_
    exact J_27 (0 : Int32) h
  · replace h := h.2 c_8
    refine z_iload C d_Crew_isLock_11 2 rfl ?_
    refine z_aload C d_Crew_isLock_12 0 rfl ?_
    refine z_get C fl_Crew_18 0 rfl rfl d_Crew_isLock_13 ?_
    refine z_get C fl_Crew_62 6 rfl rfl d_Crew_isLock_16 ?_
    refine z_icmp_ne C d_Crew_isLock_19 (fun c_9 => ?_) (fun c_9 => ?_)
    · replace h := h.1 c_9
      refine z_k C d_Crew_isLock_26 ?_
      refine z_sub [0, 1, 2] [(0, .ref h_cr), (1, .int p0), (2, .int p1)] rfl ?_
      exact J_27 (0 : Int32) h
    · replace h := h.2 c_9
      refine z_k C d_Crew_isLock_22 ?_
      refine z_goto C d_Crew_isLock_23 ?_
      refine z_sub [0, 1, 2] [(0, .ref h_cr), (1, .int p0), (2, .int p1)] rfl ?_
      exact J_27 (1 : Int32) h
def wp_Crew_weave_j99_29 (x1_2 : Int32) (cr_reached_4 : Nat → Int32) (x2_5 : Int32) (ih_15 : (Nat → Int32) → Int32 → Prop) (w_8 : Int32) (w_9 : Int32) : Prop :=
  ((¬ x1_2 = 0 → ((¬ w_8 = 0 → (vp_in ((x1_2 * (17 : Int32)) + x2_5) 289 ∧ (∀ g_12 : Nat → Int32, g_12 = upd cr_reached_4 (((x1_2 * (17 : Int32)) + x2_5).toNatClampNeg) (vp_nar .boolean (1 : Int32)) → (∀ x2_13 : Int32, x2_13 = x2_5 + (1 : Int32) → (ih_15 g_12 x2_13))))) ∧ (w_8 = 0 → ((w_9 = 0 → (vp_in ((x1_2 * (17 : Int32)) + x2_5) 289 ∧ (∀ g_15 : Nat → Int32, g_15 = upd cr_reached_4 (((x1_2 * (17 : Int32)) + x2_5).toNatClampNeg) (vp_nar .boolean (0 : Int32)) → (∀ x2_16 : Int32, x2_16 = x2_5 + (1 : Int32) → (ih_15 g_15 x2_16))))) ∧ (¬ w_9 = 0 → (vp_in ((x1_2 * (17 : Int32)) + x2_5) 289 ∧ (∀ g_17 : Nat → Int32, g_17 = upd cr_reached_4 (((x1_2 * (17 : Int32)) + x2_5).toNatClampNeg) (vp_nar .boolean (1 : Int32)) → (∀ x2_18 : Int32, x2_18 = x2_5 + (1 : Int32) → (ih_15 g_17 x2_18))))))))) ∧ (x1_2 = 0 → ((x2_5 = 0 → (vp_in ((x1_2 * (17 : Int32)) + x2_5) 289 ∧ (∀ g_20 : Nat → Int32, g_20 = upd cr_reached_4 (((x1_2 * (17 : Int32)) + x2_5).toNatClampNeg) (vp_nar .boolean (1 : Int32)) → (∀ x2_21 : Int32, x2_21 = x2_5 + (1 : Int32) → (ih_15 g_20 x2_21))))) ∧ (¬ x2_5 = 0 → ((¬ w_8 = 0 → (vp_in ((x1_2 * (17 : Int32)) + x2_5) 289 ∧ (∀ g_23 : Nat → Int32, g_23 = upd cr_reached_4 (((x1_2 * (17 : Int32)) + x2_5).toNatClampNeg) (vp_nar .boolean (1 : Int32)) → (∀ x2_24 : Int32, x2_24 = x2_5 + (1 : Int32) → (ih_15 g_23 x2_24))))) ∧ (w_8 = 0 → ((w_9 = 0 → (vp_in ((x1_2 * (17 : Int32)) + x2_5) 289 ∧ (∀ g_26 : Nat → Int32, g_26 = upd cr_reached_4 (((x1_2 * (17 : Int32)) + x2_5).toNatClampNeg) (vp_nar .boolean (0 : Int32)) → (∀ x2_27 : Int32, x2_27 = x2_5 + (1 : Int32) → (ih_15 g_26 x2_27))))) ∧ (¬ w_9 = 0 → (vp_in ((x1_2 * (17 : Int32)) + x2_5) 289 ∧ (∀ g_28 : Nat → Int32, g_28 = upd cr_reached_4 (((x1_2 * (17 : Int32)) + x2_5).toNatClampNeg) (vp_nar .boolean (1 : Int32)) → (∀ x2_29 : Int32, x2_29 = x2_5 + (1 : Int32) → (ih_15 g_28 x2_29))))))))))))
def wp_Crew_weave_j62_33 (a1_zonesBehind : Nat → Int32) (a2_count : Int32) (a2_kinds : Nat → Int32) (a2_sizes : Nat → Int32) (x1_2 : Int32) (cr_reached_4 : Nat → Int32) (x2_5 : Int32) (ih_15 : (Nat → Int32) → Int32 → Prop) (w_8 : Int32) : Prop :=
  ((x2_5 ≤ 0 → (wp_Crew_weave_j99_29 x1_2 cr_reached_4 x2_5 ih_15 w_8 (0 : Int32))) ∧ (¬ x2_5 ≤ 0 → (vp_in (((x1_2 * (17 : Int32)) + x2_5) - (1 : Int32)) 289 ∧ (((cr_reached_4 ((((x1_2 * (17 : Int32)) + x2_5) - (1 : Int32)).toNatClampNeg)) = 0 → (wp_Crew_weave_j99_29 x1_2 cr_reached_4 x2_5 ih_15 w_8 (0 : Int32))) ∧ (¬ (cr_reached_4 ((((x1_2 * (17 : Int32)) + x2_5) - (1 : Int32)).toNatClampNeg)) = 0 → (wp_Crew_secondGoes a1_zonesBehind a2_count a2_kinds a2_sizes x1_2 (x2_5 - (1 : Int32)) (fun r_32 => ((r_32 = 0 → (wp_Crew_weave_j99_29 x1_2 cr_reached_4 x2_5 ih_15 w_8 (0 : Int32))) ∧ (¬ r_32 = 0 → (wp_Crew_weave_j99_29 x1_2 cr_reached_4 x2_5 ih_15 w_8 (1 : Int32)))))))))))
def wpB_Crew_weave_15 (a1_count : Int32) (a1_kinds : Nat → Int32) (a1_sizes : Nat → Int32) (a1_zonesBehind : Nat → Int32) (a2_count : Int32) (a2_kinds : Nat → Int32) (a2_sizes : Nat → Int32) (a2_zonesBehind : Nat → Int32) (x1_2 : Int32) (ih_2 : (Nat → Int32) → Int32 → Prop) (ih_15 : (Nat → Int32) → Int32 → Prop) (cr_reached_4 : Nat → Int32) (x2_5 : Int32) : Prop :=
  ((a2_count < x2_5 → (∀ x1_7 : Int32, x1_7 = x1_2 + (1 : Int32) → (ih_2 cr_reached_4 x1_7))) ∧ (¬ a2_count < x2_5 → ((x1_2 ≤ 0 → (wp_Crew_weave_j62_33 a1_zonesBehind a2_count a2_kinds a2_sizes x1_2 cr_reached_4 x2_5 ih_15 (0 : Int32))) ∧ (¬ x1_2 ≤ 0 → (vp_in (((x1_2 - (1 : Int32)) * (17 : Int32)) + x2_5) 289 ∧ (((cr_reached_4 ((((x1_2 - (1 : Int32)) * (17 : Int32)) + x2_5).toNatClampNeg)) = 0 → (wp_Crew_weave_j62_33 a1_zonesBehind a2_count a2_kinds a2_sizes x1_2 cr_reached_4 x2_5 ih_15 (0 : Int32))) ∧ (¬ (cr_reached_4 ((((x1_2 - (1 : Int32)) * (17 : Int32)) + x2_5).toNatClampNeg)) = 0 → (wp_Crew_firstGoes a1_count a1_kinds a1_sizes a2_zonesBehind (x1_2 - (1 : Int32)) x2_5 (fun r_36 => ((r_36 = 0 → (wp_Crew_weave_j62_33 a1_zonesBehind a2_count a2_kinds a2_sizes x1_2 cr_reached_4 x2_5 ih_15 (0 : Int32))) ∧ (¬ r_36 = 0 → (wp_Crew_weave_j62_33 a1_zonesBehind a2_count a2_kinds a2_sizes x1_2 cr_reached_4 x2_5 ih_15 (1 : Int32)))))))))))))
noncomputable def wpL_Crew_weave_15 (a1_count : Int32) (a1_kinds : Nat → Int32) (a1_sizes : Nat → Int32) (a1_zonesBehind : Nat → Int32) (a2_count : Int32) (a2_kinds : Nat → Int32) (a2_sizes : Nat → Int32) (a2_zonesBehind : Nat → Int32) (x1_2 : Int32) (ih_2 : (Nat → Int32) → Int32 → Prop) : Nat → (Nat → Int32) → Int32 → Prop := fun n => @Nat.rec (fun _ => (Nat → Int32) → Int32 → Prop) (fun _ _ => False) (fun _ ih_15 => wpB_Crew_weave_15 a1_count a1_kinds a1_sizes a1_zonesBehind a2_count a2_kinds a2_sizes a2_zonesBehind x1_2 ih_2 ih_15) n
def wpB_Crew_weave_2 (a1_count : Int32) (a1_kinds : Nat → Int32) (a1_sizes : Nat → Int32) (a1_zonesBehind : Nat → Int32) (a2_count : Int32) (a2_kinds : Nat → Int32) (a2_sizes : Nat → Int32) (a2_zonesBehind : Nat → Int32) (post : (Nat → Int32) → Prop) (ih_2 : (Nat → Int32) → Int32 → Prop) (cr_reached_1 : Nat → Int32) (x1_2 : Int32) : Prop :=
  ((a1_count < x1_2 → (post cr_reached_1)) ∧ (¬ a1_count < x1_2 → (∃ n : Nat, wpL_Crew_weave_15 a1_count a1_kinds a1_sizes a1_zonesBehind a2_count a2_kinds a2_sizes a2_zonesBehind x1_2 ih_2 n cr_reached_1 (0 : Int32))))
noncomputable def wpL_Crew_weave_2 (a1_count : Int32) (a1_kinds : Nat → Int32) (a1_sizes : Nat → Int32) (a1_zonesBehind : Nat → Int32) (a2_count : Int32) (a2_kinds : Nat → Int32) (a2_sizes : Nat → Int32) (a2_zonesBehind : Nat → Int32) (post : (Nat → Int32) → Prop) : Nat → (Nat → Int32) → Int32 → Prop := fun n => @Nat.rec (fun _ => (Nat → Int32) → Int32 → Prop) (fun _ _ => False) (fun _ ih_2 => wpB_Crew_weave_2 a1_count a1_kinds a1_sizes a1_zonesBehind a2_count a2_kinds a2_sizes a2_zonesBehind post ih_2) n
def wp_Crew_weave (cr_reached : Nat → Int32) (a1_count : Int32) (a1_kinds : Nat → Int32) (a1_sizes : Nat → Int32) (a1_zonesBehind : Nat → Int32) (a2_count : Int32) (a2_kinds : Nat → Int32) (a2_sizes : Nat → Int32) (a2_zonesBehind : Nat → Int32) (post : (Nat → Int32) → Prop) : Prop :=
  (∃ n : Nat, wpL_Crew_weave_2 a1_count a1_kinds a1_sizes a1_zonesBehind a2_count a2_kinds a2_sizes a2_zonesBehind post n cr_reached (0 : Int32))
abbrev rm_Crew_weave : Room := { frames := 2, cells := 0, slots := 0, locals := 44 }
set_option maxHeartbeats 4000000 in
set_option maxRecDepth 100000 in
theorem c_Crew_weave (l : Launch) (D : va_G) (κ : KT) (h_cr : Nat) (h_a1 : Nat) (h_a2 : Nat) (h_cr_reached : Nat) (h_cr_latest : Nat) (h_a1_kinds : Nat) (h_a1_sizes : Nat) (h_a1_zonesBehind : Nat) (h_a2_kinds : Nat) (h_a2_sizes : Nat) (h_a2_zonesBehind : Nat) (cr_hasRun : Int32) (cr_reached : Nat → Int32) (a1_count : Int32) (a1_done : Int32) (a1_workLeft : Int32) (a1_waits : Int32) (a1_kinds : Nat → Int32) (a1_sizes : Nat → Int32) (a1_zonesBehind : Nat → Int32) (a2_count : Int32) (a2_done : Int32) (a2_workLeft : Int32) (a2_waits : Int32) (a2_kinds : Nat → Int32) (a2_sizes : Nat → Int32) (a2_zonesBehind : Nat → Int32) (sz : Nat) (post : (Nat → Int32) → Prop) (h : wp_Crew_weave cr_reached a1_count a1_kinds a1_sizes a1_zonesBehind a2_count a2_kinds a2_sizes a2_zonesBehind post) : Met l y_Crew_weave (wsG y_Crew_weave b_Crew_weave 5 none) rm_Crew_weave (PE D κ [.ref h_cr] [(h_cr, .inr (2, [.ref h_a1, .ref h_a2, .ref h_cr_reached, .ref h_cr_latest, .int cr_hasRun])), (h_cr_reached, cZ κ 289 cr_reached), (h_a1, .inr (0, [.ref h_a1_kinds, .ref h_a1_sizes, .ref h_a1_zonesBehind, .int a1_count, .int a1_done, .int a1_workLeft, .int a1_waits])), (h_a1_kinds, cI κ 16 a1_kinds), (h_a1_sizes, cI κ 16 a1_sizes), (h_a1_zonesBehind, cI κ 17 a1_zonesBehind), (h_a2, .inr (0, [.ref h_a2_kinds, .ref h_a2_sizes, .ref h_a2_zonesBehind, .int a2_count, .int a2_done, .int a2_workLeft, .int a2_waits])), (h_a2_kinds, cI κ 16 a2_kinds), (h_a2_sizes, cI κ 16 a2_sizes), (h_a2_zonesBehind, cI κ 17 a2_zonesBehind)] sz) (va_Qv (fun (u : (Nat → Int32)) => post u) (QB D [(h_cr, .inr (2, [.ref h_a1, .ref h_a2, .ref h_cr_reached, .ref h_cr_latest, .int cr_hasRun])), (h_cr_reached, cZ κ 289 cr_reached), (h_a1, .inr (0, [.ref h_a1_kinds, .ref h_a1_sizes, .ref h_a1_zonesBehind, .int a1_count, .int a1_done, .int a1_workLeft, .int a1_waits])), (h_a1_kinds, cI κ 16 a1_kinds), (h_a1_sizes, cI κ 16 a1_sizes), (h_a1_zonesBehind, cI κ 17 a1_zonesBehind), (h_a2, .inr (0, [.ref h_a2_kinds, .ref h_a2_sizes, .ref h_a2_zonesBehind, .int a2_count, .int a2_done, .int a2_workLeft, .int a2_waits])), (h_a2_kinds, cI κ 16 a2_kinds), (h_a2_sizes, cI κ 16 a2_sizes), (h_a2_zonesBehind, cI κ 17 a2_zonesBehind)] sz (fun (u : (Nat → Int32)) => [(h_cr, .inr (2, [.ref h_a1, .ref h_a2, .ref h_cr_reached, .ref h_cr_latest, .int cr_hasRun])), (h_cr_reached, cZ κ 289 u), (h_a1, .inr (0, [.ref h_a1_kinds, .ref h_a1_sizes, .ref h_a1_zonesBehind, .int a1_count, .int a1_done, .int a1_workLeft, .int a1_waits])), (h_a1_kinds, cI κ 16 a1_kinds), (h_a1_sizes, cI κ 16 a1_sizes), (h_a1_zonesBehind, cI κ 17 a1_zonesBehind), (h_a2, .inr (0, [.ref h_a2_kinds, .ref h_a2_sizes, .ref h_a2_zonesBehind, .int a2_count, .int a2_done, .int a2_workLeft, .int a2_waits])), (h_a2_kinds, cI κ 16 a2_kinds), (h_a2_sizes, cI κ 16 a2_sizes), (h_a2_zonesBehind, cI κ 17 a2_zonesBehind)])) (va_A [(h_cr, .inr (2, [.ref h_a1, .ref h_a2, .ref h_cr_reached, .ref h_cr_latest, .int cr_hasRun])), (h_cr_reached, cZ κ 289 cr_reached), (h_a1, .inr (0, [.ref h_a1_kinds, .ref h_a1_sizes, .ref h_a1_zonesBehind, .int a1_count, .int a1_done, .int a1_workLeft, .int a1_waits])), (h_a1_kinds, cI κ 16 a1_kinds), (h_a1_sizes, cI κ 16 a1_sizes), (h_a1_zonesBehind, cI κ 17 a1_zonesBehind), (h_a2, .inr (0, [.ref h_a2_kinds, .ref h_a2_sizes, .ref h_a2_zonesBehind, .int a2_count, .int a2_done, .int a2_workLeft, .int a2_waits])), (h_a2_kinds, cI κ 16 a2_kinds), (h_a2_sizes, cI κ 16 a2_sizes), (h_a2_zonesBehind, cI κ 17 a2_zonesBehind)] sz)) 0 0 (va_A [(h_cr, .inr (2, [.ref h_a1, .ref h_a2, .ref h_cr_reached, .ref h_cr_latest, .int cr_hasRun])), (h_cr_reached, cZ κ 289 cr_reached), (h_a1, .inr (0, [.ref h_a1_kinds, .ref h_a1_sizes, .ref h_a1_zonesBehind, .int a1_count, .int a1_done, .int a1_workLeft, .int a1_waits])), (h_a1_kinds, cI κ 16 a1_kinds), (h_a1_sizes, cI κ 16 a1_sizes), (h_a1_zonesBehind, cI κ 17 a1_zonesBehind), (h_a2, .inr (0, [.ref h_a2_kinds, .ref h_a2_sizes, .ref h_a2_zonesBehind, .int a2_count, .int a2_done, .int a2_workLeft, .int a2_waits])), (h_a2_kinds, cI κ 16 a2_kinds), (h_a2_sizes, cI κ 16 a2_sizes), (h_a2_zonesBehind, cI κ 17 a2_zonesBehind)] sz) := by
  refine ze_start [(0, .ref h_cr)] rfl (Nat.le_of_ble_eq_true rfl) rfl ?_
  intro p e s m args below meth c C hr hlk hnm hsz
  subst hsz
  unfold wp_Crew_weave at h
  refine z_k C d_Crew_weave_0 ?_
  refine z_istore C [(1, .int (0 : Int32)), (0, .ref h_cr)] d_Crew_weave_1 rfl rfl ?_
  obtain ⟨n_2, h⟩ := h
  have LP_2 : ∀ (n : Nat) (cr_reached_1 : Nat → Int32) (x1_2 : Int32), wpL_Crew_weave_2 a1_count a1_kinds a1_sizes a1_zonesBehind a2_count a2_kinds a2_sizes a2_zonesBehind post n cr_reached_1 x1_2 → Zw p l e rm_Crew_weave s m args below meth c 0 0 (MQ below (va_Qv (fun (u : (Nat → Int32)) => post u) (QB D [(h_cr, .inr (2, [.ref h_a1, .ref h_a2, .ref h_cr_reached, .ref h_cr_latest, .int cr_hasRun])), (h_cr_reached, cZ κ 289 cr_reached), (h_a1, .inr (0, [.ref h_a1_kinds, .ref h_a1_sizes, .ref h_a1_zonesBehind, .int a1_count, .int a1_done, .int a1_workLeft, .int a1_waits])), (h_a1_kinds, cI κ 16 a1_kinds), (h_a1_sizes, cI κ 16 a1_sizes), (h_a1_zonesBehind, cI κ 17 a1_zonesBehind), (h_a2, .inr (0, [.ref h_a2_kinds, .ref h_a2_sizes, .ref h_a2_zonesBehind, .int a2_count, .int a2_done, .int a2_workLeft, .int a2_waits])), (h_a2_kinds, cI κ 16 a2_kinds), (h_a2_sizes, cI κ 16 a2_sizes), (h_a2_zonesBehind, cI κ 17 a2_zonesBehind)] s.heap.size (fun (u : (Nat → Int32)) => [(h_cr, .inr (2, [.ref h_a1, .ref h_a2, .ref h_cr_reached, .ref h_cr_latest, .int cr_hasRun])), (h_cr_reached, cZ κ 289 u), (h_a1, .inr (0, [.ref h_a1_kinds, .ref h_a1_sizes, .ref h_a1_zonesBehind, .int a1_count, .int a1_done, .int a1_workLeft, .int a1_waits])), (h_a1_kinds, cI κ 16 a1_kinds), (h_a1_sizes, cI κ 16 a1_sizes), (h_a1_zonesBehind, cI κ 17 a1_zonesBehind), (h_a2, .inr (0, [.ref h_a2_kinds, .ref h_a2_sizes, .ref h_a2_zonesBehind, .int a2_count, .int a2_done, .int a2_workLeft, .int a2_waits])), (h_a2_kinds, cI κ 16 a2_kinds), (h_a2_sizes, cI κ 16 a2_sizes), (h_a2_zonesBehind, cI κ 17 a2_zonesBehind)])) (va_A [(h_cr, .inr (2, [.ref h_a1, .ref h_a2, .ref h_cr_reached, .ref h_cr_latest, .int cr_hasRun])), (h_cr_reached, cZ κ 289 cr_reached), (h_a1, .inr (0, [.ref h_a1_kinds, .ref h_a1_sizes, .ref h_a1_zonesBehind, .int a1_count, .int a1_done, .int a1_workLeft, .int a1_waits])), (h_a1_kinds, cI κ 16 a1_kinds), (h_a1_sizes, cI κ 16 a1_sizes), (h_a1_zonesBehind, cI κ 17 a1_zonesBehind), (h_a2, .inr (0, [.ref h_a2_kinds, .ref h_a2_sizes, .ref h_a2_zonesBehind, .int a2_count, .int a2_done, .int a2_workLeft, .int a2_waits])), (h_a2_kinds, cI κ 16 a2_kinds), (h_a2_sizes, cI κ 16 a2_sizes), (h_a2_zonesBehind, cI κ 17 a2_zonesBehind)] s.heap.size)) args s 0 0 (va_A [(h_cr, .inr (2, [.ref h_a1, .ref h_a2, .ref h_cr_reached, .ref h_cr_latest, .int cr_hasRun])), (h_cr_reached, cZ κ 289 cr_reached), (h_a1, .inr (0, [.ref h_a1_kinds, .ref h_a1_sizes, .ref h_a1_zonesBehind, .int a1_count, .int a1_done, .int a1_workLeft, .int a1_waits])), (h_a1_kinds, cI κ 16 a1_kinds), (h_a1_sizes, cI κ 16 a1_sizes), (h_a1_zonesBehind, cI κ 17 a1_zonesBehind), (h_a2, .inr (0, [.ref h_a2_kinds, .ref h_a2_sizes, .ref h_a2_zonesBehind, .int a2_count, .int a2_done, .int a2_workLeft, .int a2_waits])), (h_a2_kinds, cI κ 16 a2_kinds), (h_a2_sizes, cI κ 16 a2_sizes), (h_a2_zonesBehind, cI κ 17 a2_zonesBehind)] s.heap.size)) D 5 (some (va_A [(h_cr, .inr (2, [.ref h_a1, .ref h_a2, .ref h_cr_reached, .ref h_cr_latest, .int cr_hasRun])), (h_cr_reached, cZ κ 289 cr_reached), (h_a1, .inr (0, [.ref h_a1_kinds, .ref h_a1_sizes, .ref h_a1_zonesBehind, .int a1_count, .int a1_done, .int a1_workLeft, .int a1_waits])), (h_a1_kinds, cI κ 16 a1_kinds), (h_a1_sizes, cI κ 16 a1_sizes), (h_a1_zonesBehind, cI κ 17 a1_zonesBehind), (h_a2, .inr (0, [.ref h_a2_kinds, .ref h_a2_sizes, .ref h_a2_zonesBehind, .int a2_count, .int a2_done, .int a2_workLeft, .int a2_waits])), (h_a2_kinds, cI κ 16 a2_kinds), (h_a2_sizes, cI κ 16 a2_sizes), (h_a2_zonesBehind, cI κ 17 a2_zonesBehind)] s.heap.size)) [(h_cr, .inr (2, [.ref h_a1, .ref h_a2, .ref h_cr_reached, .ref h_cr_latest, .int cr_hasRun])), (h_cr_reached, cZ κ 289 cr_reached_1), (h_a1, .inr (0, [.ref h_a1_kinds, .ref h_a1_sizes, .ref h_a1_zonesBehind, .int a1_count, .int a1_done, .int a1_workLeft, .int a1_waits])), (h_a1_kinds, cI κ 16 a1_kinds), (h_a1_sizes, cI κ 16 a1_sizes), (h_a1_zonesBehind, cI κ 17 a1_zonesBehind), (h_a2, .inr (0, [.ref h_a2_kinds, .ref h_a2_sizes, .ref h_a2_zonesBehind, .int a2_count, .int a2_done, .int a2_workLeft, .int a2_waits])), (h_a2_kinds, cI κ 16 a2_kinds), (h_a2_sizes, cI κ 16 a2_sizes), (h_a2_zonesBehind, cI κ 17 a2_zonesBehind)] [(0, .ref h_cr), (1, .int x1_2)] 2 [] := by
    intro n
    induction n with
    | zero => intro cr_reached_1 x1_2 h; exact False.elim h
    | succ nn_2 IH_2 =>
      intro cr_reached_1 x1_2 h
      have h : wpB_Crew_weave_2 a1_count a1_kinds a1_sizes a1_zonesBehind a2_count a2_kinds a2_sizes a2_zonesBehind post (wpL_Crew_weave_2 a1_count a1_kinds a1_sizes a1_zonesBehind a2_count a2_kinds a2_sizes a2_zonesBehind post nn_2) cr_reached_1 x1_2 := h
      unfold wpB_Crew_weave_2 at h
      refine z_iload C d_Crew_weave_2 1 rfl ?_
      refine z_aload C d_Crew_weave_3 0 rfl ?_
      refine z_get C fl_Crew_12 0 rfl rfl d_Crew_weave_4 ?_
      refine z_get C fl_Crew_62 2 rfl rfl d_Crew_weave_7 ?_
      refine z_icmp_gt C d_Crew_weave_10 (fun c_3 => ?_) (fun c_3 => ?_)
      · replace h := h.1 c_3
        exact ze_vret C cr_reached_1 hr hlk rfl d_Crew_weave_146 h
      · replace h := h.2 c_3
        refine z_k C d_Crew_weave_13 ?_
        refine z_istore C [(2, .int (0 : Int32)), (0, .ref h_cr), (1, .int x1_2)] d_Crew_weave_14 rfl rfl ?_
        obtain ⟨n_15, h⟩ := h
        have LP_15 : ∀ (n : Nat) (cr_reached_4 : Nat → Int32) (x2_5 : Int32), wpL_Crew_weave_15 a1_count a1_kinds a1_sizes a1_zonesBehind a2_count a2_kinds a2_sizes a2_zonesBehind x1_2 (wpL_Crew_weave_2 a1_count a1_kinds a1_sizes a1_zonesBehind a2_count a2_kinds a2_sizes a2_zonesBehind post nn_2) n cr_reached_4 x2_5 → Zw p l e rm_Crew_weave s m args below meth c 0 0 (MQ below (va_Qv (fun (u : (Nat → Int32)) => post u) (QB D [(h_cr, .inr (2, [.ref h_a1, .ref h_a2, .ref h_cr_reached, .ref h_cr_latest, .int cr_hasRun])), (h_cr_reached, cZ κ 289 cr_reached), (h_a1, .inr (0, [.ref h_a1_kinds, .ref h_a1_sizes, .ref h_a1_zonesBehind, .int a1_count, .int a1_done, .int a1_workLeft, .int a1_waits])), (h_a1_kinds, cI κ 16 a1_kinds), (h_a1_sizes, cI κ 16 a1_sizes), (h_a1_zonesBehind, cI κ 17 a1_zonesBehind), (h_a2, .inr (0, [.ref h_a2_kinds, .ref h_a2_sizes, .ref h_a2_zonesBehind, .int a2_count, .int a2_done, .int a2_workLeft, .int a2_waits])), (h_a2_kinds, cI κ 16 a2_kinds), (h_a2_sizes, cI κ 16 a2_sizes), (h_a2_zonesBehind, cI κ 17 a2_zonesBehind)] s.heap.size (fun (u : (Nat → Int32)) => [(h_cr, .inr (2, [.ref h_a1, .ref h_a2, .ref h_cr_reached, .ref h_cr_latest, .int cr_hasRun])), (h_cr_reached, cZ κ 289 u), (h_a1, .inr (0, [.ref h_a1_kinds, .ref h_a1_sizes, .ref h_a1_zonesBehind, .int a1_count, .int a1_done, .int a1_workLeft, .int a1_waits])), (h_a1_kinds, cI κ 16 a1_kinds), (h_a1_sizes, cI κ 16 a1_sizes), (h_a1_zonesBehind, cI κ 17 a1_zonesBehind), (h_a2, .inr (0, [.ref h_a2_kinds, .ref h_a2_sizes, .ref h_a2_zonesBehind, .int a2_count, .int a2_done, .int a2_workLeft, .int a2_waits])), (h_a2_kinds, cI κ 16 a2_kinds), (h_a2_sizes, cI κ 16 a2_sizes), (h_a2_zonesBehind, cI κ 17 a2_zonesBehind)])) (va_A [(h_cr, .inr (2, [.ref h_a1, .ref h_a2, .ref h_cr_reached, .ref h_cr_latest, .int cr_hasRun])), (h_cr_reached, cZ κ 289 cr_reached), (h_a1, .inr (0, [.ref h_a1_kinds, .ref h_a1_sizes, .ref h_a1_zonesBehind, .int a1_count, .int a1_done, .int a1_workLeft, .int a1_waits])), (h_a1_kinds, cI κ 16 a1_kinds), (h_a1_sizes, cI κ 16 a1_sizes), (h_a1_zonesBehind, cI κ 17 a1_zonesBehind), (h_a2, .inr (0, [.ref h_a2_kinds, .ref h_a2_sizes, .ref h_a2_zonesBehind, .int a2_count, .int a2_done, .int a2_workLeft, .int a2_waits])), (h_a2_kinds, cI κ 16 a2_kinds), (h_a2_sizes, cI κ 16 a2_sizes), (h_a2_zonesBehind, cI κ 17 a2_zonesBehind)] s.heap.size)) args s 0 0 (va_A [(h_cr, .inr (2, [.ref h_a1, .ref h_a2, .ref h_cr_reached, .ref h_cr_latest, .int cr_hasRun])), (h_cr_reached, cZ κ 289 cr_reached), (h_a1, .inr (0, [.ref h_a1_kinds, .ref h_a1_sizes, .ref h_a1_zonesBehind, .int a1_count, .int a1_done, .int a1_workLeft, .int a1_waits])), (h_a1_kinds, cI κ 16 a1_kinds), (h_a1_sizes, cI κ 16 a1_sizes), (h_a1_zonesBehind, cI κ 17 a1_zonesBehind), (h_a2, .inr (0, [.ref h_a2_kinds, .ref h_a2_sizes, .ref h_a2_zonesBehind, .int a2_count, .int a2_done, .int a2_workLeft, .int a2_waits])), (h_a2_kinds, cI κ 16 a2_kinds), (h_a2_sizes, cI κ 16 a2_sizes), (h_a2_zonesBehind, cI κ 17 a2_zonesBehind)] s.heap.size)) D 5 (some (va_A [(h_cr, .inr (2, [.ref h_a1, .ref h_a2, .ref h_cr_reached, .ref h_cr_latest, .int cr_hasRun])), (h_cr_reached, cZ κ 289 cr_reached), (h_a1, .inr (0, [.ref h_a1_kinds, .ref h_a1_sizes, .ref h_a1_zonesBehind, .int a1_count, .int a1_done, .int a1_workLeft, .int a1_waits])), (h_a1_kinds, cI κ 16 a1_kinds), (h_a1_sizes, cI κ 16 a1_sizes), (h_a1_zonesBehind, cI κ 17 a1_zonesBehind), (h_a2, .inr (0, [.ref h_a2_kinds, .ref h_a2_sizes, .ref h_a2_zonesBehind, .int a2_count, .int a2_done, .int a2_workLeft, .int a2_waits])), (h_a2_kinds, cI κ 16 a2_kinds), (h_a2_sizes, cI κ 16 a2_sizes), (h_a2_zonesBehind, cI κ 17 a2_zonesBehind)] s.heap.size)) [(h_cr, .inr (2, [.ref h_a1, .ref h_a2, .ref h_cr_reached, .ref h_cr_latest, .int cr_hasRun])), (h_cr_reached, cZ κ 289 cr_reached_4), (h_a1, .inr (0, [.ref h_a1_kinds, .ref h_a1_sizes, .ref h_a1_zonesBehind, .int a1_count, .int a1_done, .int a1_workLeft, .int a1_waits])), (h_a1_kinds, cI κ 16 a1_kinds), (h_a1_sizes, cI κ 16 a1_sizes), (h_a1_zonesBehind, cI κ 17 a1_zonesBehind), (h_a2, .inr (0, [.ref h_a2_kinds, .ref h_a2_sizes, .ref h_a2_zonesBehind, .int a2_count, .int a2_done, .int a2_workLeft, .int a2_waits])), (h_a2_kinds, cI κ 16 a2_kinds), (h_a2_sizes, cI κ 16 a2_sizes), (h_a2_zonesBehind, cI κ 17 a2_zonesBehind)] [(0, .ref h_cr), (1, .int x1_2), (2, .int x2_5)] 15 [] := by
          intro n
          induction n with
          | zero => intro cr_reached_4 x2_5 h; exact False.elim h
          | succ nn_15 IH_15 =>
            intro cr_reached_4 x2_5 h
            have h : wpB_Crew_weave_15 a1_count a1_kinds a1_sizes a1_zonesBehind a2_count a2_kinds a2_sizes a2_zonesBehind x1_2 (wpL_Crew_weave_2 a1_count a1_kinds a1_sizes a1_zonesBehind a2_count a2_kinds a2_sizes a2_zonesBehind post nn_2) (wpL_Crew_weave_15 a1_count a1_kinds a1_sizes a1_zonesBehind a2_count a2_kinds a2_sizes a2_zonesBehind x1_2 (wpL_Crew_weave_2 a1_count a1_kinds a1_sizes a1_zonesBehind a2_count a2_kinds a2_sizes a2_zonesBehind post nn_2) nn_15) cr_reached_4 x2_5 := h
            unfold wpB_Crew_weave_15 at h
            refine z_iload C d_Crew_weave_15 2 rfl ?_
            refine z_aload C d_Crew_weave_16 0 rfl ?_
            refine z_get C fl_Crew_18 0 rfl rfl d_Crew_weave_17 ?_
            refine z_get C fl_Crew_62 6 rfl rfl d_Crew_weave_20 ?_
            refine z_icmp_gt C d_Crew_weave_23 (fun c_6 => ?_) (fun c_6 => ?_)
            · replace h := h.1 c_6
              obtain ⟨x1_7, ex1_7⟩ : ∃ y : Int32, y = x1_2 + (1 : Int32) := ⟨_, rfl⟩
              replace h := h x1_7 ex1_7
              refine z_iinc C [(1, .int x1_7), (0, .ref h_cr), (2, .int x2_5)] d_Crew_weave_140 (j := 1) rfl (by rw [ex1_7]; rfl) rfl rfl ?_
              refine z_goto C d_Crew_weave_143 ?_
              refine z_sub [1, 0] [(0, .ref h_cr), (1, .int x1_7)] rfl ?_
              exact IH_2 cr_reached_4 x1_7 h
            · replace h := h.2 c_6
              refine z_iload C d_Crew_weave_26 1 rfl ?_
              have J_62 : ∀ (w_8 : Int32), wp_Crew_weave_j62_33 a1_zonesBehind a2_count a2_kinds a2_sizes x1_2 cr_reached_4 x2_5 (wpL_Crew_weave_15 a1_count a1_kinds a1_sizes a1_zonesBehind a2_count a2_kinds a2_sizes a2_zonesBehind x1_2 (wpL_Crew_weave_2 a1_count a1_kinds a1_sizes a1_zonesBehind a2_count a2_kinds a2_sizes a2_zonesBehind post nn_2) nn_15) w_8 → Zw p l e rm_Crew_weave s m args below meth c 0 0 (MQ below (va_Qv (fun (u : (Nat → Int32)) => post u) (QB D [(h_cr, .inr (2, [.ref h_a1, .ref h_a2, .ref h_cr_reached, .ref h_cr_latest, .int cr_hasRun])), (h_cr_reached, cZ κ 289 cr_reached), (h_a1, .inr (0, [.ref h_a1_kinds, .ref h_a1_sizes, .ref h_a1_zonesBehind, .int a1_count, .int a1_done, .int a1_workLeft, .int a1_waits])), (h_a1_kinds, cI κ 16 a1_kinds), (h_a1_sizes, cI κ 16 a1_sizes), (h_a1_zonesBehind, cI κ 17 a1_zonesBehind), (h_a2, .inr (0, [.ref h_a2_kinds, .ref h_a2_sizes, .ref h_a2_zonesBehind, .int a2_count, .int a2_done, .int a2_workLeft, .int a2_waits])), (h_a2_kinds, cI κ 16 a2_kinds), (h_a2_sizes, cI κ 16 a2_sizes), (h_a2_zonesBehind, cI κ 17 a2_zonesBehind)] s.heap.size (fun (u : (Nat → Int32)) => [(h_cr, .inr (2, [.ref h_a1, .ref h_a2, .ref h_cr_reached, .ref h_cr_latest, .int cr_hasRun])), (h_cr_reached, cZ κ 289 u), (h_a1, .inr (0, [.ref h_a1_kinds, .ref h_a1_sizes, .ref h_a1_zonesBehind, .int a1_count, .int a1_done, .int a1_workLeft, .int a1_waits])), (h_a1_kinds, cI κ 16 a1_kinds), (h_a1_sizes, cI κ 16 a1_sizes), (h_a1_zonesBehind, cI κ 17 a1_zonesBehind), (h_a2, .inr (0, [.ref h_a2_kinds, .ref h_a2_sizes, .ref h_a2_zonesBehind, .int a2_count, .int a2_done, .int a2_workLeft, .int a2_waits])), (h_a2_kinds, cI κ 16 a2_kinds), (h_a2_sizes, cI κ 16 a2_sizes), (h_a2_zonesBehind, cI κ 17 a2_zonesBehind)])) (va_A [(h_cr, .inr (2, [.ref h_a1, .ref h_a2, .ref h_cr_reached, .ref h_cr_latest, .int cr_hasRun])), (h_cr_reached, cZ κ 289 cr_reached), (h_a1, .inr (0, [.ref h_a1_kinds, .ref h_a1_sizes, .ref h_a1_zonesBehind, .int a1_count, .int a1_done, .int a1_workLeft, .int a1_waits])), (h_a1_kinds, cI κ 16 a1_kinds), (h_a1_sizes, cI κ 16 a1_sizes), (h_a1_zonesBehind, cI κ 17 a1_zonesBehind), (h_a2, .inr (0, [.ref h_a2_kinds, .ref h_a2_sizes, .ref h_a2_zonesBehind, .int a2_count, .int a2_done, .int a2_workLeft, .int a2_waits])), (h_a2_kinds, cI κ 16 a2_kinds), (h_a2_sizes, cI κ 16 a2_sizes), (h_a2_zonesBehind, cI κ 17 a2_zonesBehind)] s.heap.size)) args s 0 0 (va_A [(h_cr, .inr (2, [.ref h_a1, .ref h_a2, .ref h_cr_reached, .ref h_cr_latest, .int cr_hasRun])), (h_cr_reached, cZ κ 289 cr_reached), (h_a1, .inr (0, [.ref h_a1_kinds, .ref h_a1_sizes, .ref h_a1_zonesBehind, .int a1_count, .int a1_done, .int a1_workLeft, .int a1_waits])), (h_a1_kinds, cI κ 16 a1_kinds), (h_a1_sizes, cI κ 16 a1_sizes), (h_a1_zonesBehind, cI κ 17 a1_zonesBehind), (h_a2, .inr (0, [.ref h_a2_kinds, .ref h_a2_sizes, .ref h_a2_zonesBehind, .int a2_count, .int a2_done, .int a2_workLeft, .int a2_waits])), (h_a2_kinds, cI κ 16 a2_kinds), (h_a2_sizes, cI κ 16 a2_sizes), (h_a2_zonesBehind, cI κ 17 a2_zonesBehind)] s.heap.size)) D 5 (some (va_A [(h_cr, .inr (2, [.ref h_a1, .ref h_a2, .ref h_cr_reached, .ref h_cr_latest, .int cr_hasRun])), (h_cr_reached, cZ κ 289 cr_reached), (h_a1, .inr (0, [.ref h_a1_kinds, .ref h_a1_sizes, .ref h_a1_zonesBehind, .int a1_count, .int a1_done, .int a1_workLeft, .int a1_waits])), (h_a1_kinds, cI κ 16 a1_kinds), (h_a1_sizes, cI κ 16 a1_sizes), (h_a1_zonesBehind, cI κ 17 a1_zonesBehind), (h_a2, .inr (0, [.ref h_a2_kinds, .ref h_a2_sizes, .ref h_a2_zonesBehind, .int a2_count, .int a2_done, .int a2_workLeft, .int a2_waits])), (h_a2_kinds, cI κ 16 a2_kinds), (h_a2_sizes, cI κ 16 a2_sizes), (h_a2_zonesBehind, cI κ 17 a2_zonesBehind)] s.heap.size)) [(h_cr, .inr (2, [.ref h_a1, .ref h_a2, .ref h_cr_reached, .ref h_cr_latest, .int cr_hasRun])), (h_cr_reached, cZ κ 289 cr_reached_4), (h_a1, .inr (0, [.ref h_a1_kinds, .ref h_a1_sizes, .ref h_a1_zonesBehind, .int a1_count, .int a1_done, .int a1_workLeft, .int a1_waits])), (h_a1_kinds, cI κ 16 a1_kinds), (h_a1_sizes, cI κ 16 a1_sizes), (h_a1_zonesBehind, cI κ 17 a1_zonesBehind), (h_a2, .inr (0, [.ref h_a2_kinds, .ref h_a2_sizes, .ref h_a2_zonesBehind, .int a2_count, .int a2_done, .int a2_workLeft, .int a2_waits])), (h_a2_kinds, cI κ 16 a2_kinds), (h_a2_sizes, cI κ 16 a2_sizes), (h_a2_zonesBehind, cI κ 17 a2_zonesBehind)] [(0, .ref h_cr), (1, .int x1_2), (2, .int x2_5)] 62 [.int w_8] := by
                intro w_8 h
                unfold wp_Crew_weave_j62_33 at h
                refine z_istore C [(3, .int w_8), (0, .ref h_cr), (1, .int x1_2), (2, .int x2_5)] d_Crew_weave_62 rfl rfl ?_
                refine z_iload C d_Crew_weave_63 3 rfl ?_
                have J_99 : ∀ (w_9 : Int32), wp_Crew_weave_j99_29 x1_2 cr_reached_4 x2_5 (wpL_Crew_weave_15 a1_count a1_kinds a1_sizes a1_zonesBehind a2_count a2_kinds a2_sizes a2_zonesBehind x1_2 (wpL_Crew_weave_2 a1_count a1_kinds a1_sizes a1_zonesBehind a2_count a2_kinds a2_sizes a2_zonesBehind post nn_2) nn_15) w_8 w_9 → Zw p l e rm_Crew_weave s m args below meth c 0 0 (MQ below (va_Qv (fun (u : (Nat → Int32)) => post u) (QB D [(h_cr, .inr (2, [.ref h_a1, .ref h_a2, .ref h_cr_reached, .ref h_cr_latest, .int cr_hasRun])), (h_cr_reached, cZ κ 289 cr_reached), (h_a1, .inr (0, [.ref h_a1_kinds, .ref h_a1_sizes, .ref h_a1_zonesBehind, .int a1_count, .int a1_done, .int a1_workLeft, .int a1_waits])), (h_a1_kinds, cI κ 16 a1_kinds), (h_a1_sizes, cI κ 16 a1_sizes), (h_a1_zonesBehind, cI κ 17 a1_zonesBehind), (h_a2, .inr (0, [.ref h_a2_kinds, .ref h_a2_sizes, .ref h_a2_zonesBehind, .int a2_count, .int a2_done, .int a2_workLeft, .int a2_waits])), (h_a2_kinds, cI κ 16 a2_kinds), (h_a2_sizes, cI κ 16 a2_sizes), (h_a2_zonesBehind, cI κ 17 a2_zonesBehind)] s.heap.size (fun (u : (Nat → Int32)) => [(h_cr, .inr (2, [.ref h_a1, .ref h_a2, .ref h_cr_reached, .ref h_cr_latest, .int cr_hasRun])), (h_cr_reached, cZ κ 289 u), (h_a1, .inr (0, [.ref h_a1_kinds, .ref h_a1_sizes, .ref h_a1_zonesBehind, .int a1_count, .int a1_done, .int a1_workLeft, .int a1_waits])), (h_a1_kinds, cI κ 16 a1_kinds), (h_a1_sizes, cI κ 16 a1_sizes), (h_a1_zonesBehind, cI κ 17 a1_zonesBehind), (h_a2, .inr (0, [.ref h_a2_kinds, .ref h_a2_sizes, .ref h_a2_zonesBehind, .int a2_count, .int a2_done, .int a2_workLeft, .int a2_waits])), (h_a2_kinds, cI κ 16 a2_kinds), (h_a2_sizes, cI κ 16 a2_sizes), (h_a2_zonesBehind, cI κ 17 a2_zonesBehind)])) (va_A [(h_cr, .inr (2, [.ref h_a1, .ref h_a2, .ref h_cr_reached, .ref h_cr_latest, .int cr_hasRun])), (h_cr_reached, cZ κ 289 cr_reached), (h_a1, .inr (0, [.ref h_a1_kinds, .ref h_a1_sizes, .ref h_a1_zonesBehind, .int a1_count, .int a1_done, .int a1_workLeft, .int a1_waits])), (h_a1_kinds, cI κ 16 a1_kinds), (h_a1_sizes, cI κ 16 a1_sizes), (h_a1_zonesBehind, cI κ 17 a1_zonesBehind), (h_a2, .inr (0, [.ref h_a2_kinds, .ref h_a2_sizes, .ref h_a2_zonesBehind, .int a2_count, .int a2_done, .int a2_workLeft, .int a2_waits])), (h_a2_kinds, cI κ 16 a2_kinds), (h_a2_sizes, cI κ 16 a2_sizes), (h_a2_zonesBehind, cI κ 17 a2_zonesBehind)] s.heap.size)) args s 0 0 (va_A [(h_cr, .inr (2, [.ref h_a1, .ref h_a2, .ref h_cr_reached, .ref h_cr_latest, .int cr_hasRun])), (h_cr_reached, cZ κ 289 cr_reached), (h_a1, .inr (0, [.ref h_a1_kinds, .ref h_a1_sizes, .ref h_a1_zonesBehind, .int a1_count, .int a1_done, .int a1_workLeft, .int a1_waits])), (h_a1_kinds, cI κ 16 a1_kinds), (h_a1_sizes, cI κ 16 a1_sizes), (h_a1_zonesBehind, cI κ 17 a1_zonesBehind), (h_a2, .inr (0, [.ref h_a2_kinds, .ref h_a2_sizes, .ref h_a2_zonesBehind, .int a2_count, .int a2_done, .int a2_workLeft, .int a2_waits])), (h_a2_kinds, cI κ 16 a2_kinds), (h_a2_sizes, cI κ 16 a2_sizes), (h_a2_zonesBehind, cI κ 17 a2_zonesBehind)] s.heap.size)) D 5 (some (va_A [(h_cr, .inr (2, [.ref h_a1, .ref h_a2, .ref h_cr_reached, .ref h_cr_latest, .int cr_hasRun])), (h_cr_reached, cZ κ 289 cr_reached), (h_a1, .inr (0, [.ref h_a1_kinds, .ref h_a1_sizes, .ref h_a1_zonesBehind, .int a1_count, .int a1_done, .int a1_workLeft, .int a1_waits])), (h_a1_kinds, cI κ 16 a1_kinds), (h_a1_sizes, cI κ 16 a1_sizes), (h_a1_zonesBehind, cI κ 17 a1_zonesBehind), (h_a2, .inr (0, [.ref h_a2_kinds, .ref h_a2_sizes, .ref h_a2_zonesBehind, .int a2_count, .int a2_done, .int a2_workLeft, .int a2_waits])), (h_a2_kinds, cI κ 16 a2_kinds), (h_a2_sizes, cI κ 16 a2_sizes), (h_a2_zonesBehind, cI κ 17 a2_zonesBehind)] s.heap.size)) [(h_cr, .inr (2, [.ref h_a1, .ref h_a2, .ref h_cr_reached, .ref h_cr_latest, .int cr_hasRun])), (h_cr_reached, cZ κ 289 cr_reached_4), (h_a1, .inr (0, [.ref h_a1_kinds, .ref h_a1_sizes, .ref h_a1_zonesBehind, .int a1_count, .int a1_done, .int a1_workLeft, .int a1_waits])), (h_a1_kinds, cI κ 16 a1_kinds), (h_a1_sizes, cI κ 16 a1_sizes), (h_a1_zonesBehind, cI κ 17 a1_zonesBehind), (h_a2, .inr (0, [.ref h_a2_kinds, .ref h_a2_sizes, .ref h_a2_zonesBehind, .int a2_count, .int a2_done, .int a2_workLeft, .int a2_waits])), (h_a2_kinds, cI κ 16 a2_kinds), (h_a2_sizes, cI κ 16 a2_sizes), (h_a2_zonesBehind, cI κ 17 a2_zonesBehind)] [(0, .ref h_cr), (1, .int x1_2), (2, .int x2_5), (3, .int w_8)] 99 [.int w_9] := by
                  intro w_9 h
                  unfold wp_Crew_weave_j99_29 at h
                  refine z_istore C [(4, .int w_9), (0, .ref h_cr), (1, .int x1_2), (2, .int x2_5), (3, .int w_8)] d_Crew_weave_99 rfl rfl ?_
                  refine z_aload C d_Crew_weave_101 1 rfl ?_
                  refine z_get C fl_Crew_21 0 rfl rfl d_Crew_weave_102 ?_
                  refine z_iload C d_Crew_weave_105 2 rfl ?_
                  refine z_k C d_Crew_weave_106 ?_
                  refine z_imul C d_Crew_weave_108 ?_
                  refine z_iload C d_Crew_weave_109 3 rfl ?_
                  refine z_iadd C d_Crew_weave_110 ?_
                  refine z_iload C d_Crew_weave_111 2 rfl ?_
                  refine z_if_ne C d_Crew_weave_112 (fun c_10 => ?_) (fun c_10 => ?_)
                  · replace h := h.1 c_10
                    refine z_iload C d_Crew_weave_119 4 rfl ?_
                    refine z_if_ne C d_Crew_weave_120 (fun c_11 => ?_) (fun c_11 => ?_)
                    · replace h := h.1 c_11
                      refine z_k C d_Crew_weave_128 ?_
                      refine z_goto C d_Crew_weave_129 ?_
                      obtain ⟨g_12, eg_12⟩ : ∃ y : Nat → Int32, y = upd cr_reached_4 (((x1_2 * (17 : Int32)) + x2_5).toNatClampNeg) (vp_nar .boolean (1 : Int32)) := ⟨_, rfl⟩
                      refine z_zast C 1 rfl h.1 [(h_cr, .inr (2, [.ref h_a1, .ref h_a2, .ref h_cr_reached, .ref h_cr_latest, .int cr_hasRun])), (h_cr_reached, cZ κ 289 g_12), (h_a1, .inr (0, [.ref h_a1_kinds, .ref h_a1_sizes, .ref h_a1_zonesBehind, .int a1_count, .int a1_done, .int a1_workLeft, .int a1_waits])), (h_a1_kinds, cI κ 16 a1_kinds), (h_a1_sizes, cI κ 16 a1_sizes), (h_a1_zonesBehind, cI κ 17 a1_zonesBehind), (h_a2, .inr (0, [.ref h_a2_kinds, .ref h_a2_sizes, .ref h_a2_zonesBehind, .int a2_count, .int a2_done, .int a2_workLeft, .int a2_waits])), (h_a2_kinds, cI κ 16 a2_kinds), (h_a2_sizes, cI κ 16 a2_sizes), (h_a2_zonesBehind, cI κ 17 a2_zonesBehind)] (by rw [eg_12]; rfl) d_Crew_weave_133 ?_
                      replace h := h.2 g_12 eg_12
                      obtain ⟨x2_13, ex2_13⟩ : ∃ y : Int32, y = x2_5 + (1 : Int32) := ⟨_, rfl⟩
                      replace h := h x2_13 ex2_13
                      refine z_iinc C [(2, .int x2_13), (4, .int w_9), (0, .ref h_cr), (1, .int x1_2), (3, .int w_8)] d_Crew_weave_134 (j := 3) rfl (by rw [ex2_13]; rfl) rfl rfl ?_
                      refine z_goto C d_Crew_weave_137 ?_
                      refine z_sub [2, 3, 0] [(0, .ref h_cr), (1, .int x1_2), (2, .int x2_13)] rfl ?_
                      exact IH_15 g_12 x2_13 h
                    · replace h := h.2 c_11
                      refine z_iload C d_Crew_weave_123 0 rfl ?_
                      refine z_if_eq C d_Crew_weave_125 (fun c_14 => ?_) (fun c_14 => ?_)
                      · replace h := h.1 c_14
                        refine z_k C d_Crew_weave_132 ?_
                        obtain ⟨g_15, eg_15⟩ : ∃ y : Nat → Int32, y = upd cr_reached_4 (((x1_2 * (17 : Int32)) + x2_5).toNatClampNeg) (vp_nar .boolean (0 : Int32)) := ⟨_, rfl⟩
                        refine z_zast C 1 rfl h.1 [(h_cr, .inr (2, [.ref h_a1, .ref h_a2, .ref h_cr_reached, .ref h_cr_latest, .int cr_hasRun])), (h_cr_reached, cZ κ 289 g_15), (h_a1, .inr (0, [.ref h_a1_kinds, .ref h_a1_sizes, .ref h_a1_zonesBehind, .int a1_count, .int a1_done, .int a1_workLeft, .int a1_waits])), (h_a1_kinds, cI κ 16 a1_kinds), (h_a1_sizes, cI κ 16 a1_sizes), (h_a1_zonesBehind, cI κ 17 a1_zonesBehind), (h_a2, .inr (0, [.ref h_a2_kinds, .ref h_a2_sizes, .ref h_a2_zonesBehind, .int a2_count, .int a2_done, .int a2_workLeft, .int a2_waits])), (h_a2_kinds, cI κ 16 a2_kinds), (h_a2_sizes, cI κ 16 a2_sizes), (h_a2_zonesBehind, cI κ 17 a2_zonesBehind)] (by rw [eg_15]; rfl) d_Crew_weave_133 ?_
                        replace h := h.2 g_15 eg_15
                        obtain ⟨x2_16, ex2_16⟩ : ∃ y : Int32, y = x2_5 + (1 : Int32) := ⟨_, rfl⟩
                        replace h := h x2_16 ex2_16
                        refine z_iinc C [(2, .int x2_16), (4, .int w_9), (0, .ref h_cr), (1, .int x1_2), (3, .int w_8)] d_Crew_weave_134 (j := 3) rfl (by rw [ex2_16]; rfl) rfl rfl ?_
                        refine z_goto C d_Crew_weave_137 ?_
                        refine z_sub [2, 3, 0] [(0, .ref h_cr), (1, .int x1_2), (2, .int x2_16)] rfl ?_
                        exact IH_15 g_15 x2_16 h
                      · replace h := h.2 c_14
                        refine z_k C d_Crew_weave_128 ?_
                        refine z_goto C d_Crew_weave_129 ?_
                        obtain ⟨g_17, eg_17⟩ : ∃ y : Nat → Int32, y = upd cr_reached_4 (((x1_2 * (17 : Int32)) + x2_5).toNatClampNeg) (vp_nar .boolean (1 : Int32)) := ⟨_, rfl⟩
                        refine z_zast C 1 rfl h.1 [(h_cr, .inr (2, [.ref h_a1, .ref h_a2, .ref h_cr_reached, .ref h_cr_latest, .int cr_hasRun])), (h_cr_reached, cZ κ 289 g_17), (h_a1, .inr (0, [.ref h_a1_kinds, .ref h_a1_sizes, .ref h_a1_zonesBehind, .int a1_count, .int a1_done, .int a1_workLeft, .int a1_waits])), (h_a1_kinds, cI κ 16 a1_kinds), (h_a1_sizes, cI κ 16 a1_sizes), (h_a1_zonesBehind, cI κ 17 a1_zonesBehind), (h_a2, .inr (0, [.ref h_a2_kinds, .ref h_a2_sizes, .ref h_a2_zonesBehind, .int a2_count, .int a2_done, .int a2_workLeft, .int a2_waits])), (h_a2_kinds, cI κ 16 a2_kinds), (h_a2_sizes, cI κ 16 a2_sizes), (h_a2_zonesBehind, cI κ 17 a2_zonesBehind)] (by rw [eg_17]; rfl) d_Crew_weave_133 ?_
                        replace h := h.2 g_17 eg_17
                        obtain ⟨x2_18, ex2_18⟩ : ∃ y : Int32, y = x2_5 + (1 : Int32) := ⟨_, rfl⟩
                        replace h := h x2_18 ex2_18
                        refine z_iinc C [(2, .int x2_18), (4, .int w_9), (0, .ref h_cr), (1, .int x1_2), (3, .int w_8)] d_Crew_weave_134 (j := 3) rfl (by rw [ex2_18]; rfl) rfl rfl ?_
                        refine z_goto C d_Crew_weave_137 ?_
                        refine z_sub [2, 3, 0] [(0, .ref h_cr), (1, .int x1_2), (2, .int x2_18)] rfl ?_
                        exact IH_15 g_17 x2_18 h
                  · replace h := h.2 c_10
                    refine z_iload C d_Crew_weave_115 3 rfl ?_
                    refine z_if_eq C d_Crew_weave_116 (fun c_19 => ?_) (fun c_19 => ?_)
                    · replace h := h.1 c_19
                      refine z_k C d_Crew_weave_128 ?_
                      refine z_goto C d_Crew_weave_129 ?_
                      obtain ⟨g_20, eg_20⟩ : ∃ y : Nat → Int32, y = upd cr_reached_4 (((x1_2 * (17 : Int32)) + x2_5).toNatClampNeg) (vp_nar .boolean (1 : Int32)) := ⟨_, rfl⟩
                      refine z_zast C 1 rfl h.1 [(h_cr, .inr (2, [.ref h_a1, .ref h_a2, .ref h_cr_reached, .ref h_cr_latest, .int cr_hasRun])), (h_cr_reached, cZ κ 289 g_20), (h_a1, .inr (0, [.ref h_a1_kinds, .ref h_a1_sizes, .ref h_a1_zonesBehind, .int a1_count, .int a1_done, .int a1_workLeft, .int a1_waits])), (h_a1_kinds, cI κ 16 a1_kinds), (h_a1_sizes, cI κ 16 a1_sizes), (h_a1_zonesBehind, cI κ 17 a1_zonesBehind), (h_a2, .inr (0, [.ref h_a2_kinds, .ref h_a2_sizes, .ref h_a2_zonesBehind, .int a2_count, .int a2_done, .int a2_workLeft, .int a2_waits])), (h_a2_kinds, cI κ 16 a2_kinds), (h_a2_sizes, cI κ 16 a2_sizes), (h_a2_zonesBehind, cI κ 17 a2_zonesBehind)] (by rw [eg_20]; rfl) d_Crew_weave_133 ?_
                      replace h := h.2 g_20 eg_20
                      obtain ⟨x2_21, ex2_21⟩ : ∃ y : Int32, y = x2_5 + (1 : Int32) := ⟨_, rfl⟩
                      replace h := h x2_21 ex2_21
                      refine z_iinc C [(2, .int x2_21), (4, .int w_9), (0, .ref h_cr), (1, .int x1_2), (3, .int w_8)] d_Crew_weave_134 (j := 3) rfl (by rw [ex2_21]; rfl) rfl rfl ?_
                      refine z_goto C d_Crew_weave_137 ?_
                      refine z_sub [2, 3, 0] [(0, .ref h_cr), (1, .int x1_2), (2, .int x2_21)] rfl ?_
                      exact IH_15 g_20 x2_21 h
                    · replace h := h.2 c_19
                      refine z_iload C d_Crew_weave_119 4 rfl ?_
                      refine z_if_ne C d_Crew_weave_120 (fun c_22 => ?_) (fun c_22 => ?_)
                      · replace h := h.1 c_22
                        refine z_k C d_Crew_weave_128 ?_
                        refine z_goto C d_Crew_weave_129 ?_
                        obtain ⟨g_23, eg_23⟩ : ∃ y : Nat → Int32, y = upd cr_reached_4 (((x1_2 * (17 : Int32)) + x2_5).toNatClampNeg) (vp_nar .boolean (1 : Int32)) := ⟨_, rfl⟩
                        refine z_zast C 1 rfl h.1 [(h_cr, .inr (2, [.ref h_a1, .ref h_a2, .ref h_cr_reached, .ref h_cr_latest, .int cr_hasRun])), (h_cr_reached, cZ κ 289 g_23), (h_a1, .inr (0, [.ref h_a1_kinds, .ref h_a1_sizes, .ref h_a1_zonesBehind, .int a1_count, .int a1_done, .int a1_workLeft, .int a1_waits])), (h_a1_kinds, cI κ 16 a1_kinds), (h_a1_sizes, cI κ 16 a1_sizes), (h_a1_zonesBehind, cI κ 17 a1_zonesBehind), (h_a2, .inr (0, [.ref h_a2_kinds, .ref h_a2_sizes, .ref h_a2_zonesBehind, .int a2_count, .int a2_done, .int a2_workLeft, .int a2_waits])), (h_a2_kinds, cI κ 16 a2_kinds), (h_a2_sizes, cI κ 16 a2_sizes), (h_a2_zonesBehind, cI κ 17 a2_zonesBehind)] (by rw [eg_23]; rfl) d_Crew_weave_133 ?_
                        replace h := h.2 g_23 eg_23
                        obtain ⟨x2_24, ex2_24⟩ : ∃ y : Int32, y = x2_5 + (1 : Int32) := ⟨_, rfl⟩
                        replace h := h x2_24 ex2_24
                        refine z_iinc C [(2, .int x2_24), (4, .int w_9), (0, .ref h_cr), (1, .int x1_2), (3, .int w_8)] d_Crew_weave_134 (j := 3) rfl (by rw [ex2_24]; rfl) rfl rfl ?_
                        refine z_goto C d_Crew_weave_137 ?_
                        refine z_sub [2, 3, 0] [(0, .ref h_cr), (1, .int x1_2), (2, .int x2_24)] rfl ?_
                        exact IH_15 g_23 x2_24 h
                      · replace h := h.2 c_22
                        refine z_iload C d_Crew_weave_123 0 rfl ?_
                        refine z_if_eq C d_Crew_weave_125 (fun c_25 => ?_) (fun c_25 => ?_)
                        · replace h := h.1 c_25
                          refine z_k C d_Crew_weave_132 ?_
                          obtain ⟨g_26, eg_26⟩ : ∃ y : Nat → Int32, y = upd cr_reached_4 (((x1_2 * (17 : Int32)) + x2_5).toNatClampNeg) (vp_nar .boolean (0 : Int32)) := ⟨_, rfl⟩
                          refine z_zast C 1 rfl h.1 [(h_cr, .inr (2, [.ref h_a1, .ref h_a2, .ref h_cr_reached, .ref h_cr_latest, .int cr_hasRun])), (h_cr_reached, cZ κ 289 g_26), (h_a1, .inr (0, [.ref h_a1_kinds, .ref h_a1_sizes, .ref h_a1_zonesBehind, .int a1_count, .int a1_done, .int a1_workLeft, .int a1_waits])), (h_a1_kinds, cI κ 16 a1_kinds), (h_a1_sizes, cI κ 16 a1_sizes), (h_a1_zonesBehind, cI κ 17 a1_zonesBehind), (h_a2, .inr (0, [.ref h_a2_kinds, .ref h_a2_sizes, .ref h_a2_zonesBehind, .int a2_count, .int a2_done, .int a2_workLeft, .int a2_waits])), (h_a2_kinds, cI κ 16 a2_kinds), (h_a2_sizes, cI κ 16 a2_sizes), (h_a2_zonesBehind, cI κ 17 a2_zonesBehind)] (by rw [eg_26]; rfl) d_Crew_weave_133 ?_
                          replace h := h.2 g_26 eg_26
                          obtain ⟨x2_27, ex2_27⟩ : ∃ y : Int32, y = x2_5 + (1 : Int32) := ⟨_, rfl⟩
                          replace h := h x2_27 ex2_27
                          refine z_iinc C [(2, .int x2_27), (4, .int w_9), (0, .ref h_cr), (1, .int x1_2), (3, .int w_8)] d_Crew_weave_134 (j := 3) rfl (by rw [ex2_27]; rfl) rfl rfl ?_
                          refine z_goto C d_Crew_weave_137 ?_
                          refine z_sub [2, 3, 0] [(0, .ref h_cr), (1, .int x1_2), (2, .int x2_27)] rfl ?_
                          exact IH_15 g_26 x2_27 h
                        · replace h := h.2 c_25
                          refine z_k C d_Crew_weave_128 ?_
                          refine z_goto C d_Crew_weave_129 ?_
                          obtain ⟨g_28, eg_28⟩ : ∃ y : Nat → Int32, y = upd cr_reached_4 (((x1_2 * (17 : Int32)) + x2_5).toNatClampNeg) (vp_nar .boolean (1 : Int32)) := ⟨_, rfl⟩
                          refine z_zast C 1 rfl h.1 [(h_cr, .inr (2, [.ref h_a1, .ref h_a2, .ref h_cr_reached, .ref h_cr_latest, .int cr_hasRun])), (h_cr_reached, cZ κ 289 g_28), (h_a1, .inr (0, [.ref h_a1_kinds, .ref h_a1_sizes, .ref h_a1_zonesBehind, .int a1_count, .int a1_done, .int a1_workLeft, .int a1_waits])), (h_a1_kinds, cI κ 16 a1_kinds), (h_a1_sizes, cI κ 16 a1_sizes), (h_a1_zonesBehind, cI κ 17 a1_zonesBehind), (h_a2, .inr (0, [.ref h_a2_kinds, .ref h_a2_sizes, .ref h_a2_zonesBehind, .int a2_count, .int a2_done, .int a2_workLeft, .int a2_waits])), (h_a2_kinds, cI κ 16 a2_kinds), (h_a2_sizes, cI κ 16 a2_sizes), (h_a2_zonesBehind, cI κ 17 a2_zonesBehind)] (by rw [eg_28]; rfl) d_Crew_weave_133 ?_
                          replace h := h.2 g_28 eg_28
                          obtain ⟨x2_29, ex2_29⟩ : ∃ y : Int32, y = x2_5 + (1 : Int32) := ⟨_, rfl⟩
                          replace h := h x2_29 ex2_29
                          refine z_iinc C [(2, .int x2_29), (4, .int w_9), (0, .ref h_cr), (1, .int x1_2), (3, .int w_8)] d_Crew_weave_134 (j := 3) rfl (by rw [ex2_29]; rfl) rfl rfl ?_
                          refine z_goto C d_Crew_weave_137 ?_
                          refine z_sub [2, 3, 0] [(0, .ref h_cr), (1, .int x1_2), (2, .int x2_29)] rfl ?_
                          exact IH_15 g_28 x2_29 h
                refine z_if_le C d_Crew_weave_64 (fun c_30 => ?_) (fun c_30 => ?_)
                · replace h := h.1 c_30
                  refine z_k C d_Crew_weave_98 ?_
                  refine z_sub [1, 2, 3, 0] [(0, .ref h_cr), (1, .int x1_2), (2, .int x2_5), (3, .int w_8)] rfl ?_
                  exact J_99 (0 : Int32) h
                · replace h := h.2 c_30
                  refine z_aload C d_Crew_weave_67 1 rfl ?_
                  refine z_get C fl_Crew_21 0 rfl rfl d_Crew_weave_68 ?_
                  refine z_iload C d_Crew_weave_71 2 rfl ?_
                  refine z_k C d_Crew_weave_72 ?_
                  refine z_imul C d_Crew_weave_74 ?_
                  refine z_iload C d_Crew_weave_75 3 rfl ?_
                  refine z_iadd C d_Crew_weave_76 ?_
                  refine z_k C d_Crew_weave_77 ?_
                  refine z_isub C d_Crew_weave_78 ?_
                  refine z_zald C 1 rfl h.1 d_Crew_weave_79 ?_
                  replace h := h.2
                  refine z_if_eq C d_Crew_weave_80 (fun c_31 => ?_) (fun c_31 => ?_)
                  · replace h := h.1 c_31
                    refine z_k C d_Crew_weave_98 ?_
                    refine z_sub [1, 2, 3, 0] [(0, .ref h_cr), (1, .int x1_2), (2, .int x2_5), (3, .int w_8)] rfl ?_
                    exact J_99 (0 : Int32) h
                  · replace h := h.2 c_31
                    refine z_aload C d_Crew_weave_83 1 rfl ?_
                    refine z_iload C d_Crew_weave_84 2 rfl ?_
                    refine z_iload C d_Crew_weave_85 3 rfl ?_
                    refine z_k C d_Crew_weave_86 ?_
                    refine z_isub C d_Crew_weave_87 ?_
                    refine z_vpi C (rest := []) (c_Crew_secondGoes l D κ h_cr h_a1 h_a2 h_cr_reached h_cr_latest h_a1_kinds h_a1_sizes h_a1_zonesBehind h_a2_kinds h_a2_sizes h_a2_zonesBehind cr_hasRun a1_count a1_done a1_workLeft a1_waits a1_zonesBehind a2_count a2_done a2_workLeft a2_waits a2_kinds a2_sizes x1_2 (x2_5 - (1 : Int32)) _ h) cv_Crew_72 ⟨rfl, rfl⟩ ⟨⟨Nat.le_of_ble_eq_true rfl, Nat.le_of_ble_eq_true rfl⟩, Nat.le_of_ble_eq_true rfl, Nat.le_of_ble_eq_true rfl⟩ 0 rfl [0, 2, 5, 6, 7, 8] rfl rfl rfl (Nat.le_of_ble_eq_true rfl) d_Crew_weave_88 (fun r_32 h => ?_)
                    refine z_if_eq C d_Crew_weave_91 (fun c_33 => ?_) (fun c_33 => ?_)
                    · replace h := h.1 c_33
                      refine z_k C d_Crew_weave_98 ?_
                      refine z_sub [1, 2, 3, 0] [(0, .ref h_cr), (1, .int x1_2), (2, .int x2_5), (3, .int w_8)] rfl ?_
                      exact J_99 (0 : Int32) h
                    · replace h := h.2 c_33
                      refine z_k C d_Crew_weave_94 ?_
                      refine z_goto C d_Crew_weave_95 ?_
                      refine z_sub [1, 2, 3, 0] [(0, .ref h_cr), (1, .int x1_2), (2, .int x2_5), (3, .int w_8)] rfl ?_
                      exact J_99 (1 : Int32) h
              refine z_if_le C d_Crew_weave_27 (fun c_34 => ?_) (fun c_34 => ?_)
              · replace h := h.1 c_34
                refine z_k C d_Crew_weave_61 ?_
                refine z_sub [0, 1, 2] [(0, .ref h_cr), (1, .int x1_2), (2, .int x2_5)] rfl ?_
                exact J_62 (0 : Int32) h
              · replace h := h.2 c_34
                refine z_aload C d_Crew_weave_30 0 rfl ?_
                refine z_get C fl_Crew_21 0 rfl rfl d_Crew_weave_31 ?_
                refine z_iload C d_Crew_weave_34 1 rfl ?_
                refine z_k C d_Crew_weave_35 ?_
                refine z_isub C d_Crew_weave_36 ?_
                refine z_k C d_Crew_weave_37 ?_
                refine z_imul C d_Crew_weave_39 ?_
                refine z_iload C d_Crew_weave_40 2 rfl ?_
                refine z_iadd C d_Crew_weave_41 ?_
                refine z_zald C 1 rfl h.1 d_Crew_weave_42 ?_
                replace h := h.2
                refine z_if_eq C d_Crew_weave_43 (fun c_35 => ?_) (fun c_35 => ?_)
                · replace h := h.1 c_35
                  refine z_k C d_Crew_weave_61 ?_
                  refine z_sub [0, 1, 2] [(0, .ref h_cr), (1, .int x1_2), (2, .int x2_5)] rfl ?_
                  exact J_62 (0 : Int32) h
                · replace h := h.2 c_35
                  refine z_aload C d_Crew_weave_46 0 rfl ?_
                  refine z_iload C d_Crew_weave_47 1 rfl ?_
                  refine z_k C d_Crew_weave_48 ?_
                  refine z_isub C d_Crew_weave_49 ?_
                  refine z_iload C d_Crew_weave_50 2 rfl ?_
                  refine z_vpi C (rest := []) (c_Crew_firstGoes l D κ h_cr h_a1 h_a2 h_cr_reached h_cr_latest h_a1_kinds h_a1_sizes h_a1_zonesBehind h_a2_kinds h_a2_sizes h_a2_zonesBehind cr_hasRun a1_count a1_done a1_workLeft a1_waits a1_kinds a1_sizes a2_count a2_done a2_workLeft a2_waits a2_zonesBehind (x1_2 - (1 : Int32)) x2_5 _ h) cv_Crew_69 ⟨rfl, rfl⟩ ⟨⟨Nat.le_of_ble_eq_true rfl, Nat.le_of_ble_eq_true rfl⟩, Nat.le_of_ble_eq_true rfl, Nat.le_of_ble_eq_true rfl⟩ 0 rfl [0, 2, 3, 4, 6, 9] rfl rfl rfl (Nat.le_of_ble_eq_true rfl) d_Crew_weave_51 (fun r_36 h => ?_)
                  refine z_if_eq C d_Crew_weave_54 (fun c_37 => ?_) (fun c_37 => ?_)
                  · replace h := h.1 c_37
                    refine z_k C d_Crew_weave_61 ?_
                    refine z_sub [0, 1, 2] [(0, .ref h_cr), (1, .int x1_2), (2, .int x2_5)] rfl ?_
                    exact J_62 (0 : Int32) h
                  · replace h := h.2 c_37
                    refine z_k C d_Crew_weave_57 ?_
                    refine z_goto C d_Crew_weave_58 ?_
                    refine z_sub [0, 1, 2] [(0, .ref h_cr), (1, .int x1_2), (2, .int x2_5)] rfl ?_
                    exact J_62 (1 : Int32) h
        refine z_sub [1, 2, 0] [(0, .ref h_cr), (1, .int x1_2), (2, .int (0 : Int32))] rfl ?_
        exact LP_15 n_15 cr_reached_1 (0 : Int32) h
  refine z_sub [1, 0] [(0, .ref h_cr), (1, .int (0 : Int32))] rfl ?_
  exact LP_2 n_2 cr_reached (0 : Int32) h
def wpB_Crew_countPairs_21 (a2_count : Int32) (cr_reached_1 : Nat → Int32) (x2_3 : Int32) (ih_8 : Int32 → Int32 → Prop) (ih_21 : Int32 → Int32 → Prop) (x1_5 : Int32) (x3_6 : Int32) : Prop :=
  ((a2_count < x3_6 → (∀ x2_8 : Int32, x2_8 = x2_3 + (1 : Int32) → (ih_8 x1_5 x2_8))) ∧ (¬ a2_count < x3_6 → (vp_in ((x2_3 * (17 : Int32)) + x3_6) 289 ∧ (((cr_reached_1 (((x2_3 * (17 : Int32)) + x3_6).toNatClampNeg)) = 0 → (∀ x3_10 : Int32, x3_10 = x3_6 + (1 : Int32) → (ih_21 x1_5 x3_10))) ∧ (¬ (cr_reached_1 (((x2_3 * (17 : Int32)) + x3_6).toNatClampNeg)) = 0 → (∀ x1_11 : Int32, x1_11 = x1_5 + (1 : Int32) → (∀ x3_12 : Int32, x3_12 = x3_6 + (1 : Int32) → (ih_21 x1_11 x3_12))))))))
noncomputable def wpL_Crew_countPairs_21 (a2_count : Int32) (cr_reached_1 : Nat → Int32) (x2_3 : Int32) (ih_8 : Int32 → Int32 → Prop) : Nat → Int32 → Int32 → Prop := fun n => @Nat.rec (fun _ => Int32 → Int32 → Prop) (fun _ _ => False) (fun _ ih_21 => wpB_Crew_countPairs_21 a2_count cr_reached_1 x2_3 ih_8 ih_21) n
def wpB_Crew_countPairs_8 (a1_count : Int32) (a2_count : Int32) (post : Int32 → (Nat → Int32) → Prop) (cr_reached_1 : Nat → Int32) (ih_8 : Int32 → Int32 → Prop) (x1_2 : Int32) (x2_3 : Int32) : Prop :=
  ((a1_count < x2_3 → (post x1_2 cr_reached_1)) ∧ (¬ a1_count < x2_3 → (∃ n : Nat, wpL_Crew_countPairs_21 a2_count cr_reached_1 x2_3 ih_8 n x1_2 (0 : Int32))))
noncomputable def wpL_Crew_countPairs_8 (a1_count : Int32) (a2_count : Int32) (post : Int32 → (Nat → Int32) → Prop) (cr_reached_1 : Nat → Int32) : Nat → Int32 → Int32 → Prop := fun n => @Nat.rec (fun _ => Int32 → Int32 → Prop) (fun _ _ => False) (fun _ ih_8 => wpB_Crew_countPairs_8 a1_count a2_count post cr_reached_1 ih_8) n
def wp_Crew_countPairs (cr_reached : Nat → Int32) (a1_count : Int32) (a1_kinds : Nat → Int32) (a1_sizes : Nat → Int32) (a1_zonesBehind : Nat → Int32) (a2_count : Int32) (a2_kinds : Nat → Int32) (a2_sizes : Nat → Int32) (a2_zonesBehind : Nat → Int32) (post : Int32 → (Nat → Int32) → Prop) : Prop :=
  (wp_Crew_weave cr_reached a1_count a1_kinds a1_sizes a1_zonesBehind a2_count a2_kinds a2_sizes a2_zonesBehind (fun cr_reached_1 => (∃ n : Nat, wpL_Crew_countPairs_8 a1_count a2_count post cr_reached_1 n (0 : Int32) (0 : Int32))))
abbrev rm_Crew_countPairs : Room := { frames := 3, cells := 0, slots := 0, locals := 68 }
set_option maxHeartbeats 4000000 in
set_option maxRecDepth 100000 in
theorem c_Crew_countPairs (l : Launch) (D : va_G) (κ : KT) (h_cr : Nat) (h_a1 : Nat) (h_a2 : Nat) (h_cr_reached : Nat) (h_cr_latest : Nat) (h_a1_kinds : Nat) (h_a1_sizes : Nat) (h_a1_zonesBehind : Nat) (h_a2_kinds : Nat) (h_a2_sizes : Nat) (h_a2_zonesBehind : Nat) (cr_hasRun : Int32) (cr_reached : Nat → Int32) (a1_count : Int32) (a1_done : Int32) (a1_workLeft : Int32) (a1_waits : Int32) (a1_kinds : Nat → Int32) (a1_sizes : Nat → Int32) (a1_zonesBehind : Nat → Int32) (a2_count : Int32) (a2_done : Int32) (a2_workLeft : Int32) (a2_waits : Int32) (a2_kinds : Nat → Int32) (a2_sizes : Nat → Int32) (a2_zonesBehind : Nat → Int32) (sz : Nat) (post : Int32 → (Nat → Int32) → Prop) (h : wp_Crew_countPairs cr_reached a1_count a1_kinds a1_sizes a1_zonesBehind a2_count a2_kinds a2_sizes a2_zonesBehind post) : Met l y_Crew_countPairs (wsG y_Crew_countPairs b_Crew_countPairs 4 (some .int)) rm_Crew_countPairs (PE D κ [.ref h_cr] [(h_cr, .inr (2, [.ref h_a1, .ref h_a2, .ref h_cr_reached, .ref h_cr_latest, .int cr_hasRun])), (h_cr_reached, cZ κ 289 cr_reached), (h_a1, .inr (0, [.ref h_a1_kinds, .ref h_a1_sizes, .ref h_a1_zonesBehind, .int a1_count, .int a1_done, .int a1_workLeft, .int a1_waits])), (h_a1_kinds, cI κ 16 a1_kinds), (h_a1_sizes, cI κ 16 a1_sizes), (h_a1_zonesBehind, cI κ 17 a1_zonesBehind), (h_a2, .inr (0, [.ref h_a2_kinds, .ref h_a2_sizes, .ref h_a2_zonesBehind, .int a2_count, .int a2_done, .int a2_workLeft, .int a2_waits])), (h_a2_kinds, cI κ 16 a2_kinds), (h_a2_sizes, cI κ 16 a2_sizes), (h_a2_zonesBehind, cI κ 17 a2_zonesBehind)] sz) (va_Qi (fun (r : Int32) (u : (Nat → Int32)) => post r u) (QB D [(h_cr, .inr (2, [.ref h_a1, .ref h_a2, .ref h_cr_reached, .ref h_cr_latest, .int cr_hasRun])), (h_cr_reached, cZ κ 289 cr_reached), (h_a1, .inr (0, [.ref h_a1_kinds, .ref h_a1_sizes, .ref h_a1_zonesBehind, .int a1_count, .int a1_done, .int a1_workLeft, .int a1_waits])), (h_a1_kinds, cI κ 16 a1_kinds), (h_a1_sizes, cI κ 16 a1_sizes), (h_a1_zonesBehind, cI κ 17 a1_zonesBehind), (h_a2, .inr (0, [.ref h_a2_kinds, .ref h_a2_sizes, .ref h_a2_zonesBehind, .int a2_count, .int a2_done, .int a2_workLeft, .int a2_waits])), (h_a2_kinds, cI κ 16 a2_kinds), (h_a2_sizes, cI κ 16 a2_sizes), (h_a2_zonesBehind, cI κ 17 a2_zonesBehind)] sz (fun (u : (Nat → Int32)) => [(h_cr, .inr (2, [.ref h_a1, .ref h_a2, .ref h_cr_reached, .ref h_cr_latest, .int cr_hasRun])), (h_cr_reached, cZ κ 289 u), (h_a1, .inr (0, [.ref h_a1_kinds, .ref h_a1_sizes, .ref h_a1_zonesBehind, .int a1_count, .int a1_done, .int a1_workLeft, .int a1_waits])), (h_a1_kinds, cI κ 16 a1_kinds), (h_a1_sizes, cI κ 16 a1_sizes), (h_a1_zonesBehind, cI κ 17 a1_zonesBehind), (h_a2, .inr (0, [.ref h_a2_kinds, .ref h_a2_sizes, .ref h_a2_zonesBehind, .int a2_count, .int a2_done, .int a2_workLeft, .int a2_waits])), (h_a2_kinds, cI κ 16 a2_kinds), (h_a2_sizes, cI κ 16 a2_sizes), (h_a2_zonesBehind, cI κ 17 a2_zonesBehind)])) (va_A [(h_cr, .inr (2, [.ref h_a1, .ref h_a2, .ref h_cr_reached, .ref h_cr_latest, .int cr_hasRun])), (h_cr_reached, cZ κ 289 cr_reached), (h_a1, .inr (0, [.ref h_a1_kinds, .ref h_a1_sizes, .ref h_a1_zonesBehind, .int a1_count, .int a1_done, .int a1_workLeft, .int a1_waits])), (h_a1_kinds, cI κ 16 a1_kinds), (h_a1_sizes, cI κ 16 a1_sizes), (h_a1_zonesBehind, cI κ 17 a1_zonesBehind), (h_a2, .inr (0, [.ref h_a2_kinds, .ref h_a2_sizes, .ref h_a2_zonesBehind, .int a2_count, .int a2_done, .int a2_workLeft, .int a2_waits])), (h_a2_kinds, cI κ 16 a2_kinds), (h_a2_sizes, cI κ 16 a2_sizes), (h_a2_zonesBehind, cI κ 17 a2_zonesBehind)] sz)) 0 0 (va_A [(h_cr, .inr (2, [.ref h_a1, .ref h_a2, .ref h_cr_reached, .ref h_cr_latest, .int cr_hasRun])), (h_cr_reached, cZ κ 289 cr_reached), (h_a1, .inr (0, [.ref h_a1_kinds, .ref h_a1_sizes, .ref h_a1_zonesBehind, .int a1_count, .int a1_done, .int a1_workLeft, .int a1_waits])), (h_a1_kinds, cI κ 16 a1_kinds), (h_a1_sizes, cI κ 16 a1_sizes), (h_a1_zonesBehind, cI κ 17 a1_zonesBehind), (h_a2, .inr (0, [.ref h_a2_kinds, .ref h_a2_sizes, .ref h_a2_zonesBehind, .int a2_count, .int a2_done, .int a2_workLeft, .int a2_waits])), (h_a2_kinds, cI κ 16 a2_kinds), (h_a2_sizes, cI κ 16 a2_sizes), (h_a2_zonesBehind, cI κ 17 a2_zonesBehind)] sz) := by
  refine ze_start [(0, .ref h_cr)] rfl (Nat.le_of_ble_eq_true rfl) rfl ?_
  intro p e s m args below meth c C hr hlk hnm hsz
  subst hsz
  unfold wp_Crew_countPairs at h
  refine z_aload C d_Crew_countPairs_0 0 rfl ?_
  refine z_vev C (rest := []) (wr := []) (fun sz => c_Crew_weave l D κ h_cr h_a1 h_a2 h_cr_reached h_cr_latest h_a1_kinds h_a1_sizes h_a1_zonesBehind h_a2_kinds h_a2_sizes h_a2_zonesBehind cr_hasRun cr_reached a1_count a1_done a1_workLeft a1_waits a1_kinds a1_sizes a1_zonesBehind a2_count a2_done a2_workLeft a2_waits a2_kinds a2_sizes a2_zonesBehind sz _ h) cv_Crew_59 ⟨rfl, rfl⟩ ⟨⟨Nat.le_of_ble_eq_true rfl, Nat.le_of_ble_eq_true rfl⟩, Nat.le_of_ble_eq_true rfl, Nat.le_of_ble_eq_true rfl⟩ 0 rfl [0, 1, 2, 3, 4, 5, 6, 7, 8, 9] [] rfl rfl rfl (fun u => [(h_cr, .inr (2, [.ref h_a1, .ref h_a2, .ref h_cr_reached, .ref h_cr_latest, .int cr_hasRun])), (h_cr_reached, cZ κ 289 u), (h_a1, .inr (0, [.ref h_a1_kinds, .ref h_a1_sizes, .ref h_a1_zonesBehind, .int a1_count, .int a1_done, .int a1_workLeft, .int a1_waits])), (h_a1_kinds, cI κ 16 a1_kinds), (h_a1_sizes, cI κ 16 a1_sizes), (h_a1_zonesBehind, cI κ 17 a1_zonesBehind), (h_a2, .inr (0, [.ref h_a2_kinds, .ref h_a2_sizes, .ref h_a2_zonesBehind, .int a2_count, .int a2_done, .int a2_workLeft, .int a2_waits])), (h_a2_kinds, cI κ 16 a2_kinds), (h_a2_sizes, cI κ 16 a2_sizes), (h_a2_zonesBehind, cI κ 17 a2_zonesBehind)]) [0, 1, 2, 3, 4, 5, 6, 7, 8, 9] rfl (fun _ => rfl) rfl rfl (Nat.le_of_ble_eq_true rfl) d_Crew_countPairs_1 (fun cr_reached_1 h => ?_)
  (try dsimp only at h); (try dsimp only)
  refine z_k C d_Crew_countPairs_4 ?_
  refine z_istore C [(1, .int (0 : Int32)), (0, .ref h_cr)] d_Crew_countPairs_5 rfl rfl ?_
  refine z_k C d_Crew_countPairs_6 ?_
  refine z_istore C [(2, .int (0 : Int32)), (1, .int (0 : Int32)), (0, .ref h_cr)] d_Crew_countPairs_7 rfl rfl ?_
  obtain ⟨n_8, h⟩ := h
  have LP_8 : ∀ (n : Nat) (x1_2 : Int32) (x2_3 : Int32), wpL_Crew_countPairs_8 a1_count a2_count post cr_reached_1 n x1_2 x2_3 → Zw p l e rm_Crew_countPairs s m args below meth c 0 0 (MQ below (va_Qi (fun (r : Int32) (u : (Nat → Int32)) => post r u) (QB D [(h_cr, .inr (2, [.ref h_a1, .ref h_a2, .ref h_cr_reached, .ref h_cr_latest, .int cr_hasRun])), (h_cr_reached, cZ κ 289 cr_reached), (h_a1, .inr (0, [.ref h_a1_kinds, .ref h_a1_sizes, .ref h_a1_zonesBehind, .int a1_count, .int a1_done, .int a1_workLeft, .int a1_waits])), (h_a1_kinds, cI κ 16 a1_kinds), (h_a1_sizes, cI κ 16 a1_sizes), (h_a1_zonesBehind, cI κ 17 a1_zonesBehind), (h_a2, .inr (0, [.ref h_a2_kinds, .ref h_a2_sizes, .ref h_a2_zonesBehind, .int a2_count, .int a2_done, .int a2_workLeft, .int a2_waits])), (h_a2_kinds, cI κ 16 a2_kinds), (h_a2_sizes, cI κ 16 a2_sizes), (h_a2_zonesBehind, cI κ 17 a2_zonesBehind)] s.heap.size (fun (u : (Nat → Int32)) => [(h_cr, .inr (2, [.ref h_a1, .ref h_a2, .ref h_cr_reached, .ref h_cr_latest, .int cr_hasRun])), (h_cr_reached, cZ κ 289 u), (h_a1, .inr (0, [.ref h_a1_kinds, .ref h_a1_sizes, .ref h_a1_zonesBehind, .int a1_count, .int a1_done, .int a1_workLeft, .int a1_waits])), (h_a1_kinds, cI κ 16 a1_kinds), (h_a1_sizes, cI κ 16 a1_sizes), (h_a1_zonesBehind, cI κ 17 a1_zonesBehind), (h_a2, .inr (0, [.ref h_a2_kinds, .ref h_a2_sizes, .ref h_a2_zonesBehind, .int a2_count, .int a2_done, .int a2_workLeft, .int a2_waits])), (h_a2_kinds, cI κ 16 a2_kinds), (h_a2_sizes, cI κ 16 a2_sizes), (h_a2_zonesBehind, cI κ 17 a2_zonesBehind)])) (va_A [(h_cr, .inr (2, [.ref h_a1, .ref h_a2, .ref h_cr_reached, .ref h_cr_latest, .int cr_hasRun])), (h_cr_reached, cZ κ 289 cr_reached), (h_a1, .inr (0, [.ref h_a1_kinds, .ref h_a1_sizes, .ref h_a1_zonesBehind, .int a1_count, .int a1_done, .int a1_workLeft, .int a1_waits])), (h_a1_kinds, cI κ 16 a1_kinds), (h_a1_sizes, cI κ 16 a1_sizes), (h_a1_zonesBehind, cI κ 17 a1_zonesBehind), (h_a2, .inr (0, [.ref h_a2_kinds, .ref h_a2_sizes, .ref h_a2_zonesBehind, .int a2_count, .int a2_done, .int a2_workLeft, .int a2_waits])), (h_a2_kinds, cI κ 16 a2_kinds), (h_a2_sizes, cI κ 16 a2_sizes), (h_a2_zonesBehind, cI κ 17 a2_zonesBehind)] s.heap.size)) args s 0 0 (va_A [(h_cr, .inr (2, [.ref h_a1, .ref h_a2, .ref h_cr_reached, .ref h_cr_latest, .int cr_hasRun])), (h_cr_reached, cZ κ 289 cr_reached), (h_a1, .inr (0, [.ref h_a1_kinds, .ref h_a1_sizes, .ref h_a1_zonesBehind, .int a1_count, .int a1_done, .int a1_workLeft, .int a1_waits])), (h_a1_kinds, cI κ 16 a1_kinds), (h_a1_sizes, cI κ 16 a1_sizes), (h_a1_zonesBehind, cI κ 17 a1_zonesBehind), (h_a2, .inr (0, [.ref h_a2_kinds, .ref h_a2_sizes, .ref h_a2_zonesBehind, .int a2_count, .int a2_done, .int a2_workLeft, .int a2_waits])), (h_a2_kinds, cI κ 16 a2_kinds), (h_a2_sizes, cI κ 16 a2_sizes), (h_a2_zonesBehind, cI κ 17 a2_zonesBehind)] s.heap.size)) D 4 (some (va_A [(h_cr, .inr (2, [.ref h_a1, .ref h_a2, .ref h_cr_reached, .ref h_cr_latest, .int cr_hasRun])), (h_cr_reached, cZ κ 289 cr_reached), (h_a1, .inr (0, [.ref h_a1_kinds, .ref h_a1_sizes, .ref h_a1_zonesBehind, .int a1_count, .int a1_done, .int a1_workLeft, .int a1_waits])), (h_a1_kinds, cI κ 16 a1_kinds), (h_a1_sizes, cI κ 16 a1_sizes), (h_a1_zonesBehind, cI κ 17 a1_zonesBehind), (h_a2, .inr (0, [.ref h_a2_kinds, .ref h_a2_sizes, .ref h_a2_zonesBehind, .int a2_count, .int a2_done, .int a2_workLeft, .int a2_waits])), (h_a2_kinds, cI κ 16 a2_kinds), (h_a2_sizes, cI κ 16 a2_sizes), (h_a2_zonesBehind, cI κ 17 a2_zonesBehind)] s.heap.size)) [(h_cr, .inr (2, [.ref h_a1, .ref h_a2, .ref h_cr_reached, .ref h_cr_latest, .int cr_hasRun])), (h_cr_reached, cZ κ 289 cr_reached_1), (h_a1, .inr (0, [.ref h_a1_kinds, .ref h_a1_sizes, .ref h_a1_zonesBehind, .int a1_count, .int a1_done, .int a1_workLeft, .int a1_waits])), (h_a1_kinds, cI κ 16 a1_kinds), (h_a1_sizes, cI κ 16 a1_sizes), (h_a1_zonesBehind, cI κ 17 a1_zonesBehind), (h_a2, .inr (0, [.ref h_a2_kinds, .ref h_a2_sizes, .ref h_a2_zonesBehind, .int a2_count, .int a2_done, .int a2_workLeft, .int a2_waits])), (h_a2_kinds, cI κ 16 a2_kinds), (h_a2_sizes, cI κ 16 a2_sizes), (h_a2_zonesBehind, cI κ 17 a2_zonesBehind)] [(0, .ref h_cr), (1, .int x1_2), (2, .int x2_3)] 8 [] := by
    intro n
    induction n with
    | zero => intro x1_2 x2_3 h; exact False.elim h
    | succ nn_8 IH_8 =>
      intro x1_2 x2_3 h
      have h : wpB_Crew_countPairs_8 a1_count a2_count post cr_reached_1 (wpL_Crew_countPairs_8 a1_count a2_count post cr_reached_1 nn_8) x1_2 x2_3 := h
      unfold wpB_Crew_countPairs_8 at h
      refine z_iload C d_Crew_countPairs_8 2 rfl ?_
      refine z_aload C d_Crew_countPairs_9 0 rfl ?_
      refine z_get C fl_Crew_12 0 rfl rfl d_Crew_countPairs_10 ?_
      refine z_get C fl_Crew_62 2 rfl rfl d_Crew_countPairs_13 ?_
      refine z_icmp_gt C d_Crew_countPairs_16 (fun c_4 => ?_) (fun c_4 => ?_)
      · replace h := h.1 c_4
        refine z_iload C d_Crew_countPairs_61 1 rfl ?_
        exact ze_iret C cr_reached_1 hr hlk rfl d_Crew_countPairs_62 h
      · replace h := h.2 c_4
        refine z_k C d_Crew_countPairs_19 ?_
        refine z_istore C [(3, .int (0 : Int32)), (0, .ref h_cr), (1, .int x1_2), (2, .int x2_3)] d_Crew_countPairs_20 rfl rfl ?_
        obtain ⟨n_21, h⟩ := h
        have LP_21 : ∀ (n : Nat) (x1_5 : Int32) (x3_6 : Int32), wpL_Crew_countPairs_21 a2_count cr_reached_1 x2_3 (wpL_Crew_countPairs_8 a1_count a2_count post cr_reached_1 nn_8) n x1_5 x3_6 → Zw p l e rm_Crew_countPairs s m args below meth c 0 0 (MQ below (va_Qi (fun (r : Int32) (u : (Nat → Int32)) => post r u) (QB D [(h_cr, .inr (2, [.ref h_a1, .ref h_a2, .ref h_cr_reached, .ref h_cr_latest, .int cr_hasRun])), (h_cr_reached, cZ κ 289 cr_reached), (h_a1, .inr (0, [.ref h_a1_kinds, .ref h_a1_sizes, .ref h_a1_zonesBehind, .int a1_count, .int a1_done, .int a1_workLeft, .int a1_waits])), (h_a1_kinds, cI κ 16 a1_kinds), (h_a1_sizes, cI κ 16 a1_sizes), (h_a1_zonesBehind, cI κ 17 a1_zonesBehind), (h_a2, .inr (0, [.ref h_a2_kinds, .ref h_a2_sizes, .ref h_a2_zonesBehind, .int a2_count, .int a2_done, .int a2_workLeft, .int a2_waits])), (h_a2_kinds, cI κ 16 a2_kinds), (h_a2_sizes, cI κ 16 a2_sizes), (h_a2_zonesBehind, cI κ 17 a2_zonesBehind)] s.heap.size (fun (u : (Nat → Int32)) => [(h_cr, .inr (2, [.ref h_a1, .ref h_a2, .ref h_cr_reached, .ref h_cr_latest, .int cr_hasRun])), (h_cr_reached, cZ κ 289 u), (h_a1, .inr (0, [.ref h_a1_kinds, .ref h_a1_sizes, .ref h_a1_zonesBehind, .int a1_count, .int a1_done, .int a1_workLeft, .int a1_waits])), (h_a1_kinds, cI κ 16 a1_kinds), (h_a1_sizes, cI κ 16 a1_sizes), (h_a1_zonesBehind, cI κ 17 a1_zonesBehind), (h_a2, .inr (0, [.ref h_a2_kinds, .ref h_a2_sizes, .ref h_a2_zonesBehind, .int a2_count, .int a2_done, .int a2_workLeft, .int a2_waits])), (h_a2_kinds, cI κ 16 a2_kinds), (h_a2_sizes, cI κ 16 a2_sizes), (h_a2_zonesBehind, cI κ 17 a2_zonesBehind)])) (va_A [(h_cr, .inr (2, [.ref h_a1, .ref h_a2, .ref h_cr_reached, .ref h_cr_latest, .int cr_hasRun])), (h_cr_reached, cZ κ 289 cr_reached), (h_a1, .inr (0, [.ref h_a1_kinds, .ref h_a1_sizes, .ref h_a1_zonesBehind, .int a1_count, .int a1_done, .int a1_workLeft, .int a1_waits])), (h_a1_kinds, cI κ 16 a1_kinds), (h_a1_sizes, cI κ 16 a1_sizes), (h_a1_zonesBehind, cI κ 17 a1_zonesBehind), (h_a2, .inr (0, [.ref h_a2_kinds, .ref h_a2_sizes, .ref h_a2_zonesBehind, .int a2_count, .int a2_done, .int a2_workLeft, .int a2_waits])), (h_a2_kinds, cI κ 16 a2_kinds), (h_a2_sizes, cI κ 16 a2_sizes), (h_a2_zonesBehind, cI κ 17 a2_zonesBehind)] s.heap.size)) args s 0 0 (va_A [(h_cr, .inr (2, [.ref h_a1, .ref h_a2, .ref h_cr_reached, .ref h_cr_latest, .int cr_hasRun])), (h_cr_reached, cZ κ 289 cr_reached), (h_a1, .inr (0, [.ref h_a1_kinds, .ref h_a1_sizes, .ref h_a1_zonesBehind, .int a1_count, .int a1_done, .int a1_workLeft, .int a1_waits])), (h_a1_kinds, cI κ 16 a1_kinds), (h_a1_sizes, cI κ 16 a1_sizes), (h_a1_zonesBehind, cI κ 17 a1_zonesBehind), (h_a2, .inr (0, [.ref h_a2_kinds, .ref h_a2_sizes, .ref h_a2_zonesBehind, .int a2_count, .int a2_done, .int a2_workLeft, .int a2_waits])), (h_a2_kinds, cI κ 16 a2_kinds), (h_a2_sizes, cI κ 16 a2_sizes), (h_a2_zonesBehind, cI κ 17 a2_zonesBehind)] s.heap.size)) D 4 (some (va_A [(h_cr, .inr (2, [.ref h_a1, .ref h_a2, .ref h_cr_reached, .ref h_cr_latest, .int cr_hasRun])), (h_cr_reached, cZ κ 289 cr_reached), (h_a1, .inr (0, [.ref h_a1_kinds, .ref h_a1_sizes, .ref h_a1_zonesBehind, .int a1_count, .int a1_done, .int a1_workLeft, .int a1_waits])), (h_a1_kinds, cI κ 16 a1_kinds), (h_a1_sizes, cI κ 16 a1_sizes), (h_a1_zonesBehind, cI κ 17 a1_zonesBehind), (h_a2, .inr (0, [.ref h_a2_kinds, .ref h_a2_sizes, .ref h_a2_zonesBehind, .int a2_count, .int a2_done, .int a2_workLeft, .int a2_waits])), (h_a2_kinds, cI κ 16 a2_kinds), (h_a2_sizes, cI κ 16 a2_sizes), (h_a2_zonesBehind, cI κ 17 a2_zonesBehind)] s.heap.size)) [(h_cr, .inr (2, [.ref h_a1, .ref h_a2, .ref h_cr_reached, .ref h_cr_latest, .int cr_hasRun])), (h_cr_reached, cZ κ 289 cr_reached_1), (h_a1, .inr (0, [.ref h_a1_kinds, .ref h_a1_sizes, .ref h_a1_zonesBehind, .int a1_count, .int a1_done, .int a1_workLeft, .int a1_waits])), (h_a1_kinds, cI κ 16 a1_kinds), (h_a1_sizes, cI κ 16 a1_sizes), (h_a1_zonesBehind, cI κ 17 a1_zonesBehind), (h_a2, .inr (0, [.ref h_a2_kinds, .ref h_a2_sizes, .ref h_a2_zonesBehind, .int a2_count, .int a2_done, .int a2_workLeft, .int a2_waits])), (h_a2_kinds, cI κ 16 a2_kinds), (h_a2_sizes, cI κ 16 a2_sizes), (h_a2_zonesBehind, cI κ 17 a2_zonesBehind)] [(0, .ref h_cr), (1, .int x1_5), (2, .int x2_3), (3, .int x3_6)] 21 [] := by
          intro n
          induction n with
          | zero => intro x1_5 x3_6 h; exact False.elim h
          | succ nn_21 IH_21 =>
            intro x1_5 x3_6 h
            have h : wpB_Crew_countPairs_21 a2_count cr_reached_1 x2_3 (wpL_Crew_countPairs_8 a1_count a2_count post cr_reached_1 nn_8) (wpL_Crew_countPairs_21 a2_count cr_reached_1 x2_3 (wpL_Crew_countPairs_8 a1_count a2_count post cr_reached_1 nn_8) nn_21) x1_5 x3_6 := h
            unfold wpB_Crew_countPairs_21 at h
            refine z_iload C d_Crew_countPairs_21 3 rfl ?_
            refine z_aload C d_Crew_countPairs_22 0 rfl ?_
            refine z_get C fl_Crew_18 0 rfl rfl d_Crew_countPairs_23 ?_
            refine z_get C fl_Crew_62 6 rfl rfl d_Crew_countPairs_26 ?_
            refine z_icmp_gt C d_Crew_countPairs_29 (fun c_7 => ?_) (fun c_7 => ?_)
            · replace h := h.1 c_7
              obtain ⟨x2_8, ex2_8⟩ : ∃ y : Int32, y = x2_3 + (1 : Int32) := ⟨_, rfl⟩
              replace h := h x2_8 ex2_8
              refine z_iinc C [(2, .int x2_8), (0, .ref h_cr), (1, .int x1_5), (3, .int x3_6)] d_Crew_countPairs_55 (j := 2) rfl (by rw [ex2_8]; rfl) rfl rfl ?_
              refine z_goto C d_Crew_countPairs_58 ?_
              refine z_sub [1, 2, 0] [(0, .ref h_cr), (1, .int x1_5), (2, .int x2_8)] rfl ?_
              exact IH_8 x1_5 x2_8 h
            · replace h := h.2 c_7
              refine z_aload C d_Crew_countPairs_32 0 rfl ?_
              refine z_get C fl_Crew_21 0 rfl rfl d_Crew_countPairs_33 ?_
              refine z_iload C d_Crew_countPairs_36 2 rfl ?_
              refine z_k C d_Crew_countPairs_37 ?_
              refine z_imul C d_Crew_countPairs_39 ?_
              refine z_iload C d_Crew_countPairs_40 3 rfl ?_
              refine z_iadd C d_Crew_countPairs_41 ?_
              refine z_zald C 1 rfl h.1 d_Crew_countPairs_42 ?_
              replace h := h.2
              refine z_if_eq C d_Crew_countPairs_43 (fun c_9 => ?_) (fun c_9 => ?_)
              · replace h := h.1 c_9
                obtain ⟨x3_10, ex3_10⟩ : ∃ y : Int32, y = x3_6 + (1 : Int32) := ⟨_, rfl⟩
                replace h := h x3_10 ex3_10
                refine z_iinc C [(3, .int x3_10), (0, .ref h_cr), (1, .int x1_5), (2, .int x2_3)] d_Crew_countPairs_49 (j := 3) rfl (by rw [ex3_10]; rfl) rfl rfl ?_
                refine z_goto C d_Crew_countPairs_52 ?_
                refine z_sub [1, 2, 3, 0] [(0, .ref h_cr), (1, .int x1_5), (2, .int x2_3), (3, .int x3_10)] rfl ?_
                exact IH_21 x1_5 x3_10 h
              · replace h := h.2 c_9
                obtain ⟨x1_11, ex1_11⟩ : ∃ y : Int32, y = x1_5 + (1 : Int32) := ⟨_, rfl⟩
                replace h := h x1_11 ex1_11
                refine z_iinc C [(1, .int x1_11), (0, .ref h_cr), (2, .int x2_3), (3, .int x3_6)] d_Crew_countPairs_46 (j := 1) rfl (by rw [ex1_11]; rfl) rfl rfl ?_
                obtain ⟨x3_12, ex3_12⟩ : ∃ y : Int32, y = x3_6 + (1 : Int32) := ⟨_, rfl⟩
                replace h := h x3_12 ex3_12
                refine z_iinc C [(3, .int x3_12), (1, .int x1_11), (0, .ref h_cr), (2, .int x2_3)] d_Crew_countPairs_49 (j := 3) rfl (by rw [ex3_12]; rfl) rfl rfl ?_
                refine z_goto C d_Crew_countPairs_52 ?_
                refine z_sub [2, 1, 3, 0] [(0, .ref h_cr), (1, .int x1_11), (2, .int x2_3), (3, .int x3_12)] rfl ?_
                exact IH_21 x1_11 x3_12 h
        refine z_sub [1, 2, 3, 0] [(0, .ref h_cr), (1, .int x1_2), (2, .int x2_3), (3, .int (0 : Int32))] rfl ?_
        exact LP_21 n_21 x1_2 (0 : Int32) h
  refine z_sub [2, 1, 0] [(0, .ref h_cr), (1, .int (0 : Int32)), (2, .int (0 : Int32))] rfl ?_
  exact LP_8 n_8 (0 : Int32) (0 : Int32) h
def wpB_Crew_countLocks_21 (a1_count : Int32) (a1_kinds : Nat → Int32) (a1_sizes : Nat → Int32) (a1_zonesBehind : Nat → Int32) (a2_count : Int32) (a2_kinds : Nat → Int32) (a2_sizes : Nat → Int32) (a2_zonesBehind : Nat → Int32) (cr_reached_1 : Nat → Int32) (x2_3 : Int32) (ih_8 : Int32 → Int32 → Prop) (ih_21 : Int32 → Int32 → Prop) (x1_5 : Int32) (x3_6 : Int32) : Prop :=
  ((a2_count < x3_6 → (∀ x2_8 : Int32, x2_8 = x2_3 + (1 : Int32) → (ih_8 x1_5 x2_8))) ∧ (¬ a2_count < x3_6 → (wp_Crew_isLock cr_reached_1 a1_count a1_kinds a1_sizes a1_zonesBehind a2_count a2_kinds a2_sizes a2_zonesBehind x2_3 x3_6 (fun r_9 => ((r_9 = 0 → (∀ x3_11 : Int32, x3_11 = x3_6 + (1 : Int32) → (ih_21 x1_5 x3_11))) ∧ (¬ r_9 = 0 → (∀ x1_12 : Int32, x1_12 = x1_5 + (1 : Int32) → (∀ x3_13 : Int32, x3_13 = x3_6 + (1 : Int32) → (ih_21 x1_12 x3_13)))))))))
noncomputable def wpL_Crew_countLocks_21 (a1_count : Int32) (a1_kinds : Nat → Int32) (a1_sizes : Nat → Int32) (a1_zonesBehind : Nat → Int32) (a2_count : Int32) (a2_kinds : Nat → Int32) (a2_sizes : Nat → Int32) (a2_zonesBehind : Nat → Int32) (cr_reached_1 : Nat → Int32) (x2_3 : Int32) (ih_8 : Int32 → Int32 → Prop) : Nat → Int32 → Int32 → Prop := fun n => @Nat.rec (fun _ => Int32 → Int32 → Prop) (fun _ _ => False) (fun _ ih_21 => wpB_Crew_countLocks_21 a1_count a1_kinds a1_sizes a1_zonesBehind a2_count a2_kinds a2_sizes a2_zonesBehind cr_reached_1 x2_3 ih_8 ih_21) n
def wpB_Crew_countLocks_8 (a1_count : Int32) (a1_kinds : Nat → Int32) (a1_sizes : Nat → Int32) (a1_zonesBehind : Nat → Int32) (a2_count : Int32) (a2_kinds : Nat → Int32) (a2_sizes : Nat → Int32) (a2_zonesBehind : Nat → Int32) (post : Int32 → (Nat → Int32) → Prop) (cr_reached_1 : Nat → Int32) (ih_8 : Int32 → Int32 → Prop) (x1_2 : Int32) (x2_3 : Int32) : Prop :=
  ((a1_count < x2_3 → (post x1_2 cr_reached_1)) ∧ (¬ a1_count < x2_3 → (∃ n : Nat, wpL_Crew_countLocks_21 a1_count a1_kinds a1_sizes a1_zonesBehind a2_count a2_kinds a2_sizes a2_zonesBehind cr_reached_1 x2_3 ih_8 n x1_2 (0 : Int32))))
noncomputable def wpL_Crew_countLocks_8 (a1_count : Int32) (a1_kinds : Nat → Int32) (a1_sizes : Nat → Int32) (a1_zonesBehind : Nat → Int32) (a2_count : Int32) (a2_kinds : Nat → Int32) (a2_sizes : Nat → Int32) (a2_zonesBehind : Nat → Int32) (post : Int32 → (Nat → Int32) → Prop) (cr_reached_1 : Nat → Int32) : Nat → Int32 → Int32 → Prop := fun n => @Nat.rec (fun _ => Int32 → Int32 → Prop) (fun _ _ => False) (fun _ ih_8 => wpB_Crew_countLocks_8 a1_count a1_kinds a1_sizes a1_zonesBehind a2_count a2_kinds a2_sizes a2_zonesBehind post cr_reached_1 ih_8) n
def wp_Crew_countLocks (cr_reached : Nat → Int32) (a1_count : Int32) (a1_kinds : Nat → Int32) (a1_sizes : Nat → Int32) (a1_zonesBehind : Nat → Int32) (a2_count : Int32) (a2_kinds : Nat → Int32) (a2_sizes : Nat → Int32) (a2_zonesBehind : Nat → Int32) (post : Int32 → (Nat → Int32) → Prop) : Prop :=
  (wp_Crew_weave cr_reached a1_count a1_kinds a1_sizes a1_zonesBehind a2_count a2_kinds a2_sizes a2_zonesBehind (fun cr_reached_1 => (∃ n : Nat, wpL_Crew_countLocks_8 a1_count a1_kinds a1_sizes a1_zonesBehind a2_count a2_kinds a2_sizes a2_zonesBehind post cr_reached_1 n (0 : Int32) (0 : Int32))))
abbrev rm_Crew_countLocks : Room := { frames := 3, cells := 0, slots := 0, locals := 68 }
set_option maxHeartbeats 4000000 in
set_option maxRecDepth 100000 in
theorem c_Crew_countLocks (l : Launch) (D : va_G) (κ : KT) (h_cr : Nat) (h_a1 : Nat) (h_a2 : Nat) (h_cr_reached : Nat) (h_cr_latest : Nat) (h_a1_kinds : Nat) (h_a1_sizes : Nat) (h_a1_zonesBehind : Nat) (h_a2_kinds : Nat) (h_a2_sizes : Nat) (h_a2_zonesBehind : Nat) (cr_hasRun : Int32) (cr_reached : Nat → Int32) (a1_count : Int32) (a1_done : Int32) (a1_workLeft : Int32) (a1_waits : Int32) (a1_kinds : Nat → Int32) (a1_sizes : Nat → Int32) (a1_zonesBehind : Nat → Int32) (a2_count : Int32) (a2_done : Int32) (a2_workLeft : Int32) (a2_waits : Int32) (a2_kinds : Nat → Int32) (a2_sizes : Nat → Int32) (a2_zonesBehind : Nat → Int32) (sz : Nat) (post : Int32 → (Nat → Int32) → Prop) (h : wp_Crew_countLocks cr_reached a1_count a1_kinds a1_sizes a1_zonesBehind a2_count a2_kinds a2_sizes a2_zonesBehind post) : Met l y_Crew_countLocks (wsG y_Crew_countLocks b_Crew_countLocks 4 (some .int)) rm_Crew_countLocks (PE D κ [.ref h_cr] [(h_cr, .inr (2, [.ref h_a1, .ref h_a2, .ref h_cr_reached, .ref h_cr_latest, .int cr_hasRun])), (h_cr_reached, cZ κ 289 cr_reached), (h_a1, .inr (0, [.ref h_a1_kinds, .ref h_a1_sizes, .ref h_a1_zonesBehind, .int a1_count, .int a1_done, .int a1_workLeft, .int a1_waits])), (h_a1_kinds, cI κ 16 a1_kinds), (h_a1_sizes, cI κ 16 a1_sizes), (h_a1_zonesBehind, cI κ 17 a1_zonesBehind), (h_a2, .inr (0, [.ref h_a2_kinds, .ref h_a2_sizes, .ref h_a2_zonesBehind, .int a2_count, .int a2_done, .int a2_workLeft, .int a2_waits])), (h_a2_kinds, cI κ 16 a2_kinds), (h_a2_sizes, cI κ 16 a2_sizes), (h_a2_zonesBehind, cI κ 17 a2_zonesBehind)] sz) (va_Qi (fun (r : Int32) (u : (Nat → Int32)) => post r u) (QB D [(h_cr, .inr (2, [.ref h_a1, .ref h_a2, .ref h_cr_reached, .ref h_cr_latest, .int cr_hasRun])), (h_cr_reached, cZ κ 289 cr_reached), (h_a1, .inr (0, [.ref h_a1_kinds, .ref h_a1_sizes, .ref h_a1_zonesBehind, .int a1_count, .int a1_done, .int a1_workLeft, .int a1_waits])), (h_a1_kinds, cI κ 16 a1_kinds), (h_a1_sizes, cI κ 16 a1_sizes), (h_a1_zonesBehind, cI κ 17 a1_zonesBehind), (h_a2, .inr (0, [.ref h_a2_kinds, .ref h_a2_sizes, .ref h_a2_zonesBehind, .int a2_count, .int a2_done, .int a2_workLeft, .int a2_waits])), (h_a2_kinds, cI κ 16 a2_kinds), (h_a2_sizes, cI κ 16 a2_sizes), (h_a2_zonesBehind, cI κ 17 a2_zonesBehind)] sz (fun (u : (Nat → Int32)) => [(h_cr, .inr (2, [.ref h_a1, .ref h_a2, .ref h_cr_reached, .ref h_cr_latest, .int cr_hasRun])), (h_cr_reached, cZ κ 289 u), (h_a1, .inr (0, [.ref h_a1_kinds, .ref h_a1_sizes, .ref h_a1_zonesBehind, .int a1_count, .int a1_done, .int a1_workLeft, .int a1_waits])), (h_a1_kinds, cI κ 16 a1_kinds), (h_a1_sizes, cI κ 16 a1_sizes), (h_a1_zonesBehind, cI κ 17 a1_zonesBehind), (h_a2, .inr (0, [.ref h_a2_kinds, .ref h_a2_sizes, .ref h_a2_zonesBehind, .int a2_count, .int a2_done, .int a2_workLeft, .int a2_waits])), (h_a2_kinds, cI κ 16 a2_kinds), (h_a2_sizes, cI κ 16 a2_sizes), (h_a2_zonesBehind, cI κ 17 a2_zonesBehind)])) (va_A [(h_cr, .inr (2, [.ref h_a1, .ref h_a2, .ref h_cr_reached, .ref h_cr_latest, .int cr_hasRun])), (h_cr_reached, cZ κ 289 cr_reached), (h_a1, .inr (0, [.ref h_a1_kinds, .ref h_a1_sizes, .ref h_a1_zonesBehind, .int a1_count, .int a1_done, .int a1_workLeft, .int a1_waits])), (h_a1_kinds, cI κ 16 a1_kinds), (h_a1_sizes, cI κ 16 a1_sizes), (h_a1_zonesBehind, cI κ 17 a1_zonesBehind), (h_a2, .inr (0, [.ref h_a2_kinds, .ref h_a2_sizes, .ref h_a2_zonesBehind, .int a2_count, .int a2_done, .int a2_workLeft, .int a2_waits])), (h_a2_kinds, cI κ 16 a2_kinds), (h_a2_sizes, cI κ 16 a2_sizes), (h_a2_zonesBehind, cI κ 17 a2_zonesBehind)] sz)) 0 0 (va_A [(h_cr, .inr (2, [.ref h_a1, .ref h_a2, .ref h_cr_reached, .ref h_cr_latest, .int cr_hasRun])), (h_cr_reached, cZ κ 289 cr_reached), (h_a1, .inr (0, [.ref h_a1_kinds, .ref h_a1_sizes, .ref h_a1_zonesBehind, .int a1_count, .int a1_done, .int a1_workLeft, .int a1_waits])), (h_a1_kinds, cI κ 16 a1_kinds), (h_a1_sizes, cI κ 16 a1_sizes), (h_a1_zonesBehind, cI κ 17 a1_zonesBehind), (h_a2, .inr (0, [.ref h_a2_kinds, .ref h_a2_sizes, .ref h_a2_zonesBehind, .int a2_count, .int a2_done, .int a2_workLeft, .int a2_waits])), (h_a2_kinds, cI κ 16 a2_kinds), (h_a2_sizes, cI κ 16 a2_sizes), (h_a2_zonesBehind, cI κ 17 a2_zonesBehind)] sz) := by
  refine ze_start [(0, .ref h_cr)] rfl (Nat.le_of_ble_eq_true rfl) rfl ?_
  intro p e s m args below meth c C hr hlk hnm hsz
  subst hsz
  unfold wp_Crew_countLocks at h
  refine z_aload C d_Crew_countLocks_0 0 rfl ?_
  refine z_vev C (rest := []) (wr := []) (fun sz => c_Crew_weave l D κ h_cr h_a1 h_a2 h_cr_reached h_cr_latest h_a1_kinds h_a1_sizes h_a1_zonesBehind h_a2_kinds h_a2_sizes h_a2_zonesBehind cr_hasRun cr_reached a1_count a1_done a1_workLeft a1_waits a1_kinds a1_sizes a1_zonesBehind a2_count a2_done a2_workLeft a2_waits a2_kinds a2_sizes a2_zonesBehind sz _ h) cv_Crew_59 ⟨rfl, rfl⟩ ⟨⟨Nat.le_of_ble_eq_true rfl, Nat.le_of_ble_eq_true rfl⟩, Nat.le_of_ble_eq_true rfl, Nat.le_of_ble_eq_true rfl⟩ 0 rfl [0, 1, 2, 3, 4, 5, 6, 7, 8, 9] [] rfl rfl rfl (fun u => [(h_cr, .inr (2, [.ref h_a1, .ref h_a2, .ref h_cr_reached, .ref h_cr_latest, .int cr_hasRun])), (h_cr_reached, cZ κ 289 u), (h_a1, .inr (0, [.ref h_a1_kinds, .ref h_a1_sizes, .ref h_a1_zonesBehind, .int a1_count, .int a1_done, .int a1_workLeft, .int a1_waits])), (h_a1_kinds, cI κ 16 a1_kinds), (h_a1_sizes, cI κ 16 a1_sizes), (h_a1_zonesBehind, cI κ 17 a1_zonesBehind), (h_a2, .inr (0, [.ref h_a2_kinds, .ref h_a2_sizes, .ref h_a2_zonesBehind, .int a2_count, .int a2_done, .int a2_workLeft, .int a2_waits])), (h_a2_kinds, cI κ 16 a2_kinds), (h_a2_sizes, cI κ 16 a2_sizes), (h_a2_zonesBehind, cI κ 17 a2_zonesBehind)]) [0, 1, 2, 3, 4, 5, 6, 7, 8, 9] rfl (fun _ => rfl) rfl rfl (Nat.le_of_ble_eq_true rfl) d_Crew_countLocks_1 (fun cr_reached_1 h => ?_)
  (try dsimp only at h); (try dsimp only)
  refine z_k C d_Crew_countLocks_4 ?_
  refine z_istore C [(1, .int (0 : Int32)), (0, .ref h_cr)] d_Crew_countLocks_5 rfl rfl ?_
  refine z_k C d_Crew_countLocks_6 ?_
  refine z_istore C [(2, .int (0 : Int32)), (1, .int (0 : Int32)), (0, .ref h_cr)] d_Crew_countLocks_7 rfl rfl ?_
  obtain ⟨n_8, h⟩ := h
  have LP_8 : ∀ (n : Nat) (x1_2 : Int32) (x2_3 : Int32), wpL_Crew_countLocks_8 a1_count a1_kinds a1_sizes a1_zonesBehind a2_count a2_kinds a2_sizes a2_zonesBehind post cr_reached_1 n x1_2 x2_3 → Zw p l e rm_Crew_countLocks s m args below meth c 0 0 (MQ below (va_Qi (fun (r : Int32) (u : (Nat → Int32)) => post r u) (QB D [(h_cr, .inr (2, [.ref h_a1, .ref h_a2, .ref h_cr_reached, .ref h_cr_latest, .int cr_hasRun])), (h_cr_reached, cZ κ 289 cr_reached), (h_a1, .inr (0, [.ref h_a1_kinds, .ref h_a1_sizes, .ref h_a1_zonesBehind, .int a1_count, .int a1_done, .int a1_workLeft, .int a1_waits])), (h_a1_kinds, cI κ 16 a1_kinds), (h_a1_sizes, cI κ 16 a1_sizes), (h_a1_zonesBehind, cI κ 17 a1_zonesBehind), (h_a2, .inr (0, [.ref h_a2_kinds, .ref h_a2_sizes, .ref h_a2_zonesBehind, .int a2_count, .int a2_done, .int a2_workLeft, .int a2_waits])), (h_a2_kinds, cI κ 16 a2_kinds), (h_a2_sizes, cI κ 16 a2_sizes), (h_a2_zonesBehind, cI κ 17 a2_zonesBehind)] s.heap.size (fun (u : (Nat → Int32)) => [(h_cr, .inr (2, [.ref h_a1, .ref h_a2, .ref h_cr_reached, .ref h_cr_latest, .int cr_hasRun])), (h_cr_reached, cZ κ 289 u), (h_a1, .inr (0, [.ref h_a1_kinds, .ref h_a1_sizes, .ref h_a1_zonesBehind, .int a1_count, .int a1_done, .int a1_workLeft, .int a1_waits])), (h_a1_kinds, cI κ 16 a1_kinds), (h_a1_sizes, cI κ 16 a1_sizes), (h_a1_zonesBehind, cI κ 17 a1_zonesBehind), (h_a2, .inr (0, [.ref h_a2_kinds, .ref h_a2_sizes, .ref h_a2_zonesBehind, .int a2_count, .int a2_done, .int a2_workLeft, .int a2_waits])), (h_a2_kinds, cI κ 16 a2_kinds), (h_a2_sizes, cI κ 16 a2_sizes), (h_a2_zonesBehind, cI κ 17 a2_zonesBehind)])) (va_A [(h_cr, .inr (2, [.ref h_a1, .ref h_a2, .ref h_cr_reached, .ref h_cr_latest, .int cr_hasRun])), (h_cr_reached, cZ κ 289 cr_reached), (h_a1, .inr (0, [.ref h_a1_kinds, .ref h_a1_sizes, .ref h_a1_zonesBehind, .int a1_count, .int a1_done, .int a1_workLeft, .int a1_waits])), (h_a1_kinds, cI κ 16 a1_kinds), (h_a1_sizes, cI κ 16 a1_sizes), (h_a1_zonesBehind, cI κ 17 a1_zonesBehind), (h_a2, .inr (0, [.ref h_a2_kinds, .ref h_a2_sizes, .ref h_a2_zonesBehind, .int a2_count, .int a2_done, .int a2_workLeft, .int a2_waits])), (h_a2_kinds, cI κ 16 a2_kinds), (h_a2_sizes, cI κ 16 a2_sizes), (h_a2_zonesBehind, cI κ 17 a2_zonesBehind)] s.heap.size)) args s 0 0 (va_A [(h_cr, .inr (2, [.ref h_a1, .ref h_a2, .ref h_cr_reached, .ref h_cr_latest, .int cr_hasRun])), (h_cr_reached, cZ κ 289 cr_reached), (h_a1, .inr (0, [.ref h_a1_kinds, .ref h_a1_sizes, .ref h_a1_zonesBehind, .int a1_count, .int a1_done, .int a1_workLeft, .int a1_waits])), (h_a1_kinds, cI κ 16 a1_kinds), (h_a1_sizes, cI κ 16 a1_sizes), (h_a1_zonesBehind, cI κ 17 a1_zonesBehind), (h_a2, .inr (0, [.ref h_a2_kinds, .ref h_a2_sizes, .ref h_a2_zonesBehind, .int a2_count, .int a2_done, .int a2_workLeft, .int a2_waits])), (h_a2_kinds, cI κ 16 a2_kinds), (h_a2_sizes, cI κ 16 a2_sizes), (h_a2_zonesBehind, cI κ 17 a2_zonesBehind)] s.heap.size)) D 4 (some (va_A [(h_cr, .inr (2, [.ref h_a1, .ref h_a2, .ref h_cr_reached, .ref h_cr_latest, .int cr_hasRun])), (h_cr_reached, cZ κ 289 cr_reached), (h_a1, .inr (0, [.ref h_a1_kinds, .ref h_a1_sizes, .ref h_a1_zonesBehind, .int a1_count, .int a1_done, .int a1_workLeft, .int a1_waits])), (h_a1_kinds, cI κ 16 a1_kinds), (h_a1_sizes, cI κ 16 a1_sizes), (h_a1_zonesBehind, cI κ 17 a1_zonesBehind), (h_a2, .inr (0, [.ref h_a2_kinds, .ref h_a2_sizes, .ref h_a2_zonesBehind, .int a2_count, .int a2_done, .int a2_workLeft, .int a2_waits])), (h_a2_kinds, cI κ 16 a2_kinds), (h_a2_sizes, cI κ 16 a2_sizes), (h_a2_zonesBehind, cI κ 17 a2_zonesBehind)] s.heap.size)) [(h_cr, .inr (2, [.ref h_a1, .ref h_a2, .ref h_cr_reached, .ref h_cr_latest, .int cr_hasRun])), (h_cr_reached, cZ κ 289 cr_reached_1), (h_a1, .inr (0, [.ref h_a1_kinds, .ref h_a1_sizes, .ref h_a1_zonesBehind, .int a1_count, .int a1_done, .int a1_workLeft, .int a1_waits])), (h_a1_kinds, cI κ 16 a1_kinds), (h_a1_sizes, cI κ 16 a1_sizes), (h_a1_zonesBehind, cI κ 17 a1_zonesBehind), (h_a2, .inr (0, [.ref h_a2_kinds, .ref h_a2_sizes, .ref h_a2_zonesBehind, .int a2_count, .int a2_done, .int a2_workLeft, .int a2_waits])), (h_a2_kinds, cI κ 16 a2_kinds), (h_a2_sizes, cI κ 16 a2_sizes), (h_a2_zonesBehind, cI κ 17 a2_zonesBehind)] [(0, .ref h_cr), (1, .int x1_2), (2, .int x2_3)] 8 [] := by
    intro n
    induction n with
    | zero => intro x1_2 x2_3 h; exact False.elim h
    | succ nn_8 IH_8 =>
      intro x1_2 x2_3 h
      have h : wpB_Crew_countLocks_8 a1_count a1_kinds a1_sizes a1_zonesBehind a2_count a2_kinds a2_sizes a2_zonesBehind post cr_reached_1 (wpL_Crew_countLocks_8 a1_count a1_kinds a1_sizes a1_zonesBehind a2_count a2_kinds a2_sizes a2_zonesBehind post cr_reached_1 nn_8) x1_2 x2_3 := h
      unfold wpB_Crew_countLocks_8 at h
      refine z_iload C d_Crew_countLocks_8 2 rfl ?_
      refine z_aload C d_Crew_countLocks_9 0 rfl ?_
      refine z_get C fl_Crew_12 0 rfl rfl d_Crew_countLocks_10 ?_
      refine z_get C fl_Crew_62 2 rfl rfl d_Crew_countLocks_13 ?_
      refine z_icmp_gt C d_Crew_countLocks_16 (fun c_4 => ?_) (fun c_4 => ?_)
      · replace h := h.1 c_4
        refine z_iload C d_Crew_countLocks_56 1 rfl ?_
        exact ze_iret C cr_reached_1 hr hlk rfl d_Crew_countLocks_57 h
      · replace h := h.2 c_4
        refine z_k C d_Crew_countLocks_19 ?_
        refine z_istore C [(3, .int (0 : Int32)), (0, .ref h_cr), (1, .int x1_2), (2, .int x2_3)] d_Crew_countLocks_20 rfl rfl ?_
        obtain ⟨n_21, h⟩ := h
        have LP_21 : ∀ (n : Nat) (x1_5 : Int32) (x3_6 : Int32), wpL_Crew_countLocks_21 a1_count a1_kinds a1_sizes a1_zonesBehind a2_count a2_kinds a2_sizes a2_zonesBehind cr_reached_1 x2_3 (wpL_Crew_countLocks_8 a1_count a1_kinds a1_sizes a1_zonesBehind a2_count a2_kinds a2_sizes a2_zonesBehind post cr_reached_1 nn_8) n x1_5 x3_6 → Zw p l e rm_Crew_countLocks s m args below meth c 0 0 (MQ below (va_Qi (fun (r : Int32) (u : (Nat → Int32)) => post r u) (QB D [(h_cr, .inr (2, [.ref h_a1, .ref h_a2, .ref h_cr_reached, .ref h_cr_latest, .int cr_hasRun])), (h_cr_reached, cZ κ 289 cr_reached), (h_a1, .inr (0, [.ref h_a1_kinds, .ref h_a1_sizes, .ref h_a1_zonesBehind, .int a1_count, .int a1_done, .int a1_workLeft, .int a1_waits])), (h_a1_kinds, cI κ 16 a1_kinds), (h_a1_sizes, cI κ 16 a1_sizes), (h_a1_zonesBehind, cI κ 17 a1_zonesBehind), (h_a2, .inr (0, [.ref h_a2_kinds, .ref h_a2_sizes, .ref h_a2_zonesBehind, .int a2_count, .int a2_done, .int a2_workLeft, .int a2_waits])), (h_a2_kinds, cI κ 16 a2_kinds), (h_a2_sizes, cI κ 16 a2_sizes), (h_a2_zonesBehind, cI κ 17 a2_zonesBehind)] s.heap.size (fun (u : (Nat → Int32)) => [(h_cr, .inr (2, [.ref h_a1, .ref h_a2, .ref h_cr_reached, .ref h_cr_latest, .int cr_hasRun])), (h_cr_reached, cZ κ 289 u), (h_a1, .inr (0, [.ref h_a1_kinds, .ref h_a1_sizes, .ref h_a1_zonesBehind, .int a1_count, .int a1_done, .int a1_workLeft, .int a1_waits])), (h_a1_kinds, cI κ 16 a1_kinds), (h_a1_sizes, cI κ 16 a1_sizes), (h_a1_zonesBehind, cI κ 17 a1_zonesBehind), (h_a2, .inr (0, [.ref h_a2_kinds, .ref h_a2_sizes, .ref h_a2_zonesBehind, .int a2_count, .int a2_done, .int a2_workLeft, .int a2_waits])), (h_a2_kinds, cI κ 16 a2_kinds), (h_a2_sizes, cI κ 16 a2_sizes), (h_a2_zonesBehind, cI κ 17 a2_zonesBehind)])) (va_A [(h_cr, .inr (2, [.ref h_a1, .ref h_a2, .ref h_cr_reached, .ref h_cr_latest, .int cr_hasRun])), (h_cr_reached, cZ κ 289 cr_reached), (h_a1, .inr (0, [.ref h_a1_kinds, .ref h_a1_sizes, .ref h_a1_zonesBehind, .int a1_count, .int a1_done, .int a1_workLeft, .int a1_waits])), (h_a1_kinds, cI κ 16 a1_kinds), (h_a1_sizes, cI κ 16 a1_sizes), (h_a1_zonesBehind, cI κ 17 a1_zonesBehind), (h_a2, .inr (0, [.ref h_a2_kinds, .ref h_a2_sizes, .ref h_a2_zonesBehind, .int a2_count, .int a2_done, .int a2_workLeft, .int a2_waits])), (h_a2_kinds, cI κ 16 a2_kinds), (h_a2_sizes, cI κ 16 a2_sizes), (h_a2_zonesBehind, cI κ 17 a2_zonesBehind)] s.heap.size)) args s 0 0 (va_A [(h_cr, .inr (2, [.ref h_a1, .ref h_a2, .ref h_cr_reached, .ref h_cr_latest, .int cr_hasRun])), (h_cr_reached, cZ κ 289 cr_reached), (h_a1, .inr (0, [.ref h_a1_kinds, .ref h_a1_sizes, .ref h_a1_zonesBehind, .int a1_count, .int a1_done, .int a1_workLeft, .int a1_waits])), (h_a1_kinds, cI κ 16 a1_kinds), (h_a1_sizes, cI κ 16 a1_sizes), (h_a1_zonesBehind, cI κ 17 a1_zonesBehind), (h_a2, .inr (0, [.ref h_a2_kinds, .ref h_a2_sizes, .ref h_a2_zonesBehind, .int a2_count, .int a2_done, .int a2_workLeft, .int a2_waits])), (h_a2_kinds, cI κ 16 a2_kinds), (h_a2_sizes, cI κ 16 a2_sizes), (h_a2_zonesBehind, cI κ 17 a2_zonesBehind)] s.heap.size)) D 4 (some (va_A [(h_cr, .inr (2, [.ref h_a1, .ref h_a2, .ref h_cr_reached, .ref h_cr_latest, .int cr_hasRun])), (h_cr_reached, cZ κ 289 cr_reached), (h_a1, .inr (0, [.ref h_a1_kinds, .ref h_a1_sizes, .ref h_a1_zonesBehind, .int a1_count, .int a1_done, .int a1_workLeft, .int a1_waits])), (h_a1_kinds, cI κ 16 a1_kinds), (h_a1_sizes, cI κ 16 a1_sizes), (h_a1_zonesBehind, cI κ 17 a1_zonesBehind), (h_a2, .inr (0, [.ref h_a2_kinds, .ref h_a2_sizes, .ref h_a2_zonesBehind, .int a2_count, .int a2_done, .int a2_workLeft, .int a2_waits])), (h_a2_kinds, cI κ 16 a2_kinds), (h_a2_sizes, cI κ 16 a2_sizes), (h_a2_zonesBehind, cI κ 17 a2_zonesBehind)] s.heap.size)) [(h_cr, .inr (2, [.ref h_a1, .ref h_a2, .ref h_cr_reached, .ref h_cr_latest, .int cr_hasRun])), (h_cr_reached, cZ κ 289 cr_reached_1), (h_a1, .inr (0, [.ref h_a1_kinds, .ref h_a1_sizes, .ref h_a1_zonesBehind, .int a1_count, .int a1_done, .int a1_workLeft, .int a1_waits])), (h_a1_kinds, cI κ 16 a1_kinds), (h_a1_sizes, cI κ 16 a1_sizes), (h_a1_zonesBehind, cI κ 17 a1_zonesBehind), (h_a2, .inr (0, [.ref h_a2_kinds, .ref h_a2_sizes, .ref h_a2_zonesBehind, .int a2_count, .int a2_done, .int a2_workLeft, .int a2_waits])), (h_a2_kinds, cI κ 16 a2_kinds), (h_a2_sizes, cI κ 16 a2_sizes), (h_a2_zonesBehind, cI κ 17 a2_zonesBehind)] [(0, .ref h_cr), (1, .int x1_5), (2, .int x2_3), (3, .int x3_6)] 21 [] := by
          intro n
          induction n with
          | zero => intro x1_5 x3_6 h; exact False.elim h
          | succ nn_21 IH_21 =>
            intro x1_5 x3_6 h
            have h : wpB_Crew_countLocks_21 a1_count a1_kinds a1_sizes a1_zonesBehind a2_count a2_kinds a2_sizes a2_zonesBehind cr_reached_1 x2_3 (wpL_Crew_countLocks_8 a1_count a1_kinds a1_sizes a1_zonesBehind a2_count a2_kinds a2_sizes a2_zonesBehind post cr_reached_1 nn_8) (wpL_Crew_countLocks_21 a1_count a1_kinds a1_sizes a1_zonesBehind a2_count a2_kinds a2_sizes a2_zonesBehind cr_reached_1 x2_3 (wpL_Crew_countLocks_8 a1_count a1_kinds a1_sizes a1_zonesBehind a2_count a2_kinds a2_sizes a2_zonesBehind post cr_reached_1 nn_8) nn_21) x1_5 x3_6 := h
            unfold wpB_Crew_countLocks_21 at h
            refine z_iload C d_Crew_countLocks_21 3 rfl ?_
            refine z_aload C d_Crew_countLocks_22 0 rfl ?_
            refine z_get C fl_Crew_18 0 rfl rfl d_Crew_countLocks_23 ?_
            refine z_get C fl_Crew_62 6 rfl rfl d_Crew_countLocks_26 ?_
            refine z_icmp_gt C d_Crew_countLocks_29 (fun c_7 => ?_) (fun c_7 => ?_)
            · replace h := h.1 c_7
              obtain ⟨x2_8, ex2_8⟩ : ∃ y : Int32, y = x2_3 + (1 : Int32) := ⟨_, rfl⟩
              replace h := h x2_8 ex2_8
              refine z_iinc C [(2, .int x2_8), (0, .ref h_cr), (1, .int x1_5), (3, .int x3_6)] d_Crew_countLocks_50 (j := 2) rfl (by rw [ex2_8]; rfl) rfl rfl ?_
              refine z_goto C d_Crew_countLocks_53 ?_
              refine z_sub [1, 2, 0] [(0, .ref h_cr), (1, .int x1_5), (2, .int x2_8)] rfl ?_
              exact IH_8 x1_5 x2_8 h
            · replace h := h.2 c_7
              refine z_aload C d_Crew_countLocks_32 0 rfl ?_
              refine z_iload C d_Crew_countLocks_33 2 rfl ?_
              refine z_iload C d_Crew_countLocks_34 3 rfl ?_
              refine z_vpi C (rest := []) (c_Crew_isLock l D κ h_cr h_a1 h_a2 h_cr_reached h_cr_latest h_a1_kinds h_a1_sizes h_a1_zonesBehind h_a2_kinds h_a2_sizes h_a2_zonesBehind cr_hasRun cr_reached_1 a1_count a1_done a1_workLeft a1_waits a1_kinds a1_sizes a1_zonesBehind a2_count a2_done a2_workLeft a2_waits a2_kinds a2_sizes a2_zonesBehind x2_3 x3_6 _ h) cv_Crew_65 ⟨rfl, rfl⟩ ⟨⟨Nat.le_of_ble_eq_true rfl, Nat.le_of_ble_eq_true rfl⟩, Nat.le_of_ble_eq_true rfl, Nat.le_of_ble_eq_true rfl⟩ 0 rfl [0, 1, 2, 3, 4, 5, 6, 7, 8, 9] rfl rfl rfl (Nat.le_of_ble_eq_true rfl) d_Crew_countLocks_35 (fun r_9 h => ?_)
              refine z_if_eq C d_Crew_countLocks_38 (fun c_10 => ?_) (fun c_10 => ?_)
              · replace h := h.1 c_10
                obtain ⟨x3_11, ex3_11⟩ : ∃ y : Int32, y = x3_6 + (1 : Int32) := ⟨_, rfl⟩
                replace h := h x3_11 ex3_11
                refine z_iinc C [(3, .int x3_11), (0, .ref h_cr), (1, .int x1_5), (2, .int x2_3)] d_Crew_countLocks_44 (j := 3) rfl (by rw [ex3_11]; rfl) rfl rfl ?_
                refine z_goto C d_Crew_countLocks_47 ?_
                refine z_sub [1, 2, 3, 0] [(0, .ref h_cr), (1, .int x1_5), (2, .int x2_3), (3, .int x3_11)] rfl ?_
                exact IH_21 x1_5 x3_11 h
              · replace h := h.2 c_10
                obtain ⟨x1_12, ex1_12⟩ : ∃ y : Int32, y = x1_5 + (1 : Int32) := ⟨_, rfl⟩
                replace h := h x1_12 ex1_12
                refine z_iinc C [(1, .int x1_12), (0, .ref h_cr), (2, .int x2_3), (3, .int x3_6)] d_Crew_countLocks_41 (j := 1) rfl (by rw [ex1_12]; rfl) rfl rfl ?_
                obtain ⟨x3_13, ex3_13⟩ : ∃ y : Int32, y = x3_6 + (1 : Int32) := ⟨_, rfl⟩
                replace h := h x3_13 ex3_13
                refine z_iinc C [(3, .int x3_13), (1, .int x1_12), (0, .ref h_cr), (2, .int x2_3)] d_Crew_countLocks_44 (j := 3) rfl (by rw [ex3_13]; rfl) rfl rfl ?_
                refine z_goto C d_Crew_countLocks_47 ?_
                refine z_sub [2, 1, 3, 0] [(0, .ref h_cr), (1, .int x1_12), (2, .int x2_3), (3, .int x3_13)] rfl ?_
                exact IH_21 x1_12 x3_13 h
        refine z_sub [1, 2, 3, 0] [(0, .ref h_cr), (1, .int x1_2), (2, .int x2_3), (3, .int (0 : Int32))] rfl ?_
        exact LP_21 n_21 x1_2 (0 : Int32) h
  refine z_sub [2, 1, 0] [(0, .ref h_cr), (1, .int (0 : Int32)), (2, .int (0 : Int32))] rfl ?_
  exact LP_8 n_8 (0 : Int32) (0 : Int32) h
def wpB_Crew_findLock_22 (a1_count : Int32) (a1_kinds : Nat → Int32) (a1_sizes : Nat → Int32) (a1_zonesBehind : Nat → Int32) (a2_count : Int32) (a2_kinds : Nat → Int32) (a2_sizes : Nat → Int32) (a2_zonesBehind : Nat → Int32) (p0 : Int32) (post : Int32 → (Nat → Int32) → Prop) (cr_reached_1 : Nat → Int32) (x3_3 : Int32) (ih_8 : Int32 → Int32 → Prop) (ih_22 : Int32 → Int32 → Prop) (x2_5 : Int32) (x4_6 : Int32) : Prop :=
  ((a2_count < x4_6 → (∀ x3_8 : Int32, x3_8 = x3_3 + (1 : Int32) → (ih_8 x2_5 x3_8))) ∧ (¬ a2_count < x4_6 → (wp_Crew_isLock cr_reached_1 a1_count a1_kinds a1_sizes a1_zonesBehind a2_count a2_kinds a2_sizes a2_zonesBehind x3_3 x4_6 (fun r_9 => ((¬ r_9 = 0 → ((¬ x2_5 = p0 → (∀ x2_12 : Int32, x2_12 = x2_5 + (1 : Int32) → (∀ x4_13 : Int32, x4_13 = x4_6 + (1 : Int32) → (ih_22 x2_12 x4_13)))) ∧ (x2_5 = p0 → (post (((100 : Int32) * x3_3) + x4_6) cr_reached_1)))) ∧ (r_9 = 0 → (∀ x4_14 : Int32, x4_14 = x4_6 + (1 : Int32) → (ih_22 x2_5 x4_14))))))))
noncomputable def wpL_Crew_findLock_22 (a1_count : Int32) (a1_kinds : Nat → Int32) (a1_sizes : Nat → Int32) (a1_zonesBehind : Nat → Int32) (a2_count : Int32) (a2_kinds : Nat → Int32) (a2_sizes : Nat → Int32) (a2_zonesBehind : Nat → Int32) (p0 : Int32) (post : Int32 → (Nat → Int32) → Prop) (cr_reached_1 : Nat → Int32) (x3_3 : Int32) (ih_8 : Int32 → Int32 → Prop) : Nat → Int32 → Int32 → Prop := fun n => @Nat.rec (fun _ => Int32 → Int32 → Prop) (fun _ _ => False) (fun _ ih_22 => wpB_Crew_findLock_22 a1_count a1_kinds a1_sizes a1_zonesBehind a2_count a2_kinds a2_sizes a2_zonesBehind p0 post cr_reached_1 x3_3 ih_8 ih_22) n
def wpB_Crew_findLock_8 (a1_count : Int32) (a1_kinds : Nat → Int32) (a1_sizes : Nat → Int32) (a1_zonesBehind : Nat → Int32) (a2_count : Int32) (a2_kinds : Nat → Int32) (a2_sizes : Nat → Int32) (a2_zonesBehind : Nat → Int32) (p0 : Int32) (post : Int32 → (Nat → Int32) → Prop) (cr_reached_1 : Nat → Int32) (ih_8 : Int32 → Int32 → Prop) (x2_2 : Int32) (x3_3 : Int32) : Prop :=
  ((a1_count < x3_3 → (post (-6 : Int32) cr_reached_1)) ∧ (¬ a1_count < x3_3 → (∃ n : Nat, wpL_Crew_findLock_22 a1_count a1_kinds a1_sizes a1_zonesBehind a2_count a2_kinds a2_sizes a2_zonesBehind p0 post cr_reached_1 x3_3 ih_8 n x2_2 (0 : Int32))))
noncomputable def wpL_Crew_findLock_8 (a1_count : Int32) (a1_kinds : Nat → Int32) (a1_sizes : Nat → Int32) (a1_zonesBehind : Nat → Int32) (a2_count : Int32) (a2_kinds : Nat → Int32) (a2_sizes : Nat → Int32) (a2_zonesBehind : Nat → Int32) (p0 : Int32) (post : Int32 → (Nat → Int32) → Prop) (cr_reached_1 : Nat → Int32) : Nat → Int32 → Int32 → Prop := fun n => @Nat.rec (fun _ => Int32 → Int32 → Prop) (fun _ _ => False) (fun _ ih_8 => wpB_Crew_findLock_8 a1_count a1_kinds a1_sizes a1_zonesBehind a2_count a2_kinds a2_sizes a2_zonesBehind p0 post cr_reached_1 ih_8) n
def wp_Crew_findLock (cr_reached : Nat → Int32) (a1_count : Int32) (a1_kinds : Nat → Int32) (a1_sizes : Nat → Int32) (a1_zonesBehind : Nat → Int32) (a2_count : Int32) (a2_kinds : Nat → Int32) (a2_sizes : Nat → Int32) (a2_zonesBehind : Nat → Int32) (p0 : Int32) (post : Int32 → (Nat → Int32) → Prop) : Prop :=
  (wp_Crew_weave cr_reached a1_count a1_kinds a1_sizes a1_zonesBehind a2_count a2_kinds a2_sizes a2_zonesBehind (fun cr_reached_1 => (∃ n : Nat, wpL_Crew_findLock_8 a1_count a1_kinds a1_sizes a1_zonesBehind a2_count a2_kinds a2_sizes a2_zonesBehind p0 post cr_reached_1 n (0 : Int32) (0 : Int32))))
abbrev rm_Crew_findLock : Room := { frames := 3, cells := 0, slots := 0, locals := 68 }
set_option maxHeartbeats 4000000 in
set_option maxRecDepth 100000 in
theorem c_Crew_findLock (l : Launch) (D : va_G) (κ : KT) (h_cr : Nat) (h_a1 : Nat) (h_a2 : Nat) (h_cr_reached : Nat) (h_cr_latest : Nat) (h_a1_kinds : Nat) (h_a1_sizes : Nat) (h_a1_zonesBehind : Nat) (h_a2_kinds : Nat) (h_a2_sizes : Nat) (h_a2_zonesBehind : Nat) (cr_hasRun : Int32) (cr_reached : Nat → Int32) (a1_count : Int32) (a1_done : Int32) (a1_workLeft : Int32) (a1_waits : Int32) (a1_kinds : Nat → Int32) (a1_sizes : Nat → Int32) (a1_zonesBehind : Nat → Int32) (a2_count : Int32) (a2_done : Int32) (a2_workLeft : Int32) (a2_waits : Int32) (a2_kinds : Nat → Int32) (a2_sizes : Nat → Int32) (a2_zonesBehind : Nat → Int32) (p0 : Int32) (sz : Nat) (post : Int32 → (Nat → Int32) → Prop) (h : wp_Crew_findLock cr_reached a1_count a1_kinds a1_sizes a1_zonesBehind a2_count a2_kinds a2_sizes a2_zonesBehind p0 post) : Met l y_Crew_findLock (wsG y_Crew_findLock b_Crew_findLock 5 (some .int)) rm_Crew_findLock (PE D κ [.ref h_cr, .int p0] [(h_cr, .inr (2, [.ref h_a1, .ref h_a2, .ref h_cr_reached, .ref h_cr_latest, .int cr_hasRun])), (h_cr_reached, cZ κ 289 cr_reached), (h_a1, .inr (0, [.ref h_a1_kinds, .ref h_a1_sizes, .ref h_a1_zonesBehind, .int a1_count, .int a1_done, .int a1_workLeft, .int a1_waits])), (h_a1_kinds, cI κ 16 a1_kinds), (h_a1_sizes, cI κ 16 a1_sizes), (h_a1_zonesBehind, cI κ 17 a1_zonesBehind), (h_a2, .inr (0, [.ref h_a2_kinds, .ref h_a2_sizes, .ref h_a2_zonesBehind, .int a2_count, .int a2_done, .int a2_workLeft, .int a2_waits])), (h_a2_kinds, cI κ 16 a2_kinds), (h_a2_sizes, cI κ 16 a2_sizes), (h_a2_zonesBehind, cI κ 17 a2_zonesBehind)] sz) (va_Qi (fun (r : Int32) (u : (Nat → Int32)) => post r u) (QB D [(h_cr, .inr (2, [.ref h_a1, .ref h_a2, .ref h_cr_reached, .ref h_cr_latest, .int cr_hasRun])), (h_cr_reached, cZ κ 289 cr_reached), (h_a1, .inr (0, [.ref h_a1_kinds, .ref h_a1_sizes, .ref h_a1_zonesBehind, .int a1_count, .int a1_done, .int a1_workLeft, .int a1_waits])), (h_a1_kinds, cI κ 16 a1_kinds), (h_a1_sizes, cI κ 16 a1_sizes), (h_a1_zonesBehind, cI κ 17 a1_zonesBehind), (h_a2, .inr (0, [.ref h_a2_kinds, .ref h_a2_sizes, .ref h_a2_zonesBehind, .int a2_count, .int a2_done, .int a2_workLeft, .int a2_waits])), (h_a2_kinds, cI κ 16 a2_kinds), (h_a2_sizes, cI κ 16 a2_sizes), (h_a2_zonesBehind, cI κ 17 a2_zonesBehind)] sz (fun (u : (Nat → Int32)) => [(h_cr, .inr (2, [.ref h_a1, .ref h_a2, .ref h_cr_reached, .ref h_cr_latest, .int cr_hasRun])), (h_cr_reached, cZ κ 289 u), (h_a1, .inr (0, [.ref h_a1_kinds, .ref h_a1_sizes, .ref h_a1_zonesBehind, .int a1_count, .int a1_done, .int a1_workLeft, .int a1_waits])), (h_a1_kinds, cI κ 16 a1_kinds), (h_a1_sizes, cI κ 16 a1_sizes), (h_a1_zonesBehind, cI κ 17 a1_zonesBehind), (h_a2, .inr (0, [.ref h_a2_kinds, .ref h_a2_sizes, .ref h_a2_zonesBehind, .int a2_count, .int a2_done, .int a2_workLeft, .int a2_waits])), (h_a2_kinds, cI κ 16 a2_kinds), (h_a2_sizes, cI κ 16 a2_sizes), (h_a2_zonesBehind, cI κ 17 a2_zonesBehind)])) (va_A [(h_cr, .inr (2, [.ref h_a1, .ref h_a2, .ref h_cr_reached, .ref h_cr_latest, .int cr_hasRun])), (h_cr_reached, cZ κ 289 cr_reached), (h_a1, .inr (0, [.ref h_a1_kinds, .ref h_a1_sizes, .ref h_a1_zonesBehind, .int a1_count, .int a1_done, .int a1_workLeft, .int a1_waits])), (h_a1_kinds, cI κ 16 a1_kinds), (h_a1_sizes, cI κ 16 a1_sizes), (h_a1_zonesBehind, cI κ 17 a1_zonesBehind), (h_a2, .inr (0, [.ref h_a2_kinds, .ref h_a2_sizes, .ref h_a2_zonesBehind, .int a2_count, .int a2_done, .int a2_workLeft, .int a2_waits])), (h_a2_kinds, cI κ 16 a2_kinds), (h_a2_sizes, cI κ 16 a2_sizes), (h_a2_zonesBehind, cI κ 17 a2_zonesBehind)] sz)) 0 0 (va_A [(h_cr, .inr (2, [.ref h_a1, .ref h_a2, .ref h_cr_reached, .ref h_cr_latest, .int cr_hasRun])), (h_cr_reached, cZ κ 289 cr_reached), (h_a1, .inr (0, [.ref h_a1_kinds, .ref h_a1_sizes, .ref h_a1_zonesBehind, .int a1_count, .int a1_done, .int a1_workLeft, .int a1_waits])), (h_a1_kinds, cI κ 16 a1_kinds), (h_a1_sizes, cI κ 16 a1_sizes), (h_a1_zonesBehind, cI κ 17 a1_zonesBehind), (h_a2, .inr (0, [.ref h_a2_kinds, .ref h_a2_sizes, .ref h_a2_zonesBehind, .int a2_count, .int a2_done, .int a2_workLeft, .int a2_waits])), (h_a2_kinds, cI κ 16 a2_kinds), (h_a2_sizes, cI κ 16 a2_sizes), (h_a2_zonesBehind, cI κ 17 a2_zonesBehind)] sz) := by
  refine ze_start [(0, .ref h_cr), (1, .int p0)] rfl (Nat.le_of_ble_eq_true rfl) rfl ?_
  intro p e s m args below meth c C hr hlk hnm hsz
  subst hsz
  unfold wp_Crew_findLock at h
  refine z_aload C d_Crew_findLock_0 0 rfl ?_
  refine z_vev C (rest := []) (wr := []) (fun sz => c_Crew_weave l D κ h_cr h_a1 h_a2 h_cr_reached h_cr_latest h_a1_kinds h_a1_sizes h_a1_zonesBehind h_a2_kinds h_a2_sizes h_a2_zonesBehind cr_hasRun cr_reached a1_count a1_done a1_workLeft a1_waits a1_kinds a1_sizes a1_zonesBehind a2_count a2_done a2_workLeft a2_waits a2_kinds a2_sizes a2_zonesBehind sz _ h) cv_Crew_59 ⟨rfl, rfl⟩ ⟨⟨Nat.le_of_ble_eq_true rfl, Nat.le_of_ble_eq_true rfl⟩, Nat.le_of_ble_eq_true rfl, Nat.le_of_ble_eq_true rfl⟩ 0 rfl [0, 1, 2, 3, 4, 5, 6, 7, 8, 9] [] rfl rfl rfl (fun u => [(h_cr, .inr (2, [.ref h_a1, .ref h_a2, .ref h_cr_reached, .ref h_cr_latest, .int cr_hasRun])), (h_cr_reached, cZ κ 289 u), (h_a1, .inr (0, [.ref h_a1_kinds, .ref h_a1_sizes, .ref h_a1_zonesBehind, .int a1_count, .int a1_done, .int a1_workLeft, .int a1_waits])), (h_a1_kinds, cI κ 16 a1_kinds), (h_a1_sizes, cI κ 16 a1_sizes), (h_a1_zonesBehind, cI κ 17 a1_zonesBehind), (h_a2, .inr (0, [.ref h_a2_kinds, .ref h_a2_sizes, .ref h_a2_zonesBehind, .int a2_count, .int a2_done, .int a2_workLeft, .int a2_waits])), (h_a2_kinds, cI κ 16 a2_kinds), (h_a2_sizes, cI κ 16 a2_sizes), (h_a2_zonesBehind, cI κ 17 a2_zonesBehind)]) [0, 1, 2, 3, 4, 5, 6, 7, 8, 9] rfl (fun _ => rfl) rfl rfl (Nat.le_of_ble_eq_true rfl) d_Crew_findLock_1 (fun cr_reached_1 h => ?_)
  (try dsimp only at h); (try dsimp only)
  refine z_k C d_Crew_findLock_4 ?_
  refine z_istore C [(2, .int (0 : Int32)), (0, .ref h_cr), (1, .int p0)] d_Crew_findLock_5 rfl rfl ?_
  refine z_k C d_Crew_findLock_6 ?_
  refine z_istore C [(3, .int (0 : Int32)), (2, .int (0 : Int32)), (0, .ref h_cr), (1, .int p0)] d_Crew_findLock_7 rfl rfl ?_
  obtain ⟨n_8, h⟩ := h
  have LP_8 : ∀ (n : Nat) (x2_2 : Int32) (x3_3 : Int32), wpL_Crew_findLock_8 a1_count a1_kinds a1_sizes a1_zonesBehind a2_count a2_kinds a2_sizes a2_zonesBehind p0 post cr_reached_1 n x2_2 x3_3 → Zw p l e rm_Crew_findLock s m args below meth c 0 0 (MQ below (va_Qi (fun (r : Int32) (u : (Nat → Int32)) => post r u) (QB D [(h_cr, .inr (2, [.ref h_a1, .ref h_a2, .ref h_cr_reached, .ref h_cr_latest, .int cr_hasRun])), (h_cr_reached, cZ κ 289 cr_reached), (h_a1, .inr (0, [.ref h_a1_kinds, .ref h_a1_sizes, .ref h_a1_zonesBehind, .int a1_count, .int a1_done, .int a1_workLeft, .int a1_waits])), (h_a1_kinds, cI κ 16 a1_kinds), (h_a1_sizes, cI κ 16 a1_sizes), (h_a1_zonesBehind, cI κ 17 a1_zonesBehind), (h_a2, .inr (0, [.ref h_a2_kinds, .ref h_a2_sizes, .ref h_a2_zonesBehind, .int a2_count, .int a2_done, .int a2_workLeft, .int a2_waits])), (h_a2_kinds, cI κ 16 a2_kinds), (h_a2_sizes, cI κ 16 a2_sizes), (h_a2_zonesBehind, cI κ 17 a2_zonesBehind)] s.heap.size (fun (u : (Nat → Int32)) => [(h_cr, .inr (2, [.ref h_a1, .ref h_a2, .ref h_cr_reached, .ref h_cr_latest, .int cr_hasRun])), (h_cr_reached, cZ κ 289 u), (h_a1, .inr (0, [.ref h_a1_kinds, .ref h_a1_sizes, .ref h_a1_zonesBehind, .int a1_count, .int a1_done, .int a1_workLeft, .int a1_waits])), (h_a1_kinds, cI κ 16 a1_kinds), (h_a1_sizes, cI κ 16 a1_sizes), (h_a1_zonesBehind, cI κ 17 a1_zonesBehind), (h_a2, .inr (0, [.ref h_a2_kinds, .ref h_a2_sizes, .ref h_a2_zonesBehind, .int a2_count, .int a2_done, .int a2_workLeft, .int a2_waits])), (h_a2_kinds, cI κ 16 a2_kinds), (h_a2_sizes, cI κ 16 a2_sizes), (h_a2_zonesBehind, cI κ 17 a2_zonesBehind)])) (va_A [(h_cr, .inr (2, [.ref h_a1, .ref h_a2, .ref h_cr_reached, .ref h_cr_latest, .int cr_hasRun])), (h_cr_reached, cZ κ 289 cr_reached), (h_a1, .inr (0, [.ref h_a1_kinds, .ref h_a1_sizes, .ref h_a1_zonesBehind, .int a1_count, .int a1_done, .int a1_workLeft, .int a1_waits])), (h_a1_kinds, cI κ 16 a1_kinds), (h_a1_sizes, cI κ 16 a1_sizes), (h_a1_zonesBehind, cI κ 17 a1_zonesBehind), (h_a2, .inr (0, [.ref h_a2_kinds, .ref h_a2_sizes, .ref h_a2_zonesBehind, .int a2_count, .int a2_done, .int a2_workLeft, .int a2_waits])), (h_a2_kinds, cI κ 16 a2_kinds), (h_a2_sizes, cI κ 16 a2_sizes), (h_a2_zonesBehind, cI κ 17 a2_zonesBehind)] s.heap.size)) args s 0 0 (va_A [(h_cr, .inr (2, [.ref h_a1, .ref h_a2, .ref h_cr_reached, .ref h_cr_latest, .int cr_hasRun])), (h_cr_reached, cZ κ 289 cr_reached), (h_a1, .inr (0, [.ref h_a1_kinds, .ref h_a1_sizes, .ref h_a1_zonesBehind, .int a1_count, .int a1_done, .int a1_workLeft, .int a1_waits])), (h_a1_kinds, cI κ 16 a1_kinds), (h_a1_sizes, cI κ 16 a1_sizes), (h_a1_zonesBehind, cI κ 17 a1_zonesBehind), (h_a2, .inr (0, [.ref h_a2_kinds, .ref h_a2_sizes, .ref h_a2_zonesBehind, .int a2_count, .int a2_done, .int a2_workLeft, .int a2_waits])), (h_a2_kinds, cI κ 16 a2_kinds), (h_a2_sizes, cI κ 16 a2_sizes), (h_a2_zonesBehind, cI κ 17 a2_zonesBehind)] s.heap.size)) D 5 (some (va_A [(h_cr, .inr (2, [.ref h_a1, .ref h_a2, .ref h_cr_reached, .ref h_cr_latest, .int cr_hasRun])), (h_cr_reached, cZ κ 289 cr_reached), (h_a1, .inr (0, [.ref h_a1_kinds, .ref h_a1_sizes, .ref h_a1_zonesBehind, .int a1_count, .int a1_done, .int a1_workLeft, .int a1_waits])), (h_a1_kinds, cI κ 16 a1_kinds), (h_a1_sizes, cI κ 16 a1_sizes), (h_a1_zonesBehind, cI κ 17 a1_zonesBehind), (h_a2, .inr (0, [.ref h_a2_kinds, .ref h_a2_sizes, .ref h_a2_zonesBehind, .int a2_count, .int a2_done, .int a2_workLeft, .int a2_waits])), (h_a2_kinds, cI κ 16 a2_kinds), (h_a2_sizes, cI κ 16 a2_sizes), (h_a2_zonesBehind, cI κ 17 a2_zonesBehind)] s.heap.size)) [(h_cr, .inr (2, [.ref h_a1, .ref h_a2, .ref h_cr_reached, .ref h_cr_latest, .int cr_hasRun])), (h_cr_reached, cZ κ 289 cr_reached_1), (h_a1, .inr (0, [.ref h_a1_kinds, .ref h_a1_sizes, .ref h_a1_zonesBehind, .int a1_count, .int a1_done, .int a1_workLeft, .int a1_waits])), (h_a1_kinds, cI κ 16 a1_kinds), (h_a1_sizes, cI κ 16 a1_sizes), (h_a1_zonesBehind, cI κ 17 a1_zonesBehind), (h_a2, .inr (0, [.ref h_a2_kinds, .ref h_a2_sizes, .ref h_a2_zonesBehind, .int a2_count, .int a2_done, .int a2_workLeft, .int a2_waits])), (h_a2_kinds, cI κ 16 a2_kinds), (h_a2_sizes, cI κ 16 a2_sizes), (h_a2_zonesBehind, cI κ 17 a2_zonesBehind)] [(0, .ref h_cr), (1, .int p0), (2, .int x2_2), (3, .int x3_3)] 8 [] := by
    intro n
    induction n with
    | zero => intro x2_2 x3_3 h; exact False.elim h
    | succ nn_8 IH_8 =>
      intro x2_2 x3_3 h
      have h : wpB_Crew_findLock_8 a1_count a1_kinds a1_sizes a1_zonesBehind a2_count a2_kinds a2_sizes a2_zonesBehind p0 post cr_reached_1 (wpL_Crew_findLock_8 a1_count a1_kinds a1_sizes a1_zonesBehind a2_count a2_kinds a2_sizes a2_zonesBehind p0 post cr_reached_1 nn_8) x2_2 x3_3 := h
      unfold wpB_Crew_findLock_8 at h
      refine z_iload C d_Crew_findLock_8 3 rfl ?_
      refine z_aload C d_Crew_findLock_9 0 rfl ?_
      refine z_get C fl_Crew_12 0 rfl rfl d_Crew_findLock_10 ?_
      refine z_get C fl_Crew_62 2 rfl rfl d_Crew_findLock_13 ?_
      refine z_icmp_gt C d_Crew_findLock_16 (fun c_4 => ?_) (fun c_4 => ?_)
      · replace h := h.1 c_4
        refine z_k C d_Crew_findLock_75 ?_
        exact ze_iret C cr_reached_1 hr hlk rfl d_Crew_findLock_77 h
      · replace h := h.2 c_4
        refine z_k C d_Crew_findLock_19 ?_
        refine z_istore C [(4, .int (0 : Int32)), (0, .ref h_cr), (1, .int p0), (2, .int x2_2), (3, .int x3_3)] d_Crew_findLock_20 rfl rfl ?_
        obtain ⟨n_22, h⟩ := h
        have LP_22 : ∀ (n : Nat) (x2_5 : Int32) (x4_6 : Int32), wpL_Crew_findLock_22 a1_count a1_kinds a1_sizes a1_zonesBehind a2_count a2_kinds a2_sizes a2_zonesBehind p0 post cr_reached_1 x3_3 (wpL_Crew_findLock_8 a1_count a1_kinds a1_sizes a1_zonesBehind a2_count a2_kinds a2_sizes a2_zonesBehind p0 post cr_reached_1 nn_8) n x2_5 x4_6 → Zw p l e rm_Crew_findLock s m args below meth c 0 0 (MQ below (va_Qi (fun (r : Int32) (u : (Nat → Int32)) => post r u) (QB D [(h_cr, .inr (2, [.ref h_a1, .ref h_a2, .ref h_cr_reached, .ref h_cr_latest, .int cr_hasRun])), (h_cr_reached, cZ κ 289 cr_reached), (h_a1, .inr (0, [.ref h_a1_kinds, .ref h_a1_sizes, .ref h_a1_zonesBehind, .int a1_count, .int a1_done, .int a1_workLeft, .int a1_waits])), (h_a1_kinds, cI κ 16 a1_kinds), (h_a1_sizes, cI κ 16 a1_sizes), (h_a1_zonesBehind, cI κ 17 a1_zonesBehind), (h_a2, .inr (0, [.ref h_a2_kinds, .ref h_a2_sizes, .ref h_a2_zonesBehind, .int a2_count, .int a2_done, .int a2_workLeft, .int a2_waits])), (h_a2_kinds, cI κ 16 a2_kinds), (h_a2_sizes, cI κ 16 a2_sizes), (h_a2_zonesBehind, cI κ 17 a2_zonesBehind)] s.heap.size (fun (u : (Nat → Int32)) => [(h_cr, .inr (2, [.ref h_a1, .ref h_a2, .ref h_cr_reached, .ref h_cr_latest, .int cr_hasRun])), (h_cr_reached, cZ κ 289 u), (h_a1, .inr (0, [.ref h_a1_kinds, .ref h_a1_sizes, .ref h_a1_zonesBehind, .int a1_count, .int a1_done, .int a1_workLeft, .int a1_waits])), (h_a1_kinds, cI κ 16 a1_kinds), (h_a1_sizes, cI κ 16 a1_sizes), (h_a1_zonesBehind, cI κ 17 a1_zonesBehind), (h_a2, .inr (0, [.ref h_a2_kinds, .ref h_a2_sizes, .ref h_a2_zonesBehind, .int a2_count, .int a2_done, .int a2_workLeft, .int a2_waits])), (h_a2_kinds, cI κ 16 a2_kinds), (h_a2_sizes, cI κ 16 a2_sizes), (h_a2_zonesBehind, cI κ 17 a2_zonesBehind)])) (va_A [(h_cr, .inr (2, [.ref h_a1, .ref h_a2, .ref h_cr_reached, .ref h_cr_latest, .int cr_hasRun])), (h_cr_reached, cZ κ 289 cr_reached), (h_a1, .inr (0, [.ref h_a1_kinds, .ref h_a1_sizes, .ref h_a1_zonesBehind, .int a1_count, .int a1_done, .int a1_workLeft, .int a1_waits])), (h_a1_kinds, cI κ 16 a1_kinds), (h_a1_sizes, cI κ 16 a1_sizes), (h_a1_zonesBehind, cI κ 17 a1_zonesBehind), (h_a2, .inr (0, [.ref h_a2_kinds, .ref h_a2_sizes, .ref h_a2_zonesBehind, .int a2_count, .int a2_done, .int a2_workLeft, .int a2_waits])), (h_a2_kinds, cI κ 16 a2_kinds), (h_a2_sizes, cI κ 16 a2_sizes), (h_a2_zonesBehind, cI κ 17 a2_zonesBehind)] s.heap.size)) args s 0 0 (va_A [(h_cr, .inr (2, [.ref h_a1, .ref h_a2, .ref h_cr_reached, .ref h_cr_latest, .int cr_hasRun])), (h_cr_reached, cZ κ 289 cr_reached), (h_a1, .inr (0, [.ref h_a1_kinds, .ref h_a1_sizes, .ref h_a1_zonesBehind, .int a1_count, .int a1_done, .int a1_workLeft, .int a1_waits])), (h_a1_kinds, cI κ 16 a1_kinds), (h_a1_sizes, cI κ 16 a1_sizes), (h_a1_zonesBehind, cI κ 17 a1_zonesBehind), (h_a2, .inr (0, [.ref h_a2_kinds, .ref h_a2_sizes, .ref h_a2_zonesBehind, .int a2_count, .int a2_done, .int a2_workLeft, .int a2_waits])), (h_a2_kinds, cI κ 16 a2_kinds), (h_a2_sizes, cI κ 16 a2_sizes), (h_a2_zonesBehind, cI κ 17 a2_zonesBehind)] s.heap.size)) D 5 (some (va_A [(h_cr, .inr (2, [.ref h_a1, .ref h_a2, .ref h_cr_reached, .ref h_cr_latest, .int cr_hasRun])), (h_cr_reached, cZ κ 289 cr_reached), (h_a1, .inr (0, [.ref h_a1_kinds, .ref h_a1_sizes, .ref h_a1_zonesBehind, .int a1_count, .int a1_done, .int a1_workLeft, .int a1_waits])), (h_a1_kinds, cI κ 16 a1_kinds), (h_a1_sizes, cI κ 16 a1_sizes), (h_a1_zonesBehind, cI κ 17 a1_zonesBehind), (h_a2, .inr (0, [.ref h_a2_kinds, .ref h_a2_sizes, .ref h_a2_zonesBehind, .int a2_count, .int a2_done, .int a2_workLeft, .int a2_waits])), (h_a2_kinds, cI κ 16 a2_kinds), (h_a2_sizes, cI κ 16 a2_sizes), (h_a2_zonesBehind, cI κ 17 a2_zonesBehind)] s.heap.size)) [(h_cr, .inr (2, [.ref h_a1, .ref h_a2, .ref h_cr_reached, .ref h_cr_latest, .int cr_hasRun])), (h_cr_reached, cZ κ 289 cr_reached_1), (h_a1, .inr (0, [.ref h_a1_kinds, .ref h_a1_sizes, .ref h_a1_zonesBehind, .int a1_count, .int a1_done, .int a1_workLeft, .int a1_waits])), (h_a1_kinds, cI κ 16 a1_kinds), (h_a1_sizes, cI κ 16 a1_sizes), (h_a1_zonesBehind, cI κ 17 a1_zonesBehind), (h_a2, .inr (0, [.ref h_a2_kinds, .ref h_a2_sizes, .ref h_a2_zonesBehind, .int a2_count, .int a2_done, .int a2_workLeft, .int a2_waits])), (h_a2_kinds, cI κ 16 a2_kinds), (h_a2_sizes, cI κ 16 a2_sizes), (h_a2_zonesBehind, cI κ 17 a2_zonesBehind)] [(0, .ref h_cr), (1, .int p0), (2, .int x2_5), (3, .int x3_3), (4, .int x4_6)] 22 [] := by
          intro n
          induction n with
          | zero => intro x2_5 x4_6 h; exact False.elim h
          | succ nn_22 IH_22 =>
            intro x2_5 x4_6 h
            have h : wpB_Crew_findLock_22 a1_count a1_kinds a1_sizes a1_zonesBehind a2_count a2_kinds a2_sizes a2_zonesBehind p0 post cr_reached_1 x3_3 (wpL_Crew_findLock_8 a1_count a1_kinds a1_sizes a1_zonesBehind a2_count a2_kinds a2_sizes a2_zonesBehind p0 post cr_reached_1 nn_8) (wpL_Crew_findLock_22 a1_count a1_kinds a1_sizes a1_zonesBehind a2_count a2_kinds a2_sizes a2_zonesBehind p0 post cr_reached_1 x3_3 (wpL_Crew_findLock_8 a1_count a1_kinds a1_sizes a1_zonesBehind a2_count a2_kinds a2_sizes a2_zonesBehind p0 post cr_reached_1 nn_8) nn_22) x2_5 x4_6 := h
            unfold wpB_Crew_findLock_22 at h
            refine z_iload C d_Crew_findLock_22 4 rfl ?_
            refine z_aload C d_Crew_findLock_24 0 rfl ?_
            refine z_get C fl_Crew_18 0 rfl rfl d_Crew_findLock_25 ?_
            refine z_get C fl_Crew_62 6 rfl rfl d_Crew_findLock_28 ?_
            refine z_icmp_gt C d_Crew_findLock_31 (fun c_7 => ?_) (fun c_7 => ?_)
            · replace h := h.1 c_7
              obtain ⟨x3_8, ex3_8⟩ : ∃ y : Int32, y = x3_3 + (1 : Int32) := ⟨_, rfl⟩
              replace h := h x3_8 ex3_8
              refine z_iinc C [(3, .int x3_8), (0, .ref h_cr), (1, .int p0), (2, .int x2_5), (4, .int x4_6)] d_Crew_findLock_69 (j := 3) rfl (by rw [ex3_8]; rfl) rfl rfl ?_
              refine z_goto C d_Crew_findLock_72 ?_
              refine z_sub [1, 2, 3, 0] [(0, .ref h_cr), (1, .int p0), (2, .int x2_5), (3, .int x3_8)] rfl ?_
              exact IH_8 x2_5 x3_8 h
            · replace h := h.2 c_7
              refine z_aload C d_Crew_findLock_34 0 rfl ?_
              refine z_iload C d_Crew_findLock_35 3 rfl ?_
              refine z_iload C d_Crew_findLock_36 4 rfl ?_
              refine z_vpi C (rest := []) (c_Crew_isLock l D κ h_cr h_a1 h_a2 h_cr_reached h_cr_latest h_a1_kinds h_a1_sizes h_a1_zonesBehind h_a2_kinds h_a2_sizes h_a2_zonesBehind cr_hasRun cr_reached_1 a1_count a1_done a1_workLeft a1_waits a1_kinds a1_sizes a1_zonesBehind a2_count a2_done a2_workLeft a2_waits a2_kinds a2_sizes a2_zonesBehind x3_3 x4_6 _ h) cv_Crew_65 ⟨rfl, rfl⟩ ⟨⟨Nat.le_of_ble_eq_true rfl, Nat.le_of_ble_eq_true rfl⟩, Nat.le_of_ble_eq_true rfl, Nat.le_of_ble_eq_true rfl⟩ 0 rfl [0, 1, 2, 3, 4, 5, 6, 7, 8, 9] rfl rfl rfl (Nat.le_of_ble_eq_true rfl) d_Crew_findLock_38 (fun r_9 h => ?_)
              refine z_if_ne C d_Crew_findLock_41 (fun c_10 => ?_) (fun c_10 => ?_)
              · replace h := h.1 c_10
                refine z_iload C d_Crew_findLock_47 2 rfl ?_
                refine z_iload C d_Crew_findLock_48 1 rfl ?_
                refine z_icmp_ne C d_Crew_findLock_49 (fun c_11 => ?_) (fun c_11 => ?_)
                · replace h := h.1 c_11
                  obtain ⟨x2_12, ex2_12⟩ : ∃ y : Int32, y = x2_5 + (1 : Int32) := ⟨_, rfl⟩
                  replace h := h x2_12 ex2_12
                  refine z_iinc C [(2, .int x2_12), (0, .ref h_cr), (1, .int p0), (3, .int x3_3), (4, .int x4_6)] d_Crew_findLock_60 (j := 2) rfl (by rw [ex2_12]; rfl) rfl rfl ?_
                  obtain ⟨x4_13, ex4_13⟩ : ∃ y : Int32, y = x4_6 + (1 : Int32) := ⟨_, rfl⟩
                  replace h := h x4_13 ex4_13
                  refine z_iinc C [(4, .int x4_13), (2, .int x2_12), (0, .ref h_cr), (1, .int p0), (3, .int x3_3)] d_Crew_findLock_63 (j := 4) rfl (by rw [ex4_13]; rfl) rfl rfl ?_
                  refine z_goto C d_Crew_findLock_66 ?_
                  refine z_sub [2, 3, 1, 4, 0] [(0, .ref h_cr), (1, .int p0), (2, .int x2_12), (3, .int x3_3), (4, .int x4_13)] rfl ?_
                  exact IH_22 x2_12 x4_13 h
                · replace h := h.2 c_11
                  refine z_k C d_Crew_findLock_52 ?_
                  refine z_iload C d_Crew_findLock_54 3 rfl ?_
                  refine z_imul C d_Crew_findLock_55 ?_
                  refine z_iload C d_Crew_findLock_56 4 rfl ?_
                  refine z_iadd C d_Crew_findLock_58 ?_
                  exact ze_iret C cr_reached_1 hr hlk rfl d_Crew_findLock_59 h
              · replace h := h.2 c_10
                refine z_goto C d_Crew_findLock_44 ?_
                obtain ⟨x4_14, ex4_14⟩ : ∃ y : Int32, y = x4_6 + (1 : Int32) := ⟨_, rfl⟩
                replace h := h x4_14 ex4_14
                refine z_iinc C [(4, .int x4_14), (0, .ref h_cr), (1, .int p0), (2, .int x2_5), (3, .int x3_3)] d_Crew_findLock_63 (j := 4) rfl (by rw [ex4_14]; rfl) rfl rfl ?_
                refine z_goto C d_Crew_findLock_66 ?_
                refine z_sub [1, 2, 3, 4, 0] [(0, .ref h_cr), (1, .int p0), (2, .int x2_5), (3, .int x3_3), (4, .int x4_14)] rfl ?_
                exact IH_22 x2_5 x4_14 h
        refine z_sub [1, 2, 3, 4, 0] [(0, .ref h_cr), (1, .int p0), (2, .int x2_2), (3, .int x3_3), (4, .int (0 : Int32))] rfl ?_
        exact LP_22 n_22 x2_2 (0 : Int32) h
  refine z_sub [2, 3, 1, 0] [(0, .ref h_cr), (1, .int p0), (2, .int (0 : Int32)), (3, .int (0 : Int32))] rfl ?_
  exact LP_8 n_8 (0 : Int32) (0 : Int32) h
def wp_Crew_work_j129_17 (cr_latest : Nat → Int32) (post : Int32 → Int32 → (Nat → Int32) → Int32 → Int32 → Int32 → Int32 → Int32 → Int32 → Prop) (a1_done_7 : Int32) (a1_waits_8 : Int32) (a1_workLeft_9 : Int32) (a2_done_10 : Int32) (a2_waits_11 : Int32) (a2_workLeft_12 : Int32) (x1_13 : Int32) (x2_14 : Int32)  : Prop :=
  (wp_Crew_note cr_latest a1_done_7 a1_waits_8 a2_done_10 a2_waits_11 x2_14 (fun cr_hasRun_15 cr_latest_16 => ((¬ x1_13 = 0 → (post (0 : Int32) cr_hasRun_15 cr_latest_16 a1_done_7 a1_workLeft_9 a1_waits_8 a2_done_10 a2_workLeft_12 a2_waits_11)) ∧ (x1_13 = 0 → (post (1 : Int32) cr_hasRun_15 cr_latest_16 a1_done_7 a1_workLeft_9 a1_waits_8 a2_done_10 a2_workLeft_12 a2_waits_11)))))
def wpB_Crew_work_18 (cr_latest : Nat → Int32) (a1_count : Int32) (a1_kinds : Nat → Int32) (a1_sizes : Nat → Int32) (a1_zonesBehind : Nat → Int32) (a2_count : Int32) (a2_kinds : Nat → Int32) (a2_sizes : Nat → Int32) (a2_zonesBehind : Nat → Int32) (post : Int32 → Int32 → (Nat → Int32) → Int32 → Int32 → Int32 → Int32 → Int32 → Int32 → Prop) (ih_18 : Int32 → Int32 → Int32 → Int32 → Int32 → Int32 → Int32 → Int32 → Prop) (a1_done_7 : Int32) (a1_waits_8 : Int32) (a1_workLeft_9 : Int32) (a2_done_10 : Int32) (a2_waits_11 : Int32) (a2_workLeft_12 : Int32) (x1_13 : Int32) (x2_14 : Int32) : Prop :=
  (((10000 : Int32) ≤ x2_14 → (wp_Crew_work_j129_17 cr_latest post a1_done_7 a1_waits_8 a1_workLeft_9 a2_done_10 a2_waits_11 a2_workLeft_12 x1_13 x2_14)) ∧ (¬ (10000 : Int32) ≤ x2_14 → ((¬ x1_13 = 0 → (wp_Crew_work_j129_17 cr_latest post a1_done_7 a1_waits_8 a1_workLeft_9 a2_done_10 a2_waits_11 a2_workLeft_12 x1_13 x2_14)) ∧ (x1_13 = 0 → (wp_Acts_isThrough a1_count a1_done_7 a1_workLeft_9 (fun r_20 => ((r_20 = 0 → (wp_Acts_isThrough a1_count a1_done_7 a1_workLeft_9 (fun r_22 => (wp_Acts_isThrough a2_count a2_done_10 a2_workLeft_12 (fun r_23 => (wp_Acts_zonesNow a2_done_10 a2_zonesBehind (fun r_24 => (wp_Acts_tick a1_count a1_done_7 a1_workLeft_9 a1_waits_8 a1_kinds a1_sizes r_24 (fun r_25 a1_done_26 a1_workLeft_27 a1_waits_28 => (wp_Acts_zonesNow a1_done_26 a1_zonesBehind (fun r_29 => (wp_Acts_tick a2_count a2_done_10 a2_workLeft_12 a2_waits_11 a2_kinds a2_sizes r_29 (fun r_30 a2_done_31 a2_workLeft_32 a2_waits_33 => ((¬ r_25 = 0 → ((¬ r_30 = 0 → (∀ x2_36 : Int32, x2_36 = x2_14 + (1 : Int32) → (ih_18 a1_done_26 a1_waits_28 a1_workLeft_27 a2_done_31 a2_waits_33 a2_workLeft_32 (1 : Int32) x2_36))) ∧ (r_30 = 0 → ((r_23 = 0 → (∀ x2_38 : Int32, x2_38 = x2_14 + (1 : Int32) → (ih_18 a1_done_26 a1_waits_28 a1_workLeft_27 a2_done_31 a2_waits_33 a2_workLeft_32 (0 : Int32) x2_38))) ∧ (¬ r_23 = 0 → (∀ x2_39 : Int32, x2_39 = x2_14 + (1 : Int32) → (ih_18 a1_done_26 a1_waits_28 a1_workLeft_27 a2_done_31 a2_waits_33 a2_workLeft_32 (1 : Int32) x2_39))))))) ∧ (r_25 = 0 → ((r_22 = 0 → (∀ x2_41 : Int32, x2_41 = x2_14 + (1 : Int32) → (ih_18 a1_done_26 a1_waits_28 a1_workLeft_27 a2_done_31 a2_waits_33 a2_workLeft_32 (0 : Int32) x2_41))) ∧ (¬ r_22 = 0 → ((¬ r_30 = 0 → (∀ x2_43 : Int32, x2_43 = x2_14 + (1 : Int32) → (ih_18 a1_done_26 a1_waits_28 a1_workLeft_27 a2_done_31 a2_waits_33 a2_workLeft_32 (1 : Int32) x2_43))) ∧ (r_30 = 0 → ((r_23 = 0 → (∀ x2_45 : Int32, x2_45 = x2_14 + (1 : Int32) → (ih_18 a1_done_26 a1_waits_28 a1_workLeft_27 a2_done_31 a2_waits_33 a2_workLeft_32 (0 : Int32) x2_45))) ∧ (¬ r_23 = 0 → (∀ x2_46 : Int32, x2_46 = x2_14 + (1 : Int32) → (ih_18 a1_done_26 a1_waits_28 a1_workLeft_27 a2_done_31 a2_waits_33 a2_workLeft_32 (1 : Int32) x2_46))))))))))))))))))))))) ∧ (¬ r_20 = 0 → (wp_Acts_isThrough a2_count a2_done_10 a2_workLeft_12 (fun r_47 => ((¬ r_47 = 0 → (wp_Crew_work_j129_17 cr_latest post a1_done_7 a1_waits_8 a1_workLeft_9 a2_done_10 a2_waits_11 a2_workLeft_12 x1_13 x2_14)) ∧ (r_47 = 0 → (wp_Acts_isThrough a1_count a1_done_7 a1_workLeft_9 (fun r_49 => (wp_Acts_isThrough a2_count a2_done_10 a2_workLeft_12 (fun r_50 => (wp_Acts_zonesNow a2_done_10 a2_zonesBehind (fun r_51 => (wp_Acts_tick a1_count a1_done_7 a1_workLeft_9 a1_waits_8 a1_kinds a1_sizes r_51 (fun r_52 a1_done_53 a1_workLeft_54 a1_waits_55 => (wp_Acts_zonesNow a1_done_53 a1_zonesBehind (fun r_56 => (wp_Acts_tick a2_count a2_done_10 a2_workLeft_12 a2_waits_11 a2_kinds a2_sizes r_56 (fun r_57 a2_done_58 a2_workLeft_59 a2_waits_60 => ((¬ r_52 = 0 → ((¬ r_57 = 0 → (∀ x2_63 : Int32, x2_63 = x2_14 + (1 : Int32) → (ih_18 a1_done_53 a1_waits_55 a1_workLeft_54 a2_done_58 a2_waits_60 a2_workLeft_59 (1 : Int32) x2_63))) ∧ (r_57 = 0 → ((r_50 = 0 → (∀ x2_65 : Int32, x2_65 = x2_14 + (1 : Int32) → (ih_18 a1_done_53 a1_waits_55 a1_workLeft_54 a2_done_58 a2_waits_60 a2_workLeft_59 (0 : Int32) x2_65))) ∧ (¬ r_50 = 0 → (∀ x2_66 : Int32, x2_66 = x2_14 + (1 : Int32) → (ih_18 a1_done_53 a1_waits_55 a1_workLeft_54 a2_done_58 a2_waits_60 a2_workLeft_59 (1 : Int32) x2_66))))))) ∧ (r_52 = 0 → ((r_49 = 0 → (∀ x2_68 : Int32, x2_68 = x2_14 + (1 : Int32) → (ih_18 a1_done_53 a1_waits_55 a1_workLeft_54 a2_done_58 a2_waits_60 a2_workLeft_59 (0 : Int32) x2_68))) ∧ (¬ r_49 = 0 → ((¬ r_57 = 0 → (∀ x2_70 : Int32, x2_70 = x2_14 + (1 : Int32) → (ih_18 a1_done_53 a1_waits_55 a1_workLeft_54 a2_done_58 a2_waits_60 a2_workLeft_59 (1 : Int32) x2_70))) ∧ (r_57 = 0 → ((r_50 = 0 → (∀ x2_72 : Int32, x2_72 = x2_14 + (1 : Int32) → (ih_18 a1_done_53 a1_waits_55 a1_workLeft_54 a2_done_58 a2_waits_60 a2_workLeft_59 (0 : Int32) x2_72))) ∧ (¬ r_50 = 0 → (∀ x2_73 : Int32, x2_73 = x2_14 + (1 : Int32) → (ih_18 a1_done_53 a1_waits_55 a1_workLeft_54 a2_done_58 a2_waits_60 a2_workLeft_59 (1 : Int32) x2_73))))))))))))))))))))))))))))))))))
noncomputable def wpL_Crew_work_18 (cr_latest : Nat → Int32) (a1_count : Int32) (a1_kinds : Nat → Int32) (a1_sizes : Nat → Int32) (a1_zonesBehind : Nat → Int32) (a2_count : Int32) (a2_kinds : Nat → Int32) (a2_sizes : Nat → Int32) (a2_zonesBehind : Nat → Int32) (post : Int32 → Int32 → (Nat → Int32) → Int32 → Int32 → Int32 → Int32 → Int32 → Int32 → Prop) : Nat → Int32 → Int32 → Int32 → Int32 → Int32 → Int32 → Int32 → Int32 → Prop := fun n => @Nat.rec (fun _ => Int32 → Int32 → Int32 → Int32 → Int32 → Int32 → Int32 → Int32 → Prop) (fun _ _ _ _ _ _ _ _ => False) (fun _ ih_18 => wpB_Crew_work_18 cr_latest a1_count a1_kinds a1_sizes a1_zonesBehind a2_count a2_kinds a2_sizes a2_zonesBehind post ih_18) n
def wp_Crew_work (cr_latest : Nat → Int32) (a1_count : Int32) (a1_kinds : Nat → Int32) (a1_sizes : Nat → Int32) (a1_zonesBehind : Nat → Int32) (a2_count : Int32) (a2_kinds : Nat → Int32) (a2_sizes : Nat → Int32) (a2_zonesBehind : Nat → Int32) (post : Int32 → Int32 → (Nat → Int32) → Int32 → Int32 → Int32 → Int32 → Int32 → Int32 → Prop) : Prop :=
  (wp_Acts_begin  (fun a1_done_1 a1_workLeft_2 a1_waits_3 => (wp_Acts_begin  (fun a2_done_4 a2_workLeft_5 a2_waits_6 => (∃ n : Nat, wpL_Crew_work_18 cr_latest a1_count a1_kinds a1_sizes a1_zonesBehind a2_count a2_kinds a2_sizes a2_zonesBehind post n a1_done_1 a1_waits_3 a1_workLeft_2 a2_done_4 a2_waits_6 a2_workLeft_5 (0 : Int32) (0 : Int32))))))
abbrev rm_Crew_work : Room := { frames := 2, cells := 0, slots := 0, locals := 45 }
set_option maxHeartbeats 4000000 in
set_option maxRecDepth 100000 in
theorem c_Crew_work (l : Launch) (D : va_G) (κ : KT) (h_cr : Nat) (h_a1 : Nat) (h_a2 : Nat) (h_cr_reached : Nat) (h_cr_latest : Nat) (h_a1_kinds : Nat) (h_a1_sizes : Nat) (h_a1_zonesBehind : Nat) (h_a2_kinds : Nat) (h_a2_sizes : Nat) (h_a2_zonesBehind : Nat) (cr_hasRun : Int32) (cr_latest : Nat → Int32) (a1_count : Int32) (a1_done : Int32) (a1_workLeft : Int32) (a1_waits : Int32) (a1_kinds : Nat → Int32) (a1_sizes : Nat → Int32) (a1_zonesBehind : Nat → Int32) (a2_count : Int32) (a2_done : Int32) (a2_workLeft : Int32) (a2_waits : Int32) (a2_kinds : Nat → Int32) (a2_sizes : Nat → Int32) (a2_zonesBehind : Nat → Int32) (sz : Nat) (post : Int32 → Int32 → (Nat → Int32) → Int32 → Int32 → Int32 → Int32 → Int32 → Int32 → Prop) (h : wp_Crew_work cr_latest a1_count a1_kinds a1_sizes a1_zonesBehind a2_count a2_kinds a2_sizes a2_zonesBehind post) : Met l y_Crew_work (wsG y_Crew_work b_Crew_work 7 (some .boolean)) rm_Crew_work (PE D κ [.ref h_cr] [(h_cr, .inr (2, [.ref h_a1, .ref h_a2, .ref h_cr_reached, .ref h_cr_latest, .int cr_hasRun])), (h_cr_latest, cI κ 5 cr_latest), (h_a1, .inr (0, [.ref h_a1_kinds, .ref h_a1_sizes, .ref h_a1_zonesBehind, .int a1_count, .int a1_done, .int a1_workLeft, .int a1_waits])), (h_a1_kinds, cI κ 16 a1_kinds), (h_a1_sizes, cI κ 16 a1_sizes), (h_a1_zonesBehind, cI κ 17 a1_zonesBehind), (h_a2, .inr (0, [.ref h_a2_kinds, .ref h_a2_sizes, .ref h_a2_zonesBehind, .int a2_count, .int a2_done, .int a2_workLeft, .int a2_waits])), (h_a2_kinds, cI κ 16 a2_kinds), (h_a2_sizes, cI κ 16 a2_sizes), (h_a2_zonesBehind, cI κ 17 a2_zonesBehind)] sz) (va_Qi (fun (r : Int32) (u : (Int32) × (Nat → Int32) × (Int32) × (Int32) × (Int32) × (Int32) × (Int32) × (Int32)) => post r u.1 u.2.1 u.2.2.1 u.2.2.2.1 u.2.2.2.2.1 u.2.2.2.2.2.1 u.2.2.2.2.2.2.1 u.2.2.2.2.2.2.2) (QB D [(h_cr, .inr (2, [.ref h_a1, .ref h_a2, .ref h_cr_reached, .ref h_cr_latest, .int cr_hasRun])), (h_cr_latest, cI κ 5 cr_latest), (h_a1, .inr (0, [.ref h_a1_kinds, .ref h_a1_sizes, .ref h_a1_zonesBehind, .int a1_count, .int a1_done, .int a1_workLeft, .int a1_waits])), (h_a1_kinds, cI κ 16 a1_kinds), (h_a1_sizes, cI κ 16 a1_sizes), (h_a1_zonesBehind, cI κ 17 a1_zonesBehind), (h_a2, .inr (0, [.ref h_a2_kinds, .ref h_a2_sizes, .ref h_a2_zonesBehind, .int a2_count, .int a2_done, .int a2_workLeft, .int a2_waits])), (h_a2_kinds, cI κ 16 a2_kinds), (h_a2_sizes, cI κ 16 a2_sizes), (h_a2_zonesBehind, cI κ 17 a2_zonesBehind)] sz (fun (u : (Int32) × (Nat → Int32) × (Int32) × (Int32) × (Int32) × (Int32) × (Int32) × (Int32)) => [(h_cr, .inr (2, [.ref h_a1, .ref h_a2, .ref h_cr_reached, .ref h_cr_latest, .int u.1])), (h_cr_latest, cI κ 5 u.2.1), (h_a1, .inr (0, [.ref h_a1_kinds, .ref h_a1_sizes, .ref h_a1_zonesBehind, .int a1_count, .int u.2.2.1, .int u.2.2.2.1, .int u.2.2.2.2.1])), (h_a1_kinds, cI κ 16 a1_kinds), (h_a1_sizes, cI κ 16 a1_sizes), (h_a1_zonesBehind, cI κ 17 a1_zonesBehind), (h_a2, .inr (0, [.ref h_a2_kinds, .ref h_a2_sizes, .ref h_a2_zonesBehind, .int a2_count, .int u.2.2.2.2.2.1, .int u.2.2.2.2.2.2.1, .int u.2.2.2.2.2.2.2])), (h_a2_kinds, cI κ 16 a2_kinds), (h_a2_sizes, cI κ 16 a2_sizes), (h_a2_zonesBehind, cI κ 17 a2_zonesBehind)])) (va_A [(h_cr, .inr (2, [.ref h_a1, .ref h_a2, .ref h_cr_reached, .ref h_cr_latest, .int cr_hasRun])), (h_cr_latest, cI κ 5 cr_latest), (h_a1, .inr (0, [.ref h_a1_kinds, .ref h_a1_sizes, .ref h_a1_zonesBehind, .int a1_count, .int a1_done, .int a1_workLeft, .int a1_waits])), (h_a1_kinds, cI κ 16 a1_kinds), (h_a1_sizes, cI κ 16 a1_sizes), (h_a1_zonesBehind, cI κ 17 a1_zonesBehind), (h_a2, .inr (0, [.ref h_a2_kinds, .ref h_a2_sizes, .ref h_a2_zonesBehind, .int a2_count, .int a2_done, .int a2_workLeft, .int a2_waits])), (h_a2_kinds, cI κ 16 a2_kinds), (h_a2_sizes, cI κ 16 a2_sizes), (h_a2_zonesBehind, cI κ 17 a2_zonesBehind)] sz)) 0 0 (va_A [(h_cr, .inr (2, [.ref h_a1, .ref h_a2, .ref h_cr_reached, .ref h_cr_latest, .int cr_hasRun])), (h_cr_latest, cI κ 5 cr_latest), (h_a1, .inr (0, [.ref h_a1_kinds, .ref h_a1_sizes, .ref h_a1_zonesBehind, .int a1_count, .int a1_done, .int a1_workLeft, .int a1_waits])), (h_a1_kinds, cI κ 16 a1_kinds), (h_a1_sizes, cI κ 16 a1_sizes), (h_a1_zonesBehind, cI κ 17 a1_zonesBehind), (h_a2, .inr (0, [.ref h_a2_kinds, .ref h_a2_sizes, .ref h_a2_zonesBehind, .int a2_count, .int a2_done, .int a2_workLeft, .int a2_waits])), (h_a2_kinds, cI κ 16 a2_kinds), (h_a2_sizes, cI κ 16 a2_sizes), (h_a2_zonesBehind, cI κ 17 a2_zonesBehind)] sz) := by
  refine ze_start [(0, .ref h_cr)] rfl (Nat.le_of_ble_eq_true rfl) rfl ?_
  intro p e s m args below meth c C hr hlk hnm hsz
  subst hsz
  unfold wp_Crew_work at h
  refine z_aload C d_Crew_work_0 0 rfl ?_
  refine z_get C fl_Crew_12 0 rfl rfl d_Crew_work_1 ?_
  refine z_vev C (rest := []) (wr := [(h_cr, .inr (2, [.ref h_a1, .ref h_a2, .ref h_cr_reached, .ref h_cr_latest, .int cr_hasRun])), (h_cr_latest, cI κ 5 cr_latest), (h_a1_kinds, cI κ 16 a1_kinds), (h_a1_sizes, cI κ 16 a1_sizes), (h_a1_zonesBehind, cI κ 17 a1_zonesBehind), (h_a2, .inr (0, [.ref h_a2_kinds, .ref h_a2_sizes, .ref h_a2_zonesBehind, .int a2_count, .int a2_done, .int a2_workLeft, .int a2_waits])), (h_a2_kinds, cI κ 16 a2_kinds), (h_a2_sizes, cI κ 16 a2_sizes), (h_a2_zonesBehind, cI κ 17 a2_zonesBehind)]) (fun sz => c_Acts_begin l D κ h_a1 h_a1_kinds h_a1_sizes h_a1_zonesBehind a1_count a1_done a1_workLeft a1_waits sz _ h) cv_Crew_29 ⟨rfl, rfl⟩ ⟨⟨Nat.le_of_ble_eq_true rfl, Nat.le_of_ble_eq_true rfl⟩, Nat.le_of_ble_eq_true rfl, Nat.le_of_ble_eq_true rfl⟩ 2 rfl [2] [0, 1, 3, 4, 5, 6, 7, 8, 9] rfl rfl rfl (fun u => [(h_cr, .inr (2, [.ref h_a1, .ref h_a2, .ref h_cr_reached, .ref h_cr_latest, .int cr_hasRun])), (h_cr_latest, cI κ 5 cr_latest), (h_a1, .inr (0, [.ref h_a1_kinds, .ref h_a1_sizes, .ref h_a1_zonesBehind, .int a1_count, .int u.1, .int u.2.1, .int u.2.2])), (h_a1_kinds, cI κ 16 a1_kinds), (h_a1_sizes, cI κ 16 a1_sizes), (h_a1_zonesBehind, cI κ 17 a1_zonesBehind), (h_a2, .inr (0, [.ref h_a2_kinds, .ref h_a2_sizes, .ref h_a2_zonesBehind, .int a2_count, .int a2_done, .int a2_workLeft, .int a2_waits])), (h_a2_kinds, cI κ 16 a2_kinds), (h_a2_sizes, cI κ 16 a2_sizes), (h_a2_zonesBehind, cI κ 17 a2_zonesBehind)]) [0, 1, 9, 2, 3, 4, 5, 6, 7, 8] rfl (fun _ => rfl) rfl rfl (Nat.le_of_ble_eq_true rfl) d_Crew_work_4 (fun u_3 h => ?_)
  obtain ⟨a1_done_1, a1_workLeft_2, a1_waits_3⟩ := u_3
  (try dsimp only at h); (try dsimp only)
  refine z_aload C d_Crew_work_7 0 rfl ?_
  refine z_get C fl_Crew_18 0 rfl rfl d_Crew_work_8 ?_
  refine z_vev C (rest := []) (wr := [(h_cr, .inr (2, [.ref h_a1, .ref h_a2, .ref h_cr_reached, .ref h_cr_latest, .int cr_hasRun])), (h_cr_latest, cI κ 5 cr_latest), (h_a1, .inr (0, [.ref h_a1_kinds, .ref h_a1_sizes, .ref h_a1_zonesBehind, .int a1_count, .int a1_done_1, .int a1_workLeft_2, .int a1_waits_3])), (h_a1_kinds, cI κ 16 a1_kinds), (h_a1_sizes, cI κ 16 a1_sizes), (h_a1_zonesBehind, cI κ 17 a1_zonesBehind), (h_a2_kinds, cI κ 16 a2_kinds), (h_a2_sizes, cI κ 16 a2_sizes), (h_a2_zonesBehind, cI κ 17 a2_zonesBehind)]) (fun sz => c_Acts_begin l D κ h_a2 h_a2_kinds h_a2_sizes h_a2_zonesBehind a2_count a2_done a2_workLeft a2_waits sz _ h) cv_Crew_29 ⟨rfl, rfl⟩ ⟨⟨Nat.le_of_ble_eq_true rfl, Nat.le_of_ble_eq_true rfl⟩, Nat.le_of_ble_eq_true rfl, Nat.le_of_ble_eq_true rfl⟩ 6 rfl [6] [0, 1, 2, 3, 4, 5, 7, 8, 9] rfl rfl rfl (fun u => [(h_cr, .inr (2, [.ref h_a1, .ref h_a2, .ref h_cr_reached, .ref h_cr_latest, .int cr_hasRun])), (h_cr_latest, cI κ 5 cr_latest), (h_a1, .inr (0, [.ref h_a1_kinds, .ref h_a1_sizes, .ref h_a1_zonesBehind, .int a1_count, .int a1_done_1, .int a1_workLeft_2, .int a1_waits_3])), (h_a1_kinds, cI κ 16 a1_kinds), (h_a1_sizes, cI κ 16 a1_sizes), (h_a1_zonesBehind, cI κ 17 a1_zonesBehind), (h_a2, .inr (0, [.ref h_a2_kinds, .ref h_a2_sizes, .ref h_a2_zonesBehind, .int a2_count, .int u.1, .int u.2.1, .int u.2.2])), (h_a2_kinds, cI κ 16 a2_kinds), (h_a2_sizes, cI κ 16 a2_sizes), (h_a2_zonesBehind, cI κ 17 a2_zonesBehind)]) [0, 1, 2, 3, 4, 5, 9, 6, 7, 8] rfl (fun _ => rfl) rfl rfl (Nat.le_of_ble_eq_true rfl) d_Crew_work_11 (fun u_6 h => ?_)
  obtain ⟨a2_done_4, a2_workLeft_5, a2_waits_6⟩ := u_6
  (try dsimp only at h); (try dsimp only)
  refine z_k C d_Crew_work_14 ?_
  refine z_istore C [(1, .int (0 : Int32)), (0, .ref h_cr)] d_Crew_work_15 rfl rfl ?_
  refine z_k C d_Crew_work_16 ?_
  refine z_istore C [(2, .int (0 : Int32)), (1, .int (0 : Int32)), (0, .ref h_cr)] d_Crew_work_17 rfl rfl ?_
  obtain ⟨n_18, h⟩ := h
  have LP_18 : ∀ (n : Nat) (a1_done_7 : Int32) (a1_waits_8 : Int32) (a1_workLeft_9 : Int32) (a2_done_10 : Int32) (a2_waits_11 : Int32) (a2_workLeft_12 : Int32) (x1_13 : Int32) (x2_14 : Int32), wpL_Crew_work_18 cr_latest a1_count a1_kinds a1_sizes a1_zonesBehind a2_count a2_kinds a2_sizes a2_zonesBehind post n a1_done_7 a1_waits_8 a1_workLeft_9 a2_done_10 a2_waits_11 a2_workLeft_12 x1_13 x2_14 → Zw p l e rm_Crew_work s m args below meth c 0 0 (MQ below (va_Qi (fun (r : Int32) (u : (Int32) × (Nat → Int32) × (Int32) × (Int32) × (Int32) × (Int32) × (Int32) × (Int32)) => post r u.1 u.2.1 u.2.2.1 u.2.2.2.1 u.2.2.2.2.1 u.2.2.2.2.2.1 u.2.2.2.2.2.2.1 u.2.2.2.2.2.2.2) (QB D [(h_cr, .inr (2, [.ref h_a1, .ref h_a2, .ref h_cr_reached, .ref h_cr_latest, .int cr_hasRun])), (h_cr_latest, cI κ 5 cr_latest), (h_a1, .inr (0, [.ref h_a1_kinds, .ref h_a1_sizes, .ref h_a1_zonesBehind, .int a1_count, .int a1_done, .int a1_workLeft, .int a1_waits])), (h_a1_kinds, cI κ 16 a1_kinds), (h_a1_sizes, cI κ 16 a1_sizes), (h_a1_zonesBehind, cI κ 17 a1_zonesBehind), (h_a2, .inr (0, [.ref h_a2_kinds, .ref h_a2_sizes, .ref h_a2_zonesBehind, .int a2_count, .int a2_done, .int a2_workLeft, .int a2_waits])), (h_a2_kinds, cI κ 16 a2_kinds), (h_a2_sizes, cI κ 16 a2_sizes), (h_a2_zonesBehind, cI κ 17 a2_zonesBehind)] s.heap.size (fun (u : (Int32) × (Nat → Int32) × (Int32) × (Int32) × (Int32) × (Int32) × (Int32) × (Int32)) => [(h_cr, .inr (2, [.ref h_a1, .ref h_a2, .ref h_cr_reached, .ref h_cr_latest, .int u.1])), (h_cr_latest, cI κ 5 u.2.1), (h_a1, .inr (0, [.ref h_a1_kinds, .ref h_a1_sizes, .ref h_a1_zonesBehind, .int a1_count, .int u.2.2.1, .int u.2.2.2.1, .int u.2.2.2.2.1])), (h_a1_kinds, cI κ 16 a1_kinds), (h_a1_sizes, cI κ 16 a1_sizes), (h_a1_zonesBehind, cI κ 17 a1_zonesBehind), (h_a2, .inr (0, [.ref h_a2_kinds, .ref h_a2_sizes, .ref h_a2_zonesBehind, .int a2_count, .int u.2.2.2.2.2.1, .int u.2.2.2.2.2.2.1, .int u.2.2.2.2.2.2.2])), (h_a2_kinds, cI κ 16 a2_kinds), (h_a2_sizes, cI κ 16 a2_sizes), (h_a2_zonesBehind, cI κ 17 a2_zonesBehind)])) (va_A [(h_cr, .inr (2, [.ref h_a1, .ref h_a2, .ref h_cr_reached, .ref h_cr_latest, .int cr_hasRun])), (h_cr_latest, cI κ 5 cr_latest), (h_a1, .inr (0, [.ref h_a1_kinds, .ref h_a1_sizes, .ref h_a1_zonesBehind, .int a1_count, .int a1_done, .int a1_workLeft, .int a1_waits])), (h_a1_kinds, cI κ 16 a1_kinds), (h_a1_sizes, cI κ 16 a1_sizes), (h_a1_zonesBehind, cI κ 17 a1_zonesBehind), (h_a2, .inr (0, [.ref h_a2_kinds, .ref h_a2_sizes, .ref h_a2_zonesBehind, .int a2_count, .int a2_done, .int a2_workLeft, .int a2_waits])), (h_a2_kinds, cI κ 16 a2_kinds), (h_a2_sizes, cI κ 16 a2_sizes), (h_a2_zonesBehind, cI κ 17 a2_zonesBehind)] s.heap.size)) args s 0 0 (va_A [(h_cr, .inr (2, [.ref h_a1, .ref h_a2, .ref h_cr_reached, .ref h_cr_latest, .int cr_hasRun])), (h_cr_latest, cI κ 5 cr_latest), (h_a1, .inr (0, [.ref h_a1_kinds, .ref h_a1_sizes, .ref h_a1_zonesBehind, .int a1_count, .int a1_done, .int a1_workLeft, .int a1_waits])), (h_a1_kinds, cI κ 16 a1_kinds), (h_a1_sizes, cI κ 16 a1_sizes), (h_a1_zonesBehind, cI κ 17 a1_zonesBehind), (h_a2, .inr (0, [.ref h_a2_kinds, .ref h_a2_sizes, .ref h_a2_zonesBehind, .int a2_count, .int a2_done, .int a2_workLeft, .int a2_waits])), (h_a2_kinds, cI κ 16 a2_kinds), (h_a2_sizes, cI κ 16 a2_sizes), (h_a2_zonesBehind, cI κ 17 a2_zonesBehind)] s.heap.size)) D 7 (some (va_A [(h_cr, .inr (2, [.ref h_a1, .ref h_a2, .ref h_cr_reached, .ref h_cr_latest, .int cr_hasRun])), (h_cr_latest, cI κ 5 cr_latest), (h_a1, .inr (0, [.ref h_a1_kinds, .ref h_a1_sizes, .ref h_a1_zonesBehind, .int a1_count, .int a1_done, .int a1_workLeft, .int a1_waits])), (h_a1_kinds, cI κ 16 a1_kinds), (h_a1_sizes, cI κ 16 a1_sizes), (h_a1_zonesBehind, cI κ 17 a1_zonesBehind), (h_a2, .inr (0, [.ref h_a2_kinds, .ref h_a2_sizes, .ref h_a2_zonesBehind, .int a2_count, .int a2_done, .int a2_workLeft, .int a2_waits])), (h_a2_kinds, cI κ 16 a2_kinds), (h_a2_sizes, cI κ 16 a2_sizes), (h_a2_zonesBehind, cI κ 17 a2_zonesBehind)] s.heap.size)) [(h_cr, .inr (2, [.ref h_a1, .ref h_a2, .ref h_cr_reached, .ref h_cr_latest, .int cr_hasRun])), (h_cr_latest, cI κ 5 cr_latest), (h_a1, .inr (0, [.ref h_a1_kinds, .ref h_a1_sizes, .ref h_a1_zonesBehind, .int a1_count, .int a1_done_7, .int a1_workLeft_9, .int a1_waits_8])), (h_a1_kinds, cI κ 16 a1_kinds), (h_a1_sizes, cI κ 16 a1_sizes), (h_a1_zonesBehind, cI κ 17 a1_zonesBehind), (h_a2, .inr (0, [.ref h_a2_kinds, .ref h_a2_sizes, .ref h_a2_zonesBehind, .int a2_count, .int a2_done_10, .int a2_workLeft_12, .int a2_waits_11])), (h_a2_kinds, cI κ 16 a2_kinds), (h_a2_sizes, cI κ 16 a2_sizes), (h_a2_zonesBehind, cI κ 17 a2_zonesBehind)] [(0, .ref h_cr), (1, .int x1_13), (2, .int x2_14)] 18 [] := by
    intro n
    induction n with
    | zero => intro a1_done_7 a1_waits_8 a1_workLeft_9 a2_done_10 a2_waits_11 a2_workLeft_12 x1_13 x2_14 h; exact False.elim h
    | succ nn_18 IH_18 =>
      intro a1_done_7 a1_waits_8 a1_workLeft_9 a2_done_10 a2_waits_11 a2_workLeft_12 x1_13 x2_14 h
      have h : wpB_Crew_work_18 cr_latest a1_count a1_kinds a1_sizes a1_zonesBehind a2_count a2_kinds a2_sizes a2_zonesBehind post (wpL_Crew_work_18 cr_latest a1_count a1_kinds a1_sizes a1_zonesBehind a2_count a2_kinds a2_sizes a2_zonesBehind post nn_18) a1_done_7 a1_waits_8 a1_workLeft_9 a2_done_10 a2_waits_11 a2_workLeft_12 x1_13 x2_14 := h
      unfold wpB_Crew_work_18 at h
      refine z_iload C d_Crew_work_18 2 rfl ?_
      refine z_k C d_Crew_work_19 ?_
      have J_129 : wp_Crew_work_j129_17 cr_latest post a1_done_7 a1_waits_8 a1_workLeft_9 a2_done_10 a2_waits_11 a2_workLeft_12 x1_13 x2_14 → Zw p l e rm_Crew_work s m args below meth c 0 0 (MQ below (va_Qi (fun (r : Int32) (u : (Int32) × (Nat → Int32) × (Int32) × (Int32) × (Int32) × (Int32) × (Int32) × (Int32)) => post r u.1 u.2.1 u.2.2.1 u.2.2.2.1 u.2.2.2.2.1 u.2.2.2.2.2.1 u.2.2.2.2.2.2.1 u.2.2.2.2.2.2.2) (QB D [(h_cr, .inr (2, [.ref h_a1, .ref h_a2, .ref h_cr_reached, .ref h_cr_latest, .int cr_hasRun])), (h_cr_latest, cI κ 5 cr_latest), (h_a1, .inr (0, [.ref h_a1_kinds, .ref h_a1_sizes, .ref h_a1_zonesBehind, .int a1_count, .int a1_done, .int a1_workLeft, .int a1_waits])), (h_a1_kinds, cI κ 16 a1_kinds), (h_a1_sizes, cI κ 16 a1_sizes), (h_a1_zonesBehind, cI κ 17 a1_zonesBehind), (h_a2, .inr (0, [.ref h_a2_kinds, .ref h_a2_sizes, .ref h_a2_zonesBehind, .int a2_count, .int a2_done, .int a2_workLeft, .int a2_waits])), (h_a2_kinds, cI κ 16 a2_kinds), (h_a2_sizes, cI κ 16 a2_sizes), (h_a2_zonesBehind, cI κ 17 a2_zonesBehind)] s.heap.size (fun (u : (Int32) × (Nat → Int32) × (Int32) × (Int32) × (Int32) × (Int32) × (Int32) × (Int32)) => [(h_cr, .inr (2, [.ref h_a1, .ref h_a2, .ref h_cr_reached, .ref h_cr_latest, .int u.1])), (h_cr_latest, cI κ 5 u.2.1), (h_a1, .inr (0, [.ref h_a1_kinds, .ref h_a1_sizes, .ref h_a1_zonesBehind, .int a1_count, .int u.2.2.1, .int u.2.2.2.1, .int u.2.2.2.2.1])), (h_a1_kinds, cI κ 16 a1_kinds), (h_a1_sizes, cI κ 16 a1_sizes), (h_a1_zonesBehind, cI κ 17 a1_zonesBehind), (h_a2, .inr (0, [.ref h_a2_kinds, .ref h_a2_sizes, .ref h_a2_zonesBehind, .int a2_count, .int u.2.2.2.2.2.1, .int u.2.2.2.2.2.2.1, .int u.2.2.2.2.2.2.2])), (h_a2_kinds, cI κ 16 a2_kinds), (h_a2_sizes, cI κ 16 a2_sizes), (h_a2_zonesBehind, cI κ 17 a2_zonesBehind)])) (va_A [(h_cr, .inr (2, [.ref h_a1, .ref h_a2, .ref h_cr_reached, .ref h_cr_latest, .int cr_hasRun])), (h_cr_latest, cI κ 5 cr_latest), (h_a1, .inr (0, [.ref h_a1_kinds, .ref h_a1_sizes, .ref h_a1_zonesBehind, .int a1_count, .int a1_done, .int a1_workLeft, .int a1_waits])), (h_a1_kinds, cI κ 16 a1_kinds), (h_a1_sizes, cI κ 16 a1_sizes), (h_a1_zonesBehind, cI κ 17 a1_zonesBehind), (h_a2, .inr (0, [.ref h_a2_kinds, .ref h_a2_sizes, .ref h_a2_zonesBehind, .int a2_count, .int a2_done, .int a2_workLeft, .int a2_waits])), (h_a2_kinds, cI κ 16 a2_kinds), (h_a2_sizes, cI κ 16 a2_sizes), (h_a2_zonesBehind, cI κ 17 a2_zonesBehind)] s.heap.size)) args s 0 0 (va_A [(h_cr, .inr (2, [.ref h_a1, .ref h_a2, .ref h_cr_reached, .ref h_cr_latest, .int cr_hasRun])), (h_cr_latest, cI κ 5 cr_latest), (h_a1, .inr (0, [.ref h_a1_kinds, .ref h_a1_sizes, .ref h_a1_zonesBehind, .int a1_count, .int a1_done, .int a1_workLeft, .int a1_waits])), (h_a1_kinds, cI κ 16 a1_kinds), (h_a1_sizes, cI κ 16 a1_sizes), (h_a1_zonesBehind, cI κ 17 a1_zonesBehind), (h_a2, .inr (0, [.ref h_a2_kinds, .ref h_a2_sizes, .ref h_a2_zonesBehind, .int a2_count, .int a2_done, .int a2_workLeft, .int a2_waits])), (h_a2_kinds, cI κ 16 a2_kinds), (h_a2_sizes, cI κ 16 a2_sizes), (h_a2_zonesBehind, cI κ 17 a2_zonesBehind)] s.heap.size)) D 7 (some (va_A [(h_cr, .inr (2, [.ref h_a1, .ref h_a2, .ref h_cr_reached, .ref h_cr_latest, .int cr_hasRun])), (h_cr_latest, cI κ 5 cr_latest), (h_a1, .inr (0, [.ref h_a1_kinds, .ref h_a1_sizes, .ref h_a1_zonesBehind, .int a1_count, .int a1_done, .int a1_workLeft, .int a1_waits])), (h_a1_kinds, cI κ 16 a1_kinds), (h_a1_sizes, cI κ 16 a1_sizes), (h_a1_zonesBehind, cI κ 17 a1_zonesBehind), (h_a2, .inr (0, [.ref h_a2_kinds, .ref h_a2_sizes, .ref h_a2_zonesBehind, .int a2_count, .int a2_done, .int a2_workLeft, .int a2_waits])), (h_a2_kinds, cI κ 16 a2_kinds), (h_a2_sizes, cI κ 16 a2_sizes), (h_a2_zonesBehind, cI κ 17 a2_zonesBehind)] s.heap.size)) [(h_cr, .inr (2, [.ref h_a1, .ref h_a2, .ref h_cr_reached, .ref h_cr_latest, .int cr_hasRun])), (h_cr_latest, cI κ 5 cr_latest), (h_a1, .inr (0, [.ref h_a1_kinds, .ref h_a1_sizes, .ref h_a1_zonesBehind, .int a1_count, .int a1_done_7, .int a1_workLeft_9, .int a1_waits_8])), (h_a1_kinds, cI κ 16 a1_kinds), (h_a1_sizes, cI κ 16 a1_sizes), (h_a1_zonesBehind, cI κ 17 a1_zonesBehind), (h_a2, .inr (0, [.ref h_a2_kinds, .ref h_a2_sizes, .ref h_a2_zonesBehind, .int a2_count, .int a2_done_10, .int a2_workLeft_12, .int a2_waits_11])), (h_a2_kinds, cI κ 16 a2_kinds), (h_a2_sizes, cI κ 16 a2_sizes), (h_a2_zonesBehind, cI κ 17 a2_zonesBehind)] [(0, .ref h_cr), (1, .int x1_13), (2, .int x2_14)] 129 [] := by
        intro  h
        unfold wp_Crew_work_j129_17 at h
        refine z_aload C d_Crew_work_129 0 rfl ?_
        refine z_iload C d_Crew_work_130 2 rfl ?_
        refine z_vev C (rest := []) (wr := [(h_a1_kinds, cI κ 16 a1_kinds), (h_a1_sizes, cI κ 16 a1_sizes), (h_a1_zonesBehind, cI κ 17 a1_zonesBehind), (h_a2_kinds, cI κ 16 a2_kinds), (h_a2_sizes, cI κ 16 a2_sizes), (h_a2_zonesBehind, cI κ 17 a2_zonesBehind)]) (fun sz => c_Crew_note l D κ h_cr h_a1 h_a2 h_cr_reached h_cr_latest h_a1_kinds h_a1_sizes h_a1_zonesBehind h_a2_kinds h_a2_sizes h_a2_zonesBehind cr_hasRun cr_latest a1_count a1_done_7 a1_workLeft_9 a1_waits_8 a2_count a2_done_10 a2_workLeft_12 a2_waits_11 x2_14 sz _ h) cv_Crew_44 ⟨rfl, rfl⟩ ⟨⟨Nat.le_of_ble_eq_true rfl, Nat.le_of_ble_eq_true rfl⟩, Nat.le_of_ble_eq_true rfl, Nat.le_of_ble_eq_true rfl⟩ 0 rfl [0, 1, 2, 6] [3, 4, 5, 7, 8, 9] rfl rfl rfl (fun u => [(h_cr, .inr (2, [.ref h_a1, .ref h_a2, .ref h_cr_reached, .ref h_cr_latest, .int u.1])), (h_cr_latest, cI κ 5 u.2), (h_a1, .inr (0, [.ref h_a1_kinds, .ref h_a1_sizes, .ref h_a1_zonesBehind, .int a1_count, .int a1_done_7, .int a1_workLeft_9, .int a1_waits_8])), (h_a1_kinds, cI κ 16 a1_kinds), (h_a1_sizes, cI κ 16 a1_sizes), (h_a1_zonesBehind, cI κ 17 a1_zonesBehind), (h_a2, .inr (0, [.ref h_a2_kinds, .ref h_a2_sizes, .ref h_a2_zonesBehind, .int a2_count, .int a2_done_10, .int a2_workLeft_12, .int a2_waits_11])), (h_a2_kinds, cI κ 16 a2_kinds), (h_a2_sizes, cI κ 16 a2_sizes), (h_a2_zonesBehind, cI κ 17 a2_zonesBehind)]) [6, 7, 8, 0, 1, 2, 9, 3, 4, 5] rfl (fun _ => rfl) rfl rfl (Nat.le_of_ble_eq_true rfl) d_Crew_work_131 (fun u_16 h => ?_)
        obtain ⟨cr_hasRun_15, cr_latest_16⟩ := u_16
        (try dsimp only at h); (try dsimp only)
        refine z_iload C d_Crew_work_134 1 rfl ?_
        refine z_if_ne C d_Crew_work_135 (fun c_17 => ?_) (fun c_17 => ?_)
        · replace h := h.1 c_17
          refine z_k C d_Crew_work_142 ?_
          exact ze_zret C (cr_hasRun_15, cr_latest_16, a1_done_7, a1_workLeft_9, a1_waits_8, a2_done_10, a2_workLeft_12, a2_waits_11) hr hlk (Or.inl rfl) rfl d_Crew_work_143 h
        · replace h := h.2 c_17
          refine z_k C d_Crew_work_138 ?_
          refine z_goto C d_Crew_work_139 ?_
          exact ze_zret C (cr_hasRun_15, cr_latest_16, a1_done_7, a1_workLeft_9, a1_waits_8, a2_done_10, a2_workLeft_12, a2_waits_11) hr hlk (Or.inr rfl) rfl d_Crew_work_143 h
      refine z_icmp_ge C d_Crew_work_22 (fun c_18 => ?_) (fun c_18 => ?_)
      · replace h := h.1 c_18
        refine z_sub [0, 1, 2] [(0, .ref h_cr), (1, .int x1_13), (2, .int x2_14)] rfl ?_
        exact J_129  h
      · replace h := h.2 c_18
        refine z_iload C d_Crew_work_25 1 rfl ?_
        refine z_if_ne C d_Crew_work_26 (fun c_19 => ?_) (fun c_19 => ?_)
        · replace h := h.1 c_19
          refine z_sub [0, 1, 2] [(0, .ref h_cr), (1, .int x1_13), (2, .int x2_14)] rfl ?_
          exact J_129  h
        · replace h := h.2 c_19
          refine z_aload C d_Crew_work_29 0 rfl ?_
          refine z_get C fl_Crew_12 0 rfl rfl d_Crew_work_30 ?_
          refine z_vpi C (rest := []) (c_Acts_isThrough l D κ h_a1 h_a1_kinds h_a1_sizes h_a1_zonesBehind a1_count a1_done_7 a1_workLeft_9 a1_waits_8 _ h) cv_Crew_32 ⟨rfl, rfl⟩ ⟨⟨Nat.le_of_ble_eq_true rfl, Nat.le_of_ble_eq_true rfl⟩, Nat.le_of_ble_eq_true rfl, Nat.le_of_ble_eq_true rfl⟩ 2 rfl [2] rfl rfl rfl (Nat.le_of_ble_eq_true rfl) d_Crew_work_33 (fun r_20 h => ?_)
          refine z_if_eq C d_Crew_work_36 (fun c_21 => ?_) (fun c_21 => ?_)
          · replace h := h.1 c_21
            refine z_aload C d_Crew_work_49 0 rfl ?_
            refine z_get C fl_Crew_12 0 rfl rfl d_Crew_work_50 ?_
            refine z_vpi C (rest := []) (c_Acts_isThrough l D κ h_a1 h_a1_kinds h_a1_sizes h_a1_zonesBehind a1_count a1_done_7 a1_workLeft_9 a1_waits_8 _ h) cv_Crew_32 ⟨rfl, rfl⟩ ⟨⟨Nat.le_of_ble_eq_true rfl, Nat.le_of_ble_eq_true rfl⟩, Nat.le_of_ble_eq_true rfl, Nat.le_of_ble_eq_true rfl⟩ 2 rfl [2] rfl rfl rfl (Nat.le_of_ble_eq_true rfl) d_Crew_work_53 (fun r_22 h => ?_)
            refine z_istore C [(3, .int r_22), (0, .ref h_cr), (1, .int x1_13), (2, .int x2_14)] d_Crew_work_56 rfl rfl ?_
            refine z_aload C d_Crew_work_57 1 rfl ?_
            refine z_get C fl_Crew_18 0 rfl rfl d_Crew_work_58 ?_
            refine z_vpi C (rest := []) (c_Acts_isThrough l D κ h_a2 h_a2_kinds h_a2_sizes h_a2_zonesBehind a2_count a2_done_10 a2_workLeft_12 a2_waits_11 _ h) cv_Crew_32 ⟨rfl, rfl⟩ ⟨⟨Nat.le_of_ble_eq_true rfl, Nat.le_of_ble_eq_true rfl⟩, Nat.le_of_ble_eq_true rfl, Nat.le_of_ble_eq_true rfl⟩ 6 rfl [6] rfl rfl rfl (Nat.le_of_ble_eq_true rfl) d_Crew_work_61 (fun r_23 h => ?_)
            refine z_istore C [(4, .int r_23), (3, .int r_22), (0, .ref h_cr), (1, .int x1_13), (2, .int x2_14)] d_Crew_work_64 rfl rfl ?_
            refine z_aload C d_Crew_work_66 2 rfl ?_
            refine z_get C fl_Crew_12 0 rfl rfl d_Crew_work_67 ?_
            refine z_aload C d_Crew_work_70 2 rfl ?_
            refine z_get C fl_Crew_18 0 rfl rfl d_Crew_work_71 ?_
            refine z_vpi C (rest := [.ref h_a1]) (c_Acts_zonesNow l D κ h_a2 h_a2_kinds h_a2_sizes h_a2_zonesBehind a2_count a2_done_10 a2_workLeft_12 a2_waits_11 a2_zonesBehind _ h) cv_Crew_36 ⟨rfl, rfl⟩ ⟨⟨Nat.le_of_ble_eq_true rfl, Nat.le_of_ble_eq_true rfl⟩, Nat.le_of_ble_eq_true rfl, Nat.le_of_ble_eq_true rfl⟩ 6 rfl [6, 9] rfl rfl rfl (Nat.le_of_ble_eq_true rfl) d_Crew_work_74 (fun r_24 h => ?_)
            refine z_vei C (rest := []) (wr := [(h_cr, .inr (2, [.ref h_a1, .ref h_a2, .ref h_cr_reached, .ref h_cr_latest, .int cr_hasRun])), (h_cr_latest, cI κ 5 cr_latest), (h_a1_zonesBehind, cI κ 17 a1_zonesBehind), (h_a2, .inr (0, [.ref h_a2_kinds, .ref h_a2_sizes, .ref h_a2_zonesBehind, .int a2_count, .int a2_done_10, .int a2_workLeft_12, .int a2_waits_11])), (h_a2_kinds, cI κ 16 a2_kinds), (h_a2_sizes, cI κ 16 a2_sizes), (h_a2_zonesBehind, cI κ 17 a2_zonesBehind)]) (fun sz => c_Acts_tick l D κ h_a1 h_a1_kinds h_a1_sizes h_a1_zonesBehind a1_count a1_done_7 a1_workLeft_9 a1_waits_8 a1_kinds a1_sizes r_24 sz _ h) cv_Crew_40 ⟨rfl, rfl⟩ ⟨⟨Nat.le_of_ble_eq_true rfl, Nat.le_of_ble_eq_true rfl⟩, Nat.le_of_ble_eq_true rfl, Nat.le_of_ble_eq_true rfl⟩ 2 rfl [2, 3, 4] [0, 1, 5, 6, 7, 8, 9] rfl rfl rfl (fun u => [(h_cr, .inr (2, [.ref h_a1, .ref h_a2, .ref h_cr_reached, .ref h_cr_latest, .int cr_hasRun])), (h_cr_latest, cI κ 5 cr_latest), (h_a1, .inr (0, [.ref h_a1_kinds, .ref h_a1_sizes, .ref h_a1_zonesBehind, .int a1_count, .int u.1, .int u.2.1, .int u.2.2])), (h_a1_kinds, cI κ 16 a1_kinds), (h_a1_sizes, cI κ 16 a1_sizes), (h_a1_zonesBehind, cI κ 17 a1_zonesBehind), (h_a2, .inr (0, [.ref h_a2_kinds, .ref h_a2_sizes, .ref h_a2_zonesBehind, .int a2_count, .int a2_done_10, .int a2_workLeft_12, .int a2_waits_11])), (h_a2_kinds, cI κ 16 a2_kinds), (h_a2_sizes, cI κ 16 a2_sizes), (h_a2_zonesBehind, cI κ 17 a2_zonesBehind)]) [0, 1, 7, 8, 9, 2, 3, 4, 5, 6] rfl (fun _ => rfl) rfl rfl (Nat.le_of_ble_eq_true rfl) d_Crew_work_77 (fun r_25 u_28 h => ?_)
            obtain ⟨a1_done_26, a1_workLeft_27, a1_waits_28⟩ := u_28
            (try dsimp only at h); (try dsimp only)
            refine z_istore C [(5, .int r_25), (4, .int r_23), (3, .int r_22), (0, .ref h_cr), (1, .int x1_13), (2, .int x2_14)] d_Crew_work_80 rfl rfl ?_
            refine z_aload C d_Crew_work_82 3 rfl ?_
            refine z_get C fl_Crew_18 0 rfl rfl d_Crew_work_83 ?_
            refine z_aload C d_Crew_work_86 3 rfl ?_
            refine z_get C fl_Crew_12 0 rfl rfl d_Crew_work_87 ?_
            refine z_vpi C (rest := [.ref h_a2]) (c_Acts_zonesNow l D κ h_a1 h_a1_kinds h_a1_sizes h_a1_zonesBehind a1_count a1_done_26 a1_workLeft_27 a1_waits_28 a1_zonesBehind _ h) cv_Crew_36 ⟨rfl, rfl⟩ ⟨⟨Nat.le_of_ble_eq_true rfl, Nat.le_of_ble_eq_true rfl⟩, Nat.le_of_ble_eq_true rfl, Nat.le_of_ble_eq_true rfl⟩ 2 rfl [2, 5] rfl rfl rfl (Nat.le_of_ble_eq_true rfl) d_Crew_work_90 (fun r_29 h => ?_)
            refine z_vei C (rest := []) (wr := [(h_cr, .inr (2, [.ref h_a1, .ref h_a2, .ref h_cr_reached, .ref h_cr_latest, .int cr_hasRun])), (h_cr_latest, cI κ 5 cr_latest), (h_a1, .inr (0, [.ref h_a1_kinds, .ref h_a1_sizes, .ref h_a1_zonesBehind, .int a1_count, .int a1_done_26, .int a1_workLeft_27, .int a1_waits_28])), (h_a1_kinds, cI κ 16 a1_kinds), (h_a1_sizes, cI κ 16 a1_sizes), (h_a1_zonesBehind, cI κ 17 a1_zonesBehind), (h_a2_zonesBehind, cI κ 17 a2_zonesBehind)]) (fun sz => c_Acts_tick l D κ h_a2 h_a2_kinds h_a2_sizes h_a2_zonesBehind a2_count a2_done_10 a2_workLeft_12 a2_waits_11 a2_kinds a2_sizes r_29 sz _ h) cv_Crew_40 ⟨rfl, rfl⟩ ⟨⟨Nat.le_of_ble_eq_true rfl, Nat.le_of_ble_eq_true rfl⟩, Nat.le_of_ble_eq_true rfl, Nat.le_of_ble_eq_true rfl⟩ 6 rfl [6, 7, 8] [0, 1, 2, 3, 4, 5, 9] rfl rfl rfl (fun u => [(h_cr, .inr (2, [.ref h_a1, .ref h_a2, .ref h_cr_reached, .ref h_cr_latest, .int cr_hasRun])), (h_cr_latest, cI κ 5 cr_latest), (h_a1, .inr (0, [.ref h_a1_kinds, .ref h_a1_sizes, .ref h_a1_zonesBehind, .int a1_count, .int a1_done_26, .int a1_workLeft_27, .int a1_waits_28])), (h_a1_kinds, cI κ 16 a1_kinds), (h_a1_sizes, cI κ 16 a1_sizes), (h_a1_zonesBehind, cI κ 17 a1_zonesBehind), (h_a2, .inr (0, [.ref h_a2_kinds, .ref h_a2_sizes, .ref h_a2_zonesBehind, .int a2_count, .int u.1, .int u.2.1, .int u.2.2])), (h_a2_kinds, cI κ 16 a2_kinds), (h_a2_sizes, cI κ 16 a2_sizes), (h_a2_zonesBehind, cI κ 17 a2_zonesBehind)]) [0, 1, 2, 3, 4, 5, 7, 8, 9, 6] rfl (fun _ => rfl) rfl rfl (Nat.le_of_ble_eq_true rfl) d_Crew_work_93 (fun r_30 u_33 h => ?_)
            obtain ⟨a2_done_31, a2_workLeft_32, a2_waits_33⟩ := u_33
            (try dsimp only at h); (try dsimp only)
            refine z_istore C [(6, .int r_30), (5, .int r_25), (4, .int r_23), (3, .int r_22), (0, .ref h_cr), (1, .int x1_13), (2, .int x2_14)] d_Crew_work_96 rfl rfl ?_
            refine z_iload C d_Crew_work_98 1 rfl ?_
            refine z_if_ne C d_Crew_work_100 (fun c_34 => ?_) (fun c_34 => ?_)
            · replace h := h.1 c_34
              refine z_iload C d_Crew_work_107 0 rfl ?_
              refine z_if_ne C d_Crew_work_109 (fun c_35 => ?_) (fun c_35 => ?_)
              · replace h := h.1 c_35
                refine z_k C d_Crew_work_117 ?_
                refine z_goto C d_Crew_work_118 ?_
                refine z_istore C [(1, .int (1 : Int32)), (6, .int r_30), (5, .int r_25), (4, .int r_23), (3, .int r_22), (0, .ref h_cr), (2, .int x2_14)] d_Crew_work_122 rfl rfl ?_
                obtain ⟨x2_36, ex2_36⟩ : ∃ y : Int32, y = x2_14 + (1 : Int32) := ⟨_, rfl⟩
                replace h := h x2_36 ex2_36
                refine z_iinc C [(2, .int x2_36), (1, .int (1 : Int32)), (6, .int r_30), (5, .int r_25), (4, .int r_23), (3, .int r_22), (0, .ref h_cr)] d_Crew_work_123 (j := 6) rfl (by rw [ex2_36]; rfl) rfl rfl ?_
                refine z_goto C d_Crew_work_126 ?_
                refine z_sub [6, 1, 0] [(0, .ref h_cr), (1, .int (1 : Int32)), (2, .int x2_36)] rfl ?_
                exact IH_18 a1_done_26 a1_waits_28 a1_workLeft_27 a2_done_31 a2_waits_33 a2_workLeft_32 (1 : Int32) x2_36 h
              · replace h := h.2 c_35
                refine z_iload C d_Crew_work_112 2 rfl ?_
                refine z_if_eq C d_Crew_work_114 (fun c_37 => ?_) (fun c_37 => ?_)
                · replace h := h.1 c_37
                  refine z_k C d_Crew_work_121 ?_
                  refine z_istore C [(1, .int (0 : Int32)), (6, .int r_30), (5, .int r_25), (4, .int r_23), (3, .int r_22), (0, .ref h_cr), (2, .int x2_14)] d_Crew_work_122 rfl rfl ?_
                  obtain ⟨x2_38, ex2_38⟩ : ∃ y : Int32, y = x2_14 + (1 : Int32) := ⟨_, rfl⟩
                  replace h := h x2_38 ex2_38
                  refine z_iinc C [(2, .int x2_38), (1, .int (0 : Int32)), (6, .int r_30), (5, .int r_25), (4, .int r_23), (3, .int r_22), (0, .ref h_cr)] d_Crew_work_123 (j := 6) rfl (by rw [ex2_38]; rfl) rfl rfl ?_
                  refine z_goto C d_Crew_work_126 ?_
                  refine z_sub [6, 1, 0] [(0, .ref h_cr), (1, .int (0 : Int32)), (2, .int x2_38)] rfl ?_
                  exact IH_18 a1_done_26 a1_waits_28 a1_workLeft_27 a2_done_31 a2_waits_33 a2_workLeft_32 (0 : Int32) x2_38 h
                · replace h := h.2 c_37
                  refine z_k C d_Crew_work_117 ?_
                  refine z_goto C d_Crew_work_118 ?_
                  refine z_istore C [(1, .int (1 : Int32)), (6, .int r_30), (5, .int r_25), (4, .int r_23), (3, .int r_22), (0, .ref h_cr), (2, .int x2_14)] d_Crew_work_122 rfl rfl ?_
                  obtain ⟨x2_39, ex2_39⟩ : ∃ y : Int32, y = x2_14 + (1 : Int32) := ⟨_, rfl⟩
                  replace h := h x2_39 ex2_39
                  refine z_iinc C [(2, .int x2_39), (1, .int (1 : Int32)), (6, .int r_30), (5, .int r_25), (4, .int r_23), (3, .int r_22), (0, .ref h_cr)] d_Crew_work_123 (j := 6) rfl (by rw [ex2_39]; rfl) rfl rfl ?_
                  refine z_goto C d_Crew_work_126 ?_
                  refine z_sub [6, 1, 0] [(0, .ref h_cr), (1, .int (1 : Int32)), (2, .int x2_39)] rfl ?_
                  exact IH_18 a1_done_26 a1_waits_28 a1_workLeft_27 a2_done_31 a2_waits_33 a2_workLeft_32 (1 : Int32) x2_39 h
            · replace h := h.2 c_34
              refine z_iload C d_Crew_work_103 3 rfl ?_
              refine z_if_eq C d_Crew_work_104 (fun c_40 => ?_) (fun c_40 => ?_)
              · replace h := h.1 c_40
                refine z_k C d_Crew_work_121 ?_
                refine z_istore C [(1, .int (0 : Int32)), (6, .int r_30), (5, .int r_25), (4, .int r_23), (3, .int r_22), (0, .ref h_cr), (2, .int x2_14)] d_Crew_work_122 rfl rfl ?_
                obtain ⟨x2_41, ex2_41⟩ : ∃ y : Int32, y = x2_14 + (1 : Int32) := ⟨_, rfl⟩
                replace h := h x2_41 ex2_41
                refine z_iinc C [(2, .int x2_41), (1, .int (0 : Int32)), (6, .int r_30), (5, .int r_25), (4, .int r_23), (3, .int r_22), (0, .ref h_cr)] d_Crew_work_123 (j := 6) rfl (by rw [ex2_41]; rfl) rfl rfl ?_
                refine z_goto C d_Crew_work_126 ?_
                refine z_sub [6, 1, 0] [(0, .ref h_cr), (1, .int (0 : Int32)), (2, .int x2_41)] rfl ?_
                exact IH_18 a1_done_26 a1_waits_28 a1_workLeft_27 a2_done_31 a2_waits_33 a2_workLeft_32 (0 : Int32) x2_41 h
              · replace h := h.2 c_40
                refine z_iload C d_Crew_work_107 0 rfl ?_
                refine z_if_ne C d_Crew_work_109 (fun c_42 => ?_) (fun c_42 => ?_)
                · replace h := h.1 c_42
                  refine z_k C d_Crew_work_117 ?_
                  refine z_goto C d_Crew_work_118 ?_
                  refine z_istore C [(1, .int (1 : Int32)), (6, .int r_30), (5, .int r_25), (4, .int r_23), (3, .int r_22), (0, .ref h_cr), (2, .int x2_14)] d_Crew_work_122 rfl rfl ?_
                  obtain ⟨x2_43, ex2_43⟩ : ∃ y : Int32, y = x2_14 + (1 : Int32) := ⟨_, rfl⟩
                  replace h := h x2_43 ex2_43
                  refine z_iinc C [(2, .int x2_43), (1, .int (1 : Int32)), (6, .int r_30), (5, .int r_25), (4, .int r_23), (3, .int r_22), (0, .ref h_cr)] d_Crew_work_123 (j := 6) rfl (by rw [ex2_43]; rfl) rfl rfl ?_
                  refine z_goto C d_Crew_work_126 ?_
                  refine z_sub [6, 1, 0] [(0, .ref h_cr), (1, .int (1 : Int32)), (2, .int x2_43)] rfl ?_
                  exact IH_18 a1_done_26 a1_waits_28 a1_workLeft_27 a2_done_31 a2_waits_33 a2_workLeft_32 (1 : Int32) x2_43 h
                · replace h := h.2 c_42
                  refine z_iload C d_Crew_work_112 2 rfl ?_
                  refine z_if_eq C d_Crew_work_114 (fun c_44 => ?_) (fun c_44 => ?_)
                  · replace h := h.1 c_44
                    refine z_k C d_Crew_work_121 ?_
                    refine z_istore C [(1, .int (0 : Int32)), (6, .int r_30), (5, .int r_25), (4, .int r_23), (3, .int r_22), (0, .ref h_cr), (2, .int x2_14)] d_Crew_work_122 rfl rfl ?_
                    obtain ⟨x2_45, ex2_45⟩ : ∃ y : Int32, y = x2_14 + (1 : Int32) := ⟨_, rfl⟩
                    replace h := h x2_45 ex2_45
                    refine z_iinc C [(2, .int x2_45), (1, .int (0 : Int32)), (6, .int r_30), (5, .int r_25), (4, .int r_23), (3, .int r_22), (0, .ref h_cr)] d_Crew_work_123 (j := 6) rfl (by rw [ex2_45]; rfl) rfl rfl ?_
                    refine z_goto C d_Crew_work_126 ?_
                    refine z_sub [6, 1, 0] [(0, .ref h_cr), (1, .int (0 : Int32)), (2, .int x2_45)] rfl ?_
                    exact IH_18 a1_done_26 a1_waits_28 a1_workLeft_27 a2_done_31 a2_waits_33 a2_workLeft_32 (0 : Int32) x2_45 h
                  · replace h := h.2 c_44
                    refine z_k C d_Crew_work_117 ?_
                    refine z_goto C d_Crew_work_118 ?_
                    refine z_istore C [(1, .int (1 : Int32)), (6, .int r_30), (5, .int r_25), (4, .int r_23), (3, .int r_22), (0, .ref h_cr), (2, .int x2_14)] d_Crew_work_122 rfl rfl ?_
                    obtain ⟨x2_46, ex2_46⟩ : ∃ y : Int32, y = x2_14 + (1 : Int32) := ⟨_, rfl⟩
                    replace h := h x2_46 ex2_46
                    refine z_iinc C [(2, .int x2_46), (1, .int (1 : Int32)), (6, .int r_30), (5, .int r_25), (4, .int r_23), (3, .int r_22), (0, .ref h_cr)] d_Crew_work_123 (j := 6) rfl (by rw [ex2_46]; rfl) rfl rfl ?_
                    refine z_goto C d_Crew_work_126 ?_
                    refine z_sub [6, 1, 0] [(0, .ref h_cr), (1, .int (1 : Int32)), (2, .int x2_46)] rfl ?_
                    exact IH_18 a1_done_26 a1_waits_28 a1_workLeft_27 a2_done_31 a2_waits_33 a2_workLeft_32 (1 : Int32) x2_46 h
          · replace h := h.2 c_21
            refine z_aload C d_Crew_work_39 0 rfl ?_
            refine z_get C fl_Crew_18 0 rfl rfl d_Crew_work_40 ?_
            refine z_vpi C (rest := []) (c_Acts_isThrough l D κ h_a2 h_a2_kinds h_a2_sizes h_a2_zonesBehind a2_count a2_done_10 a2_workLeft_12 a2_waits_11 _ h) cv_Crew_32 ⟨rfl, rfl⟩ ⟨⟨Nat.le_of_ble_eq_true rfl, Nat.le_of_ble_eq_true rfl⟩, Nat.le_of_ble_eq_true rfl, Nat.le_of_ble_eq_true rfl⟩ 6 rfl [6] rfl rfl rfl (Nat.le_of_ble_eq_true rfl) d_Crew_work_43 (fun r_47 h => ?_)
            refine z_if_ne C d_Crew_work_46 (fun c_48 => ?_) (fun c_48 => ?_)
            · replace h := h.1 c_48
              refine z_sub [0, 1, 2] [(0, .ref h_cr), (1, .int x1_13), (2, .int x2_14)] rfl ?_
              exact J_129  h
            · replace h := h.2 c_48
              refine z_aload C d_Crew_work_49 0 rfl ?_
              refine z_get C fl_Crew_12 0 rfl rfl d_Crew_work_50 ?_
              refine z_vpi C (rest := []) (c_Acts_isThrough l D κ h_a1 h_a1_kinds h_a1_sizes h_a1_zonesBehind a1_count a1_done_7 a1_workLeft_9 a1_waits_8 _ h) cv_Crew_32 ⟨rfl, rfl⟩ ⟨⟨Nat.le_of_ble_eq_true rfl, Nat.le_of_ble_eq_true rfl⟩, Nat.le_of_ble_eq_true rfl, Nat.le_of_ble_eq_true rfl⟩ 2 rfl [2] rfl rfl rfl (Nat.le_of_ble_eq_true rfl) d_Crew_work_53 (fun r_49 h => ?_)
              refine z_istore C [(3, .int r_49), (0, .ref h_cr), (1, .int x1_13), (2, .int x2_14)] d_Crew_work_56 rfl rfl ?_
              refine z_aload C d_Crew_work_57 1 rfl ?_
              refine z_get C fl_Crew_18 0 rfl rfl d_Crew_work_58 ?_
              refine z_vpi C (rest := []) (c_Acts_isThrough l D κ h_a2 h_a2_kinds h_a2_sizes h_a2_zonesBehind a2_count a2_done_10 a2_workLeft_12 a2_waits_11 _ h) cv_Crew_32 ⟨rfl, rfl⟩ ⟨⟨Nat.le_of_ble_eq_true rfl, Nat.le_of_ble_eq_true rfl⟩, Nat.le_of_ble_eq_true rfl, Nat.le_of_ble_eq_true rfl⟩ 6 rfl [6] rfl rfl rfl (Nat.le_of_ble_eq_true rfl) d_Crew_work_61 (fun r_50 h => ?_)
              refine z_istore C [(4, .int r_50), (3, .int r_49), (0, .ref h_cr), (1, .int x1_13), (2, .int x2_14)] d_Crew_work_64 rfl rfl ?_
              refine z_aload C d_Crew_work_66 2 rfl ?_
              refine z_get C fl_Crew_12 0 rfl rfl d_Crew_work_67 ?_
              refine z_aload C d_Crew_work_70 2 rfl ?_
              refine z_get C fl_Crew_18 0 rfl rfl d_Crew_work_71 ?_
              refine z_vpi C (rest := [.ref h_a1]) (c_Acts_zonesNow l D κ h_a2 h_a2_kinds h_a2_sizes h_a2_zonesBehind a2_count a2_done_10 a2_workLeft_12 a2_waits_11 a2_zonesBehind _ h) cv_Crew_36 ⟨rfl, rfl⟩ ⟨⟨Nat.le_of_ble_eq_true rfl, Nat.le_of_ble_eq_true rfl⟩, Nat.le_of_ble_eq_true rfl, Nat.le_of_ble_eq_true rfl⟩ 6 rfl [6, 9] rfl rfl rfl (Nat.le_of_ble_eq_true rfl) d_Crew_work_74 (fun r_51 h => ?_)
              refine z_vei C (rest := []) (wr := [(h_cr, .inr (2, [.ref h_a1, .ref h_a2, .ref h_cr_reached, .ref h_cr_latest, .int cr_hasRun])), (h_cr_latest, cI κ 5 cr_latest), (h_a1_zonesBehind, cI κ 17 a1_zonesBehind), (h_a2, .inr (0, [.ref h_a2_kinds, .ref h_a2_sizes, .ref h_a2_zonesBehind, .int a2_count, .int a2_done_10, .int a2_workLeft_12, .int a2_waits_11])), (h_a2_kinds, cI κ 16 a2_kinds), (h_a2_sizes, cI κ 16 a2_sizes), (h_a2_zonesBehind, cI κ 17 a2_zonesBehind)]) (fun sz => c_Acts_tick l D κ h_a1 h_a1_kinds h_a1_sizes h_a1_zonesBehind a1_count a1_done_7 a1_workLeft_9 a1_waits_8 a1_kinds a1_sizes r_51 sz _ h) cv_Crew_40 ⟨rfl, rfl⟩ ⟨⟨Nat.le_of_ble_eq_true rfl, Nat.le_of_ble_eq_true rfl⟩, Nat.le_of_ble_eq_true rfl, Nat.le_of_ble_eq_true rfl⟩ 2 rfl [2, 3, 4] [0, 1, 5, 6, 7, 8, 9] rfl rfl rfl (fun u => [(h_cr, .inr (2, [.ref h_a1, .ref h_a2, .ref h_cr_reached, .ref h_cr_latest, .int cr_hasRun])), (h_cr_latest, cI κ 5 cr_latest), (h_a1, .inr (0, [.ref h_a1_kinds, .ref h_a1_sizes, .ref h_a1_zonesBehind, .int a1_count, .int u.1, .int u.2.1, .int u.2.2])), (h_a1_kinds, cI κ 16 a1_kinds), (h_a1_sizes, cI κ 16 a1_sizes), (h_a1_zonesBehind, cI κ 17 a1_zonesBehind), (h_a2, .inr (0, [.ref h_a2_kinds, .ref h_a2_sizes, .ref h_a2_zonesBehind, .int a2_count, .int a2_done_10, .int a2_workLeft_12, .int a2_waits_11])), (h_a2_kinds, cI κ 16 a2_kinds), (h_a2_sizes, cI κ 16 a2_sizes), (h_a2_zonesBehind, cI κ 17 a2_zonesBehind)]) [0, 1, 7, 8, 9, 2, 3, 4, 5, 6] rfl (fun _ => rfl) rfl rfl (Nat.le_of_ble_eq_true rfl) d_Crew_work_77 (fun r_52 u_55 h => ?_)
              obtain ⟨a1_done_53, a1_workLeft_54, a1_waits_55⟩ := u_55
              (try dsimp only at h); (try dsimp only)
              refine z_istore C [(5, .int r_52), (4, .int r_50), (3, .int r_49), (0, .ref h_cr), (1, .int x1_13), (2, .int x2_14)] d_Crew_work_80 rfl rfl ?_
              refine z_aload C d_Crew_work_82 3 rfl ?_
              refine z_get C fl_Crew_18 0 rfl rfl d_Crew_work_83 ?_
              refine z_aload C d_Crew_work_86 3 rfl ?_
              refine z_get C fl_Crew_12 0 rfl rfl d_Crew_work_87 ?_
              refine z_vpi C (rest := [.ref h_a2]) (c_Acts_zonesNow l D κ h_a1 h_a1_kinds h_a1_sizes h_a1_zonesBehind a1_count a1_done_53 a1_workLeft_54 a1_waits_55 a1_zonesBehind _ h) cv_Crew_36 ⟨rfl, rfl⟩ ⟨⟨Nat.le_of_ble_eq_true rfl, Nat.le_of_ble_eq_true rfl⟩, Nat.le_of_ble_eq_true rfl, Nat.le_of_ble_eq_true rfl⟩ 2 rfl [2, 5] rfl rfl rfl (Nat.le_of_ble_eq_true rfl) d_Crew_work_90 (fun r_56 h => ?_)
              refine z_vei C (rest := []) (wr := [(h_cr, .inr (2, [.ref h_a1, .ref h_a2, .ref h_cr_reached, .ref h_cr_latest, .int cr_hasRun])), (h_cr_latest, cI κ 5 cr_latest), (h_a1, .inr (0, [.ref h_a1_kinds, .ref h_a1_sizes, .ref h_a1_zonesBehind, .int a1_count, .int a1_done_53, .int a1_workLeft_54, .int a1_waits_55])), (h_a1_kinds, cI κ 16 a1_kinds), (h_a1_sizes, cI κ 16 a1_sizes), (h_a1_zonesBehind, cI κ 17 a1_zonesBehind), (h_a2_zonesBehind, cI κ 17 a2_zonesBehind)]) (fun sz => c_Acts_tick l D κ h_a2 h_a2_kinds h_a2_sizes h_a2_zonesBehind a2_count a2_done_10 a2_workLeft_12 a2_waits_11 a2_kinds a2_sizes r_56 sz _ h) cv_Crew_40 ⟨rfl, rfl⟩ ⟨⟨Nat.le_of_ble_eq_true rfl, Nat.le_of_ble_eq_true rfl⟩, Nat.le_of_ble_eq_true rfl, Nat.le_of_ble_eq_true rfl⟩ 6 rfl [6, 7, 8] [0, 1, 2, 3, 4, 5, 9] rfl rfl rfl (fun u => [(h_cr, .inr (2, [.ref h_a1, .ref h_a2, .ref h_cr_reached, .ref h_cr_latest, .int cr_hasRun])), (h_cr_latest, cI κ 5 cr_latest), (h_a1, .inr (0, [.ref h_a1_kinds, .ref h_a1_sizes, .ref h_a1_zonesBehind, .int a1_count, .int a1_done_53, .int a1_workLeft_54, .int a1_waits_55])), (h_a1_kinds, cI κ 16 a1_kinds), (h_a1_sizes, cI κ 16 a1_sizes), (h_a1_zonesBehind, cI κ 17 a1_zonesBehind), (h_a2, .inr (0, [.ref h_a2_kinds, .ref h_a2_sizes, .ref h_a2_zonesBehind, .int a2_count, .int u.1, .int u.2.1, .int u.2.2])), (h_a2_kinds, cI κ 16 a2_kinds), (h_a2_sizes, cI κ 16 a2_sizes), (h_a2_zonesBehind, cI κ 17 a2_zonesBehind)]) [0, 1, 2, 3, 4, 5, 7, 8, 9, 6] rfl (fun _ => rfl) rfl rfl (Nat.le_of_ble_eq_true rfl) d_Crew_work_93 (fun r_57 u_60 h => ?_)
              obtain ⟨a2_done_58, a2_workLeft_59, a2_waits_60⟩ := u_60
              (try dsimp only at h); (try dsimp only)
              refine z_istore C [(6, .int r_57), (5, .int r_52), (4, .int r_50), (3, .int r_49), (0, .ref h_cr), (1, .int x1_13), (2, .int x2_14)] d_Crew_work_96 rfl rfl ?_
              refine z_iload C d_Crew_work_98 1 rfl ?_
              refine z_if_ne C d_Crew_work_100 (fun c_61 => ?_) (fun c_61 => ?_)
              · replace h := h.1 c_61
                refine z_iload C d_Crew_work_107 0 rfl ?_
                refine z_if_ne C d_Crew_work_109 (fun c_62 => ?_) (fun c_62 => ?_)
                · replace h := h.1 c_62
                  refine z_k C d_Crew_work_117 ?_
                  refine z_goto C d_Crew_work_118 ?_
                  refine z_istore C [(1, .int (1 : Int32)), (6, .int r_57), (5, .int r_52), (4, .int r_50), (3, .int r_49), (0, .ref h_cr), (2, .int x2_14)] d_Crew_work_122 rfl rfl ?_
                  obtain ⟨x2_63, ex2_63⟩ : ∃ y : Int32, y = x2_14 + (1 : Int32) := ⟨_, rfl⟩
                  replace h := h x2_63 ex2_63
                  refine z_iinc C [(2, .int x2_63), (1, .int (1 : Int32)), (6, .int r_57), (5, .int r_52), (4, .int r_50), (3, .int r_49), (0, .ref h_cr)] d_Crew_work_123 (j := 6) rfl (by rw [ex2_63]; rfl) rfl rfl ?_
                  refine z_goto C d_Crew_work_126 ?_
                  refine z_sub [6, 1, 0] [(0, .ref h_cr), (1, .int (1 : Int32)), (2, .int x2_63)] rfl ?_
                  exact IH_18 a1_done_53 a1_waits_55 a1_workLeft_54 a2_done_58 a2_waits_60 a2_workLeft_59 (1 : Int32) x2_63 h
                · replace h := h.2 c_62
                  refine z_iload C d_Crew_work_112 2 rfl ?_
                  refine z_if_eq C d_Crew_work_114 (fun c_64 => ?_) (fun c_64 => ?_)
                  · replace h := h.1 c_64
                    refine z_k C d_Crew_work_121 ?_
                    refine z_istore C [(1, .int (0 : Int32)), (6, .int r_57), (5, .int r_52), (4, .int r_50), (3, .int r_49), (0, .ref h_cr), (2, .int x2_14)] d_Crew_work_122 rfl rfl ?_
                    obtain ⟨x2_65, ex2_65⟩ : ∃ y : Int32, y = x2_14 + (1 : Int32) := ⟨_, rfl⟩
                    replace h := h x2_65 ex2_65
                    refine z_iinc C [(2, .int x2_65), (1, .int (0 : Int32)), (6, .int r_57), (5, .int r_52), (4, .int r_50), (3, .int r_49), (0, .ref h_cr)] d_Crew_work_123 (j := 6) rfl (by rw [ex2_65]; rfl) rfl rfl ?_
                    refine z_goto C d_Crew_work_126 ?_
                    refine z_sub [6, 1, 0] [(0, .ref h_cr), (1, .int (0 : Int32)), (2, .int x2_65)] rfl ?_
                    exact IH_18 a1_done_53 a1_waits_55 a1_workLeft_54 a2_done_58 a2_waits_60 a2_workLeft_59 (0 : Int32) x2_65 h
                  · replace h := h.2 c_64
                    refine z_k C d_Crew_work_117 ?_
                    refine z_goto C d_Crew_work_118 ?_
                    refine z_istore C [(1, .int (1 : Int32)), (6, .int r_57), (5, .int r_52), (4, .int r_50), (3, .int r_49), (0, .ref h_cr), (2, .int x2_14)] d_Crew_work_122 rfl rfl ?_
                    obtain ⟨x2_66, ex2_66⟩ : ∃ y : Int32, y = x2_14 + (1 : Int32) := ⟨_, rfl⟩
                    replace h := h x2_66 ex2_66
                    refine z_iinc C [(2, .int x2_66), (1, .int (1 : Int32)), (6, .int r_57), (5, .int r_52), (4, .int r_50), (3, .int r_49), (0, .ref h_cr)] d_Crew_work_123 (j := 6) rfl (by rw [ex2_66]; rfl) rfl rfl ?_
                    refine z_goto C d_Crew_work_126 ?_
                    refine z_sub [6, 1, 0] [(0, .ref h_cr), (1, .int (1 : Int32)), (2, .int x2_66)] rfl ?_
                    exact IH_18 a1_done_53 a1_waits_55 a1_workLeft_54 a2_done_58 a2_waits_60 a2_workLeft_59 (1 : Int32) x2_66 h
              · replace h := h.2 c_61
                refine z_iload C d_Crew_work_103 3 rfl ?_
                refine z_if_eq C d_Crew_work_104 (fun c_67 => ?_) (fun c_67 => ?_)
                · replace h := h.1 c_67
                  refine z_k C d_Crew_work_121 ?_
                  refine z_istore C [(1, .int (0 : Int32)), (6, .int r_57), (5, .int r_52), (4, .int r_50), (3, .int r_49), (0, .ref h_cr), (2, .int x2_14)] d_Crew_work_122 rfl rfl ?_
                  obtain ⟨x2_68, ex2_68⟩ : ∃ y : Int32, y = x2_14 + (1 : Int32) := ⟨_, rfl⟩
                  replace h := h x2_68 ex2_68
                  refine z_iinc C [(2, .int x2_68), (1, .int (0 : Int32)), (6, .int r_57), (5, .int r_52), (4, .int r_50), (3, .int r_49), (0, .ref h_cr)] d_Crew_work_123 (j := 6) rfl (by rw [ex2_68]; rfl) rfl rfl ?_
                  refine z_goto C d_Crew_work_126 ?_
                  refine z_sub [6, 1, 0] [(0, .ref h_cr), (1, .int (0 : Int32)), (2, .int x2_68)] rfl ?_
                  exact IH_18 a1_done_53 a1_waits_55 a1_workLeft_54 a2_done_58 a2_waits_60 a2_workLeft_59 (0 : Int32) x2_68 h
                · replace h := h.2 c_67
                  refine z_iload C d_Crew_work_107 0 rfl ?_
                  refine z_if_ne C d_Crew_work_109 (fun c_69 => ?_) (fun c_69 => ?_)
                  · replace h := h.1 c_69
                    refine z_k C d_Crew_work_117 ?_
                    refine z_goto C d_Crew_work_118 ?_
                    refine z_istore C [(1, .int (1 : Int32)), (6, .int r_57), (5, .int r_52), (4, .int r_50), (3, .int r_49), (0, .ref h_cr), (2, .int x2_14)] d_Crew_work_122 rfl rfl ?_
                    obtain ⟨x2_70, ex2_70⟩ : ∃ y : Int32, y = x2_14 + (1 : Int32) := ⟨_, rfl⟩
                    replace h := h x2_70 ex2_70
                    refine z_iinc C [(2, .int x2_70), (1, .int (1 : Int32)), (6, .int r_57), (5, .int r_52), (4, .int r_50), (3, .int r_49), (0, .ref h_cr)] d_Crew_work_123 (j := 6) rfl (by rw [ex2_70]; rfl) rfl rfl ?_
                    refine z_goto C d_Crew_work_126 ?_
                    refine z_sub [6, 1, 0] [(0, .ref h_cr), (1, .int (1 : Int32)), (2, .int x2_70)] rfl ?_
                    exact IH_18 a1_done_53 a1_waits_55 a1_workLeft_54 a2_done_58 a2_waits_60 a2_workLeft_59 (1 : Int32) x2_70 h
                  · replace h := h.2 c_69
                    refine z_iload C d_Crew_work_112 2 rfl ?_
                    refine z_if_eq C d_Crew_work_114 (fun c_71 => ?_) (fun c_71 => ?_)
                    · replace h := h.1 c_71
                      refine z_k C d_Crew_work_121 ?_
                      refine z_istore C [(1, .int (0 : Int32)), (6, .int r_57), (5, .int r_52), (4, .int r_50), (3, .int r_49), (0, .ref h_cr), (2, .int x2_14)] d_Crew_work_122 rfl rfl ?_
                      obtain ⟨x2_72, ex2_72⟩ : ∃ y : Int32, y = x2_14 + (1 : Int32) := ⟨_, rfl⟩
                      replace h := h x2_72 ex2_72
                      refine z_iinc C [(2, .int x2_72), (1, .int (0 : Int32)), (6, .int r_57), (5, .int r_52), (4, .int r_50), (3, .int r_49), (0, .ref h_cr)] d_Crew_work_123 (j := 6) rfl (by rw [ex2_72]; rfl) rfl rfl ?_
                      refine z_goto C d_Crew_work_126 ?_
                      refine z_sub [6, 1, 0] [(0, .ref h_cr), (1, .int (0 : Int32)), (2, .int x2_72)] rfl ?_
                      exact IH_18 a1_done_53 a1_waits_55 a1_workLeft_54 a2_done_58 a2_waits_60 a2_workLeft_59 (0 : Int32) x2_72 h
                    · replace h := h.2 c_71
                      refine z_k C d_Crew_work_117 ?_
                      refine z_goto C d_Crew_work_118 ?_
                      refine z_istore C [(1, .int (1 : Int32)), (6, .int r_57), (5, .int r_52), (4, .int r_50), (3, .int r_49), (0, .ref h_cr), (2, .int x2_14)] d_Crew_work_122 rfl rfl ?_
                      obtain ⟨x2_73, ex2_73⟩ : ∃ y : Int32, y = x2_14 + (1 : Int32) := ⟨_, rfl⟩
                      replace h := h x2_73 ex2_73
                      refine z_iinc C [(2, .int x2_73), (1, .int (1 : Int32)), (6, .int r_57), (5, .int r_52), (4, .int r_50), (3, .int r_49), (0, .ref h_cr)] d_Crew_work_123 (j := 6) rfl (by rw [ex2_73]; rfl) rfl rfl ?_
                      refine z_goto C d_Crew_work_126 ?_
                      refine z_sub [6, 1, 0] [(0, .ref h_cr), (1, .int (1 : Int32)), (2, .int x2_73)] rfl ?_
                      exact IH_18 a1_done_53 a1_waits_55 a1_workLeft_54 a2_done_58 a2_waits_60 a2_workLeft_59 (1 : Int32) x2_73 h
  refine z_sub [2, 1, 0] [(0, .ref h_cr), (1, .int (0 : Int32)), (2, .int (0 : Int32))] rfl ?_
  exact LP_18 n_18 a1_done_1 a1_waits_3 a1_workLeft_2 a2_done_4 a2_waits_6 a2_workLeft_5 (0 : Int32) (0 : Int32) h
