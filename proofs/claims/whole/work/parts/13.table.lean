def wp_P_setPlaces (u1 : Nat) (M : Mm) (post : Mm → Prop) : Prop :=
  ∀ M_1 : Mm, M_1 = ms M 7 4 (M u1 0) → ∀ M_2 : Mm, M_2 = ms M_1 7 5 (M_1 u1 1) → inR ((M_2 7 4) - 1) ∧ ∀ v3_24 : Int, v3_24 = ((M_2 7 4) - 1) → ∃ I25 : Nat → Int → Int → Mm → Prop, (∃ n, I25 n 1 v3_24 M_2) ∧ ∀ (n25 : Nat) (x2_25 : Int) (x3_25 : Int) (M25 : Mm), I25 n25 x2_25 x3_25 M25 →
    ((x3_25 < 0 → post M25) ∧
      (¬ x3_25 < 0 → (0 ≤ x3_25 ∧ x3_25 < 7) ∧ ∀ M_6 : Mm, M_6 = ms M25 11 (x3_25).toNat x2_25 → inR (x2_25 * (M_6 7 5)) ∧ ∀ v2_42 : Int, v2_42 = (x2_25 * (M_6 7 5)) → inR (x3_25 + (-1)) ∧ ∀ v3_43 : Int, v3_43 = x3_25 + (-1) → ∃ k_8, k_8 < n25 ∧ I25 k_8 v2_42 v3_43 M_6))
set_option maxHeartbeats 4000000 in
set_option maxRecDepth 100000 in
theorem mt_P_setPlaces (l : Launch) (X : Xw) (hlc : lcl X) (u1 : Nat) (hP0 : IsP X) (hu1 : IsS X u1) (M : Mm) (hm_M : mr M) (post : Mm → Prop) (sz : Nat) (hw : wp_P_setPlaces u1 M post) : Met l yy_P_setPlaces (Cond.code yy_P_setPlaces bc_P_setPlaces 4 none :: tg) ({ frames := 0, cells := 0, slots := 0, locals := 0 } : Room) (Pw X [.ref (xA X 7), .ref (xA X u1)] M sz) (Qv X sz post) 0 0 (xF X sz) := by
  unfold wp_P_setPlaces at hw
  refine x_enter (by decide) hlc hm_M (Nat.le_of_ble_eq_true rfl) ?_
  intro p e s m below meth c ls hC hsz hr hlocks hS hl
  have hx := hC.1.1
  have hb := hC.1.2.1
  have hl : lv_has ls 4 [(0, .ref (xA X 7)), (1, .ref (xA X u1))] := hl
  refine lv_aload_n hx hb dd_P_setPlaces_0 rfl (lv_at hl 0 rfl) ?_
  refine lv_aload_n hx hb dd_P_setPlaces_1 rfl (lv_at hl 1 rfl) ?_
  refine x_get hC hS hu1.1 rfl iw_S 0 (by decide) tb_80 rfl rfl dd_P_setPlaces_2 ?_
  refine x_put hC hS hP0.1 rfl iw_P fy_P fk_P fn_P 4 (by decide) tb_149 rfl (hm_M u1 0) rfl rfl (ps_P_4 _ _ _) (Nat.le_of_ble_eq_true rfl) dd_P_setPlaces_5 (fun H locs hS => ?_)
  obtain ⟨M_1, eM_1⟩ : ∃ Z : Mm, Z = ms M 7 4 (M u1 0) := ⟨_, rfl⟩
  rw [← eM_1] at hS
  have hw := hw M_1 eM_1
  have hm_M_1 := hS.2.2.2
  refine lv_aload_n hx hb dd_P_setPlaces_8 rfl (lv_at hl 0 rfl) ?_
  refine lv_aload_n hx hb dd_P_setPlaces_9 rfl (lv_at hl 1 rfl) ?_
  refine x_get hC hS hu1.1 rfl iw_S 1 (by decide) tb_82 rfl rfl dd_P_setPlaces_10 ?_
  refine x_put hC hS hP0.1 rfl iw_P fy_P fk_P fn_P 5 (by decide) tb_150 rfl (hm_M_1 u1 1) rfl rfl (ps_P_5 _ _ _) (Nat.le_of_ble_eq_true rfl) dd_P_setPlaces_13 (fun H locs hS => ?_)
  obtain ⟨M_2, eM_2⟩ : ∃ Z : Mm, Z = ms M_1 7 5 (M_1 u1 1) := ⟨_, rfl⟩
  rw [← eM_2] at hS
  have hw := hw M_2 eM_2
  have hm_M_2 := hS.2.2.2
  refine x_iconst hC dd_P_setPlaces_16 ?_
  refine lv_istore_n (lv' := [(2, .int (iI 1)), (0, .ref (xA X 7)), (1, .ref (xA X u1))]) hx hb dd_P_setPlaces_17 rfl hl (by decide) rfl (fun ls hl => ?_)
  refine lv_aload_n hx hb dd_P_setPlaces_18 rfl (lv_at hl 1 rfl) ?_
  refine x_get hC hS hP0.1 rfl iw_P 4 (by decide) tb_149 rfl rfl dd_P_setPlaces_19 ?_
  refine x_iconst hC dd_P_setPlaces_22 ?_
  obtain ⟨q3, hw⟩ := hw
  refine x_sub hC dd_P_setPlaces_23 ?_
  refine x_nm q3 (fun v3_24 rv3_24 ev3_24 => ?_)
  have hw := hw v3_24 ev3_24
  refine lv_istore_n (lv' := [(3, .int (iI v3_24)), (2, .int (iI 1)), (0, .ref (xA X 7)), (1, .ref (xA X u1))]) hx hb dd_P_setPlaces_24 rfl hl (by decide) rfl (fun ls hl => ?_)
  obtain ⟨I25, ⟨n0, hI⟩, hstep_I25⟩ := hw
  have lp_I25 : ∀ (n25 : Nat) (x2_25 : Int) (x3_25 : Int) (M25 : Mm) (H : Heap) (locs : List Loc) (ls : Array Slot), I25 n25 x2_25 x3_25 M25 → inR x2_25 → inR x3_25 → St X (xF X sz) s M25 H locs → lv_has ls 4 [(0, .ref (xA X 7)), (2, .int (iI x2_25)), (3, .int (iI x3_25))] → W p l e ({ frames := 0, cells := 0, slots := 0, locals := 0 } : Room) s m ([.ref (xA X 7), .ref (xA X u1)] : List Value).toArray below meth c H locs 0 0 (MQ below (Qv X sz post) ([.ref (xA X 7), .ref (xA X u1)] : List Value).toArray s 0 0 (xF X sz)) (F0 m 25 ls []) := by
    intro n25
    induction n25 using Nat.strongRecOn with
    | _ n25 ih_I25 =>
      intro x2_25 x3_25 M25 H locs ls hI rx2_25 rx3_25 hS hl
      have hw := hstep_I25 n25 x2_25 x3_25 M25 hI
      have hm_M25 := hS.2.2.2
      refine lv_iload_n hx hb dd_P_setPlaces_25 rfl (lv_at hl 2 rfl) ?_
      refine x_if_lt hC rx3_25 (tgt := 49) dd_P_setPlaces_26 (by decide) (fun c4 => ?_) (fun c4 => ?_)
      · have hw := hw.1 c4
        exact x_vret hC hS hlocks hr hw dd_P_setPlaces_49
      · have hw := hw.2 c4
        refine lv_aload_n hx hb dd_P_setPlaces_29 rfl (lv_at hl 0 rfl) ?_
        refine x_get hC hS hP0.1 rfl iw_P 3 (by decide) tb_148 rfl rfl dd_P_setPlaces_30 ?_
        refine lv_iload_n hx hb dd_P_setPlaces_33 rfl (lv_at hl 2 rfl) ?_
        refine lv_iload_n hx hb dd_P_setPlaces_34 rfl (lv_at hl 1 rfl) ?_
        obtain ⟨q5, hw⟩ := hw
        refine x_iast hC hS hP0.2.2.2.2 q5 rx2_25 dd_P_setPlaces_35 (fun H locs hS => ?_)
        obtain ⟨M_6, eM_6⟩ : ∃ Z : Mm, Z = ms M25 11 (x3_25).toNat x2_25 := ⟨_, rfl⟩
        rw [← eM_6] at hS
        have hw := hw M_6 eM_6
        have hm_M_6 := hS.2.2.2
        refine lv_iload_n hx hb dd_P_setPlaces_36 rfl (lv_at hl 1 rfl) ?_
        refine lv_aload_n hx hb dd_P_setPlaces_37 rfl (lv_at hl 0 rfl) ?_
        refine x_get hC hS hP0.1 rfl iw_P 5 (by decide) tb_150 rfl rfl dd_P_setPlaces_38 ?_
        obtain ⟨q7, hw⟩ := hw
        refine x_mul hC dd_P_setPlaces_41 ?_
        refine x_nm q7 (fun v2_42 rv2_42 ev2_42 => ?_)
        have hw := hw v2_42 ev2_42
        refine lv_istore_n (lv' := [(2, .int (iI v2_42)), (0, .ref (xA X 7)), (3, .int (iI x3_25))]) hx hb dd_P_setPlaces_42 rfl hl (by decide) rfl (fun ls hl => ?_)
        obtain ⟨hr_, hw⟩ := hw
        obtain ⟨v3_43, rv3_43, ev3_43⟩ : ∃ z : Int, inR z ∧ z = x3_25 + (-1) := ⟨_, hr_, rfl⟩
        have hw := hw v3_43 ev3_43
        refine lv_iinc (v := iI v3_43) (lv' := [(3, .int (iI v3_43)), (2, .int (iI v2_42)), (0, .ref (xA X 7))]) hx hb dd_P_setPlaces_43 hl (k := 2) rfl (by rw [ev3_43]; exact iI_add _ _) (by decide) rfl (fun ls hl => ?_)
        refine lv_goto (tgt := 25) hx hb dd_P_setPlaces_46 (by decide) ?_
        obtain ⟨k_8, h9, hI⟩ := hw
        exact ih_I25 k_8 h9 v2_42 v3_43 M_6 _ _ _ hI rv2_42 rv3_43 hS (lv_sub hl [2, 1, 0] rfl)
  exact lp_I25 n0 1 v3_24 M_2 _ _ _ hI (rk rfl) rv3_24 hS (lv_sub hl [2, 1, 0] rfl)
def wp_P_put (a1 : Int) (M : Mm) (post : Mm → Prop) : Prop :=
  (0 ≤ a1 ∧ a1 < 16384) ∧ ∀ M_2 : Mm, M_2 = ms M 8 (a1).toNat (M 7 7) → (0 ≤ (M_2 7 6) ∧ (M_2 7 6) < 16384) ∧ ∀ M_4 : Mm, M_4 = ms M_2 9 ((M_2 7 6)).toNat a1 → inR ((M_4 7 6) + 1) ∧ ∀ M_6 : Mm, M_6 = ms M_4 7 6 ((M_4 7 6) + 1) → post M_6
set_option maxHeartbeats 4000000 in
set_option maxRecDepth 100000 in
theorem mt_P_put (l : Launch) (X : Xw) (hlc : lcl X)(hP0 : IsP X) (a1 : Int) (ra1 : inR a1) (M : Mm) (hm_M : mr M) (post : Mm → Prop) (sz : Nat) (hw : wp_P_put a1 M post) : Met l yy_P_put (Cond.code yy_P_put bc_P_put 2 none :: tg) ({ frames := 0, cells := 0, slots := 0, locals := 0 } : Room) (Pw X [.ref (xA X 7), .int (iI a1)] M sz) (Qv X sz post) 0 0 (xF X sz) := by
  unfold wp_P_put at hw
  refine x_enter (by decide) hlc hm_M (Nat.le_of_ble_eq_true rfl) ?_
  intro p e s m below meth c ls hC hsz hr hlocks hS hl
  have hx := hC.1.1
  have hb := hC.1.2.1
  have hl : lv_has ls 2 [(0, .ref (xA X 7)), (1, .int (iI a1))] := hl
  refine lv_aload_n hx hb dd_P_put_0 rfl (lv_at hl 0 rfl) ?_
  refine x_get hC hS hP0.1 rfl iw_P 0 (by decide) tb_144 rfl rfl dd_P_put_1 ?_
  refine lv_iload_n hx hb dd_P_put_4 rfl (lv_at hl 1 rfl) ?_
  refine lv_aload_n hx hb dd_P_put_5 rfl (lv_at hl 0 rfl) ?_
  refine x_get hC hS hP0.1 rfl iw_P 7 (by decide) tb_152 rfl rfl dd_P_put_6 ?_
  obtain ⟨q1, hw⟩ := hw
  refine x_iast hC hS hP0.2.1 q1 (hm_M 7 7) dd_P_put_9 (fun H locs hS => ?_)
  obtain ⟨M_2, eM_2⟩ : ∃ Z : Mm, Z = ms M 8 (a1).toNat (M 7 7) := ⟨_, rfl⟩
  rw [← eM_2] at hS
  have hw := hw M_2 eM_2
  have hm_M_2 := hS.2.2.2
  refine lv_aload_n hx hb dd_P_put_10 rfl (lv_at hl 0 rfl) ?_
  refine x_get hC hS hP0.1 rfl iw_P 1 (by decide) tb_146 rfl rfl dd_P_put_11 ?_
  refine lv_aload_n hx hb dd_P_put_14 rfl (lv_at hl 0 rfl) ?_
  refine x_get hC hS hP0.1 rfl iw_P 6 (by decide) tb_151 rfl rfl dd_P_put_15 ?_
  refine lv_iload_n hx hb dd_P_put_18 rfl (lv_at hl 1 rfl) ?_
  obtain ⟨q3, hw⟩ := hw
  refine x_iast hC hS hP0.2.2.1 q3 ra1 dd_P_put_19 (fun H locs hS => ?_)
  obtain ⟨M_4, eM_4⟩ : ∃ Z : Mm, Z = ms M_2 9 ((M_2 7 6)).toNat a1 := ⟨_, rfl⟩
  rw [← eM_4] at hS
  have hw := hw M_4 eM_4
  have hm_M_4 := hS.2.2.2
  refine lv_aload_n hx hb dd_P_put_20 rfl (lv_at hl 0 rfl) ?_
  refine lv_dup hx hb dd_P_put_21 rfl ?_
  refine x_get hC hS hP0.1 rfl iw_P 6 (by decide) tb_151 rfl rfl dd_P_put_22 ?_
  refine x_iconst hC dd_P_put_25 ?_
  obtain ⟨q5, hw⟩ := hw
  refine x_add hC dd_P_put_26 ?_
  refine x_put hC hS hP0.1 rfl iw_P fy_P fk_P fn_P 6 (by decide) tb_151 rfl q5 rfl rfl (ps_P_6 _ _ _) (Nat.le_of_ble_eq_true rfl) dd_P_put_27 (fun H locs hS => ?_)
  obtain ⟨M_6, eM_6⟩ : ∃ Z : Mm, Z = ms M_4 7 6 ((M_4 7 6) + 1) := ⟨_, rfl⟩
  rw [← eM_6] at hS
  have hw := hw M_6 eM_6
  have hm_M_6 := hS.2.2.2
  exact x_vret hC hS hlocks hr hw dd_P_put_30
def wp_P_turned (a1 : Int) (a2 : Int) (M : Mm) (post : Int → Prop) : Prop :=
  inR ((M 7 4) - 1) ∧ ∀ v5_11 : Int, v5_11 = ((M 7 4) - 1) → ∃ I13 : Nat → Int → Int → Int → Prop, (∃ n, I13 n a1 0 v5_11) ∧ ∀ (n13 : Nat) (x3_13 : Int) (x4_13 : Int) (x5_13 : Int), I13 n13 x3_13 x4_13 x5_13 →
    ((x5_13 < 0 → post x4_13) ∧
      (¬ x5_13 < 0 → (0 ≤ x3_13 ∧ 0 < (M 7 5)) ∧ wp_U_goal a2 x5_13 (fun (r33 : Int) => (0 ≤ r33 ∧ r33 < 7) ∧ ∀ z5 : Int, z5 = M 11 (r33).toNat → inR ((x3_13 % (M 7 5)) * z5) ∧ inR (x4_13 + ((x3_13 % (M 7 5)) * z5)) ∧ ∀ v4_39 : Int, v4_39 = (x4_13 + ((x3_13 % (M 7 5)) * z5)) → (0 ≤ x3_13 ∧ 0 < (M 7 5)) ∧ ∀ v3_47 : Int, v3_47 = (x3_13 / (M 7 5)) → inR (x5_13 + (-1)) ∧ ∀ v5_48 : Int, v5_48 = x5_13 + (-1) → ∃ k_9, k_9 < n13 ∧ I13 k_9 v3_47 v4_39 v5_48)))
set_option maxHeartbeats 4000000 in
set_option maxRecDepth 100000 in
theorem mt_P_turned (l : Launch) (X : Xw) (hlc : lcl X)(hP0 : IsP X) (a1 : Int) (ra1 : inR a1) (a2 : Int) (ra2 : inR a2) (M : Mm) (hm_M : mr M) (post : Int → Prop) (sz : Nat) (hw : wp_P_turned a1 a2 M post) : Met l yy_P_turned (Cond.code yy_P_turned bc_P_turned 6 (some .int) :: tg) ({ frames := 1, cells := 0, slots := 0, locals := 21 } : Room) (Pw X [.ref (xA X 7), .int (iI a1), .int (iI a2)] M sz) (Qi X sz (fun r M1 => M1 = M ∧ post r)) 0 0 (xF X sz) := by
  unfold wp_P_turned at hw
  refine x_enter (by decide) hlc hm_M (Nat.le_of_ble_eq_true rfl) ?_
  intro p e s m below meth c ls hC hsz hr hlocks hS hl
  have hx := hC.1.1
  have hb := hC.1.2.1
  have hl : lv_has ls 6 [(0, .ref (xA X 7)), (1, .int (iI a1)), (2, .int (iI a2))] := hl
  refine lv_iload_n hx hb dd_P_turned_0 rfl (lv_at hl 1 rfl) ?_
  refine lv_istore_n (lv' := [(3, .int (iI a1)), (0, .ref (xA X 7)), (1, .int (iI a1)), (2, .int (iI a2))]) hx hb dd_P_turned_1 rfl hl (by decide) rfl (fun ls hl => ?_)
  refine x_iconst hC dd_P_turned_2 ?_
  refine lv_istore (lv' := [(4, .int (iI 0)), (3, .int (iI a1)), (0, .ref (xA X 7)), (1, .int (iI a1)), (2, .int (iI a2))]) hx hb dd_P_turned_3 hl (by decide) rfl (fun ls hl => ?_)
  refine lv_aload_n hx hb dd_P_turned_5 rfl (lv_at hl 2 rfl) ?_
  refine x_get hC hS hP0.1 rfl iw_P 4 (by decide) tb_149 rfl rfl dd_P_turned_6 ?_
  refine x_iconst hC dd_P_turned_9 ?_
  obtain ⟨q1, hw⟩ := hw
  refine x_sub hC dd_P_turned_10 ?_
  refine x_nm q1 (fun v5_11 rv5_11 ev5_11 => ?_)
  have hw := hw v5_11 ev5_11
  refine lv_istore (lv' := [(5, .int (iI v5_11)), (4, .int (iI 0)), (3, .int (iI a1)), (0, .ref (xA X 7)), (1, .int (iI a1)), (2, .int (iI a2))]) hx hb dd_P_turned_11 hl (by decide) rfl (fun ls hl => ?_)
  obtain ⟨I13, ⟨n0, hI⟩, hstep_I13⟩ := hw
  have lp_I13 : ∀ (n13 : Nat) (x3_13 : Int) (x4_13 : Int) (x5_13 : Int) (H : Heap) (locs : List Loc) (ls : Array Slot), I13 n13 x3_13 x4_13 x5_13 → inR x3_13 → inR x4_13 → inR x5_13 → St X (xF X sz) s M H locs → lv_has ls 6 [(0, .ref (xA X 7)), (2, .int (iI a2)), (3, .int (iI x3_13)), (4, .int (iI x4_13)), (5, .int (iI x5_13))] → W p l e ({ frames := 1, cells := 0, slots := 0, locals := 21 } : Room) s m ([.ref (xA X 7), .int (iI a1), .int (iI a2)] : List Value).toArray below meth c H locs 0 0 (MQ below (Qi X sz (fun r M1 => M1 = M ∧ post r)) ([.ref (xA X 7), .int (iI a1), .int (iI a2)] : List Value).toArray s 0 0 (xF X sz)) (F0 m 13 ls []) := by
    intro n13
    induction n13 using Nat.strongRecOn with
    | _ n13 ih_I13 =>
      intro x3_13 x4_13 x5_13 H locs ls hI rx3_13 rx4_13 rx5_13 hS hl
      have hw := hstep_I13 n13 x3_13 x4_13 x5_13 hI
      refine lv_iload hx hb dd_P_turned_13 (lv_at hl 4 rfl) ?_
      refine x_if_lt hC rx5_13 (tgt := 54) dd_P_turned_15 (by decide) (fun c2 => ?_) (fun c2 => ?_)
      · have hw := hw.1 c2
        refine lv_iload hx hb dd_P_turned_54 (lv_at hl 3 rfl) ?_
        exact x_iret hC hS hlocks hr rx4_13 ⟨rfl, hw⟩ dd_P_turned_56
      · have hw := hw.2 c2
        refine lv_iload hx hb dd_P_turned_18 (lv_at hl 3 rfl) ?_
        refine lv_iload_n hx hb dd_P_turned_20 rfl (lv_at hl 2 rfl) ?_
        refine lv_aload_n hx hb dd_P_turned_21 rfl (lv_at hl 0 rfl) ?_
        refine x_get hC hS hP0.1 rfl iw_P 5 (by decide) tb_150 rfl rfl dd_P_turned_22 ?_
        obtain ⟨q3, hw⟩ := hw
        refine x_rem hC rx3_13 (hm_M 7 5) q3 dd_P_turned_25 ?_
        refine lv_aload_n hx hb dd_P_turned_26 rfl (lv_at hl 0 rfl) ?_
        refine x_get hC hS hP0.1 rfl iw_P 3 (by decide) tb_148 rfl rfl dd_P_turned_27 ?_
        refine lv_iload_n hx hb dd_P_turned_30 rfl (lv_at hl 1 rfl) ?_
        refine lv_iload hx hb dd_P_turned_31 (lv_at hl 4 rfl) ?_
        refine x_callSi hC hS (As := [.int (iI a2), .int (iI x5_13)]) (rest := [.ref (xA X 11), .int (iI (x3_13 % (M 7 5))), .int (iI x4_13)]) cs_U_goal (mt_U_goal l X hC.2.2.1  a2 ra2 x5_13 rx5_13 M hm_M _ _ hw) tb_350 rfl rfl ⟨Nat.le_of_ble_eq_true rfl, Nat.le_of_ble_eq_true rfl⟩ rfl hl.1 (Nat.le_of_ble_eq_true rfl) dd_P_turned_33 ⟨Nat.le_refl _, Nat.le_refl _⟩ rfl (fun r33 Mx H locs rr33 hp hS => ?_)
        obtain ⟨hq, hw⟩ := hp
        rw [hq] at hS
        obtain ⟨q4, hw⟩ := hw
        refine x_iald hC hS hP0.2.2.2.2 q4 dd_P_turned_36 ?_
        refine x_nm (hm_M 11 _) (fun z5 rz5 ez5 => ?_)
        have hw := hw z5 ez5
        obtain ⟨q6, hw⟩ := hw
        refine x_mul hC dd_P_turned_37 ?_
        obtain ⟨q7, hw⟩ := hw
        refine x_add hC dd_P_turned_38 ?_
        refine x_nm q7 (fun v4_39 rv4_39 ev4_39 => ?_)
        have hw := hw v4_39 ev4_39
        refine lv_istore (lv' := [(4, .int (iI v4_39)), (0, .ref (xA X 7)), (2, .int (iI a2)), (3, .int (iI x3_13)), (5, .int (iI x5_13))]) hx hb dd_P_turned_39 hl (by decide) rfl (fun ls hl => ?_)
        refine lv_iload_n hx hb dd_P_turned_41 rfl (lv_at hl 3 rfl) ?_
        refine lv_aload_n hx hb dd_P_turned_42 rfl (lv_at hl 1 rfl) ?_
        refine x_get hC hS hP0.1 rfl iw_P 5 (by decide) tb_150 rfl rfl dd_P_turned_43 ?_
        obtain ⟨q8, hw⟩ := hw
        refine x_div hC rx3_13 (hm_M 7 5) q8 dd_P_turned_46 ?_
        refine x_nm (rDiv rx3_13 q8.1 q8.2) (fun v3_47 rv3_47 ev3_47 => ?_)
        have hw := hw v3_47 ev3_47
        refine lv_istore_n (lv' := [(3, .int (iI v3_47)), (4, .int (iI v4_39)), (0, .ref (xA X 7)), (2, .int (iI a2)), (5, .int (iI x5_13))]) hx hb dd_P_turned_47 rfl hl (by decide) rfl (fun ls hl => ?_)
        obtain ⟨hr_, hw⟩ := hw
        obtain ⟨v5_48, rv5_48, ev5_48⟩ : ∃ z : Int, inR z ∧ z = x5_13 + (-1) := ⟨_, hr_, rfl⟩
        have hw := hw v5_48 ev5_48
        refine lv_iinc (v := iI v5_48) (lv' := [(5, .int (iI v5_48)), (3, .int (iI v3_47)), (4, .int (iI v4_39)), (0, .ref (xA X 7)), (2, .int (iI a2))]) hx hb dd_P_turned_48 hl (k := 4) rfl (by rw [ev5_48]; exact iI_add _ _) (by decide) rfl (fun ls hl => ?_)
        refine lv_goto (tgt := 13) hx hb dd_P_turned_51 (by decide) ?_
        obtain ⟨k_9, h10, hI⟩ := hw
        exact ih_I13 k_9 h10 v3_47 v4_39 v5_48 _ _ _ hI rv3_47 rv4_39 rv5_48 hS (lv_sub hl [3, 4, 1, 2, 0] rfl)
  exact lp_I13 n0 a1 0 v5_11 _ _ _ hI ra1 (rk rfl) rv5_11 hS (lv_sub hl [3, 5, 2, 1, 0] rfl)
def wp_P_gather (g2 : Nat) (a1 : Int) (M : Mm) (post : Mm → Prop) : Prop :=
  (0 ≤ (M 7 7) ∧ (M 7 7) < 16385) ∧ ∀ M_2 : Mm, M_2 = ms M 10 ((M 7 7)).toNat (M 7 6) → wp_P_put a1 M_2 (fun (M_3 : Mm) => (0 ≤ (M_3 7 7) ∧ (M_3 7 7) < 16385) ∧ ∀ z5 : Int, z5 = M_3 10 ((M_3 7 7)).toNat → ∃ I28 : Nat → Int → Mm → Prop, (∃ n, I28 n z5 M_3) ∧ ∀ (n28 : Nat) (x3_28 : Int) (M28 : Mm), I28 n28 x3_28 M28 →
    (∀ K104 : Prop, ((inR ((M28 7 7) + 1) ∧ ∀ M_7 : Mm, M_7 = ms M28 7 7 ((M28 7 7) + 1) → post M_7) →
        K104) →
      (((M28 7 6) ≤ x3_28 → K104) ∧
      (¬ (M28 7 6) ≤ x3_28 → (16384 ≤ x3_28 → K104) ∧
        (¬ 16384 ≤ x3_28 → ∃ I46 : Nat → Int → Mm → Prop, (∃ n, I46 n 0 M28) ∧ ∀ (n46 : Nat) (x4_46 : Int) (M46 : Mm), I46 n46 x4_46 M46 →
            (((M46 g2 3) ≤ x4_46 → inR (x3_28 + 1) ∧ ∀ v3_98 : Int, v3_98 = x3_28 + 1 → ∃ k_11, k_11 < n28 ∧ I28 k_11 v3_98 M46) ∧
              (¬ (M46 g2 3) ≤ x4_46 → (0 ≤ x3_28 ∧ x3_28 < 16384) ∧ ∀ z14 : Int, z14 = M46 9 (x3_28).toNat → (0 ≤ x4_46 ∧ x4_46 < 12) ∧ ∀ z16 : Int, z16 = M46 (g2 + 2) (x4_46).toNat → wp_P_turned z14 z16 M46 (fun (r69 : Int) => (0 ≤ r69 ∧ r69 < 16384) ∧ ∀ z18 : Int, z18 = M46 8 (r69).toNat → ∀ K92 : Mm → Prop, (∀ (M92 : Mm), (inR (x4_46 + 1) ∧ ∀ v4_92 : Int, v4_92 = x4_46 + 1 → ∃ k_19, k_19 < n46 ∧ I46 k_19 v4_92 M92) →
                  K92 M92) →
                ((¬ z18 = (-6) → K92 M46) ∧
                (z18 = (-6) → wp_P_put r69 M46 (fun (M_22 : Mm) => K92 M_22)))))))))))
set_option maxHeartbeats 4000000 in
set_option maxRecDepth 100000 in
theorem mt_P_gather (l : Launch) (X : Xw) (hlc : lcl X) (g2 : Nat) (hP0 : IsP X) (hg2 : IsG X g2) (a1 : Int) (ra1 : inR a1) (M : Mm) (hm_M : mr M) (post : Mm → Prop) (sz : Nat) (hw : wp_P_gather g2 a1 M post) : Met l yy_P_gather (Cond.code yy_P_gather bc_P_gather 6 none :: tg) ({ frames := 2, cells := 0, slots := 0, locals := 46 } : Room) (Pw X [.ref (xA X 7), .int (iI a1), .ref (xA X g2)] M sz) (Qv X sz post) 0 0 (xF X sz) := by
  unfold wp_P_gather at hw
  refine x_enter (by decide) hlc hm_M (Nat.le_of_ble_eq_true rfl) ?_
  intro p e s m below meth c ls hC hsz hr hlocks hS hl
  have hx := hC.1.1
  have hb := hC.1.2.1
  have hl : lv_has ls 6 [(0, .ref (xA X 7)), (1, .int (iI a1)), (2, .ref (xA X g2))] := hl
  refine lv_aload_n hx hb dd_P_gather_0 rfl (lv_at hl 0 rfl) ?_
  refine x_get hC hS hP0.1 rfl iw_P 2 (by decide) tb_147 rfl rfl dd_P_gather_1 ?_
  refine lv_aload_n hx hb dd_P_gather_4 rfl (lv_at hl 0 rfl) ?_
  refine x_get hC hS hP0.1 rfl iw_P 7 (by decide) tb_152 rfl rfl dd_P_gather_5 ?_
  refine lv_aload_n hx hb dd_P_gather_8 rfl (lv_at hl 0 rfl) ?_
  refine x_get hC hS hP0.1 rfl iw_P 6 (by decide) tb_151 rfl rfl dd_P_gather_9 ?_
  obtain ⟨q1, hw⟩ := hw
  refine x_iast hC hS hP0.2.2.2.1 q1 (hm_M 7 6) dd_P_gather_12 (fun H locs hS => ?_)
  obtain ⟨M_2, eM_2⟩ : ∃ Z : Mm, Z = ms M 10 ((M 7 7)).toNat (M 7 6) := ⟨_, rfl⟩
  rw [← eM_2] at hS
  have hw := hw M_2 eM_2
  have hm_M_2 := hS.2.2.2
  refine lv_aload_n hx hb dd_P_gather_13 rfl (lv_at hl 0 rfl) ?_
  refine lv_iload_n hx hb dd_P_gather_14 rfl (lv_at hl 1 rfl) ?_
  refine x_callVv hC hS (As := [.int (iI a1)]) (rest := []) hP0.1 rfl cv_P_put (mt_P_put l X hC.2.2.1 hP0 a1 ra1 M_2 hm_M_2 _ _ hw) tb_342 rfl rfl ⟨Nat.le_of_ble_eq_true rfl, Nat.le_of_ble_eq_true rfl⟩ rfl hl.1 (Nat.le_of_ble_eq_true rfl) dd_P_gather_15 ⟨Nat.le_refl _, Nat.le_refl _⟩ rfl (fun M_3 H locs hw hS => ?_)
  have hm_M_3 := hS.2.2.2
  refine lv_aload_n hx hb dd_P_gather_18 rfl (lv_at hl 0 rfl) ?_
  refine x_get hC hS hP0.1 rfl iw_P 2 (by decide) tb_147 rfl rfl dd_P_gather_19 ?_
  refine lv_aload_n hx hb dd_P_gather_22 rfl (lv_at hl 0 rfl) ?_
  refine x_get hC hS hP0.1 rfl iw_P 7 (by decide) tb_152 rfl rfl dd_P_gather_23 ?_
  obtain ⟨q4, hw⟩ := hw
  refine x_iald hC hS hP0.2.2.2.1 q4 dd_P_gather_26 ?_
  refine x_nm (hm_M_3 10 _) (fun z5 rz5 ez5 => ?_)
  have hw := hw z5 ez5
  refine lv_istore_n (lv' := [(3, .int (iI z5)), (0, .ref (xA X 7)), (1, .int (iI a1)), (2, .ref (xA X g2))]) hx hb dd_P_gather_27 rfl hl (by decide) rfl (fun ls hl => ?_)
  obtain ⟨I28, ⟨n0, hI⟩, hstep_I28⟩ := hw
  have lp_I28 : ∀ (n28 : Nat) (x3_28 : Int) (M28 : Mm) (H : Heap) (locs : List Loc) (ls : Array Slot), I28 n28 x3_28 M28 → inR x3_28 → St X (xF X sz) s M28 H locs → lv_has ls 6 [(0, .ref (xA X 7)), (2, .ref (xA X g2)), (3, .int (iI x3_28))] → W p l e ({ frames := 2, cells := 0, slots := 0, locals := 46 } : Room) s m ([.ref (xA X 7), .int (iI a1), .ref (xA X g2)] : List Value).toArray below meth c H locs 0 0 (MQ below (Qv X sz post) ([.ref (xA X 7), .int (iI a1), .ref (xA X g2)] : List Value).toArray s 0 0 (xF X sz)) (F0 m 28 ls []) := by
    intro n28
    induction n28 using Nat.strongRecOn with
    | _ n28 ih_I28 =>
      intro x3_28 M28 H locs ls hI rx3_28 hS hl
      have hw := hstep_I28 n28 x3_28 M28 hI
      have hm_M28 := hS.2.2.2
      refine lv_iload_n hx hb dd_P_gather_28 rfl (lv_at hl 2 rfl) ?_
      refine lv_aload_n hx hb dd_P_gather_29 rfl (lv_at hl 0 rfl) ?_
      refine x_get hC hS hP0.1 rfl iw_P 6 (by decide) tb_151 rfl rfl dd_P_gather_30 ?_
      have hw := hw (∀ (H : Heap) (locs : List Loc) (ls : Array Slot), St X (xF X sz) s M28 H locs → lv_has ls 6 [(0, .ref (xA X 7))] → W p l e ({ frames := 2, cells := 0, slots := 0, locals := 46 } : Room) s m ([.ref (xA X 7), .int (iI a1), .ref (xA X g2)] : List Value).toArray below meth c H locs 0 0 (MQ below (Qv X sz post) ([.ref (xA X 7), .int (iI a1), .ref (xA X g2)] : List Value).toArray s 0 0 (xF X sz)) (F0 m 104 ls [])) (by
          intro  hw H locs ls  hS hl
          refine lv_aload_n hx hb dd_P_gather_104 rfl (lv_at hl 0 rfl) ?_
          refine lv_dup hx hb dd_P_gather_105 rfl ?_
          refine x_get hC hS hP0.1 rfl iw_P 7 (by decide) tb_152 rfl rfl dd_P_gather_106 ?_
          refine x_iconst hC dd_P_gather_109 ?_
          obtain ⟨q6, hw⟩ := hw
          refine x_add hC dd_P_gather_110 ?_
          refine x_put hC hS hP0.1 rfl iw_P fy_P fk_P fn_P 7 (by decide) tb_152 rfl q6 rfl rfl (ps_P_7 _ _ _) (Nat.le_of_ble_eq_true rfl) dd_P_gather_111 (fun H locs hS => ?_)
          obtain ⟨M_7, eM_7⟩ : ∃ Z : Mm, Z = ms M28 7 7 ((M28 7 7) + 1) := ⟨_, rfl⟩
          rw [← eM_7] at hS
          have hw := hw M_7 eM_7
          have hm_M_7 := hS.2.2.2
          exact x_vret hC hS hlocks hr hw dd_P_gather_114)
      refine x_icmp_ge hC rx3_28 (hm_M28 7 6) (tgt := 104) dd_P_gather_33 (by decide) (fun c8 => ?_) (fun c8 => ?_)
      · have hw := hw.1 c8
        exact hw _ _ _  hS (lv_sub hl [0] rfl)
      · have hw := hw.2 c8
        refine lv_iload_n hx hb dd_P_gather_36 rfl (lv_at hl 2 rfl) ?_
        refine x_sipush hC dd_P_gather_37 (by decide) ?_
        refine x_icmp_ge hC rx3_28 (rk rfl) (tgt := 104) dd_P_gather_40 (by decide) (fun c9 => ?_) (fun c9 => ?_)
        · have hw := hw.1 c9
          exact hw _ _ _  hS (lv_sub hl [0] rfl)
        · have hw := hw.2 c9
          refine x_iconst hC dd_P_gather_43 ?_
          refine lv_istore (lv' := [(4, .int (iI 0)), (0, .ref (xA X 7)), (2, .ref (xA X g2)), (3, .int (iI x3_28))]) hx hb dd_P_gather_44 hl (by decide) rfl (fun ls hl => ?_)
          obtain ⟨I46, ⟨n0, hI⟩, hstep_I46⟩ := hw
          have lp_I46 : ∀ (n46 : Nat) (x4_46 : Int) (M46 : Mm) (H : Heap) (locs : List Loc) (ls : Array Slot), I46 n46 x4_46 M46 → inR x4_46 → St X (xF X sz) s M46 H locs → lv_has ls 6 [(0, .ref (xA X 7)), (2, .ref (xA X g2)), (3, .int (iI x3_28)), (4, .int (iI x4_46))] → W p l e ({ frames := 2, cells := 0, slots := 0, locals := 46 } : Room) s m ([.ref (xA X 7), .int (iI a1), .ref (xA X g2)] : List Value).toArray below meth c H locs 0 0 (MQ below (Qv X sz post) ([.ref (xA X 7), .int (iI a1), .ref (xA X g2)] : List Value).toArray s 0 0 (xF X sz)) (F0 m 46 ls []) := by
            intro n46
            induction n46 using Nat.strongRecOn with
            | _ n46 ih_I46 =>
              intro x4_46 M46 H locs ls hI rx4_46 hS hl
              have hw := hstep_I46 n46 x4_46 M46 hI
              have hm_M46 := hS.2.2.2
              refine lv_iload hx hb dd_P_gather_46 (lv_at hl 3 rfl) ?_
              refine lv_aload_n hx hb dd_P_gather_48 rfl (lv_at hl 1 rfl) ?_
              refine x_get hC hS hg2.1 rfl iw_G 3 (by decide) tb_63 rfl rfl dd_P_gather_49 ?_
              refine x_icmp_ge hC rx4_46 (hm_M46 g2 3) (tgt := 98) dd_P_gather_52 (by decide) (fun c10 => ?_) (fun c10 => ?_)
              · have hw := hw.1 c10
                obtain ⟨hr_, hw⟩ := hw
                obtain ⟨v3_98, rv3_98, ev3_98⟩ : ∃ z : Int, inR z ∧ z = x3_28 + 1 := ⟨_, hr_, rfl⟩
                have hw := hw v3_98 ev3_98
                refine lv_iinc (v := iI v3_98) (lv' := [(3, .int (iI v3_98)), (0, .ref (xA X 7)), (2, .ref (xA X g2)), (4, .int (iI x4_46))]) hx hb dd_P_gather_98 hl (k := 2) rfl (by rw [ev3_98]; exact iI_add _ _) (by decide) rfl (fun ls hl => ?_)
                refine lv_goto (tgt := 28) hx hb dd_P_gather_101 (by decide) ?_
                obtain ⟨k_11, h12, hI⟩ := hw
                exact ih_I28 k_11 h12 v3_98 M46 _ _ _ hI rv3_98 hS (lv_sub hl [1, 2, 0] rfl)
              · have hw := hw.2 c10
                refine lv_aload_n hx hb dd_P_gather_55 rfl (lv_at hl 0 rfl) ?_
                refine lv_aload_n hx hb dd_P_gather_56 rfl (lv_at hl 0 rfl) ?_
                refine x_get hC hS hP0.1 rfl iw_P 1 (by decide) tb_146 rfl rfl dd_P_gather_57 ?_
                refine lv_iload_n hx hb dd_P_gather_60 rfl (lv_at hl 2 rfl) ?_
                obtain ⟨q13, hw⟩ := hw
                refine x_iald hC hS hP0.2.2.1 q13 dd_P_gather_61 ?_
                refine x_nm (hm_M46 9 _) (fun z14 rz14 ez14 => ?_)
                have hw := hw z14 ez14
                refine lv_aload_n hx hb dd_P_gather_62 rfl (lv_at hl 1 rfl) ?_
                refine x_get hC hS hg2.1 rfl iw_G 2 (by decide) tb_61 rfl rfl dd_P_gather_63 ?_
                refine lv_iload hx hb dd_P_gather_66 (lv_at hl 3 rfl) ?_
                obtain ⟨q15, hw⟩ := hw
                refine x_iald hC hS hg2.2.2.1 q15 dd_P_gather_68 ?_
                refine x_nm (hm_M46 (g2 + 2) _) (fun z16 rz16 ez16 => ?_)
                have hw := hw z16 ez16
                refine x_callVi hC hS (As := [.int (iI z14), .int (iI z16)]) (rest := []) hP0.1 rfl cv_P_turned (mt_P_turned l X hC.2.2.1 hP0 z14 rz14 z16 rz16 M46 hm_M46 _ _ hw) tb_346 rfl rfl ⟨Nat.le_of_ble_eq_true rfl, Nat.le_of_ble_eq_true rfl⟩ rfl hl.1 (Nat.le_of_ble_eq_true rfl) dd_P_gather_69 ⟨Nat.le_refl _, Nat.le_refl _⟩ rfl (fun r69 Mx H locs rr69 hp hS => ?_)
                obtain ⟨hq, hw⟩ := hp
                rw [hq] at hS
                refine lv_istore (lv' := [(5, .int (iI r69)), (0, .ref (xA X 7)), (2, .ref (xA X g2)), (3, .int (iI x3_28)), (4, .int (iI x4_46))]) hx hb dd_P_gather_72 hl (by decide) rfl (fun ls hl => ?_)
                refine lv_aload_n hx hb dd_P_gather_74 rfl (lv_at hl 1 rfl) ?_
                refine x_get hC hS hP0.1 rfl iw_P 0 (by decide) tb_144 rfl rfl dd_P_gather_75 ?_
                refine lv_iload hx hb dd_P_gather_78 (lv_at hl 0 rfl) ?_
                obtain ⟨q17, hw⟩ := hw
                refine x_iald hC hS hP0.2.1 q17 dd_P_gather_80 ?_
                refine x_nm (hm_M46 8 _) (fun z18 rz18 ez18 => ?_)
                have hw := hw z18 ez18
                refine x_bipush hC dd_P_gather_81 (by decide) ?_
                have hw := hw (fun (M92 : Mm) => ∀ (H : Heap) (locs : List Loc) (ls : Array Slot), St X (xF X sz) s M92 H locs → lv_has ls 6 [(0, .ref (xA X 7)), (2, .ref (xA X g2)), (3, .int (iI x3_28)), (4, .int (iI x4_46))] → W p l e ({ frames := 2, cells := 0, slots := 0, locals := 46 } : Room) s m ([.ref (xA X 7), .int (iI a1), .ref (xA X g2)] : List Value).toArray below meth c H locs 0 0 (MQ below (Qv X sz post) ([.ref (xA X 7), .int (iI a1), .ref (xA X g2)] : List Value).toArray s 0 0 (xF X sz)) (F0 m 92 ls [])) (by
                    intro M92 hw H locs ls  hS hl
                    have hm_M92 := hS.2.2.2
                    obtain ⟨hr_, hw⟩ := hw
                    obtain ⟨v4_92, rv4_92, ev4_92⟩ : ∃ z : Int, inR z ∧ z = x4_46 + 1 := ⟨_, hr_, rfl⟩
                    have hw := hw v4_92 ev4_92
                    refine lv_iinc (v := iI v4_92) (lv' := [(4, .int (iI v4_92)), (0, .ref (xA X 7)), (2, .ref (xA X g2)), (3, .int (iI x3_28))]) hx hb dd_P_gather_92 hl (k := 3) rfl (by rw [ev4_92]; exact iI_add _ _) (by decide) rfl (fun ls hl => ?_)
                    refine lv_goto (tgt := 46) hx hb dd_P_gather_95 (by decide) ?_
                    obtain ⟨k_19, h20, hI⟩ := hw
                    exact ih_I46 k_19 h20 v4_92 M92 _ _ _ hI rv4_92 hS (lv_sub hl [1, 2, 3, 0] rfl))
                refine x_icmp_ne hC rz18 (rk rfl) (tgt := 92) dd_P_gather_83 (by decide) (fun c21 => ?_) (fun c21 => ?_)
                · have hw := hw.1 c21
                  exact hw _ _ _  hS (lv_sub hl [1, 2, 3, 4] rfl)
                · have hw := hw.2 c21
                  refine lv_aload_n hx hb dd_P_gather_86 rfl (lv_at hl 1 rfl) ?_
                  refine lv_iload hx hb dd_P_gather_87 (lv_at hl 0 rfl) ?_
                  refine x_callVv hC hS (As := [.int (iI r69)]) (rest := []) hP0.1 rfl cv_P_put (mt_P_put l X hC.2.2.1 hP0 r69 rr69 M46 hm_M46 _ _ hw) tb_342 rfl rfl ⟨Nat.le_of_ble_eq_true rfl, Nat.le_of_ble_eq_true rfl⟩ rfl hl.1 (Nat.le_of_ble_eq_true rfl) dd_P_gather_89 ⟨Nat.le_refl _, Nat.le_refl _⟩ rfl (fun M_22 H locs hw hS => ?_)
                  have hm_M_22 := hS.2.2.2
                  exact hw _ _ _  hS (lv_sub hl [1, 2, 3, 4] rfl)
          exact lp_I46 n0 0 M28 _ _ _ hI (rk rfl) hS (lv_sub hl [1, 2, 3, 0] rfl)
  exact lp_I28 n0 z5 M_3 _ _ _ hI rz5 hS (lv_sub hl [1, 3, 0] rfl)
def wp_P_bringUp (u1 : Nat) (M : Mm) (post : Mm → Prop) : Prop :=
  ((M 7 8) = 0 → wp_P_setPlaces u1 M (fun (M_2 : Mm) => wp_S_colourings u1 M_2 (fun (r14 : Int) => ∃ I20 : Nat → Int → Mm → Prop, (∃ n, I20 n 0 M_2) ∧ ∀ (n20 : Nat) (x3_20 : Int) (M20 : Mm), I20 n20 x3_20 M20 →
      ((r14 ≤ x3_20 → ∀ M_4 : Mm, M_4 = ms M20 7 6 0 → ∀ M_5 : Mm, M_5 = ms M_4 7 7 0 → ∃ I51 : Nat → Int → Mm → Prop, (∃ n, I51 n 0 M_5) ∧ ∀ (n51 : Nat) (x3_51 : Int) (M51 : Mm), I51 n51 x3_51 M51 →
            ((r14 ≤ x3_51 → (0 ≤ (M51 7 7) ∧ (M51 7 7) < 16385) ∧ ∀ M_8 : Mm, M_8 = ms M51 10 ((M51 7 7)).toNat (M51 7 6) → ∀ M_9 : Mm, M_9 = ms M_8 7 8 1 → post M_9) ∧
              (¬ r14 ≤ x3_51 → (0 ≤ x3_51 ∧ x3_51 < 16384) ∧ ∀ z11 : Int, z11 = M51 8 (x3_51).toNat → ∀ K76 : Mm → Prop, (∀ (M76 : Mm), (inR (x3_51 + 1) ∧ ∀ v3_76 : Int, v3_76 = x3_51 + 1 → ∃ k_12, k_12 < n51 ∧ I51 k_12 v3_76 M76) →
                  K76 M76) →
                ((¬ z11 = (-6) → K76 M51) ∧
                (z11 = (-6) → wp_P_gather (u1 + 2) x3_51 M51 (fun (M_15 : Mm) => K76 M_15)))))) ∧
        (¬ r14 ≤ x3_20 → (0 ≤ x3_20 ∧ x3_20 < 16384) ∧ ∀ M_17 : Mm, M_17 = ms M20 8 (x3_20).toNat (-6) → inR (x3_20 + 1) ∧ ∀ v3_33 : Int, v3_33 = x3_20 + 1 → ∃ k_18, k_18 < n20 ∧ I20 k_18 v3_33 M_17))))) ∧
  (¬ (M 7 8) = 0 → post M)
set_option maxHeartbeats 4000000 in
set_option maxRecDepth 100000 in
theorem mt_P_bringUp (l : Launch) (X : Xw) (hlc : lcl X) (u1 : Nat) (hP0 : IsP X) (hu1 : IsS X u1) (M : Mm) (hm_M : mr M) (post : Mm → Prop) (sz : Nat) (hw : wp_P_bringUp u1 M post) : Met l yy_P_bringUp (Cond.code yy_P_bringUp bc_P_bringUp 4 none :: tg) ({ frames := 3, cells := 0, slots := 0, locals := 71 } : Room) (Pw X [.ref (xA X 7), .ref (xA X u1)] M sz) (Qv X sz post) 0 0 (xF X sz) := by
  unfold wp_P_bringUp at hw
  refine x_enter (by decide) hlc hm_M (Nat.le_of_ble_eq_true rfl) ?_
  intro p e s m below meth c ls hC hsz hr hlocks hS hl
  have hx := hC.1.1
  have hb := hC.1.2.1
  have hl : lv_has ls 4 [(0, .ref (xA X 7)), (1, .ref (xA X u1))] := hl
  refine lv_aload_n hx hb dd_P_bringUp_0 rfl (lv_at hl 0 rfl) ?_
  refine x_get hC hS hP0.1 rfl iw_P 8 (by decide) tb_154 rfl rfl dd_P_bringUp_1 ?_
  refine x_if_eq hC (hm_M 7 8) (tgt := 8) dd_P_bringUp_4 (by decide) (fun c1 => ?_) (fun c1 => ?_)
  · have hw := hw.1 c1
    refine lv_aload_n hx hb dd_P_bringUp_8 rfl (lv_at hl 0 rfl) ?_
    refine lv_aload_n hx hb dd_P_bringUp_9 rfl (lv_at hl 1 rfl) ?_
    refine x_callVv hC hS (As := [.ref (xA X u1)]) (rest := []) hP0.1 rfl cv_P_setPlaces (mt_P_setPlaces l X hC.2.2.1 u1 hP0 hu1  M hm_M _ _ hw) tb_330 rfl rfl ⟨Nat.le_of_ble_eq_true rfl, Nat.le_of_ble_eq_true rfl⟩ rfl hl.1 (Nat.le_of_ble_eq_true rfl) dd_P_bringUp_10 ⟨Nat.le_refl _, Nat.le_refl _⟩ rfl (fun M_2 H locs hw hS => ?_)
    have hm_M_2 := hS.2.2.2
    refine lv_aload_n hx hb dd_P_bringUp_13 rfl (lv_at hl 1 rfl) ?_
    refine x_callVi hC hS (As := []) (rest := []) hu1.1 rfl cv_S_colourings (mt_S_colourings l X hC.2.2.1 u1 hu1  M_2 hm_M_2 _ _ hw) tb_334 rfl rfl ⟨Nat.le_of_ble_eq_true rfl, Nat.le_of_ble_eq_true rfl⟩ rfl hl.1 (Nat.le_of_ble_eq_true rfl) dd_P_bringUp_14 ⟨Nat.le_refl _, Nat.le_refl _⟩ rfl (fun r14 Mx H locs rr14 hp hS => ?_)
    obtain ⟨hq, hw⟩ := hp
    rw [hq] at hS
    refine lv_istore_n (lv' := [(2, .int (iI r14)), (0, .ref (xA X 7)), (1, .ref (xA X u1))]) hx hb dd_P_bringUp_17 rfl hl (by decide) rfl (fun ls hl => ?_)
    refine x_iconst hC dd_P_bringUp_18 ?_
    refine lv_istore_n (lv' := [(3, .int (iI 0)), (2, .int (iI r14)), (0, .ref (xA X 7)), (1, .ref (xA X u1))]) hx hb dd_P_bringUp_19 rfl hl (by decide) rfl (fun ls hl => ?_)
    obtain ⟨I20, ⟨n0, hI⟩, hstep_I20⟩ := hw
    have lp_I20 : ∀ (n20 : Nat) (x3_20 : Int) (M20 : Mm) (H : Heap) (locs : List Loc) (ls : Array Slot), I20 n20 x3_20 M20 → inR x3_20 → St X (xF X sz) s M20 H locs → lv_has ls 4 [(0, .ref (xA X 7)), (1, .ref (xA X u1)), (2, .int (iI r14)), (3, .int (iI x3_20))] → W p l e ({ frames := 3, cells := 0, slots := 0, locals := 71 } : Room) s m ([.ref (xA X 7), .ref (xA X u1)] : List Value).toArray below meth c H locs 0 0 (MQ below (Qv X sz post) ([.ref (xA X 7), .ref (xA X u1)] : List Value).toArray s 0 0 (xF X sz)) (F0 m 20 ls []) := by
      intro n20
      induction n20 using Nat.strongRecOn with
      | _ n20 ih_I20 =>
        intro x3_20 M20 H locs ls hI rx3_20 hS hl
        have hw := hstep_I20 n20 x3_20 M20 hI
        have hm_M20 := hS.2.2.2
        refine lv_iload_n hx hb dd_P_bringUp_20 rfl (lv_at hl 3 rfl) ?_
        refine lv_iload_n hx hb dd_P_bringUp_21 rfl (lv_at hl 2 rfl) ?_
        refine x_icmp_ge hC rx3_20 rr14 (tgt := 39) dd_P_bringUp_22 (by decide) (fun c3 => ?_) (fun c3 => ?_)
        · have hw := hw.1 c3
          refine lv_aload_n hx hb dd_P_bringUp_39 rfl (lv_at hl 0 rfl) ?_
          refine x_iconst hC dd_P_bringUp_40 ?_
          refine x_put hC hS hP0.1 rfl iw_P fy_P fk_P fn_P 6 (by decide) tb_151 rfl (rk rfl) rfl rfl (ps_P_6 _ _ _) (Nat.le_of_ble_eq_true rfl) dd_P_bringUp_41 (fun H locs hS => ?_)
          obtain ⟨M_4, eM_4⟩ : ∃ Z : Mm, Z = ms M20 7 6 0 := ⟨_, rfl⟩
          rw [← eM_4] at hS
          have hw := hw M_4 eM_4
          have hm_M_4 := hS.2.2.2
          refine lv_aload_n hx hb dd_P_bringUp_44 rfl (lv_at hl 0 rfl) ?_
          refine x_iconst hC dd_P_bringUp_45 ?_
          refine x_put hC hS hP0.1 rfl iw_P fy_P fk_P fn_P 7 (by decide) tb_152 rfl (rk rfl) rfl rfl (ps_P_7 _ _ _) (Nat.le_of_ble_eq_true rfl) dd_P_bringUp_46 (fun H locs hS => ?_)
          obtain ⟨M_5, eM_5⟩ : ∃ Z : Mm, Z = ms M_4 7 7 0 := ⟨_, rfl⟩
          rw [← eM_5] at hS
          have hw := hw M_5 eM_5
          have hm_M_5 := hS.2.2.2
          refine x_iconst hC dd_P_bringUp_49 ?_
          refine lv_istore_n (lv' := [(3, .int (iI 0)), (0, .ref (xA X 7)), (1, .ref (xA X u1)), (2, .int (iI r14))]) hx hb dd_P_bringUp_50 rfl hl (by decide) rfl (fun ls hl => ?_)
          obtain ⟨I51, ⟨n0, hI⟩, hstep_I51⟩ := hw
          have lp_I51 : ∀ (n51 : Nat) (x3_51 : Int) (M51 : Mm) (H : Heap) (locs : List Loc) (ls : Array Slot), I51 n51 x3_51 M51 → inR x3_51 → St X (xF X sz) s M51 H locs → lv_has ls 4 [(0, .ref (xA X 7)), (1, .ref (xA X u1)), (2, .int (iI r14)), (3, .int (iI x3_51))] → W p l e ({ frames := 3, cells := 0, slots := 0, locals := 71 } : Room) s m ([.ref (xA X 7), .ref (xA X u1)] : List Value).toArray below meth c H locs 0 0 (MQ below (Qv X sz post) ([.ref (xA X 7), .ref (xA X u1)] : List Value).toArray s 0 0 (xF X sz)) (F0 m 51 ls []) := by
            intro n51
            induction n51 using Nat.strongRecOn with
            | _ n51 ih_I51 =>
              intro x3_51 M51 H locs ls hI rx3_51 hS hl
              have hw := hstep_I51 n51 x3_51 M51 hI
              have hm_M51 := hS.2.2.2
              refine lv_iload_n hx hb dd_P_bringUp_51 rfl (lv_at hl 3 rfl) ?_
              refine lv_iload_n hx hb dd_P_bringUp_52 rfl (lv_at hl 2 rfl) ?_
              refine x_icmp_ge hC rx3_51 rr14 (tgt := 82) dd_P_bringUp_53 (by decide) (fun c6 => ?_) (fun c6 => ?_)
              · have hw := hw.1 c6
                refine lv_aload_n hx hb dd_P_bringUp_82 rfl (lv_at hl 0 rfl) ?_
                refine x_get hC hS hP0.1 rfl iw_P 2 (by decide) tb_147 rfl rfl dd_P_bringUp_83 ?_
                refine lv_aload_n hx hb dd_P_bringUp_86 rfl (lv_at hl 0 rfl) ?_
                refine x_get hC hS hP0.1 rfl iw_P 7 (by decide) tb_152 rfl rfl dd_P_bringUp_87 ?_
                refine lv_aload_n hx hb dd_P_bringUp_90 rfl (lv_at hl 0 rfl) ?_
                refine x_get hC hS hP0.1 rfl iw_P 6 (by decide) tb_151 rfl rfl dd_P_bringUp_91 ?_
                obtain ⟨q7, hw⟩ := hw
                refine x_iast hC hS hP0.2.2.2.1 q7 (hm_M51 7 6) dd_P_bringUp_94 (fun H locs hS => ?_)
                obtain ⟨M_8, eM_8⟩ : ∃ Z : Mm, Z = ms M51 10 ((M51 7 7)).toNat (M51 7 6) := ⟨_, rfl⟩
                rw [← eM_8] at hS
                have hw := hw M_8 eM_8
                have hm_M_8 := hS.2.2.2
                refine lv_aload_n hx hb dd_P_bringUp_95 rfl (lv_at hl 0 rfl) ?_
                refine x_iconst hC dd_P_bringUp_96 ?_
                refine x_put hC hS hP0.1 rfl iw_P fy_P fk_P fn_P 8 (by decide) tb_154 rfl (rk rfl) rfl rfl (ps_P_8 _ _ _) (Nat.le_of_ble_eq_true rfl) dd_P_bringUp_97 (fun H locs hS => ?_)
                obtain ⟨M_9, eM_9⟩ : ∃ Z : Mm, Z = ms M_8 7 8 1 := ⟨_, rfl⟩
                rw [← eM_9] at hS
                have hw := hw M_9 eM_9
                have hm_M_9 := hS.2.2.2
                exact x_vret hC hS hlocks hr hw dd_P_bringUp_100
              · have hw := hw.2 c6
                refine lv_aload_n hx hb dd_P_bringUp_56 rfl (lv_at hl 0 rfl) ?_
                refine x_get hC hS hP0.1 rfl iw_P 0 (by decide) tb_144 rfl rfl dd_P_bringUp_57 ?_
                refine lv_iload_n hx hb dd_P_bringUp_60 rfl (lv_at hl 3 rfl) ?_
                obtain ⟨q10, hw⟩ := hw
                refine x_iald hC hS hP0.2.1 q10 dd_P_bringUp_61 ?_
                refine x_nm (hm_M51 8 _) (fun z11 rz11 ez11 => ?_)
                have hw := hw z11 ez11
                refine x_bipush hC dd_P_bringUp_62 (by decide) ?_
                have hw := hw (fun (M76 : Mm) => ∀ (H : Heap) (locs : List Loc) (ls : Array Slot), St X (xF X sz) s M76 H locs → lv_has ls 4 [(0, .ref (xA X 7)), (1, .ref (xA X u1)), (2, .int (iI r14)), (3, .int (iI x3_51))] → W p l e ({ frames := 3, cells := 0, slots := 0, locals := 71 } : Room) s m ([.ref (xA X 7), .ref (xA X u1)] : List Value).toArray below meth c H locs 0 0 (MQ below (Qv X sz post) ([.ref (xA X 7), .ref (xA X u1)] : List Value).toArray s 0 0 (xF X sz)) (F0 m 76 ls [])) (by
                    intro M76 hw H locs ls  hS hl
                    have hm_M76 := hS.2.2.2
                    obtain ⟨hr_, hw⟩ := hw
                    obtain ⟨v3_76, rv3_76, ev3_76⟩ : ∃ z : Int, inR z ∧ z = x3_51 + 1 := ⟨_, hr_, rfl⟩
                    have hw := hw v3_76 ev3_76
                    refine lv_iinc (v := iI v3_76) (lv' := [(3, .int (iI v3_76)), (0, .ref (xA X 7)), (1, .ref (xA X u1)), (2, .int (iI r14))]) hx hb dd_P_bringUp_76 hl (k := 3) rfl (by rw [ev3_76]; exact iI_add _ _) (by decide) rfl (fun ls hl => ?_)
                    refine lv_goto (tgt := 51) hx hb dd_P_bringUp_79 (by decide) ?_
                    obtain ⟨k_12, h13, hI⟩ := hw
                    exact ih_I51 k_12 h13 v3_76 M76 _ _ _ hI rv3_76 hS (lv_sub hl [1, 2, 3, 0] rfl))
                refine x_icmp_ne hC rz11 (rk rfl) (tgt := 76) dd_P_bringUp_64 (by decide) (fun c14 => ?_) (fun c14 => ?_)
                · have hw := hw.1 c14
                  exact hw _ _ _  hS (lv_sub hl [0, 1, 2, 3] rfl)
                · have hw := hw.2 c14
                  refine lv_aload_n hx hb dd_P_bringUp_67 rfl (lv_at hl 0 rfl) ?_
                  refine lv_iload_n hx hb dd_P_bringUp_68 rfl (lv_at hl 3 rfl) ?_
                  refine lv_aload_n hx hb dd_P_bringUp_69 rfl (lv_at hl 1 rfl) ?_
                  refine x_get hC hS hu1.1 rfl iw_S 3 (by decide) tb_89 rfl rfl dd_P_bringUp_70 ?_
                  refine x_callVv hC hS (As := [.int (iI x3_51), .ref (xA X (u1 + 2))]) (rest := []) hP0.1 rfl cv_P_gather (mt_P_gather l X hC.2.2.1 (u1 + 2) hP0 hu1.2.2 x3_51 rx3_51 M51 hm_M51 _ _ hw) tb_338 rfl rfl ⟨Nat.le_of_ble_eq_true rfl, Nat.le_of_ble_eq_true rfl⟩ rfl hl.1 (Nat.le_of_ble_eq_true rfl) dd_P_bringUp_73 ⟨Nat.le_refl _, Nat.le_refl _⟩ rfl (fun M_15 H locs hw hS => ?_)
                  have hm_M_15 := hS.2.2.2
                  exact hw _ _ _  hS (lv_sub hl [0, 1, 2, 3] rfl)
          exact lp_I51 n0 0 M_5 _ _ _ hI (rk rfl) hS (lv_sub hl [1, 2, 3, 0] rfl)
        · have hw := hw.2 c3
          refine lv_aload_n hx hb dd_P_bringUp_25 rfl (lv_at hl 0 rfl) ?_
          refine x_get hC hS hP0.1 rfl iw_P 0 (by decide) tb_144 rfl rfl dd_P_bringUp_26 ?_
          refine lv_iload_n hx hb dd_P_bringUp_29 rfl (lv_at hl 3 rfl) ?_
          refine x_bipush hC dd_P_bringUp_30 (by decide) ?_
          obtain ⟨q16, hw⟩ := hw
          refine x_iast hC hS hP0.2.1 q16 (rk rfl) dd_P_bringUp_32 (fun H locs hS => ?_)
          obtain ⟨M_17, eM_17⟩ : ∃ Z : Mm, Z = ms M20 8 (x3_20).toNat (-6) := ⟨_, rfl⟩
          rw [← eM_17] at hS
          have hw := hw M_17 eM_17
          have hm_M_17 := hS.2.2.2
          obtain ⟨hr_, hw⟩ := hw
          obtain ⟨v3_33, rv3_33, ev3_33⟩ : ∃ z : Int, inR z ∧ z = x3_20 + 1 := ⟨_, hr_, rfl⟩
          have hw := hw v3_33 ev3_33
          refine lv_iinc (v := iI v3_33) (lv' := [(3, .int (iI v3_33)), (0, .ref (xA X 7)), (1, .ref (xA X u1)), (2, .int (iI r14))]) hx hb dd_P_bringUp_33 hl (k := 3) rfl (by rw [ev3_33]; exact iI_add _ _) (by decide) rfl (fun ls hl => ?_)
          refine lv_goto (tgt := 20) hx hb dd_P_bringUp_36 (by decide) ?_
          obtain ⟨k_18, h19, hI⟩ := hw
          exact ih_I20 k_18 h19 v3_33 M_17 _ _ _ hI rv3_33 hS (lv_sub hl [1, 2, 3, 0] rfl)
    exact lp_I20 n0 0 M_2 _ _ _ hI (rk rfl) hS (lv_sub hl [2, 3, 1, 0] rfl)
  · have hw := hw.2 c1
    exact x_vret hC hS hlocks hr hw dd_P_bringUp_7
def wp_P_leastOf (a1 : Int) (M : Mm) (post : Int → Prop) : Prop :=
  (0 ≤ a1 ∧ a1 < 16385) ∧ ∀ z2 : Int, z2 = M 10 (a1).toNat → (0 ≤ z2 ∧ z2 < 16384) ∧ ∀ z4 : Int, z4 = M 9 (z2).toNat → post z4
set_option maxHeartbeats 4000000 in
set_option maxRecDepth 100000 in
theorem mt_P_leastOf (l : Launch) (X : Xw) (hlc : lcl X)(hP0 : IsP X) (a1 : Int) (ra1 : inR a1) (M : Mm) (hm_M : mr M) (post : Int → Prop) (sz : Nat) (hw : wp_P_leastOf a1 M post) : Met l yy_P_leastOf (Cond.code yy_P_leastOf bc_P_leastOf 2 (some .int) :: tg) ({ frames := 0, cells := 0, slots := 0, locals := 0 } : Room) (Pw X [.ref (xA X 7), .int (iI a1)] M sz) (Qi X sz (fun r M1 => M1 = M ∧ post r)) 0 0 (xF X sz) := by
  unfold wp_P_leastOf at hw
  refine x_enter (by decide) hlc hm_M (Nat.le_of_ble_eq_true rfl) ?_
  intro p e s m below meth c ls hC hsz hr hlocks hS hl
  have hx := hC.1.1
  have hb := hC.1.2.1
  have hl : lv_has ls 2 [(0, .ref (xA X 7)), (1, .int (iI a1))] := hl
  refine lv_aload_n hx hb dd_P_leastOf_0 rfl (lv_at hl 0 rfl) ?_
  refine x_get hC hS hP0.1 rfl iw_P 1 (by decide) tb_146 rfl rfl dd_P_leastOf_1 ?_
  refine lv_aload_n hx hb dd_P_leastOf_4 rfl (lv_at hl 0 rfl) ?_
  refine x_get hC hS hP0.1 rfl iw_P 2 (by decide) tb_147 rfl rfl dd_P_leastOf_5 ?_
  refine lv_iload_n hx hb dd_P_leastOf_8 rfl (lv_at hl 1 rfl) ?_
  obtain ⟨q1, hw⟩ := hw
  refine x_iald hC hS hP0.2.2.2.1 q1 dd_P_leastOf_9 ?_
  refine x_nm (hm_M 10 _) (fun z2 rz2 ez2 => ?_)
  have hw := hw z2 ez2
  obtain ⟨q3, hw⟩ := hw
  refine x_iald hC hS hP0.2.2.1 q3 dd_P_leastOf_10 ?_
  refine x_nm (hm_M 9 _) (fun z4 rz4 ez4 => ?_)
  have hw := hw z4 ez4
  exact x_iret hC hS hlocks hr rz4 ⟨rfl, hw⟩ dd_P_leastOf_11
def wp_P_sizeOf (a1 : Int) (M : Mm) (post : Int → Prop) : Prop :=
  inR (a1 + 1) ∧ (0 ≤ (a1 + 1) ∧ (a1 + 1) < 16385) ∧ ∀ z3 : Int, z3 = M 10 ((a1 + 1)).toNat → (0 ≤ a1 ∧ a1 < 16385) ∧ ∀ z5 : Int, z5 = M 10 (a1).toNat → inR (z3 - z5) ∧ post (z3 - z5)
set_option maxHeartbeats 4000000 in
set_option maxRecDepth 100000 in
theorem mt_P_sizeOf (l : Launch) (X : Xw) (hlc : lcl X)(hP0 : IsP X) (a1 : Int) (ra1 : inR a1) (M : Mm) (hm_M : mr M) (post : Int → Prop) (sz : Nat) (hw : wp_P_sizeOf a1 M post) : Met l yy_P_sizeOf (Cond.code yy_P_sizeOf bc_P_sizeOf 2 (some .int) :: tg) ({ frames := 0, cells := 0, slots := 0, locals := 0 } : Room) (Pw X [.ref (xA X 7), .int (iI a1)] M sz) (Qi X sz (fun r M1 => M1 = M ∧ post r)) 0 0 (xF X sz) := by
  unfold wp_P_sizeOf at hw
  refine x_enter (by decide) hlc hm_M (Nat.le_of_ble_eq_true rfl) ?_
  intro p e s m below meth c ls hC hsz hr hlocks hS hl
  have hx := hC.1.1
  have hb := hC.1.2.1
  have hl : lv_has ls 2 [(0, .ref (xA X 7)), (1, .int (iI a1))] := hl
  refine lv_aload_n hx hb dd_P_sizeOf_0 rfl (lv_at hl 0 rfl) ?_
  refine x_get hC hS hP0.1 rfl iw_P 2 (by decide) tb_147 rfl rfl dd_P_sizeOf_1 ?_
  refine lv_iload_n hx hb dd_P_sizeOf_4 rfl (lv_at hl 1 rfl) ?_
  refine x_iconst hC dd_P_sizeOf_5 ?_
  obtain ⟨q1, hw⟩ := hw
  refine x_add hC dd_P_sizeOf_6 ?_
  obtain ⟨q2, hw⟩ := hw
  refine x_iald hC hS hP0.2.2.2.1 q2 dd_P_sizeOf_7 ?_
  refine x_nm (hm_M 10 _) (fun z3 rz3 ez3 => ?_)
  have hw := hw z3 ez3
  refine lv_aload_n hx hb dd_P_sizeOf_8 rfl (lv_at hl 0 rfl) ?_
  refine x_get hC hS hP0.1 rfl iw_P 2 (by decide) tb_147 rfl rfl dd_P_sizeOf_9 ?_
  refine lv_iload_n hx hb dd_P_sizeOf_12 rfl (lv_at hl 1 rfl) ?_
  obtain ⟨q4, hw⟩ := hw
  refine x_iald hC hS hP0.2.2.2.1 q4 dd_P_sizeOf_13 ?_
  refine x_nm (hm_M 10 _) (fun z5 rz5 ez5 => ?_)
  have hw := hw z5 ez5
  obtain ⟨q6, hw⟩ := hw
  refine x_sub hC dd_P_sizeOf_14 ?_
  exact x_iret hC hS hlocks hr q6 ⟨rfl, hw⟩ dd_P_sizeOf_15
def wp_P_twinOf (u2 : Nat) (a1 : Int) (M : Mm) (post : Int → Prop) : Prop :=
  wp_P_leastOf a1 M (fun (r7 : Int) => wp_S_mirrored u2 r7 M (fun (r10 : Int) => (0 ≤ r10 ∧ r10 < 16384) ∧ ∀ z2 : Int, z2 = M 8 (r10).toNat → post z2))
set_option maxHeartbeats 4000000 in
set_option maxRecDepth 100000 in
theorem mt_P_twinOf (l : Launch) (X : Xw) (hlc : lcl X) (u2 : Nat) (hP0 : IsP X) (hu2 : IsS X u2) (a1 : Int) (ra1 : inR a1) (M : Mm) (hm_M : mr M) (post : Int → Prop) (sz : Nat) (hw : wp_P_twinOf u2 a1 M post) : Met l yy_P_twinOf (Cond.code yy_P_twinOf bc_P_twinOf 3 (some .int) :: tg) ({ frames := 1, cells := 0, slots := 0, locals := 24 } : Room) (Pw X [.ref (xA X 7), .int (iI a1), .ref (xA X u2)] M sz) (Qi X sz (fun r M1 => M1 = M ∧ post r)) 0 0 (xF X sz) := by
  unfold wp_P_twinOf at hw
  refine x_enter (by decide) hlc hm_M (Nat.le_of_ble_eq_true rfl) ?_
  intro p e s m below meth c ls hC hsz hr hlocks hS hl
  have hx := hC.1.1
  have hb := hC.1.2.1
  have hl : lv_has ls 3 [(0, .ref (xA X 7)), (1, .int (iI a1)), (2, .ref (xA X u2))] := hl
  refine lv_aload_n hx hb dd_P_twinOf_0 rfl (lv_at hl 0 rfl) ?_
  refine x_get hC hS hP0.1 rfl iw_P 0 (by decide) tb_144 rfl rfl dd_P_twinOf_1 ?_
  refine lv_aload_n hx hb dd_P_twinOf_4 rfl (lv_at hl 2 rfl) ?_
  refine lv_aload_n hx hb dd_P_twinOf_5 rfl (lv_at hl 0 rfl) ?_
  refine lv_iload_n hx hb dd_P_twinOf_6 rfl (lv_at hl 1 rfl) ?_
  refine x_callVi hC hS (As := [.int (iI a1)]) (rest := [.ref (xA X u2), .ref (xA X 8)]) hP0.1 rfl cv_P_leastOf (mt_P_leastOf l X hC.2.2.1 hP0 a1 ra1 M hm_M _ _ hw) tb_355 rfl rfl ⟨Nat.le_of_ble_eq_true rfl, Nat.le_of_ble_eq_true rfl⟩ rfl hl.1 (Nat.le_of_ble_eq_true rfl) dd_P_twinOf_7 ⟨Nat.le_refl _, Nat.le_refl _⟩ rfl (fun r7 Mx H locs rr7 hp hS => ?_)
  obtain ⟨hq, hw⟩ := hp
  rw [hq] at hS
  refine x_callVi hC hS (As := [.int (iI r7)]) (rest := [.ref (xA X 8)]) hu2.1 rfl cv_S_mirrored (mt_S_mirrored l X hC.2.2.1 u2 hu2 r7 rr7 M hm_M _ _ hw) tb_377 rfl rfl ⟨Nat.le_of_ble_eq_true rfl, Nat.le_of_ble_eq_true rfl⟩ rfl hl.1 (Nat.le_of_ble_eq_true rfl) dd_P_twinOf_10 ⟨Nat.le_refl _, Nat.le_refl _⟩ rfl (fun r10 Mx H locs rr10 hp hS => ?_)
  obtain ⟨hq, hw⟩ := hp
  rw [hq] at hS
  obtain ⟨q1, hw⟩ := hw
  refine x_iald hC hS hP0.2.1 q1 dd_P_twinOf_13 ?_
  refine x_nm (hm_M 8 _) (fun z2 rz2 ez2 => ?_)
  have hw := hw z2 ez2
  exact x_iret hC hS hlocks hr rz2 ⟨rfl, hw⟩ dd_P_twinOf_14
def wp_P_keepersOf (g2 : Nat) (a1 : Int) (M : Mm) (post : Int → Prop) : Prop :=
  (0 ≤ a1 ∧ a1 < 16384) ∧ ∀ z2 : Int, z2 = M 8 (a1).toNat → wp_P_sizeOf z2 M (fun (r7 : Int) => (1 ≤ r7 → (0 ≤ (M g2 1) ∧ 0 < r7) ∧ post ((M g2 1) / r7)) ∧
  (¬ 1 ≤ r7 → post 0))
set_option maxHeartbeats 4000000 in
set_option maxRecDepth 100000 in
theorem mt_P_keepersOf (l : Launch) (X : Xw) (hlc : lcl X) (g2 : Nat) (hP0 : IsP X) (hg2 : IsG X g2) (a1 : Int) (ra1 : inR a1) (M : Mm) (hm_M : mr M) (post : Int → Prop) (sz : Nat) (hw : wp_P_keepersOf g2 a1 M post) : Met l yy_P_keepersOf (Cond.code yy_P_keepersOf bc_P_keepersOf 4 (some .int) :: tg) ({ frames := 1, cells := 0, slots := 0, locals := 21 } : Room) (Pw X [.ref (xA X 7), .int (iI a1), .ref (xA X g2)] M sz) (Qi X sz (fun r M1 => M1 = M ∧ post r)) 0 0 (xF X sz) := by
  unfold wp_P_keepersOf at hw
  refine x_enter (by decide) hlc hm_M (Nat.le_of_ble_eq_true rfl) ?_
  intro p e s m below meth c ls hC hsz hr hlocks hS hl
  have hx := hC.1.1
  have hb := hC.1.2.1
  have hl : lv_has ls 4 [(0, .ref (xA X 7)), (1, .int (iI a1)), (2, .ref (xA X g2))] := hl
  refine lv_aload_n hx hb dd_P_keepersOf_0 rfl (lv_at hl 0 rfl) ?_
  refine lv_aload_n hx hb dd_P_keepersOf_1 rfl (lv_at hl 0 rfl) ?_
  refine x_get hC hS hP0.1 rfl iw_P 0 (by decide) tb_144 rfl rfl dd_P_keepersOf_2 ?_
  refine lv_iload_n hx hb dd_P_keepersOf_5 rfl (lv_at hl 1 rfl) ?_
  obtain ⟨q1, hw⟩ := hw
  refine x_iald hC hS hP0.2.1 q1 dd_P_keepersOf_6 ?_
  refine x_nm (hm_M 8 _) (fun z2 rz2 ez2 => ?_)
  have hw := hw z2 ez2
  refine x_callVi hC hS (As := [.int (iI z2)]) (rest := []) hP0.1 rfl cv_P_sizeOf (mt_P_sizeOf l X hC.2.2.1 hP0 z2 rz2 M hm_M _ _ hw) tb_400 rfl rfl ⟨Nat.le_of_ble_eq_true rfl, Nat.le_of_ble_eq_true rfl⟩ rfl hl.1 (Nat.le_of_ble_eq_true rfl) dd_P_keepersOf_7 ⟨Nat.le_refl _, Nat.le_refl _⟩ rfl (fun r7 Mx H locs rr7 hp hS => ?_)
  obtain ⟨hq, hw⟩ := hp
  rw [hq] at hS
  refine lv_istore_n (lv' := [(3, .int (iI r7)), (0, .ref (xA X 7)), (1, .int (iI a1)), (2, .ref (xA X g2))]) hx hb dd_P_keepersOf_10 rfl hl (by decide) rfl (fun ls hl => ?_)
  refine lv_iload_n hx hb dd_P_keepersOf_11 rfl (lv_at hl 0 rfl) ?_
  refine x_iconst hC dd_P_keepersOf_12 ?_
  refine x_icmp_ge hC rr7 (rk rfl) (tgt := 20) dd_P_keepersOf_13 (by decide) (fun c3 => ?_) (fun c3 => ?_)
  · have hw := hw.1 c3
    refine lv_aload_n hx hb dd_P_keepersOf_20 rfl (lv_at hl 3 rfl) ?_
    refine x_get hC hS hg2.1 rfl iw_G 1 (by decide) tb_59 rfl rfl dd_P_keepersOf_21 ?_
    refine lv_iload_n hx hb dd_P_keepersOf_24 rfl (lv_at hl 0 rfl) ?_
    obtain ⟨q4, hw⟩ := hw
    refine x_div hC (hm_M g2 1) rr7 q4 dd_P_keepersOf_25 ?_
    exact x_iret hC hS hlocks hr (rDiv (hm_M g2 1) q4.1 q4.2) ⟨rfl, hw⟩ dd_P_keepersOf_26
  · have hw := hw.2 c3
    refine x_iconst hC dd_P_keepersOf_16 ?_
    refine lv_goto (tgt := 26) hx hb dd_P_keepersOf_17 (by decide) ?_
    exact x_iret hC hS hlocks hr (rk rfl) ⟨rfl, hw⟩ dd_P_keepersOf_26
def wp_P_firstToLeast (g2 : Nat) (a1 : Int) (M : Mm) (post : Int → Prop) : Prop :=
  (0 ≤ a1 ∧ a1 < 16384) ∧ ∀ z2 : Int, z2 = M 8 (a1).toNat → wp_P_leastOf z2 M (fun (r7 : Int) => ∃ I18 : Nat → Int → Int → Prop, (∃ n, I18 n (-6) 0) ∧ ∀ (n18 : Nat) (x4_18 : Int) (x5_18 : Int), I18 n18 x4_18 x5_18 →
    (((M g2 1) ≤ x5_18 → post x4_18) ∧
      (¬ (M g2 1) ≤ x5_18 → (0 ≤ x5_18 ∧ x5_18 < 5040) ∧ ∀ z5 : Int, z5 = M (g2 + 1) (x5_18).toNat → ∀ K65 : Int → Prop, (∀ (y4_65 : Int), (inR (x5_18 + 1) ∧ ∀ v5_65 : Int, v5_65 = x5_18 + 1 → ∃ k_6, k_6 < n18 ∧ I18 k_6 y4_65 v5_65) →
          K65 y4_65) →
        (∀ K50 : Prop, ((wp_P_turned a1 z5 M (fun (r54 : Int) => (¬ r54 = r7 → K65 x4_18) ∧
            (r54 = r7 → K65 z5))) →
          K50) →
        ((x4_18 = (-6) → K50) ∧
        (¬ x4_18 = (-6) → (x4_18 ≤ z5 → K65 x4_18) ∧
          (¬ x4_18 ≤ z5 → K50)))))))
set_option maxHeartbeats 4000000 in
set_option maxRecDepth 100000 in
theorem mt_P_firstToLeast (l : Launch) (X : Xw) (hlc : lcl X) (g2 : Nat) (hP0 : IsP X) (hg2 : IsG X g2) (a1 : Int) (ra1 : inR a1) (M : Mm) (hm_M : mr M) (post : Int → Prop) (sz : Nat) (hw : wp_P_firstToLeast g2 a1 M post) : Met l yy_P_firstToLeast (Cond.code yy_P_firstToLeast bc_P_firstToLeast 7 (some .int) :: tg) ({ frames := 2, cells := 0, slots := 0, locals := 46 } : Room) (Pw X [.ref (xA X 7), .int (iI a1), .ref (xA X g2)] M sz) (Qi X sz (fun r M1 => M1 = M ∧ post r)) 0 0 (xF X sz) := by
  unfold wp_P_firstToLeast at hw
  refine x_enter (by decide) hlc hm_M (Nat.le_of_ble_eq_true rfl) ?_
  intro p e s m below meth c ls hC hsz hr hlocks hS hl
  have hx := hC.1.1
  have hb := hC.1.2.1
  have hl : lv_has ls 7 [(0, .ref (xA X 7)), (1, .int (iI a1)), (2, .ref (xA X g2))] := hl
  refine lv_aload_n hx hb dd_P_firstToLeast_0 rfl (lv_at hl 0 rfl) ?_
  refine lv_aload_n hx hb dd_P_firstToLeast_1 rfl (lv_at hl 0 rfl) ?_
  refine x_get hC hS hP0.1 rfl iw_P 0 (by decide) tb_144 rfl rfl dd_P_firstToLeast_2 ?_
  refine lv_iload_n hx hb dd_P_firstToLeast_5 rfl (lv_at hl 1 rfl) ?_
  obtain ⟨q1, hw⟩ := hw
  refine x_iald hC hS hP0.2.1 q1 dd_P_firstToLeast_6 ?_
  refine x_nm (hm_M 8 _) (fun z2 rz2 ez2 => ?_)
  have hw := hw z2 ez2
  refine x_callVi hC hS (As := [.int (iI z2)]) (rest := []) hP0.1 rfl cv_P_leastOf (mt_P_leastOf l X hC.2.2.1 hP0 z2 rz2 M hm_M _ _ hw) tb_355 rfl rfl ⟨Nat.le_of_ble_eq_true rfl, Nat.le_of_ble_eq_true rfl⟩ rfl hl.1 (Nat.le_of_ble_eq_true rfl) dd_P_firstToLeast_7 ⟨Nat.le_refl _, Nat.le_refl _⟩ rfl (fun r7 Mx H locs rr7 hp hS => ?_)
  obtain ⟨hq, hw⟩ := hp
  rw [hq] at hS
  refine lv_istore_n (lv' := [(3, .int (iI r7)), (0, .ref (xA X 7)), (1, .int (iI a1)), (2, .ref (xA X g2))]) hx hb dd_P_firstToLeast_10 rfl hl (by decide) rfl (fun ls hl => ?_)
  refine x_bipush hC dd_P_firstToLeast_11 (by decide) ?_
  refine lv_istore (lv' := [(4, .int (iI (-6))), (3, .int (iI r7)), (0, .ref (xA X 7)), (1, .int (iI a1)), (2, .ref (xA X g2))]) hx hb dd_P_firstToLeast_13 hl (by decide) rfl (fun ls hl => ?_)
  refine x_iconst hC dd_P_firstToLeast_15 ?_
  refine lv_istore (lv' := [(5, .int (iI 0)), (4, .int (iI (-6))), (3, .int (iI r7)), (0, .ref (xA X 7)), (1, .int (iI a1)), (2, .ref (xA X g2))]) hx hb dd_P_firstToLeast_16 hl (by decide) rfl (fun ls hl => ?_)
  obtain ⟨I18, ⟨n0, hI⟩, hstep_I18⟩ := hw
  have lp_I18 : ∀ (n18 : Nat) (x4_18 : Int) (x5_18 : Int) (H : Heap) (locs : List Loc) (ls : Array Slot), I18 n18 x4_18 x5_18 → inR x4_18 → inR x5_18 → St X (xF X sz) s M H locs → lv_has ls 7 [(0, .ref (xA X 7)), (1, .int (iI a1)), (2, .ref (xA X g2)), (3, .int (iI r7)), (4, .int (iI x4_18)), (5, .int (iI x5_18))] → W p l e ({ frames := 2, cells := 0, slots := 0, locals := 46 } : Room) s m ([.ref (xA X 7), .int (iI a1), .ref (xA X g2)] : List Value).toArray below meth c H locs 0 0 (MQ below (Qi X sz (fun r M1 => M1 = M ∧ post r)) ([.ref (xA X 7), .int (iI a1), .ref (xA X g2)] : List Value).toArray s 0 0 (xF X sz)) (F0 m 18 ls []) := by
    intro n18
    induction n18 using Nat.strongRecOn with
    | _ n18 ih_I18 =>
      intro x4_18 x5_18 H locs ls hI rx4_18 rx5_18 hS hl
      have hw := hstep_I18 n18 x4_18 x5_18 hI
      refine lv_iload hx hb dd_P_firstToLeast_18 (lv_at hl 5 rfl) ?_
      refine lv_aload_n hx hb dd_P_firstToLeast_20 rfl (lv_at hl 2 rfl) ?_
      refine x_get hC hS hg2.1 rfl iw_G 1 (by decide) tb_59 rfl rfl dd_P_firstToLeast_21 ?_
      refine x_icmp_ge hC rx5_18 (hm_M g2 1) (tgt := 71) dd_P_firstToLeast_24 (by decide) (fun c3 => ?_) (fun c3 => ?_)
      · have hw := hw.1 c3
        refine lv_iload hx hb dd_P_firstToLeast_71 (lv_at hl 4 rfl) ?_
        exact x_iret hC hS hlocks hr rx4_18 ⟨rfl, hw⟩ dd_P_firstToLeast_73
      · have hw := hw.2 c3
        refine lv_aload_n hx hb dd_P_firstToLeast_27 rfl (lv_at hl 2 rfl) ?_
        refine x_get hC hS hg2.1 rfl iw_G 0 (by decide) tb_55 rfl rfl dd_P_firstToLeast_28 ?_
        refine lv_iload hx hb dd_P_firstToLeast_31 (lv_at hl 5 rfl) ?_
        obtain ⟨q4, hw⟩ := hw
        refine x_iald hC hS hg2.2.1 q4 dd_P_firstToLeast_33 ?_
        refine x_nm (hm_M (g2 + 1) _) (fun z5 rz5 ez5 => ?_)
        have hw := hw z5 ez5
        refine lv_istore (lv' := [(6, .int (iI z5)), (0, .ref (xA X 7)), (1, .int (iI a1)), (2, .ref (xA X g2)), (3, .int (iI r7)), (4, .int (iI x4_18)), (5, .int (iI x5_18))]) hx hb dd_P_firstToLeast_34 hl (by decide) rfl (fun ls hl => ?_)
        refine lv_iload hx hb dd_P_firstToLeast_36 (lv_at hl 5 rfl) ?_
        refine x_bipush hC dd_P_firstToLeast_38 (by decide) ?_
        have hw := hw (fun (y4_65 : Int) => ∀ (H : Heap) (locs : List Loc) (ls : Array Slot), inR y4_65 → St X (xF X sz) s M H locs → lv_has ls 7 [(0, .ref (xA X 7)), (1, .int (iI a1)), (2, .ref (xA X g2)), (3, .int (iI r7)), (4, .int (iI y4_65)), (5, .int (iI x5_18))] → W p l e ({ frames := 2, cells := 0, slots := 0, locals := 46 } : Room) s m ([.ref (xA X 7), .int (iI a1), .ref (xA X g2)] : List Value).toArray below meth c H locs 0 0 (MQ below (Qi X sz (fun r M1 => M1 = M ∧ post r)) ([.ref (xA X 7), .int (iI a1), .ref (xA X g2)] : List Value).toArray s 0 0 (xF X sz)) (F0 m 65 ls [])) (by
            intro y4_65 hw H locs ls ry4_65 hS hl
            obtain ⟨hr_, hw⟩ := hw
            obtain ⟨v5_65, rv5_65, ev5_65⟩ : ∃ z : Int, inR z ∧ z = x5_18 + 1 := ⟨_, hr_, rfl⟩
            have hw := hw v5_65 ev5_65
            refine lv_iinc (v := iI v5_65) (lv' := [(5, .int (iI v5_65)), (0, .ref (xA X 7)), (1, .int (iI a1)), (2, .ref (xA X g2)), (3, .int (iI r7)), (4, .int (iI y4_65))]) hx hb dd_P_firstToLeast_65 hl (k := 5) rfl (by rw [ev5_65]; exact iI_add _ _) (by decide) rfl (fun ls hl => ?_)
            refine lv_goto (tgt := 18) hx hb dd_P_firstToLeast_68 (by decide) ?_
            obtain ⟨k_6, h7, hI⟩ := hw
            exact ih_I18 k_6 h7 y4_65 v5_65 _ _ _ hI ry4_65 rv5_65 hS (lv_sub hl [1, 2, 3, 4, 5, 0] rfl))
        have hw := hw (∀ (H : Heap) (locs : List Loc) (ls : Array Slot), St X (xF X sz) s M H locs → lv_has ls 7 [(0, .ref (xA X 7)), (1, .int (iI a1)), (2, .ref (xA X g2)), (3, .int (iI r7)), (4, .int (iI x4_18)), (5, .int (iI x5_18)), (6, .int (iI z5))] → W p l e ({ frames := 2, cells := 0, slots := 0, locals := 46 } : Room) s m ([.ref (xA X 7), .int (iI a1), .ref (xA X g2)] : List Value).toArray below meth c H locs 0 0 (MQ below (Qi X sz (fun r M1 => M1 = M ∧ post r)) ([.ref (xA X 7), .int (iI a1), .ref (xA X g2)] : List Value).toArray s 0 0 (xF X sz)) (F0 m 50 ls [])) (by
            intro  hw H locs ls  hS hl
            refine lv_aload_n hx hb dd_P_firstToLeast_50 rfl (lv_at hl 0 rfl) ?_
            refine lv_iload_n hx hb dd_P_firstToLeast_51 rfl (lv_at hl 1 rfl) ?_
            refine lv_iload hx hb dd_P_firstToLeast_52 (lv_at hl 6 rfl) ?_
            refine x_callVi hC hS (As := [.int (iI a1), .int (iI z5)]) (rest := []) hP0.1 rfl cv_P_turned (mt_P_turned l X hC.2.2.1 hP0 a1 ra1 z5 rz5 M hm_M _ _ hw) tb_346 rfl rfl ⟨Nat.le_of_ble_eq_true rfl, Nat.le_of_ble_eq_true rfl⟩ rfl hl.1 (Nat.le_of_ble_eq_true rfl) dd_P_firstToLeast_54 ⟨Nat.le_refl _, Nat.le_refl _⟩ rfl (fun r54 Mx H locs rr54 hp hS => ?_)
            obtain ⟨hq, hw⟩ := hp
            rw [hq] at hS
            refine lv_iload_n hx hb dd_P_firstToLeast_57 rfl (lv_at hl 3 rfl) ?_
            refine x_icmp_ne hC rr54 rr7 (tgt := 65) dd_P_firstToLeast_58 (by decide) (fun c8 => ?_) (fun c8 => ?_)
            · have hw := hw.1 c8
              exact hw _ _ _ rx4_18 hS (lv_sub hl [0, 1, 2, 3, 4, 5] rfl)
            · have hw := hw.2 c8
              refine lv_iload hx hb dd_P_firstToLeast_61 (lv_at hl 6 rfl) ?_
              refine lv_istore (lv' := [(4, .int (iI z5)), (0, .ref (xA X 7)), (1, .int (iI a1)), (2, .ref (xA X g2)), (3, .int (iI r7)), (5, .int (iI x5_18)), (6, .int (iI z5))]) hx hb dd_P_firstToLeast_63 hl (by decide) rfl (fun ls hl => ?_)
              exact hw _ _ _ rz5 hS (lv_sub hl [1, 2, 3, 4, 0, 5] rfl))
        refine x_icmp_eq hC rx4_18 (rk rfl) (tgt := 50) dd_P_firstToLeast_40 (by decide) (fun c9 => ?_) (fun c9 => ?_)
        · have hw := hw.1 c9
          exact hw _ _ _  hS (lv_sub hl [1, 2, 3, 4, 5, 6, 0] rfl)
        · have hw := hw.2 c9
          refine lv_iload hx hb dd_P_firstToLeast_43 (lv_at hl 0 rfl) ?_
          refine lv_iload hx hb dd_P_firstToLeast_45 (lv_at hl 5 rfl) ?_
          refine x_icmp_ge hC rz5 rx4_18 (tgt := 65) dd_P_firstToLeast_47 (by decide) (fun c10 => ?_) (fun c10 => ?_)
          · have hw := hw.1 c10
            exact hw _ _ _ rx4_18 hS (lv_sub hl [1, 2, 3, 4, 5, 6] rfl)
          · have hw := hw.2 c10
            exact hw _ _ _  hS (lv_sub hl [1, 2, 3, 4, 5, 6, 0] rfl)
  exact lp_I18 n0 (-6) 0 _ _ _ hI (rk rfl) (rk rfl) hS (lv_sub hl [3, 4, 5, 2, 1, 0] rfl)
def wp_P_amountOfWeight (u2 : Nat) (a1 : Int) (M : Mm) (post : Int → Prop) : Prop :=
  ∃ I5 : Nat → Int → Int → Prop, (∃ n, I5 n 0 0) ∧ ∀ (n5 : Nat) (x3_5 : Int) (x4_5 : Int), I5 n5 x3_5 x4_5 →
    (((M 7 7) ≤ x4_5 → post x3_5) ∧
      (¬ (M 7 7) ≤ x4_5 → wp_P_leastOf x4_5 M (fun (r18 : Int) => wp_S_weightOf u2 r18 M (fun (r21 : Int) => ∀ K31 : Int → Prop, (∀ (y3_31 : Int), (inR (x4_5 + 1) ∧ ∀ v4_31 : Int, v4_31 = x4_5 + 1 → ∃ k_2, k_2 < n5 ∧ I5 k_2 y3_31 v4_31) →
          K31 y3_31) →
        ((¬ r21 = a1 → K31 x3_5) ∧
        (r21 = a1 → inR (x3_5 + 1) ∧ ∀ v3_28 : Int, v3_28 = x3_5 + 1 → K31 v3_28))))))
set_option maxHeartbeats 4000000 in
set_option maxRecDepth 100000 in
theorem mt_P_amountOfWeight (l : Launch) (X : Xw) (hlc : lcl X) (u2 : Nat) (hP0 : IsP X) (hu2 : IsS X u2) (a1 : Int) (ra1 : inR a1) (M : Mm) (hm_M : mr M) (post : Int → Prop) (sz : Nat) (hw : wp_P_amountOfWeight u2 a1 M post) : Met l yy_P_amountOfWeight (Cond.code yy_P_amountOfWeight bc_P_amountOfWeight 5 (some .int) :: tg) ({ frames := 1, cells := 0, slots := 0, locals := 24 } : Room) (Pw X [.ref (xA X 7), .int (iI a1), .ref (xA X u2)] M sz) (Qi X sz (fun r M1 => M1 = M ∧ post r)) 0 0 (xF X sz) := by
  unfold wp_P_amountOfWeight at hw
  refine x_enter (by decide) hlc hm_M (Nat.le_of_ble_eq_true rfl) ?_
  intro p e s m below meth c ls hC hsz hr hlocks hS hl
  have hx := hC.1.1
  have hb := hC.1.2.1
  have hl : lv_has ls 5 [(0, .ref (xA X 7)), (1, .int (iI a1)), (2, .ref (xA X u2))] := hl
  refine x_iconst hC dd_P_amountOfWeight_0 ?_
  refine lv_istore_n (lv' := [(3, .int (iI 0)), (0, .ref (xA X 7)), (1, .int (iI a1)), (2, .ref (xA X u2))]) hx hb dd_P_amountOfWeight_1 rfl hl (by decide) rfl (fun ls hl => ?_)
  refine x_iconst hC dd_P_amountOfWeight_2 ?_
  refine lv_istore (lv' := [(4, .int (iI 0)), (3, .int (iI 0)), (0, .ref (xA X 7)), (1, .int (iI a1)), (2, .ref (xA X u2))]) hx hb dd_P_amountOfWeight_3 hl (by decide) rfl (fun ls hl => ?_)
  obtain ⟨I5, ⟨n0, hI⟩, hstep_I5⟩ := hw
  have lp_I5 : ∀ (n5 : Nat) (x3_5 : Int) (x4_5 : Int) (H : Heap) (locs : List Loc) (ls : Array Slot), I5 n5 x3_5 x4_5 → inR x3_5 → inR x4_5 → St X (xF X sz) s M H locs → lv_has ls 5 [(0, .ref (xA X 7)), (1, .int (iI a1)), (2, .ref (xA X u2)), (3, .int (iI x3_5)), (4, .int (iI x4_5))] → W p l e ({ frames := 1, cells := 0, slots := 0, locals := 24 } : Room) s m ([.ref (xA X 7), .int (iI a1), .ref (xA X u2)] : List Value).toArray below meth c H locs 0 0 (MQ below (Qi X sz (fun r M1 => M1 = M ∧ post r)) ([.ref (xA X 7), .int (iI a1), .ref (xA X u2)] : List Value).toArray s 0 0 (xF X sz)) (F0 m 5 ls []) := by
    intro n5
    induction n5 using Nat.strongRecOn with
    | _ n5 ih_I5 =>
      intro x3_5 x4_5 H locs ls hI rx3_5 rx4_5 hS hl
      have hw := hstep_I5 n5 x3_5 x4_5 hI
      refine lv_iload hx hb dd_P_amountOfWeight_5 (lv_at hl 4 rfl) ?_
      refine lv_aload_n hx hb dd_P_amountOfWeight_7 rfl (lv_at hl 0 rfl) ?_
      refine x_get hC hS hP0.1 rfl iw_P 7 (by decide) tb_152 rfl rfl dd_P_amountOfWeight_8 ?_
      refine x_icmp_ge hC rx4_5 (hm_M 7 7) (tgt := 37) dd_P_amountOfWeight_11 (by decide) (fun c1 => ?_) (fun c1 => ?_)
      · have hw := hw.1 c1
        refine lv_iload_n hx hb dd_P_amountOfWeight_37 rfl (lv_at hl 3 rfl) ?_
        exact x_iret hC hS hlocks hr rx3_5 ⟨rfl, hw⟩ dd_P_amountOfWeight_38
      · have hw := hw.2 c1
        refine lv_aload_n hx hb dd_P_amountOfWeight_14 rfl (lv_at hl 2 rfl) ?_
        refine lv_aload_n hx hb dd_P_amountOfWeight_15 rfl (lv_at hl 0 rfl) ?_
        refine lv_iload hx hb dd_P_amountOfWeight_16 (lv_at hl 4 rfl) ?_
        refine x_callVi hC hS (As := [.int (iI x4_5)]) (rest := [.ref (xA X u2)]) hP0.1 rfl cv_P_leastOf (mt_P_leastOf l X hC.2.2.1 hP0 x4_5 rx4_5 M hm_M _ _ hw) tb_355 rfl rfl ⟨Nat.le_of_ble_eq_true rfl, Nat.le_of_ble_eq_true rfl⟩ rfl hl.1 (Nat.le_of_ble_eq_true rfl) dd_P_amountOfWeight_18 ⟨Nat.le_refl _, Nat.le_refl _⟩ rfl (fun r18 Mx H locs rr18 hp hS => ?_)
        obtain ⟨hq, hw⟩ := hp
        rw [hq] at hS
        refine x_callVi hC hS (As := [.int (iI r18)]) (rest := []) hu2.1 rfl cv_S_weightOf (mt_S_weightOf l X hC.2.2.1 u2 hu2 r18 rr18 M hm_M _ _ hw) tb_359 rfl rfl ⟨Nat.le_of_ble_eq_true rfl, Nat.le_of_ble_eq_true rfl⟩ rfl hl.1 (Nat.le_of_ble_eq_true rfl) dd_P_amountOfWeight_21 ⟨Nat.le_refl _, Nat.le_refl _⟩ rfl (fun r21 Mx H locs rr21 hp hS => ?_)
        obtain ⟨hq, hw⟩ := hp
        rw [hq] at hS
        refine lv_iload_n hx hb dd_P_amountOfWeight_24 rfl (lv_at hl 1 rfl) ?_
        have hw := hw (fun (y3_31 : Int) => ∀ (H : Heap) (locs : List Loc) (ls : Array Slot), inR y3_31 → St X (xF X sz) s M H locs → lv_has ls 5 [(0, .ref (xA X 7)), (1, .int (iI a1)), (2, .ref (xA X u2)), (3, .int (iI y3_31)), (4, .int (iI x4_5))] → W p l e ({ frames := 1, cells := 0, slots := 0, locals := 24 } : Room) s m ([.ref (xA X 7), .int (iI a1), .ref (xA X u2)] : List Value).toArray below meth c H locs 0 0 (MQ below (Qi X sz (fun r M1 => M1 = M ∧ post r)) ([.ref (xA X 7), .int (iI a1), .ref (xA X u2)] : List Value).toArray s 0 0 (xF X sz)) (F0 m 31 ls [])) (by
            intro y3_31 hw H locs ls ry3_31 hS hl
            obtain ⟨hr_, hw⟩ := hw
            obtain ⟨v4_31, rv4_31, ev4_31⟩ : ∃ z : Int, inR z ∧ z = x4_5 + 1 := ⟨_, hr_, rfl⟩
            have hw := hw v4_31 ev4_31
            refine lv_iinc (v := iI v4_31) (lv' := [(4, .int (iI v4_31)), (0, .ref (xA X 7)), (1, .int (iI a1)), (2, .ref (xA X u2)), (3, .int (iI y3_31))]) hx hb dd_P_amountOfWeight_31 hl (k := 4) rfl (by rw [ev4_31]; exact iI_add _ _) (by decide) rfl (fun ls hl => ?_)
            refine lv_goto (tgt := 5) hx hb dd_P_amountOfWeight_34 (by decide) ?_
            obtain ⟨k_2, h3, hI⟩ := hw
            exact ih_I5 k_2 h3 y3_31 v4_31 _ _ _ hI ry3_31 rv4_31 hS (lv_sub hl [1, 2, 3, 4, 0] rfl))
        refine x_icmp_ne hC rr21 ra1 (tgt := 31) dd_P_amountOfWeight_25 (by decide) (fun c4 => ?_) (fun c4 => ?_)
        · have hw := hw.1 c4
          exact hw _ _ _ rx3_5 hS (lv_sub hl [0, 1, 2, 3, 4] rfl)
        · have hw := hw.2 c4
          obtain ⟨hr_, hw⟩ := hw
          obtain ⟨v3_28, rv3_28, ev3_28⟩ : ∃ z : Int, inR z ∧ z = x3_5 + 1 := ⟨_, hr_, rfl⟩
          have hw := hw v3_28 ev3_28
          refine lv_iinc (v := iI v3_28) (lv' := [(3, .int (iI v3_28)), (0, .ref (xA X 7)), (1, .int (iI a1)), (2, .ref (xA X u2)), (4, .int (iI x4_5))]) hx hb dd_P_amountOfWeight_28 hl (k := 3) rfl (by rw [ev3_28]; exact iI_add _ _) (by decide) rfl (fun ls hl => ?_)
          exact hw _ _ _ rv3_28 hS (lv_sub hl [1, 2, 3, 0, 4] rfl)
  exact lp_I5 n0 0 0 _ _ _ hI (rk rfl) (rk rfl) hS (lv_sub hl [2, 3, 4, 1, 0] rfl)
def wp_P_amountHanded (u1 : Nat) (M : Mm) (post : Int → Prop) : Prop :=
  ∃ I4 : Nat → Int → Int → Prop, (∃ n, I4 n 0 0) ∧ ∀ (n4 : Nat) (x2_4 : Int) (x3_4 : Int), I4 n4 x2_4 x3_4 →
    (((M 7 7) ≤ x3_4 → post x2_4) ∧
      (¬ (M 7 7) ≤ x3_4 → wp_P_twinOf u1 x3_4 M (fun (r15 : Int) => ∀ K25 : Int → Prop, (∀ (y2_25 : Int), (inR (x3_4 + 1) ∧ ∀ v3_25 : Int, v3_25 = x3_4 + 1 → ∃ k_2, k_2 < n4 ∧ I4 k_2 y2_25 v3_25) →
          K25 y2_25) →
        ((r15 = x3_4 → K25 x2_4) ∧
        (¬ r15 = x3_4 → inR (x2_4 + 1) ∧ ∀ v2_22 : Int, v2_22 = x2_4 + 1 → K25 v2_22)))))
set_option maxHeartbeats 4000000 in
set_option maxRecDepth 100000 in
theorem mt_P_amountHanded (l : Launch) (X : Xw) (hlc : lcl X) (u1 : Nat) (hP0 : IsP X) (hu1 : IsS X u1) (M : Mm) (hm_M : mr M) (post : Int → Prop) (sz : Nat) (hw : wp_P_amountHanded u1 M post) : Met l yy_P_amountHanded (Cond.code yy_P_amountHanded bc_P_amountHanded 4 (some .int) :: tg) ({ frames := 2, cells := 0, slots := 0, locals := 46 } : Room) (Pw X [.ref (xA X 7), .ref (xA X u1)] M sz) (Qi X sz (fun r M1 => M1 = M ∧ post r)) 0 0 (xF X sz) := by
  unfold wp_P_amountHanded at hw
  refine x_enter (by decide) hlc hm_M (Nat.le_of_ble_eq_true rfl) ?_
  intro p e s m below meth c ls hC hsz hr hlocks hS hl
  have hx := hC.1.1
  have hb := hC.1.2.1
  have hl : lv_has ls 4 [(0, .ref (xA X 7)), (1, .ref (xA X u1))] := hl
  refine x_iconst hC dd_P_amountHanded_0 ?_
  refine lv_istore_n (lv' := [(2, .int (iI 0)), (0, .ref (xA X 7)), (1, .ref (xA X u1))]) hx hb dd_P_amountHanded_1 rfl hl (by decide) rfl (fun ls hl => ?_)
  refine x_iconst hC dd_P_amountHanded_2 ?_
  refine lv_istore_n (lv' := [(3, .int (iI 0)), (2, .int (iI 0)), (0, .ref (xA X 7)), (1, .ref (xA X u1))]) hx hb dd_P_amountHanded_3 rfl hl (by decide) rfl (fun ls hl => ?_)
  obtain ⟨I4, ⟨n0, hI⟩, hstep_I4⟩ := hw
  have lp_I4 : ∀ (n4 : Nat) (x2_4 : Int) (x3_4 : Int) (H : Heap) (locs : List Loc) (ls : Array Slot), I4 n4 x2_4 x3_4 → inR x2_4 → inR x3_4 → St X (xF X sz) s M H locs → lv_has ls 4 [(0, .ref (xA X 7)), (1, .ref (xA X u1)), (2, .int (iI x2_4)), (3, .int (iI x3_4))] → W p l e ({ frames := 2, cells := 0, slots := 0, locals := 46 } : Room) s m ([.ref (xA X 7), .ref (xA X u1)] : List Value).toArray below meth c H locs 0 0 (MQ below (Qi X sz (fun r M1 => M1 = M ∧ post r)) ([.ref (xA X 7), .ref (xA X u1)] : List Value).toArray s 0 0 (xF X sz)) (F0 m 4 ls []) := by
    intro n4
    induction n4 using Nat.strongRecOn with
    | _ n4 ih_I4 =>
      intro x2_4 x3_4 H locs ls hI rx2_4 rx3_4 hS hl
      have hw := hstep_I4 n4 x2_4 x3_4 hI
      refine lv_iload_n hx hb dd_P_amountHanded_4 rfl (lv_at hl 3 rfl) ?_
      refine lv_aload_n hx hb dd_P_amountHanded_5 rfl (lv_at hl 0 rfl) ?_
      refine x_get hC hS hP0.1 rfl iw_P 7 (by decide) tb_152 rfl rfl dd_P_amountHanded_6 ?_
      refine x_icmp_ge hC rx3_4 (hm_M 7 7) (tgt := 31) dd_P_amountHanded_9 (by decide) (fun c1 => ?_) (fun c1 => ?_)
      · have hw := hw.1 c1
        refine lv_iload_n hx hb dd_P_amountHanded_31 rfl (lv_at hl 2 rfl) ?_
        exact x_iret hC hS hlocks hr rx2_4 ⟨rfl, hw⟩ dd_P_amountHanded_32
      · have hw := hw.2 c1
        refine lv_aload_n hx hb dd_P_amountHanded_12 rfl (lv_at hl 0 rfl) ?_
        refine lv_iload_n hx hb dd_P_amountHanded_13 rfl (lv_at hl 3 rfl) ?_
        refine lv_aload_n hx hb dd_P_amountHanded_14 rfl (lv_at hl 1 rfl) ?_
        refine x_callVi hC hS (As := [.int (iI x3_4), .ref (xA X u1)]) (rest := []) hP0.1 rfl cv_P_twinOf (mt_P_twinOf l X hC.2.2.1 u1 hP0 hu1 x3_4 rx3_4 M hm_M _ _ hw) tb_409 rfl rfl ⟨Nat.le_of_ble_eq_true rfl, Nat.le_of_ble_eq_true rfl⟩ rfl hl.1 (Nat.le_of_ble_eq_true rfl) dd_P_amountHanded_15 ⟨Nat.le_refl _, Nat.le_refl _⟩ rfl (fun r15 Mx H locs rr15 hp hS => ?_)
        obtain ⟨hq, hw⟩ := hp
        rw [hq] at hS
        refine lv_iload_n hx hb dd_P_amountHanded_18 rfl (lv_at hl 3 rfl) ?_
        have hw := hw (fun (y2_25 : Int) => ∀ (H : Heap) (locs : List Loc) (ls : Array Slot), inR y2_25 → St X (xF X sz) s M H locs → lv_has ls 4 [(0, .ref (xA X 7)), (1, .ref (xA X u1)), (2, .int (iI y2_25)), (3, .int (iI x3_4))] → W p l e ({ frames := 2, cells := 0, slots := 0, locals := 46 } : Room) s m ([.ref (xA X 7), .ref (xA X u1)] : List Value).toArray below meth c H locs 0 0 (MQ below (Qi X sz (fun r M1 => M1 = M ∧ post r)) ([.ref (xA X 7), .ref (xA X u1)] : List Value).toArray s 0 0 (xF X sz)) (F0 m 25 ls [])) (by
            intro y2_25 hw H locs ls ry2_25 hS hl
            obtain ⟨hr_, hw⟩ := hw
            obtain ⟨v3_25, rv3_25, ev3_25⟩ : ∃ z : Int, inR z ∧ z = x3_4 + 1 := ⟨_, hr_, rfl⟩
            have hw := hw v3_25 ev3_25
            refine lv_iinc (v := iI v3_25) (lv' := [(3, .int (iI v3_25)), (0, .ref (xA X 7)), (1, .ref (xA X u1)), (2, .int (iI y2_25))]) hx hb dd_P_amountHanded_25 hl (k := 3) rfl (by rw [ev3_25]; exact iI_add _ _) (by decide) rfl (fun ls hl => ?_)
            refine lv_goto (tgt := 4) hx hb dd_P_amountHanded_28 (by decide) ?_
            obtain ⟨k_2, h3, hI⟩ := hw
            exact ih_I4 k_2 h3 y2_25 v3_25 _ _ _ hI ry2_25 rv3_25 hS (lv_sub hl [1, 2, 3, 0] rfl))
        refine x_icmp_eq hC rr15 rx3_4 (tgt := 25) dd_P_amountHanded_19 (by decide) (fun c4 => ?_) (fun c4 => ?_)
        · have hw := hw.1 c4
          exact hw _ _ _ rx2_4 hS (lv_sub hl [0, 1, 2, 3] rfl)
        · have hw := hw.2 c4
          obtain ⟨hr_, hw⟩ := hw
          obtain ⟨v2_22, rv2_22, ev2_22⟩ : ∃ z : Int, inR z ∧ z = x2_4 + 1 := ⟨_, hr_, rfl⟩
          have hw := hw v2_22 ev2_22
          refine lv_iinc (v := iI v2_22) (lv' := [(2, .int (iI v2_22)), (0, .ref (xA X 7)), (1, .ref (xA X u1)), (3, .int (iI x3_4))]) hx hb dd_P_amountHanded_22 hl (k := 2) rfl (by rw [ev2_22]; exact iI_add _ _) (by decide) rfl (fun ls hl => ?_)
          exact hw _ _ _ rv2_22 hS (lv_sub hl [1, 2, 0, 3] rfl)
  exact lp_I4 n0 0 0 _ _ _ hI (rk rfl) (rk rfl) hS (lv_sub hl [2, 3, 1, 0] rfl)
def wp_P_amountOfAllColours (u1 : Nat) (M : Mm) (post : Int → Prop) : Prop :=
  ∃ I4 : Nat → Int → Int → Prop, (∃ n, I4 n 0 0) ∧ ∀ (n4 : Nat) (x2_4 : Int) (x3_4 : Int), I4 n4 x2_4 x3_4 →
    (((M 7 7) ≤ x3_4 → post x2_4) ∧
      (¬ (M 7 7) ≤ x3_4 → wp_P_leastOf x3_4 M (fun (r15 : Int) => wp_S_coloursOf u1 r15 M (fun (r18 : Int) => ∀ K31 : Int → Prop, (∀ (y2_31 : Int), (inR (x3_4 + 1) ∧ ∀ v3_31 : Int, v3_31 = x3_4 + 1 → ∃ k_2, k_2 < n4 ∧ I4 k_2 y2_31 v3_31) →
          K31 y2_31) →
        ((¬ r18 = (M u1 1) → K31 x2_4) ∧
        (r18 = (M u1 1) → inR (x2_4 + 1) ∧ ∀ v2_28 : Int, v2_28 = x2_4 + 1 → K31 v2_28))))))
set_option maxHeartbeats 4000000 in
set_option maxRecDepth 100000 in
theorem mt_P_amountOfAllColours (l : Launch) (X : Xw) (hlc : lcl X) (u1 : Nat) (hP0 : IsP X) (hu1 : IsS X u1) (M : Mm) (hm_M : mr M) (post : Int → Prop) (sz : Nat) (hw : wp_P_amountOfAllColours u1 M post) : Met l yy_P_amountOfAllColours (Cond.code yy_P_amountOfAllColours bc_P_amountOfAllColours 4 (some .int) :: tg) ({ frames := 2, cells := 0, slots := 0, locals := 44 } : Room) (Pw X [.ref (xA X 7), .ref (xA X u1)] M sz) (Qi X sz (fun r M1 => M1 = M ∧ post r)) 0 0 (xF X sz) := by
  unfold wp_P_amountOfAllColours at hw
  refine x_enter (by decide) hlc hm_M (Nat.le_of_ble_eq_true rfl) ?_
  intro p e s m below meth c ls hC hsz hr hlocks hS hl
  have hx := hC.1.1
  have hb := hC.1.2.1
  have hl : lv_has ls 4 [(0, .ref (xA X 7)), (1, .ref (xA X u1))] := hl
  refine x_iconst hC dd_P_amountOfAllColours_0 ?_
  refine lv_istore_n (lv' := [(2, .int (iI 0)), (0, .ref (xA X 7)), (1, .ref (xA X u1))]) hx hb dd_P_amountOfAllColours_1 rfl hl (by decide) rfl (fun ls hl => ?_)
  refine x_iconst hC dd_P_amountOfAllColours_2 ?_
  refine lv_istore_n (lv' := [(3, .int (iI 0)), (2, .int (iI 0)), (0, .ref (xA X 7)), (1, .ref (xA X u1))]) hx hb dd_P_amountOfAllColours_3 rfl hl (by decide) rfl (fun ls hl => ?_)
  obtain ⟨I4, ⟨n0, hI⟩, hstep_I4⟩ := hw
  have lp_I4 : ∀ (n4 : Nat) (x2_4 : Int) (x3_4 : Int) (H : Heap) (locs : List Loc) (ls : Array Slot), I4 n4 x2_4 x3_4 → inR x2_4 → inR x3_4 → St X (xF X sz) s M H locs → lv_has ls 4 [(0, .ref (xA X 7)), (1, .ref (xA X u1)), (2, .int (iI x2_4)), (3, .int (iI x3_4))] → W p l e ({ frames := 2, cells := 0, slots := 0, locals := 44 } : Room) s m ([.ref (xA X 7), .ref (xA X u1)] : List Value).toArray below meth c H locs 0 0 (MQ below (Qi X sz (fun r M1 => M1 = M ∧ post r)) ([.ref (xA X 7), .ref (xA X u1)] : List Value).toArray s 0 0 (xF X sz)) (F0 m 4 ls []) := by
    intro n4
    induction n4 using Nat.strongRecOn with
    | _ n4 ih_I4 =>
      intro x2_4 x3_4 H locs ls hI rx2_4 rx3_4 hS hl
      have hw := hstep_I4 n4 x2_4 x3_4 hI
      refine lv_iload_n hx hb dd_P_amountOfAllColours_4 rfl (lv_at hl 3 rfl) ?_
      refine lv_aload_n hx hb dd_P_amountOfAllColours_5 rfl (lv_at hl 0 rfl) ?_
      refine x_get hC hS hP0.1 rfl iw_P 7 (by decide) tb_152 rfl rfl dd_P_amountOfAllColours_6 ?_
      refine x_icmp_ge hC rx3_4 (hm_M 7 7) (tgt := 37) dd_P_amountOfAllColours_9 (by decide) (fun c1 => ?_) (fun c1 => ?_)
      · have hw := hw.1 c1
        refine lv_iload_n hx hb dd_P_amountOfAllColours_37 rfl (lv_at hl 2 rfl) ?_
        exact x_iret hC hS hlocks hr rx2_4 ⟨rfl, hw⟩ dd_P_amountOfAllColours_38
      · have hw := hw.2 c1
        refine lv_aload_n hx hb dd_P_amountOfAllColours_12 rfl (lv_at hl 1 rfl) ?_
        refine lv_aload_n hx hb dd_P_amountOfAllColours_13 rfl (lv_at hl 0 rfl) ?_
        refine lv_iload_n hx hb dd_P_amountOfAllColours_14 rfl (lv_at hl 3 rfl) ?_
        refine x_callVi hC hS (As := [.int (iI x3_4)]) (rest := [.ref (xA X u1)]) hP0.1 rfl cv_P_leastOf (mt_P_leastOf l X hC.2.2.1 hP0 x3_4 rx3_4 M hm_M _ _ hw) tb_355 rfl rfl ⟨Nat.le_of_ble_eq_true rfl, Nat.le_of_ble_eq_true rfl⟩ rfl hl.1 (Nat.le_of_ble_eq_true rfl) dd_P_amountOfAllColours_15 ⟨Nat.le_refl _, Nat.le_refl _⟩ rfl (fun r15 Mx H locs rr15 hp hS => ?_)
        obtain ⟨hq, hw⟩ := hp
        rw [hq] at hS
        refine x_callVi hC hS (As := [.int (iI r15)]) (rest := []) hu1.1 rfl cv_S_coloursOf (mt_S_coloursOf l X hC.2.2.1 u1 hu1 r15 rr15 M hm_M _ _ hw) tb_414 rfl rfl ⟨Nat.le_of_ble_eq_true rfl, Nat.le_of_ble_eq_true rfl⟩ rfl hl.1 (Nat.le_of_ble_eq_true rfl) dd_P_amountOfAllColours_18 ⟨Nat.le_refl _, Nat.le_refl _⟩ rfl (fun r18 Mx H locs rr18 hp hS => ?_)
        obtain ⟨hq, hw⟩ := hp
        rw [hq] at hS
        refine lv_aload_n hx hb dd_P_amountOfAllColours_21 rfl (lv_at hl 1 rfl) ?_
        refine x_get hC hS hu1.1 rfl iw_S 1 (by decide) tb_82 rfl rfl dd_P_amountOfAllColours_22 ?_
        have hw := hw (fun (y2_31 : Int) => ∀ (H : Heap) (locs : List Loc) (ls : Array Slot), inR y2_31 → St X (xF X sz) s M H locs → lv_has ls 4 [(0, .ref (xA X 7)), (1, .ref (xA X u1)), (2, .int (iI y2_31)), (3, .int (iI x3_4))] → W p l e ({ frames := 2, cells := 0, slots := 0, locals := 44 } : Room) s m ([.ref (xA X 7), .ref (xA X u1)] : List Value).toArray below meth c H locs 0 0 (MQ below (Qi X sz (fun r M1 => M1 = M ∧ post r)) ([.ref (xA X 7), .ref (xA X u1)] : List Value).toArray s 0 0 (xF X sz)) (F0 m 31 ls [])) (by
            intro y2_31 hw H locs ls ry2_31 hS hl
            obtain ⟨hr_, hw⟩ := hw
            obtain ⟨v3_31, rv3_31, ev3_31⟩ : ∃ z : Int, inR z ∧ z = x3_4 + 1 := ⟨_, hr_, rfl⟩
            have hw := hw v3_31 ev3_31
            refine lv_iinc (v := iI v3_31) (lv' := [(3, .int (iI v3_31)), (0, .ref (xA X 7)), (1, .ref (xA X u1)), (2, .int (iI y2_31))]) hx hb dd_P_amountOfAllColours_31 hl (k := 3) rfl (by rw [ev3_31]; exact iI_add _ _) (by decide) rfl (fun ls hl => ?_)
            refine lv_goto (tgt := 4) hx hb dd_P_amountOfAllColours_34 (by decide) ?_
            obtain ⟨k_2, h3, hI⟩ := hw
            exact ih_I4 k_2 h3 y2_31 v3_31 _ _ _ hI ry2_31 rv3_31 hS (lv_sub hl [1, 2, 3, 0] rfl))
        refine x_icmp_ne hC rr18 (hm_M u1 1) (tgt := 31) dd_P_amountOfAllColours_25 (by decide) (fun c4 => ?_) (fun c4 => ?_)
        · have hw := hw.1 c4
          exact hw _ _ _ rx2_4 hS (lv_sub hl [0, 1, 2, 3] rfl)
        · have hw := hw.2 c4
          obtain ⟨hr_, hw⟩ := hw
          obtain ⟨v2_28, rv2_28, ev2_28⟩ : ∃ z : Int, inR z ∧ z = x2_4 + 1 := ⟨_, hr_, rfl⟩
          have hw := hw v2_28 ev2_28
          refine lv_iinc (v := iI v2_28) (lv' := [(2, .int (iI v2_28)), (0, .ref (xA X 7)), (1, .ref (xA X u1)), (3, .int (iI x3_4))]) hx hb dd_P_amountOfAllColours_28 hl (k := 2) rfl (by rw [ev2_28]; exact iI_add _ _) (by decide) rfl (fun ls hl => ?_)
          exact hw _ _ _ rv2_28 hS (lv_sub hl [1, 2, 0, 3] rfl)
  exact lp_I4 n0 0 0 _ _ _ hI (rk rfl) (rk rfl) hS (lv_sub hl [2, 3, 1, 0] rfl)
def wp_P_amountAlone (M : Mm) (post : Int → Prop) : Prop :=
  ∃ I4 : Nat → Int → Int → Prop, (∃ n, I4 n 0 0) ∧ ∀ (n4 : Nat) (x1_4 : Int) (x2_4 : Int), I4 n4 x1_4 x2_4 →
    (((M 7 7) ≤ x2_4 → post x1_4) ∧
      (¬ (M 7 7) ≤ x2_4 → wp_P_sizeOf x2_4 M (fun (r14 : Int) => ∀ K24 : Int → Prop, (∀ (y1_24 : Int), (inR (x2_4 + 1) ∧ ∀ v2_24 : Int, v2_24 = x2_4 + 1 → ∃ k_2, k_2 < n4 ∧ I4 k_2 y1_24 v2_24) →
          K24 y1_24) →
        ((¬ r14 = 1 → K24 x1_4) ∧
        (r14 = 1 → inR (x1_4 + 1) ∧ ∀ v1_21 : Int, v1_21 = x1_4 + 1 → K24 v1_21)))))
set_option maxHeartbeats 4000000 in
set_option maxRecDepth 100000 in
theorem mt_P_amountAlone (l : Launch) (X : Xw) (hlc : lcl X)(hP0 : IsP X) (M : Mm) (hm_M : mr M) (post : Int → Prop) (sz : Nat) (hw : wp_P_amountAlone M post) : Met l yy_P_amountAlone (Cond.code yy_P_amountAlone bc_P_amountAlone 3 (some .int) :: tg) ({ frames := 1, cells := 0, slots := 0, locals := 21 } : Room) (Pw X [.ref (xA X 7)] M sz) (Qi X sz (fun r M1 => M1 = M ∧ post r)) 0 0 (xF X sz) := by
  unfold wp_P_amountAlone at hw
  refine x_enter (by decide) hlc hm_M (Nat.le_of_ble_eq_true rfl) ?_
  intro p e s m below meth c ls hC hsz hr hlocks hS hl
  have hx := hC.1.1
  have hb := hC.1.2.1
  have hl : lv_has ls 3 [(0, .ref (xA X 7))] := hl
  refine x_iconst hC dd_P_amountAlone_0 ?_
  refine lv_istore_n (lv' := [(1, .int (iI 0)), (0, .ref (xA X 7))]) hx hb dd_P_amountAlone_1 rfl hl (by decide) rfl (fun ls hl => ?_)
  refine x_iconst hC dd_P_amountAlone_2 ?_
  refine lv_istore_n (lv' := [(2, .int (iI 0)), (1, .int (iI 0)), (0, .ref (xA X 7))]) hx hb dd_P_amountAlone_3 rfl hl (by decide) rfl (fun ls hl => ?_)
  obtain ⟨I4, ⟨n0, hI⟩, hstep_I4⟩ := hw
  have lp_I4 : ∀ (n4 : Nat) (x1_4 : Int) (x2_4 : Int) (H : Heap) (locs : List Loc) (ls : Array Slot), I4 n4 x1_4 x2_4 → inR x1_4 → inR x2_4 → St X (xF X sz) s M H locs → lv_has ls 3 [(0, .ref (xA X 7)), (1, .int (iI x1_4)), (2, .int (iI x2_4))] → W p l e ({ frames := 1, cells := 0, slots := 0, locals := 21 } : Room) s m ([.ref (xA X 7)] : List Value).toArray below meth c H locs 0 0 (MQ below (Qi X sz (fun r M1 => M1 = M ∧ post r)) ([.ref (xA X 7)] : List Value).toArray s 0 0 (xF X sz)) (F0 m 4 ls []) := by
    intro n4
    induction n4 using Nat.strongRecOn with
    | _ n4 ih_I4 =>
      intro x1_4 x2_4 H locs ls hI rx1_4 rx2_4 hS hl
      have hw := hstep_I4 n4 x1_4 x2_4 hI
      refine lv_iload_n hx hb dd_P_amountAlone_4 rfl (lv_at hl 2 rfl) ?_
      refine lv_aload_n hx hb dd_P_amountAlone_5 rfl (lv_at hl 0 rfl) ?_
      refine x_get hC hS hP0.1 rfl iw_P 7 (by decide) tb_152 rfl rfl dd_P_amountAlone_6 ?_
      refine x_icmp_ge hC rx2_4 (hm_M 7 7) (tgt := 30) dd_P_amountAlone_9 (by decide) (fun c1 => ?_) (fun c1 => ?_)
      · have hw := hw.1 c1
        refine lv_iload_n hx hb dd_P_amountAlone_30 rfl (lv_at hl 1 rfl) ?_
        exact x_iret hC hS hlocks hr rx1_4 ⟨rfl, hw⟩ dd_P_amountAlone_31
      · have hw := hw.2 c1
        refine lv_aload_n hx hb dd_P_amountAlone_12 rfl (lv_at hl 0 rfl) ?_
        refine lv_iload_n hx hb dd_P_amountAlone_13 rfl (lv_at hl 2 rfl) ?_
        refine x_callVi hC hS (As := [.int (iI x2_4)]) (rest := []) hP0.1 rfl cv_P_sizeOf (mt_P_sizeOf l X hC.2.2.1 hP0 x2_4 rx2_4 M hm_M _ _ hw) tb_400 rfl rfl ⟨Nat.le_of_ble_eq_true rfl, Nat.le_of_ble_eq_true rfl⟩ rfl hl.1 (Nat.le_of_ble_eq_true rfl) dd_P_amountAlone_14 ⟨Nat.le_refl _, Nat.le_refl _⟩ rfl (fun r14 Mx H locs rr14 hp hS => ?_)
        obtain ⟨hq, hw⟩ := hp
        rw [hq] at hS
        refine x_iconst hC dd_P_amountAlone_17 ?_
        have hw := hw (fun (y1_24 : Int) => ∀ (H : Heap) (locs : List Loc) (ls : Array Slot), inR y1_24 → St X (xF X sz) s M H locs → lv_has ls 3 [(0, .ref (xA X 7)), (1, .int (iI y1_24)), (2, .int (iI x2_4))] → W p l e ({ frames := 1, cells := 0, slots := 0, locals := 21 } : Room) s m ([.ref (xA X 7)] : List Value).toArray below meth c H locs 0 0 (MQ below (Qi X sz (fun r M1 => M1 = M ∧ post r)) ([.ref (xA X 7)] : List Value).toArray s 0 0 (xF X sz)) (F0 m 24 ls [])) (by
            intro y1_24 hw H locs ls ry1_24 hS hl
            obtain ⟨hr_, hw⟩ := hw
            obtain ⟨v2_24, rv2_24, ev2_24⟩ : ∃ z : Int, inR z ∧ z = x2_4 + 1 := ⟨_, hr_, rfl⟩
            have hw := hw v2_24 ev2_24
            refine lv_iinc (v := iI v2_24) (lv' := [(2, .int (iI v2_24)), (0, .ref (xA X 7)), (1, .int (iI y1_24))]) hx hb dd_P_amountAlone_24 hl (k := 2) rfl (by rw [ev2_24]; exact iI_add _ _) (by decide) rfl (fun ls hl => ?_)
            refine lv_goto (tgt := 4) hx hb dd_P_amountAlone_27 (by decide) ?_
            obtain ⟨k_2, h3, hI⟩ := hw
            exact ih_I4 k_2 h3 y1_24 v2_24 _ _ _ hI ry1_24 rv2_24 hS (lv_sub hl [1, 2, 0] rfl))
        refine x_icmp_ne hC rr14 (rk rfl) (tgt := 24) dd_P_amountAlone_18 (by decide) (fun c4 => ?_) (fun c4 => ?_)
        · have hw := hw.1 c4
          exact hw _ _ _ rx1_4 hS (lv_sub hl [0, 1, 2] rfl)
        · have hw := hw.2 c4
          obtain ⟨hr_, hw⟩ := hw
          obtain ⟨v1_21, rv1_21, ev1_21⟩ : ∃ z : Int, inR z ∧ z = x1_4 + 1 := ⟨_, hr_, rfl⟩
          have hw := hw v1_21 ev1_21
          refine lv_iinc (v := iI v1_21) (lv' := [(1, .int (iI v1_21)), (0, .ref (xA X 7)), (2, .int (iI x2_4))]) hx hb dd_P_amountAlone_21 hl (k := 1) rfl (by rw [ev1_21]; exact iI_add _ _) (by decide) rfl (fun ls hl => ?_)
          exact hw _ _ _ rv1_21 hS (lv_sub hl [1, 0, 2] rfl)
  exact lp_I4 n0 0 0 _ _ _ hI (rk rfl) (rk rfl) hS (lv_sub hl [2, 1, 0] rfl)
def wp_P_greatestSize (M : Mm) (post : Int → Prop) : Prop :=
  ∃ I4 : Nat → Int → Int → Prop, (∃ n, I4 n 0 0) ∧ ∀ (n4 : Nat) (x1_4 : Int) (x2_4 : Int), I4 n4 x1_4 x2_4 →
    (((M 7 7) ≤ x2_4 → post x1_4) ∧
      (¬ (M 7 7) ≤ x2_4 → wp_P_sizeOf x2_4 M (fun (r15 : Int) => ∀ z2 : Int, z2 = (if x1_4 < r15 then r15 else x1_4) → inR (x2_4 + 1) ∧ ∀ v2_22 : Int, v2_22 = x2_4 + 1 → ∃ k_3, k_3 < n4 ∧ I4 k_3 z2 v2_22)))
set_option maxHeartbeats 4000000 in
set_option maxRecDepth 100000 in
theorem mt_P_greatestSize (l : Launch) (X : Xw) (hlc : lcl X)(hP0 : IsP X) (M : Mm) (hm_M : mr M) (post : Int → Prop) (sz : Nat) (hw : wp_P_greatestSize M post) : Met l yy_P_greatestSize (Cond.code yy_P_greatestSize bc_P_greatestSize 3 (some .int) :: tg) ({ frames := 1, cells := 0, slots := 0, locals := 21 } : Room) (Pw X [.ref (xA X 7)] M sz) (Qi X sz (fun r M1 => M1 = M ∧ post r)) 0 0 (xF X sz) := by
  unfold wp_P_greatestSize at hw
  refine x_enter (by decide) hlc hm_M (Nat.le_of_ble_eq_true rfl) ?_
  intro p e s m below meth c ls hC hsz hr hlocks hS hl
  have hx := hC.1.1
  have hb := hC.1.2.1
  have hl : lv_has ls 3 [(0, .ref (xA X 7))] := hl
  refine x_iconst hC dd_P_greatestSize_0 ?_
  refine lv_istore_n (lv' := [(1, .int (iI 0)), (0, .ref (xA X 7))]) hx hb dd_P_greatestSize_1 rfl hl (by decide) rfl (fun ls hl => ?_)
  refine x_iconst hC dd_P_greatestSize_2 ?_
  refine lv_istore_n (lv' := [(2, .int (iI 0)), (1, .int (iI 0)), (0, .ref (xA X 7))]) hx hb dd_P_greatestSize_3 rfl hl (by decide) rfl (fun ls hl => ?_)
  obtain ⟨I4, ⟨n0, hI⟩, hstep_I4⟩ := hw
  have lp_I4 : ∀ (n4 : Nat) (x1_4 : Int) (x2_4 : Int) (H : Heap) (locs : List Loc) (ls : Array Slot), I4 n4 x1_4 x2_4 → inR x1_4 → inR x2_4 → St X (xF X sz) s M H locs → lv_has ls 3 [(0, .ref (xA X 7)), (1, .int (iI x1_4)), (2, .int (iI x2_4))] → W p l e ({ frames := 1, cells := 0, slots := 0, locals := 21 } : Room) s m ([.ref (xA X 7)] : List Value).toArray below meth c H locs 0 0 (MQ below (Qi X sz (fun r M1 => M1 = M ∧ post r)) ([.ref (xA X 7)] : List Value).toArray s 0 0 (xF X sz)) (F0 m 4 ls []) := by
    intro n4
    induction n4 using Nat.strongRecOn with
    | _ n4 ih_I4 =>
      intro x1_4 x2_4 H locs ls hI rx1_4 rx2_4 hS hl
      have hw := hstep_I4 n4 x1_4 x2_4 hI
      refine lv_iload_n hx hb dd_P_greatestSize_4 rfl (lv_at hl 2 rfl) ?_
      refine lv_aload_n hx hb dd_P_greatestSize_5 rfl (lv_at hl 0 rfl) ?_
      refine x_get hC hS hP0.1 rfl iw_P 7 (by decide) tb_152 rfl rfl dd_P_greatestSize_6 ?_
      refine x_icmp_ge hC rx2_4 (hm_M 7 7) (tgt := 28) dd_P_greatestSize_9 (by decide) (fun c1 => ?_) (fun c1 => ?_)
      · have hw := hw.1 c1
        refine lv_iload_n hx hb dd_P_greatestSize_28 rfl (lv_at hl 1 rfl) ?_
        exact x_iret hC hS hlocks hr rx1_4 ⟨rfl, hw⟩ dd_P_greatestSize_29
      · have hw := hw.2 c1
        refine lv_iload_n hx hb dd_P_greatestSize_12 rfl (lv_at hl 1 rfl) ?_
        refine lv_aload_n hx hb dd_P_greatestSize_13 rfl (lv_at hl 0 rfl) ?_
        refine lv_iload_n hx hb dd_P_greatestSize_14 rfl (lv_at hl 2 rfl) ?_
        refine x_callVi hC hS (As := [.int (iI x2_4)]) (rest := [.int (iI x1_4)]) hP0.1 rfl cv_P_sizeOf (mt_P_sizeOf l X hC.2.2.1 hP0 x2_4 rx2_4 M hm_M _ _ hw) tb_400 rfl rfl ⟨Nat.le_of_ble_eq_true rfl, Nat.le_of_ble_eq_true rfl⟩ rfl hl.1 (Nat.le_of_ble_eq_true rfl) dd_P_greatestSize_15 ⟨Nat.le_refl _, Nat.le_refl _⟩ rfl (fun r15 Mx H locs rr15 hp hS => ?_)
        obtain ⟨hq, hw⟩ := hp
        rw [hq] at hS
        refine x_max hC rx1_4 rr15 hl.1 tb_423 (Nat.le_of_ble_eq_true rfl) (Nat.le_of_ble_eq_true rfl) ⟨Nat.le_refl _, Nat.le_refl _⟩ dd_P_greatestSize_18 (fun z2 rz2 ez2 => ?_)
        have hw := hw z2 ez2
        refine lv_istore_n (lv' := [(1, .int (iI z2)), (0, .ref (xA X 7)), (2, .int (iI x2_4))]) hx hb dd_P_greatestSize_21 rfl hl (by decide) rfl (fun ls hl => ?_)
        obtain ⟨hr_, hw⟩ := hw
        obtain ⟨v2_22, rv2_22, ev2_22⟩ : ∃ z : Int, inR z ∧ z = x2_4 + 1 := ⟨_, hr_, rfl⟩
        have hw := hw v2_22 ev2_22
        refine lv_iinc (v := iI v2_22) (lv' := [(2, .int (iI v2_22)), (1, .int (iI z2)), (0, .ref (xA X 7))]) hx hb dd_P_greatestSize_22 hl (k := 2) rfl (by rw [ev2_22]; exact iI_add _ _) (by decide) rfl (fun ls hl => ?_)
        refine lv_goto (tgt := 4) hx hb dd_P_greatestSize_25 (by decide) ?_
        obtain ⟨k_3, h4, hI⟩ := hw
        exact ih_I4 k_3 h4 z2 v2_22 _ _ _ hI rz2 rv2_22 hS (lv_sub hl [2, 1, 0] rfl)
  exact lp_I4 n0 0 0 _ _ _ hI (rk rfl) (rk rfl) hS (lv_sub hl [2, 1, 0] rfl)
