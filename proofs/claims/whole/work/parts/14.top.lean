def wp_T_forgetGroup (M : Mm) (post : Mm → Prop) : Prop :=
  ∀ M_1 : Mm, M_1 = ms M 4 3 0 → ∀ M_2 : Mm, M_2 = ms M_1 7 8 0 → post M_2
set_option maxHeartbeats 4000000 in
set_option maxRecDepth 100000 in
theorem mt_T_forgetGroup (l : Launch) (X : Xw) (hlc : lcl X)(hT0 : IsT X) (M : Mm) (hm_M : mr M) (post : Mm → Prop) (sz : Nat) (hw : wp_T_forgetGroup M post) : Met l yy_T_forgetGroup (Cond.code yy_T_forgetGroup bc_T_forgetGroup 1 none :: tg) ({ frames := 0, cells := 0, slots := 0, locals := 0 } : Room) (Pw X [.ref (xA X 0)] M sz) (Qv X sz post) 0 0 (xF X sz) := by
  unfold wp_T_forgetGroup at hw
  refine x_enter (by decide) hlc hm_M (Nat.le_of_ble_eq_true rfl) ?_
  intro p e s m below meth c ls hC hsz hr hlocks hS hl
  have hx := hC.1.1
  have hb := hC.1.2.1
  have hl : lv_has ls 1 [(0, .ref (xA X 0))] := hl
  refine lv_aload_n hx hb dd_T_forgetGroup_0 rfl (lv_at hl 0 rfl) ?_
  refine x_get hC hS hT0.1 rfl iw_T 4 (by decide) tb_184 rfl rfl dd_T_forgetGroup_1 ?_
  refine x_iconst hC dd_T_forgetGroup_4 ?_
  refine x_put hC hS hT0.2.2.2.1.1 rfl iw_Y fy_Y fk_Y fn_Y 3 (by decide) tb_134 rfl (rk rfl) rfl rfl (ps_Y_3 _ _ _) (Nat.le_of_ble_eq_true rfl) dd_T_forgetGroup_5 (fun H locs hS => ?_)
  obtain ⟨M_1, eM_1⟩ : ∃ Z : Mm, Z = ms M 4 3 0 := ⟨_, rfl⟩
  rw [← eM_1] at hS
  have hw := hw M_1 eM_1
  have hm_M_1 := hS.2.2.2
  refine lv_aload_n hx hb dd_T_forgetGroup_8 rfl (lv_at hl 0 rfl) ?_
  refine x_get hC hS hT0.1 rfl iw_T 5 (by decide) tb_185 rfl rfl dd_T_forgetGroup_9 ?_
  refine x_iconst hC dd_T_forgetGroup_12 ?_
  refine x_put hC hS hT0.2.2.2.2.1.1 rfl iw_P fy_P fk_P fn_P 8 (by decide) tb_160 rfl (rk rfl) rfl rfl (ps_P_8 _ _ _) (Nat.le_of_ble_eq_true rfl) dd_T_forgetGroup_13 (fun H locs hS => ?_)
  obtain ⟨M_2, eM_2⟩ : ∃ Z : Mm, Z = ms M_1 7 8 0 := ⟨_, rfl⟩
  rw [← eM_2] at hS
  have hw := hw M_2 eM_2
  have hm_M_2 := hS.2.2.2
  exact x_vret hC hS hlocks hr hw dd_T_forgetGroup_16
def wp_T_points (a1 : Int) (M : Mm) (post : Int → Mm → Prop) : Prop :=
  wp_T_isWithin a1 1 7 (fun (r4 : Int) => (¬ r4 = 0 → ∀ v2_20 : Int, v2_20 = (M 12 0) → ∀ M_2 : Mm, M_2 = ms M 12 0 a1 → wp_G_makeStill (12 + 2) M_2 (fun (M_3 : Mm) => wp_T_forgetGroup M_3 (fun (M_4 : Mm) => post v2_20 M_4))) ∧
  (r4 = 0 → post (-2) M))
set_option maxHeartbeats 4000000 in
set_option maxRecDepth 100000 in
theorem mt_T_points (l : Launch) (X : Xw) (hlc : lcl X)(hT0 : IsT X) (a1 : Int) (ra1 : inR a1) (M : Mm) (hm_M : mr M) (post : Int → Mm → Prop) (sz : Nat) (hw : wp_T_points a1 M post) : Met l yy_T_points (Cond.code yy_T_points bc_T_points 3 (some .int) :: tg) ({ frames := 4, cells := 0, slots := 0, locals := 89 } : Room) (Pw X [.ref (xA X 0), .int (iI a1)] M sz) (Qi X sz post) 0 0 (xF X sz) := by
  unfold wp_T_points at hw
  refine x_enter (by decide) hlc hm_M (Nat.le_of_ble_eq_true rfl) ?_
  intro p e s m below meth c ls hC hsz hr hlocks hS hl
  have hx := hC.1.1
  have hb := hC.1.2.1
  have hl : lv_has ls 3 [(0, .ref (xA X 0)), (1, .int (iI a1))] := hl
  refine lv_iload_n hx hb dd_T_points_0 rfl (lv_at hl 1 rfl) ?_
  refine x_iconst hC dd_T_points_1 ?_
  refine x_bipush hC dd_T_points_2 (by decide) ?_
  refine x_callSi hC hS (As := [.int (iI a1), .int (iI 1), .int (iI 7)]) (rest := []) cs_T_isWithin (mt_T_isWithin l X hC.2.2.1  a1 ra1 1 (rk rfl) 7 (rk rfl) M hm_M _ _ hw) tb_203 rfl rfl ⟨Nat.le_of_ble_eq_true rfl, Nat.le_of_ble_eq_true rfl⟩ rfl hl.1 (Nat.le_of_ble_eq_true rfl) dd_T_points_4 ⟨Nat.le_refl _, Nat.le_refl _⟩ rfl (fun r4 Mx H locs rr4 hp hS => ?_)
  obtain ⟨hq, hw⟩ := hp
  rw [hq] at hS
  refine x_if_ne hC rr4 (tgt := 13) dd_T_points_7 (by decide) (fun c1 => ?_) (fun c1 => ?_)
  · have hw := hw.1 c1
    refine lv_aload_n hx hb dd_T_points_13 rfl (lv_at hl 0 rfl) ?_
    refine x_get hC hS hT0.1 rfl iw_T 0 (by decide) tb_180 rfl rfl dd_T_points_14 ?_
    refine x_get hC hS hT0.2.2.2.2.2.1.1 rfl iw_S 0 (by decide) tb_84 rfl rfl dd_T_points_17 ?_
    refine x_nm (hm_M 12 0) (fun v2_20 rv2_20 ev2_20 => ?_)
    have hw := hw v2_20 ev2_20
    refine lv_istore_n (lv' := [(2, .int (iI v2_20)), (0, .ref (xA X 0)), (1, .int (iI a1))]) hx hb dd_T_points_20 rfl hl (by decide) rfl (fun ls hl => ?_)
    refine lv_aload_n hx hb dd_T_points_21 rfl (lv_at hl 1 rfl) ?_
    refine x_get hC hS hT0.1 rfl iw_T 0 (by decide) tb_180 rfl rfl dd_T_points_22 ?_
    refine lv_iload_n hx hb dd_T_points_25 rfl (lv_at hl 2 rfl) ?_
    refine x_put hC hS hT0.2.2.2.2.2.1.1 rfl iw_S fy_S fk_S fn_S 0 (by decide) tb_84 rfl ra1 rfl rfl (ps_S_0 _ _ _ _) (Nat.le_of_ble_eq_true rfl) dd_T_points_26 (fun H locs hS => ?_)
    obtain ⟨M_2, eM_2⟩ : ∃ Z : Mm, Z = ms M 12 0 a1 := ⟨_, rfl⟩
    rw [← eM_2] at hS
    have hw := hw M_2 eM_2
    have hm_M_2 := hS.2.2.2
    refine lv_aload_n hx hb dd_T_points_29 rfl (lv_at hl 1 rfl) ?_
    refine x_get hC hS hT0.1 rfl iw_T 0 (by decide) tb_180 rfl rfl dd_T_points_30 ?_
    refine x_get hC hS hT0.2.2.2.2.2.1.1 rfl iw_S 3 (by decide) tb_94 rfl rfl dd_T_points_33 ?_
    refine x_callVv hC hS (As := []) (rest := []) hT0.2.2.2.2.2.1.2.2.1 rfl cv_G_makeStill (mt_G_makeStill l X hC.2.2.1 (12 + 2) hT0.2.2.2.2.2.1.2.2  M_2 hm_M_2 _ _ hw) tb_204 rfl rfl ⟨Nat.le_of_ble_eq_true rfl, Nat.le_of_ble_eq_true rfl⟩ rfl hl.1 (Nat.le_of_ble_eq_true rfl) dd_T_points_36 ⟨Nat.le_refl _, Nat.le_refl _⟩ rfl (fun M_3 H locs hw hS => ?_)
    have hm_M_3 := hS.2.2.2
    refine lv_aload_n hx hb dd_T_points_39 rfl (lv_at hl 1 rfl) ?_
    refine x_callVv hC hS (As := []) (rest := []) hT0.1 rfl cv_T_forgetGroup (mt_T_forgetGroup l X hC.2.2.1 hT0  M_3 hm_M_3 _ _ hw) tb_205 rfl rfl ⟨Nat.le_of_ble_eq_true rfl, Nat.le_of_ble_eq_true rfl⟩ rfl hl.1 (Nat.le_of_ble_eq_true rfl) dd_T_points_40 ⟨Nat.le_refl _, Nat.le_refl _⟩ rfl (fun M_4 H locs hw hS => ?_)
    have hm_M_4 := hS.2.2.2
    refine lv_iload_n hx hb dd_T_points_43 rfl (lv_at hl 0 rfl) ?_
    exact x_iret hC hS hlocks hr rv2_20 hw dd_T_points_44
  · have hw := hw.2 c1
    refine x_bipush hC dd_T_points_10 (by decide) ?_
    exact x_iret hC hS hlocks hr (rk rfl) hw dd_T_points_12
def wp_T_isKind (a0 : Int) (post : Int → Prop) : Prop :=
  wp_T_isWithin a0 0 4 (fun (r3 : Int) => (r3 = 0 ∨ r3 = 1) ∧ post r3)
set_option maxHeartbeats 4000000 in
set_option maxRecDepth 100000 in
theorem mt_T_isKind (l : Launch) (X : Xw) (hlc : lcl X) (a0 : Int) (ra0 : inR a0) (M : Mm) (hm_M : mr M) (post : Int → Prop) (sz : Nat) (hw : wp_T_isKind a0 post) : Met l yy_T_isKind (Cond.code yy_T_isKind bc_T_isKind 1 (some .boolean) :: tg) ({ frames := 1, cells := 0, slots := 0, locals := 22 } : Room) (Pw X [.int (iI a0)] M sz) (Qi X sz (fun r M1 => M1 = M ∧ post r)) 0 0 (xF X sz) := by
  unfold wp_T_isKind at hw
  refine x_enter (by decide) hlc hm_M (Nat.le_of_ble_eq_true rfl) ?_
  intro p e s m below meth c ls hC hsz hr hlocks hS hl
  have hx := hC.1.1
  have hb := hC.1.2.1
  have hl : lv_has ls 1 [(0, .int (iI a0))] := hl
  refine lv_iload_n hx hb dd_T_isKind_0 rfl (lv_at hl 0 rfl) ?_
  refine x_iconst hC dd_T_isKind_1 ?_
  refine x_iconst hC dd_T_isKind_2 ?_
  refine x_callSi hC hS (As := [.int (iI a0), .int (iI 0), .int (iI 4)]) (rest := []) cs_T_isWithin (mt_T_isWithin l X hC.2.2.1  a0 ra0 0 (rk rfl) 4 (rk rfl) M hm_M _ _ hw) tb_203 rfl rfl ⟨Nat.le_of_ble_eq_true rfl, Nat.le_of_ble_eq_true rfl⟩ rfl hl.1 (Nat.le_of_ble_eq_true rfl) dd_T_isKind_3 ⟨Nat.le_refl _, Nat.le_refl _⟩ rfl (fun r3 Mx H locs rr3 hp hS => ?_)
  obtain ⟨hq, hw⟩ := hp
  rw [hq] at hS
  exact x_zret hC hS hlocks hr hw.1 ⟨rfl, hw.2⟩ dd_T_isKind_6
def wp_T_beside (a1 : Int) (a2 : Int) (a3 : Int) (M : Mm) (post : Int → Mm → Prop) : Prop :=
  wp_T_isWithin a1 0 (M 12 0) (fun (r9 : Int) => (r9 = 0 → post (-2) M) ∧
  (¬ r9 = 0 → wp_T_isKind a2 (fun (r16 : Int) => (r16 = 0 → post (-2) M) ∧
    (¬ r16 = 0 → wp_T_isKind a3 (fun (r23 : Int) => (¬ r23 = 0 → wp_G_makeStill (12 + 2) M (fun (M_4 : Mm) => wp_G_widenByKind (12 + 2) a2 0 a1 1 M_4 (fun (M_5 : Mm) => inR ((M_5 12 0) - a1) ∧ wp_G_widenByKind (12 + 2) a3 a1 ((M_5 12 0) - a1) 1 M_5 (fun (M_7 : Mm) => wp_T_forgetGroup M_7 (fun (M_8 : Mm) => post (M_8 (12 + 2) 1) M_8))))) ∧
      (r23 = 0 → post (-2) M))))))
set_option maxHeartbeats 4000000 in
set_option maxRecDepth 100000 in
theorem mt_T_beside (l : Launch) (X : Xw) (hlc : lcl X)(hT0 : IsT X) (a1 : Int) (ra1 : inR a1) (a2 : Int) (ra2 : inR a2) (a3 : Int) (ra3 : inR a3) (M : Mm) (hm_M : mr M) (post : Int → Mm → Prop) (sz : Nat) (hw : wp_T_beside a1 a2 a3 M post) : Met l yy_T_beside (Cond.code yy_T_beside bc_T_beside 4 (some .int) :: tg) ({ frames := 6, cells := 0, slots := 0, locals := 141 } : Room) (Pw X [.ref (xA X 0), .int (iI a1), .int (iI a2), .int (iI a3)] M sz) (Qi X sz post) 0 0 (xF X sz) := by
  unfold wp_T_beside at hw
  refine x_enter (by decide) hlc hm_M (Nat.le_of_ble_eq_true rfl) ?_
  intro p e s m below meth c ls hC hsz hr hlocks hS hl
  have hx := hC.1.1
  have hb := hC.1.2.1
  have hl : lv_has ls 4 [(0, .ref (xA X 0)), (1, .int (iI a1)), (2, .int (iI a2)), (3, .int (iI a3))] := hl
  refine lv_iload_n hx hb dd_T_beside_0 rfl (lv_at hl 1 rfl) ?_
  refine x_iconst hC dd_T_beside_1 ?_
  refine lv_aload_n hx hb dd_T_beside_2 rfl (lv_at hl 0 rfl) ?_
  refine x_get hC hS hT0.1 rfl iw_T 0 (by decide) tb_180 rfl rfl dd_T_beside_3 ?_
  refine x_get hC hS hT0.2.2.2.2.2.1.1 rfl iw_S 0 (by decide) tb_84 rfl rfl dd_T_beside_6 ?_
  refine x_callSi hC hS (As := [.int (iI a1), .int (iI 0), .int (iI (M 12 0))]) (rest := []) cs_T_isWithin (mt_T_isWithin l X hC.2.2.1  a1 ra1 0 (rk rfl) (M 12 0) (hm_M 12 0) M hm_M _ _ hw) tb_203 rfl rfl ⟨Nat.le_of_ble_eq_true rfl, Nat.le_of_ble_eq_true rfl⟩ rfl hl.1 (Nat.le_of_ble_eq_true rfl) dd_T_beside_9 ⟨Nat.le_refl _, Nat.le_refl _⟩ rfl (fun r9 Mx H locs rr9 hp hS => ?_)
  obtain ⟨hq, hw⟩ := hp
  rw [hq] at hS
  refine x_if_eq hC rr9 (tgt := 29) dd_T_beside_12 (by decide) (fun c1 => ?_) (fun c1 => ?_)
  · have hw := hw.1 c1
    refine x_bipush hC dd_T_beside_29 (by decide) ?_
    exact x_iret hC hS hlocks hr (rk rfl) hw dd_T_beside_31
  · have hw := hw.2 c1
    refine lv_iload_n hx hb dd_T_beside_15 rfl (lv_at hl 2 rfl) ?_
    refine x_callSi hC hS (As := [.int (iI a2)]) (rest := []) cs_T_isKind (mt_T_isKind l X hC.2.2.1  a2 ra2 M hm_M _ _ hw) tb_213 rfl rfl ⟨Nat.le_of_ble_eq_true rfl, Nat.le_of_ble_eq_true rfl⟩ rfl hl.1 (Nat.le_of_ble_eq_true rfl) dd_T_beside_16 ⟨Nat.le_refl _, Nat.le_refl _⟩ rfl (fun r16 Mx H locs rr16 hp hS => ?_)
    obtain ⟨hq, hw⟩ := hp
    rw [hq] at hS
    refine x_if_eq hC rr16 (tgt := 29) dd_T_beside_19 (by decide) (fun c2 => ?_) (fun c2 => ?_)
    · have hw := hw.1 c2
      refine x_bipush hC dd_T_beside_29 (by decide) ?_
      exact x_iret hC hS hlocks hr (rk rfl) hw dd_T_beside_31
    · have hw := hw.2 c2
      refine lv_iload_n hx hb dd_T_beside_22 rfl (lv_at hl 3 rfl) ?_
      refine x_callSi hC hS (As := [.int (iI a3)]) (rest := []) cs_T_isKind (mt_T_isKind l X hC.2.2.1  a3 ra3 M hm_M _ _ hw) tb_213 rfl rfl ⟨Nat.le_of_ble_eq_true rfl, Nat.le_of_ble_eq_true rfl⟩ rfl hl.1 (Nat.le_of_ble_eq_true rfl) dd_T_beside_23 ⟨Nat.le_refl _, Nat.le_refl _⟩ rfl (fun r23 Mx H locs rr23 hp hS => ?_)
      obtain ⟨hq, hw⟩ := hp
      rw [hq] at hS
      refine x_if_ne hC rr23 (tgt := 32) dd_T_beside_26 (by decide) (fun c3 => ?_) (fun c3 => ?_)
      · have hw := hw.1 c3
        refine lv_aload_n hx hb dd_T_beside_32 rfl (lv_at hl 0 rfl) ?_
        refine x_get hC hS hT0.1 rfl iw_T 0 (by decide) tb_180 rfl rfl dd_T_beside_33 ?_
        refine x_get hC hS hT0.2.2.2.2.2.1.1 rfl iw_S 3 (by decide) tb_94 rfl rfl dd_T_beside_36 ?_
        refine x_callVv hC hS (As := []) (rest := []) hT0.2.2.2.2.2.1.2.2.1 rfl cv_G_makeStill (mt_G_makeStill l X hC.2.2.1 (12 + 2) hT0.2.2.2.2.2.1.2.2  M hm_M _ _ hw) tb_204 rfl rfl ⟨Nat.le_of_ble_eq_true rfl, Nat.le_of_ble_eq_true rfl⟩ rfl hl.1 (Nat.le_of_ble_eq_true rfl) dd_T_beside_39 ⟨Nat.le_refl _, Nat.le_refl _⟩ rfl (fun M_4 H locs hw hS => ?_)
        have hm_M_4 := hS.2.2.2
        refine lv_aload_n hx hb dd_T_beside_42 rfl (lv_at hl 0 rfl) ?_
        refine x_get hC hS hT0.1 rfl iw_T 0 (by decide) tb_180 rfl rfl dd_T_beside_43 ?_
        refine x_get hC hS hT0.2.2.2.2.2.1.1 rfl iw_S 3 (by decide) tb_94 rfl rfl dd_T_beside_46 ?_
        refine lv_iload_n hx hb dd_T_beside_49 rfl (lv_at hl 2 rfl) ?_
        refine x_iconst hC dd_T_beside_50 ?_
        refine lv_iload_n hx hb dd_T_beside_51 rfl (lv_at hl 1 rfl) ?_
        refine x_iconst hC dd_T_beside_52 ?_
        refine x_callVv hC hS (As := [.int (iI a2), .int (iI 0), .int (iI a1), .int (iI 1)]) (rest := []) hT0.2.2.2.2.2.1.2.2.1 rfl cv_G_widenByKind (mt_G_widenByKind l X hC.2.2.1 (12 + 2) hT0.2.2.2.2.2.1.2.2 a2 ra2 0 (rk rfl) a1 ra1 1 (rk rfl) M_4 hm_M_4 _ _ hw) tb_216 rfl rfl ⟨Nat.le_of_ble_eq_true rfl, Nat.le_of_ble_eq_true rfl⟩ rfl hl.1 (Nat.le_of_ble_eq_true rfl) dd_T_beside_53 ⟨Nat.le_refl _, Nat.le_refl _⟩ rfl (fun M_5 H locs hw hS => ?_)
        have hm_M_5 := hS.2.2.2
        refine lv_aload_n hx hb dd_T_beside_56 rfl (lv_at hl 0 rfl) ?_
        refine x_get hC hS hT0.1 rfl iw_T 0 (by decide) tb_180 rfl rfl dd_T_beside_57 ?_
        refine x_get hC hS hT0.2.2.2.2.2.1.1 rfl iw_S 3 (by decide) tb_94 rfl rfl dd_T_beside_60 ?_
        refine lv_iload_n hx hb dd_T_beside_63 rfl (lv_at hl 3 rfl) ?_
        refine lv_iload_n hx hb dd_T_beside_64 rfl (lv_at hl 1 rfl) ?_
        refine lv_aload_n hx hb dd_T_beside_65 rfl (lv_at hl 0 rfl) ?_
        refine x_get hC hS hT0.1 rfl iw_T 0 (by decide) tb_180 rfl rfl dd_T_beside_66 ?_
        refine x_get hC hS hT0.2.2.2.2.2.1.1 rfl iw_S 0 (by decide) tb_84 rfl rfl dd_T_beside_69 ?_
        refine lv_iload_n hx hb dd_T_beside_72 rfl (lv_at hl 1 rfl) ?_
        obtain ⟨q6, hw⟩ := hw
        refine x_sub hC dd_T_beside_73 ?_
        refine x_iconst hC dd_T_beside_74 ?_
        refine x_callVv hC hS (As := [.int (iI a3), .int (iI a1), .int (iI ((M_5 12 0) - a1)), .int (iI 1)]) (rest := []) hT0.2.2.2.2.2.1.2.2.1 rfl cv_G_widenByKind (mt_G_widenByKind l X hC.2.2.1 (12 + 2) hT0.2.2.2.2.2.1.2.2 a3 ra3 a1 ra1 ((M_5 12 0) - a1) q6 1 (rk rfl) M_5 hm_M_5 _ _ hw) tb_216 rfl rfl ⟨Nat.le_of_ble_eq_true rfl, Nat.le_of_ble_eq_true rfl⟩ rfl hl.1 (Nat.le_of_ble_eq_true rfl) dd_T_beside_75 ⟨Nat.le_refl _, Nat.le_refl _⟩ rfl (fun M_7 H locs hw hS => ?_)
        have hm_M_7 := hS.2.2.2
        refine lv_aload_n hx hb dd_T_beside_78 rfl (lv_at hl 0 rfl) ?_
        refine x_callVv hC hS (As := []) (rest := []) hT0.1 rfl cv_T_forgetGroup (mt_T_forgetGroup l X hC.2.2.1 hT0  M_7 hm_M_7 _ _ hw) tb_205 rfl rfl ⟨Nat.le_of_ble_eq_true rfl, Nat.le_of_ble_eq_true rfl⟩ rfl hl.1 (Nat.le_of_ble_eq_true rfl) dd_T_beside_79 ⟨Nat.le_refl _, Nat.le_refl _⟩ rfl (fun M_8 H locs hw hS => ?_)
        have hm_M_8 := hS.2.2.2
        refine lv_aload_n hx hb dd_T_beside_82 rfl (lv_at hl 0 rfl) ?_
        refine x_get hC hS hT0.1 rfl iw_T 0 (by decide) tb_180 rfl rfl dd_T_beside_83 ?_
        refine x_get hC hS hT0.2.2.2.2.2.1.1 rfl iw_S 3 (by decide) tb_94 rfl rfl dd_T_beside_86 ?_
        refine x_get hC hS hT0.2.2.2.2.2.1.2.2.1 rfl iw_G 1 (by decide) tb_64 rfl rfl dd_T_beside_89 ?_
        exact x_iret hC hS hlocks hr (hm_M_8 (12 + 2) 1) hw dd_T_beside_92
      · have hw := hw.2 c3
        refine x_bipush hC dd_T_beside_29 (by decide) ?_
        exact x_iret hC hS hlocks hr (rk rfl) hw dd_T_beside_31
def wp_T_blocks (a1 : Int) (a2 : Int) (a3 : Int) (M : Mm) (post : Int → Mm → Prop) : Prop :=
  wp_T_isWithin a1 1 (M 12 0) (fun (r9 : Int) => (r9 = 0 → post (-2) M) ∧
  (¬ r9 = 0 → (0 ≤ (M 12 0) ∧ 0 < a1) ∧ (¬ ((M 12 0) % a1) = 0 → post (-2) M) ∧
    (((M 12 0) % a1) = 0 → wp_T_isKind a2 (fun (r28 : Int) => (r28 = 0 → post (-2) M) ∧
      (¬ r28 = 0 → wp_T_isKind a3 (fun (r35 : Int) => (¬ r35 = 0 → (0 ≤ (M 12 0) ∧ 0 < a1) ∧ ∀ v4_53 : Int, v4_53 = ((M 12 0) / a1) → wp_G_makeStill (12 + 2) M (fun (M_7 : Mm) => ∃ I68 : Nat → Int → Mm → Prop, (∃ n, I68 n 0 M_7) ∧ ∀ (n68 : Nat) (x5_68 : Int) (M68 : Mm), I68 n68 x5_68 M68 →
            ((v4_53 ≤ x5_68 → wp_G_widenByKind (12 + 2) a3 0 v4_53 a1 M68 (fun (M_9 : Mm) => wp_T_forgetGroup M_9 (fun (M_10 : Mm) => post (M_10 (12 + 2) 1) M_10))) ∧
              (¬ v4_53 ≤ x5_68 → inR (x5_68 * a1) ∧ wp_G_widenByKind (12 + 2) a2 (x5_68 * a1) a1 1 M68 (fun (M_12 : Mm) => inR (x5_68 + 1) ∧ ∀ v5_92 : Int, v5_92 = x5_68 + 1 → ∃ k_13, k_13 < n68 ∧ I68 k_13 v5_92 M_12))))) ∧
        (r35 = 0 → post (-2) M)))))))
set_option maxHeartbeats 4000000 in
set_option maxRecDepth 100000 in
theorem mt_T_blocks (l : Launch) (X : Xw) (hlc : lcl X)(hT0 : IsT X) (a1 : Int) (ra1 : inR a1) (a2 : Int) (ra2 : inR a2) (a3 : Int) (ra3 : inR a3) (M : Mm) (hm_M : mr M) (post : Int → Mm → Prop) (sz : Nat) (hw : wp_T_blocks a1 a2 a3 M post) : Met l yy_T_blocks (Cond.code yy_T_blocks bc_T_blocks 6 (some .int) :: tg) ({ frames := 6, cells := 0, slots := 0, locals := 141 } : Room) (Pw X [.ref (xA X 0), .int (iI a1), .int (iI a2), .int (iI a3)] M sz) (Qi X sz post) 0 0 (xF X sz) := by
  unfold wp_T_blocks at hw
  refine x_enter (by decide) hlc hm_M (Nat.le_of_ble_eq_true rfl) ?_
  intro p e s m below meth c ls hC hsz hr hlocks hS hl
  have hx := hC.1.1
  have hb := hC.1.2.1
  have hl : lv_has ls 6 [(0, .ref (xA X 0)), (1, .int (iI a1)), (2, .int (iI a2)), (3, .int (iI a3))] := hl
  refine lv_iload_n hx hb dd_T_blocks_0 rfl (lv_at hl 1 rfl) ?_
  refine x_iconst hC dd_T_blocks_1 ?_
  refine lv_aload_n hx hb dd_T_blocks_2 rfl (lv_at hl 0 rfl) ?_
  refine x_get hC hS hT0.1 rfl iw_T 0 (by decide) tb_180 rfl rfl dd_T_blocks_3 ?_
  refine x_get hC hS hT0.2.2.2.2.2.1.1 rfl iw_S 0 (by decide) tb_84 rfl rfl dd_T_blocks_6 ?_
  refine x_callSi hC hS (As := [.int (iI a1), .int (iI 1), .int (iI (M 12 0))]) (rest := []) cs_T_isWithin (mt_T_isWithin l X hC.2.2.1  a1 ra1 1 (rk rfl) (M 12 0) (hm_M 12 0) M hm_M _ _ hw) tb_203 rfl rfl ⟨Nat.le_of_ble_eq_true rfl, Nat.le_of_ble_eq_true rfl⟩ rfl hl.1 (Nat.le_of_ble_eq_true rfl) dd_T_blocks_9 ⟨Nat.le_refl _, Nat.le_refl _⟩ rfl (fun r9 Mx H locs rr9 hp hS => ?_)
  obtain ⟨hq, hw⟩ := hp
  rw [hq] at hS
  refine x_if_eq hC rr9 (tgt := 41) dd_T_blocks_12 (by decide) (fun c1 => ?_) (fun c1 => ?_)
  · have hw := hw.1 c1
    refine x_bipush hC dd_T_blocks_41 (by decide) ?_
    exact x_iret hC hS hlocks hr (rk rfl) hw dd_T_blocks_43
  · have hw := hw.2 c1
    refine lv_aload_n hx hb dd_T_blocks_15 rfl (lv_at hl 0 rfl) ?_
    refine x_get hC hS hT0.1 rfl iw_T 0 (by decide) tb_180 rfl rfl dd_T_blocks_16 ?_
    refine x_get hC hS hT0.2.2.2.2.2.1.1 rfl iw_S 0 (by decide) tb_84 rfl rfl dd_T_blocks_19 ?_
    refine lv_iload_n hx hb dd_T_blocks_22 rfl (lv_at hl 1 rfl) ?_
    obtain ⟨q2, hw⟩ := hw
    refine x_rem hC (hm_M 12 0) ra1 q2 dd_T_blocks_23 ?_
    refine x_if_ne hC (rMod ra1 q2.2) (tgt := 41) dd_T_blocks_24 (by decide) (fun c3 => ?_) (fun c3 => ?_)
    · have hw := hw.1 c3
      refine x_bipush hC dd_T_blocks_41 (by decide) ?_
      exact x_iret hC hS hlocks hr (rk rfl) hw dd_T_blocks_43
    · have hw := hw.2 c3
      refine lv_iload_n hx hb dd_T_blocks_27 rfl (lv_at hl 2 rfl) ?_
      refine x_callSi hC hS (As := [.int (iI a2)]) (rest := []) cs_T_isKind (mt_T_isKind l X hC.2.2.1  a2 ra2 M hm_M _ _ hw) tb_213 rfl rfl ⟨Nat.le_of_ble_eq_true rfl, Nat.le_of_ble_eq_true rfl⟩ rfl hl.1 (Nat.le_of_ble_eq_true rfl) dd_T_blocks_28 ⟨Nat.le_refl _, Nat.le_refl _⟩ rfl (fun r28 Mx H locs rr28 hp hS => ?_)
      obtain ⟨hq, hw⟩ := hp
      rw [hq] at hS
      refine x_if_eq hC rr28 (tgt := 41) dd_T_blocks_31 (by decide) (fun c4 => ?_) (fun c4 => ?_)
      · have hw := hw.1 c4
        refine x_bipush hC dd_T_blocks_41 (by decide) ?_
        exact x_iret hC hS hlocks hr (rk rfl) hw dd_T_blocks_43
      · have hw := hw.2 c4
        refine lv_iload_n hx hb dd_T_blocks_34 rfl (lv_at hl 3 rfl) ?_
        refine x_callSi hC hS (As := [.int (iI a3)]) (rest := []) cs_T_isKind (mt_T_isKind l X hC.2.2.1  a3 ra3 M hm_M _ _ hw) tb_213 rfl rfl ⟨Nat.le_of_ble_eq_true rfl, Nat.le_of_ble_eq_true rfl⟩ rfl hl.1 (Nat.le_of_ble_eq_true rfl) dd_T_blocks_35 ⟨Nat.le_refl _, Nat.le_refl _⟩ rfl (fun r35 Mx H locs rr35 hp hS => ?_)
        obtain ⟨hq, hw⟩ := hp
        rw [hq] at hS
        refine x_if_ne hC rr35 (tgt := 44) dd_T_blocks_38 (by decide) (fun c5 => ?_) (fun c5 => ?_)
        · have hw := hw.1 c5
          refine lv_aload_n hx hb dd_T_blocks_44 rfl (lv_at hl 0 rfl) ?_
          refine x_get hC hS hT0.1 rfl iw_T 0 (by decide) tb_180 rfl rfl dd_T_blocks_45 ?_
          refine x_get hC hS hT0.2.2.2.2.2.1.1 rfl iw_S 0 (by decide) tb_84 rfl rfl dd_T_blocks_48 ?_
          refine lv_iload_n hx hb dd_T_blocks_51 rfl (lv_at hl 1 rfl) ?_
          obtain ⟨q6, hw⟩ := hw
          refine x_div hC (hm_M 12 0) ra1 q6 dd_T_blocks_52 ?_
          refine x_nm (rDiv (hm_M 12 0) q6.1 q6.2) (fun v4_53 rv4_53 ev4_53 => ?_)
          have hw := hw v4_53 ev4_53
          refine lv_istore (lv' := [(4, .int (iI v4_53)), (0, .ref (xA X 0)), (1, .int (iI a1)), (2, .int (iI a2)), (3, .int (iI a3))]) hx hb dd_T_blocks_53 hl (by decide) rfl (fun ls hl => ?_)
          refine lv_aload_n hx hb dd_T_blocks_55 rfl (lv_at hl 1 rfl) ?_
          refine x_get hC hS hT0.1 rfl iw_T 0 (by decide) tb_180 rfl rfl dd_T_blocks_56 ?_
          refine x_get hC hS hT0.2.2.2.2.2.1.1 rfl iw_S 3 (by decide) tb_94 rfl rfl dd_T_blocks_59 ?_
          refine x_callVv hC hS (As := []) (rest := []) hT0.2.2.2.2.2.1.2.2.1 rfl cv_G_makeStill (mt_G_makeStill l X hC.2.2.1 (12 + 2) hT0.2.2.2.2.2.1.2.2  M hm_M _ _ hw) tb_204 rfl rfl ⟨Nat.le_of_ble_eq_true rfl, Nat.le_of_ble_eq_true rfl⟩ rfl hl.1 (Nat.le_of_ble_eq_true rfl) dd_T_blocks_62 ⟨Nat.le_refl _, Nat.le_refl _⟩ rfl (fun M_7 H locs hw hS => ?_)
          have hm_M_7 := hS.2.2.2
          refine x_iconst hC dd_T_blocks_65 ?_
          refine lv_istore (lv' := [(5, .int (iI 0)), (4, .int (iI v4_53)), (0, .ref (xA X 0)), (1, .int (iI a1)), (2, .int (iI a2)), (3, .int (iI a3))]) hx hb dd_T_blocks_66 hl (by decide) rfl (fun ls hl => ?_)
          obtain ⟨I68, ⟨n0, hI⟩, hstep_I68⟩ := hw
          have lp_I68 : ∀ (n68 : Nat) (x5_68 : Int) (M68 : Mm) (H : Heap) (locs : List Loc) (ls : Array Slot), I68 n68 x5_68 M68 → inR x5_68 → St X (xF X sz) s M68 H locs → lv_has ls 6 [(0, .ref (xA X 0)), (1, .int (iI a1)), (2, .int (iI a2)), (3, .int (iI a3)), (4, .int (iI v4_53)), (5, .int (iI x5_68))] → W p l e ({ frames := 6, cells := 0, slots := 0, locals := 141 } : Room) s m ([.ref (xA X 0), .int (iI a1), .int (iI a2), .int (iI a3)] : List Value).toArray below meth c H locs 0 0 (MQ below (Qi X sz post) ([.ref (xA X 0), .int (iI a1), .int (iI a2), .int (iI a3)] : List Value).toArray s 0 0 (xF X sz)) (F0 m 68 ls []) := by
            intro n68
            induction n68 using Nat.strongRecOn with
            | _ n68 ih_I68 =>
              intro x5_68 M68 H locs ls hI rx5_68 hS hl
              have hw := hstep_I68 n68 x5_68 M68 hI
              have hm_M68 := hS.2.2.2
              refine lv_iload hx hb dd_T_blocks_68 (lv_at hl 5 rfl) ?_
              refine lv_iload hx hb dd_T_blocks_70 (lv_at hl 4 rfl) ?_
              refine x_icmp_ge hC rx5_68 rv4_53 (tgt := 98) dd_T_blocks_72 (by decide) (fun c8 => ?_) (fun c8 => ?_)
              · have hw := hw.1 c8
                refine lv_aload_n hx hb dd_T_blocks_98 rfl (lv_at hl 0 rfl) ?_
                refine x_get hC hS hT0.1 rfl iw_T 0 (by decide) tb_180 rfl rfl dd_T_blocks_99 ?_
                refine x_get hC hS hT0.2.2.2.2.2.1.1 rfl iw_S 3 (by decide) tb_94 rfl rfl dd_T_blocks_102 ?_
                refine lv_iload_n hx hb dd_T_blocks_105 rfl (lv_at hl 3 rfl) ?_
                refine x_iconst hC dd_T_blocks_106 ?_
                refine lv_iload hx hb dd_T_blocks_107 (lv_at hl 4 rfl) ?_
                refine lv_iload_n hx hb dd_T_blocks_109 rfl (lv_at hl 1 rfl) ?_
                refine x_callVv hC hS (As := [.int (iI a3), .int (iI 0), .int (iI v4_53), .int (iI a1)]) (rest := []) hT0.2.2.2.2.2.1.2.2.1 rfl cv_G_widenByKind (mt_G_widenByKind l X hC.2.2.1 (12 + 2) hT0.2.2.2.2.2.1.2.2 a3 ra3 0 (rk rfl) v4_53 rv4_53 a1 ra1 M68 hm_M68 _ _ hw) tb_216 rfl rfl ⟨Nat.le_of_ble_eq_true rfl, Nat.le_of_ble_eq_true rfl⟩ rfl hl.1 (Nat.le_of_ble_eq_true rfl) dd_T_blocks_110 ⟨Nat.le_refl _, Nat.le_refl _⟩ rfl (fun M_9 H locs hw hS => ?_)
                have hm_M_9 := hS.2.2.2
                refine lv_aload_n hx hb dd_T_blocks_113 rfl (lv_at hl 0 rfl) ?_
                refine x_callVv hC hS (As := []) (rest := []) hT0.1 rfl cv_T_forgetGroup (mt_T_forgetGroup l X hC.2.2.1 hT0  M_9 hm_M_9 _ _ hw) tb_205 rfl rfl ⟨Nat.le_of_ble_eq_true rfl, Nat.le_of_ble_eq_true rfl⟩ rfl hl.1 (Nat.le_of_ble_eq_true rfl) dd_T_blocks_114 ⟨Nat.le_refl _, Nat.le_refl _⟩ rfl (fun M_10 H locs hw hS => ?_)
                have hm_M_10 := hS.2.2.2
                refine lv_aload_n hx hb dd_T_blocks_117 rfl (lv_at hl 0 rfl) ?_
                refine x_get hC hS hT0.1 rfl iw_T 0 (by decide) tb_180 rfl rfl dd_T_blocks_118 ?_
                refine x_get hC hS hT0.2.2.2.2.2.1.1 rfl iw_S 3 (by decide) tb_94 rfl rfl dd_T_blocks_121 ?_
                refine x_get hC hS hT0.2.2.2.2.2.1.2.2.1 rfl iw_G 1 (by decide) tb_64 rfl rfl dd_T_blocks_124 ?_
                exact x_iret hC hS hlocks hr (hm_M_10 (12 + 2) 1) hw dd_T_blocks_127
              · have hw := hw.2 c8
                refine lv_aload_n hx hb dd_T_blocks_75 rfl (lv_at hl 0 rfl) ?_
                refine x_get hC hS hT0.1 rfl iw_T 0 (by decide) tb_180 rfl rfl dd_T_blocks_76 ?_
                refine x_get hC hS hT0.2.2.2.2.2.1.1 rfl iw_S 3 (by decide) tb_94 rfl rfl dd_T_blocks_79 ?_
                refine lv_iload_n hx hb dd_T_blocks_82 rfl (lv_at hl 2 rfl) ?_
                refine lv_iload hx hb dd_T_blocks_83 (lv_at hl 5 rfl) ?_
                refine lv_iload_n hx hb dd_T_blocks_85 rfl (lv_at hl 1 rfl) ?_
                obtain ⟨q11, hw⟩ := hw
                refine x_mul hC dd_T_blocks_86 ?_
                refine lv_iload_n hx hb dd_T_blocks_87 rfl (lv_at hl 1 rfl) ?_
                refine x_iconst hC dd_T_blocks_88 ?_
                refine x_callVv hC hS (As := [.int (iI a2), .int (iI (x5_68 * a1)), .int (iI a1), .int (iI 1)]) (rest := []) hT0.2.2.2.2.2.1.2.2.1 rfl cv_G_widenByKind (mt_G_widenByKind l X hC.2.2.1 (12 + 2) hT0.2.2.2.2.2.1.2.2 a2 ra2 (x5_68 * a1) q11 a1 ra1 1 (rk rfl) M68 hm_M68 _ _ hw) tb_216 rfl rfl ⟨Nat.le_of_ble_eq_true rfl, Nat.le_of_ble_eq_true rfl⟩ rfl hl.1 (Nat.le_of_ble_eq_true rfl) dd_T_blocks_89 ⟨Nat.le_refl _, Nat.le_refl _⟩ rfl (fun M_12 H locs hw hS => ?_)
                have hm_M_12 := hS.2.2.2
                obtain ⟨hr_, hw⟩ := hw
                obtain ⟨v5_92, rv5_92, ev5_92⟩ : ∃ z : Int, inR z ∧ z = x5_68 + 1 := ⟨_, hr_, rfl⟩
                have hw := hw v5_92 ev5_92
                refine lv_iinc (v := iI v5_92) (lv' := [(5, .int (iI v5_92)), (0, .ref (xA X 0)), (1, .int (iI a1)), (2, .int (iI a2)), (3, .int (iI a3)), (4, .int (iI v4_53))]) hx hb dd_T_blocks_92 hl (k := 5) rfl (by rw [ev5_92]; exact iI_add _ _) (by decide) rfl (fun ls hl => ?_)
                refine lv_goto (tgt := 68) hx hb dd_T_blocks_95 (by decide) ?_
                obtain ⟨k_13, h14, hI⟩ := hw
                exact ih_I68 k_13 h14 v5_92 M_12 _ _ _ hI rv5_92 hS (lv_sub hl [1, 2, 3, 4, 5, 0] rfl)
          exact lp_I68 n0 0 M_7 _ _ _ hI (rk rfl) hS (lv_sub hl [2, 3, 4, 5, 1, 0] rfl)
        · have hw := hw.2 c5
          refine x_bipush hC dd_T_blocks_41 (by decide) ?_
          exact x_iret hC hS hlocks hr (rk rfl) hw dd_T_blocks_43
def wp_T_join (M : Mm) (post : Int → Mm → Prop) : Prop :=
  wp_D_toldTurn (M 12 0) M (fun (r11 : Int) => (0 ≤ r11 → ∀ M_2 : Mm, M_2 = ms M 2 1 0 → wp_G_has (12 + 2) r11 M_2 (fun (r38 : Int) => ∀ K59 : Mm → Prop, (∀ (M59 : Mm), (post (M59 (12 + 2) 1) M59) →
      K59 M59) →
    ((¬ r38 = 0 → K59 M_2) ∧
    (r38 = 0 → wp_G_widen (12 + 2) r11 M_2 (fun (M_4 : Mm) => wp_T_forgetGroup M_4 (fun (M_5 : Mm) => K59 M_5)))))) ∧
  (¬ 0 ≤ r11 → post (-7) M))
set_option maxHeartbeats 4000000 in
set_option maxRecDepth 100000 in
theorem mt_T_join (l : Launch) (X : Xw) (hlc : lcl X)(hT0 : IsT X) (M : Mm) (hm_M : mr M) (post : Int → Mm → Prop) (sz : Nat) (hw : wp_T_join M post) : Met l yy_T_join (Cond.code yy_T_join bc_T_join 2 (some .int) :: tg) ({ frames := 5, cells := 0, slots := 0, locals := 116 } : Room) (Pw X [.ref (xA X 0)] M sz) (Qi X sz post) 0 0 (xF X sz) := by
  unfold wp_T_join at hw
  refine x_enter (by decide) hlc hm_M (Nat.le_of_ble_eq_true rfl) ?_
  intro p e s m below meth c ls hC hsz hr hlocks hS hl
  have hx := hC.1.1
  have hb := hC.1.2.1
  have hl : lv_has ls 2 [(0, .ref (xA X 0))] := hl
  refine lv_aload_n hx hb dd_T_join_0 rfl (lv_at hl 0 rfl) ?_
  refine x_get hC hS hT0.1 rfl iw_T 3 (by decide) tb_183 rfl rfl dd_T_join_1 ?_
  refine lv_aload_n hx hb dd_T_join_4 rfl (lv_at hl 0 rfl) ?_
  refine x_get hC hS hT0.1 rfl iw_T 0 (by decide) tb_180 rfl rfl dd_T_join_5 ?_
  refine x_get hC hS hT0.2.2.2.2.2.1.1 rfl iw_S 0 (by decide) tb_84 rfl rfl dd_T_join_8 ?_
  refine x_callVi hC hS (As := [.int (iI (M 12 0))]) (rest := []) hT0.2.2.1.1 rfl cv_D_toldTurn (mt_D_toldTurn l X hC.2.2.1 hT0.2.2.1 (M 12 0) (hm_M 12 0) M hm_M _ _ hw) tb_256 rfl rfl ⟨Nat.le_of_ble_eq_true rfl, Nat.le_of_ble_eq_true rfl⟩ rfl hl.1 (Nat.le_of_ble_eq_true rfl) dd_T_join_11 ⟨Nat.le_refl _, Nat.le_refl _⟩ rfl (fun r11 Mx H locs rr11 hp hS => ?_)
  obtain ⟨hq, hw⟩ := hp
  rw [hq] at hS
  refine lv_istore_n (lv' := [(1, .int (iI r11)), (0, .ref (xA X 0))]) hx hb dd_T_join_14 rfl hl (by decide) rfl (fun ls hl => ?_)
  refine lv_iload_n hx hb dd_T_join_15 rfl (lv_at hl 0 rfl) ?_
  refine x_if_ge hC rr11 (tgt := 22) dd_T_join_16 (by decide) (fun c1 => ?_) (fun c1 => ?_)
  · have hw := hw.1 c1
    refine lv_aload_n hx hb dd_T_join_22 rfl (lv_at hl 1 rfl) ?_
    refine x_get hC hS hT0.1 rfl iw_T 3 (by decide) tb_183 rfl rfl dd_T_join_23 ?_
    refine x_iconst hC dd_T_join_26 ?_
    refine x_put hC hS hT0.2.2.1.1 rfl iw_D fy_D fk_D fn_D 1 (by decide) tb_115 rfl (rk rfl) rfl rfl (ps_D_1 _ _ _) (Nat.le_of_ble_eq_true rfl) dd_T_join_27 (fun H locs hS => ?_)
    obtain ⟨M_2, eM_2⟩ : ∃ Z : Mm, Z = ms M 2 1 0 := ⟨_, rfl⟩
    rw [← eM_2] at hS
    have hw := hw M_2 eM_2
    have hm_M_2 := hS.2.2.2
    refine lv_aload_n hx hb dd_T_join_30 rfl (lv_at hl 1 rfl) ?_
    refine x_get hC hS hT0.1 rfl iw_T 0 (by decide) tb_180 rfl rfl dd_T_join_31 ?_
    refine x_get hC hS hT0.2.2.2.2.2.1.1 rfl iw_S 3 (by decide) tb_94 rfl rfl dd_T_join_34 ?_
    refine lv_iload_n hx hb dd_T_join_37 rfl (lv_at hl 0 rfl) ?_
    refine x_callVi hC hS (As := [.int (iI r11)]) (rest := []) hT0.2.2.2.2.2.1.2.2.1 rfl cv_G_has (mt_G_has l X hC.2.2.1 (12 + 2) hT0.2.2.2.2.2.1.2.2 r11 rr11 M_2 hm_M_2 _ _ hw) tb_262 rfl rfl ⟨Nat.le_of_ble_eq_true rfl, Nat.le_of_ble_eq_true rfl⟩ rfl hl.1 (Nat.le_of_ble_eq_true rfl) dd_T_join_38 ⟨Nat.le_refl _, Nat.le_refl _⟩ rfl (fun r38 Mx H locs rr38 hp hS => ?_)
    obtain ⟨hq, hw⟩ := hp
    rw [hq] at hS
    have hw := hw (fun (M59 : Mm) => ∀ (H : Heap) (locs : List Loc) (ls : Array Slot), St X (xF X sz) s M59 H locs → lv_has ls 2 [(0, .ref (xA X 0))] → W p l e ({ frames := 5, cells := 0, slots := 0, locals := 116 } : Room) s m ([.ref (xA X 0)] : List Value).toArray below meth c H locs 0 0 (MQ below (Qi X sz post) ([.ref (xA X 0)] : List Value).toArray s 0 0 (xF X sz)) (F0 m 59 ls [])) (by
        intro M59 hw H locs ls  hS hl
        have hm_M59 := hS.2.2.2
        refine lv_aload_n hx hb dd_T_join_59 rfl (lv_at hl 0 rfl) ?_
        refine x_get hC hS hT0.1 rfl iw_T 0 (by decide) tb_180 rfl rfl dd_T_join_60 ?_
        refine x_get hC hS hT0.2.2.2.2.2.1.1 rfl iw_S 3 (by decide) tb_94 rfl rfl dd_T_join_63 ?_
        refine x_get hC hS hT0.2.2.2.2.2.1.2.2.1 rfl iw_G 1 (by decide) tb_64 rfl rfl dd_T_join_66 ?_
        exact x_iret hC hS hlocks hr (hm_M59 (12 + 2) 1) hw dd_T_join_69)
    refine x_if_ne hC rr38 (tgt := 59) dd_T_join_41 (by decide) (fun c3 => ?_) (fun c3 => ?_)
    · have hw := hw.1 c3
      exact hw _ _ _  hS (lv_sub hl [1] rfl)
    · have hw := hw.2 c3
      refine lv_aload_n hx hb dd_T_join_44 rfl (lv_at hl 1 rfl) ?_
      refine x_get hC hS hT0.1 rfl iw_T 0 (by decide) tb_180 rfl rfl dd_T_join_45 ?_
      refine x_get hC hS hT0.2.2.2.2.2.1.1 rfl iw_S 3 (by decide) tb_94 rfl rfl dd_T_join_48 ?_
      refine lv_iload_n hx hb dd_T_join_51 rfl (lv_at hl 0 rfl) ?_
      refine x_callVv hC hS (As := [.int (iI r11)]) (rest := []) hT0.2.2.2.2.2.1.2.2.1 rfl cv_G_widen (mt_G_widen l X hC.2.2.1 (12 + 2) hT0.2.2.2.2.2.1.2.2 r11 rr11 M_2 hm_M_2 _ _ hw) tb_263 rfl rfl ⟨Nat.le_of_ble_eq_true rfl, Nat.le_of_ble_eq_true rfl⟩ rfl hl.1 (Nat.le_of_ble_eq_true rfl) dd_T_join_52 ⟨Nat.le_refl _, Nat.le_refl _⟩ rfl (fun M_4 H locs hw hS => ?_)
      have hm_M_4 := hS.2.2.2
      refine lv_aload_n hx hb dd_T_join_55 rfl (lv_at hl 1 rfl) ?_
      refine x_callVv hC hS (As := []) (rest := []) hT0.1 rfl cv_T_forgetGroup (mt_T_forgetGroup l X hC.2.2.1 hT0  M_4 hm_M_4 _ _ hw) tb_205 rfl rfl ⟨Nat.le_of_ble_eq_true rfl, Nat.le_of_ble_eq_true rfl⟩ rfl hl.1 (Nat.le_of_ble_eq_true rfl) dd_T_join_56 ⟨Nat.le_refl _, Nat.le_refl _⟩ rfl (fun M_5 H locs hw hS => ?_)
      have hm_M_5 := hS.2.2.2
      exact hw _ _ _  hS (lv_sub hl [1] rfl)
  · have hw := hw.2 c1
    refine x_bipush hC dd_T_join_19 (by decide) ?_
    exact x_iret hC hS hlocks hr (rk rfl) hw dd_T_join_21
def wp_T_say (a1 : Int) (M : Mm) (post : Int → Mm → Prop) : Prop :=
  wp_T_isWithin a1 33 126 (fun (r5 : Int) => (¬ r5 = 0 → ((M 2 1) < 7 → (0 ≤ (M 2 1) ∧ (M 2 1) < 7) ∧ ∀ M_4 : Mm, M_4 = ms M 3 ((M 2 1)).toNat a1 → inR ((M_4 2 1) + 1) ∧ ∀ M_6 : Mm, M_6 = ms M_4 2 1 ((M_4 2 1) + 1) → post (M_6 2 1) M_6) ∧
    (¬ (M 2 1) < 7 → post (-4) M)) ∧
  (r5 = 0 → post (-2) M))
set_option maxHeartbeats 4000000 in
set_option maxRecDepth 100000 in
theorem mt_T_say (l : Launch) (X : Xw) (hlc : lcl X)(hT0 : IsT X) (a1 : Int) (ra1 : inR a1) (M : Mm) (hm_M : mr M) (post : Int → Mm → Prop) (sz : Nat) (hw : wp_T_say a1 M post) : Met l yy_T_say (Cond.code yy_T_say bc_T_say 2 (some .int) :: tg) ({ frames := 1, cells := 0, slots := 0, locals := 22 } : Room) (Pw X [.ref (xA X 0), .int (iI a1)] M sz) (Qi X sz post) 0 0 (xF X sz) := by
  unfold wp_T_say at hw
  refine x_enter (by decide) hlc hm_M (Nat.le_of_ble_eq_true rfl) ?_
  intro p e s m below meth c ls hC hsz hr hlocks hS hl
  have hx := hC.1.1
  have hb := hC.1.2.1
  have hl : lv_has ls 2 [(0, .ref (xA X 0)), (1, .int (iI a1))] := hl
  refine lv_iload_n hx hb dd_T_say_0 rfl (lv_at hl 1 rfl) ?_
  refine x_bipush hC dd_T_say_1 (by decide) ?_
  refine x_bipush hC dd_T_say_3 (by decide) ?_
  refine x_callSi hC hS (As := [.int (iI a1), .int (iI 33), .int (iI 126)]) (rest := []) cs_T_isWithin (mt_T_isWithin l X hC.2.2.1  a1 ra1 33 (rk rfl) 126 (rk rfl) M hm_M _ _ hw) tb_203 rfl rfl ⟨Nat.le_of_ble_eq_true rfl, Nat.le_of_ble_eq_true rfl⟩ rfl hl.1 (Nat.le_of_ble_eq_true rfl) dd_T_say_5 ⟨Nat.le_refl _, Nat.le_refl _⟩ rfl (fun r5 Mx H locs rr5 hp hS => ?_)
  obtain ⟨hq, hw⟩ := hp
  rw [hq] at hS
  refine x_if_ne hC rr5 (tgt := 14) dd_T_say_8 (by decide) (fun c1 => ?_) (fun c1 => ?_)
  · have hw := hw.1 c1
    refine lv_aload_n hx hb dd_T_say_14 rfl (lv_at hl 0 rfl) ?_
    refine x_get hC hS hT0.1 rfl iw_T 3 (by decide) tb_183 rfl rfl dd_T_say_15 ?_
    refine x_get hC hS hT0.2.2.1.1 rfl iw_D 1 (by decide) tb_115 rfl rfl dd_T_say_18 ?_
    refine x_bipush hC dd_T_say_21 (by decide) ?_
    refine x_icmp_lt hC (hm_M 2 1) (rk rfl) (tgt := 29) dd_T_say_23 (by decide) (fun c2 => ?_) (fun c2 => ?_)
    · have hw := hw.1 c2
      refine lv_aload_n hx hb dd_T_say_29 rfl (lv_at hl 0 rfl) ?_
      refine x_get hC hS hT0.1 rfl iw_T 3 (by decide) tb_183 rfl rfl dd_T_say_30 ?_
      refine x_get hC hS hT0.2.2.1.1 rfl iw_D 0 (by decide) tb_113 rfl rfl dd_T_say_33 ?_
      refine lv_aload_n hx hb dd_T_say_36 rfl (lv_at hl 0 rfl) ?_
      refine x_get hC hS hT0.1 rfl iw_T 3 (by decide) tb_183 rfl rfl dd_T_say_37 ?_
      refine x_get hC hS hT0.2.2.1.1 rfl iw_D 1 (by decide) tb_115 rfl rfl dd_T_say_40 ?_
      refine lv_iload_n hx hb dd_T_say_43 rfl (lv_at hl 1 rfl) ?_
      obtain ⟨q3, hw⟩ := hw
      refine x_iast hC hS hT0.2.2.1.2 q3 ra1 dd_T_say_44 (fun H locs hS => ?_)
      obtain ⟨M_4, eM_4⟩ : ∃ Z : Mm, Z = ms M 3 ((M 2 1)).toNat a1 := ⟨_, rfl⟩
      rw [← eM_4] at hS
      have hw := hw M_4 eM_4
      have hm_M_4 := hS.2.2.2
      refine lv_aload_n hx hb dd_T_say_45 rfl (lv_at hl 0 rfl) ?_
      refine x_get hC hS hT0.1 rfl iw_T 3 (by decide) tb_183 rfl rfl dd_T_say_46 ?_
      refine lv_dup hx hb dd_T_say_49 rfl ?_
      refine x_get hC hS hT0.2.2.1.1 rfl iw_D 1 (by decide) tb_115 rfl rfl dd_T_say_50 ?_
      refine x_iconst hC dd_T_say_53 ?_
      obtain ⟨q5, hw⟩ := hw
      refine x_add hC dd_T_say_54 ?_
      refine x_put hC hS hT0.2.2.1.1 rfl iw_D fy_D fk_D fn_D 1 (by decide) tb_115 rfl q5 rfl rfl (ps_D_1 _ _ _) (Nat.le_of_ble_eq_true rfl) dd_T_say_55 (fun H locs hS => ?_)
      obtain ⟨M_6, eM_6⟩ : ∃ Z : Mm, Z = ms M_4 2 1 ((M_4 2 1) + 1) := ⟨_, rfl⟩
      rw [← eM_6] at hS
      have hw := hw M_6 eM_6
      have hm_M_6 := hS.2.2.2
      refine lv_aload_n hx hb dd_T_say_58 rfl (lv_at hl 0 rfl) ?_
      refine x_get hC hS hT0.1 rfl iw_T 3 (by decide) tb_183 rfl rfl dd_T_say_59 ?_
      refine x_get hC hS hT0.2.2.1.1 rfl iw_D 1 (by decide) tb_115 rfl rfl dd_T_say_62 ?_
      exact x_iret hC hS hlocks hr (hm_M_6 2 1) hw dd_T_say_65
    · have hw := hw.2 c2
      refine x_bipush hC dd_T_say_26 (by decide) ?_
      exact x_iret hC hS hlocks hr (rk rfl) hw dd_T_say_28
  · have hw := hw.2 c1
    refine x_bipush hC dd_T_say_11 (by decide) ?_
    exact x_iret hC hS hlocks hr (rk rfl) hw dd_T_say_13
def wp_T_wipe (M : Mm) (post : Int → Mm → Prop) : Prop :=
  ∀ v1_7 : Int, v1_7 = (M 2 1) → ∀ M_1 : Mm, M_1 = ms M 2 1 0 → post v1_7 M_1
set_option maxHeartbeats 4000000 in
set_option maxRecDepth 100000 in
theorem mt_T_wipe (l : Launch) (X : Xw) (hlc : lcl X)(hT0 : IsT X) (M : Mm) (hm_M : mr M) (post : Int → Mm → Prop) (sz : Nat) (hw : wp_T_wipe M post) : Met l yy_T_wipe (Cond.code yy_T_wipe bc_T_wipe 2 (some .int) :: tg) ({ frames := 0, cells := 0, slots := 0, locals := 0 } : Room) (Pw X [.ref (xA X 0)] M sz) (Qi X sz post) 0 0 (xF X sz) := by
  unfold wp_T_wipe at hw
  refine x_enter (by decide) hlc hm_M (Nat.le_of_ble_eq_true rfl) ?_
  intro p e s m below meth c ls hC hsz hr hlocks hS hl
  have hx := hC.1.1
  have hb := hC.1.2.1
  have hl : lv_has ls 2 [(0, .ref (xA X 0))] := hl
  refine lv_aload_n hx hb dd_T_wipe_0 rfl (lv_at hl 0 rfl) ?_
  refine x_get hC hS hT0.1 rfl iw_T 3 (by decide) tb_183 rfl rfl dd_T_wipe_1 ?_
  refine x_get hC hS hT0.2.2.1.1 rfl iw_D 1 (by decide) tb_115 rfl rfl dd_T_wipe_4 ?_
  refine x_nm (hm_M 2 1) (fun v1_7 rv1_7 ev1_7 => ?_)
  have hw := hw v1_7 ev1_7
  refine lv_istore_n (lv' := [(1, .int (iI v1_7)), (0, .ref (xA X 0))]) hx hb dd_T_wipe_7 rfl hl (by decide) rfl (fun ls hl => ?_)
  refine lv_aload_n hx hb dd_T_wipe_8 rfl (lv_at hl 1 rfl) ?_
  refine x_get hC hS hT0.1 rfl iw_T 3 (by decide) tb_183 rfl rfl dd_T_wipe_9 ?_
  refine x_iconst hC dd_T_wipe_12 ?_
  refine x_put hC hS hT0.2.2.1.1 rfl iw_D fy_D fk_D fn_D 1 (by decide) tb_115 rfl (rk rfl) rfl rfl (ps_D_1 _ _ _) (Nat.le_of_ble_eq_true rfl) dd_T_wipe_13 (fun H locs hS => ?_)
  obtain ⟨M_1, eM_1⟩ : ∃ Z : Mm, Z = ms M 2 1 0 := ⟨_, rfl⟩
  rw [← eM_1] at hS
  have hw := hw M_1 eM_1
  have hm_M_1 := hS.2.2.2
  refine lv_iload_n hx hb dd_T_wipe_16 rfl (lv_at hl 0 rfl) ?_
  exact x_iret hC hS hlocks hr rv1_7 hw dd_T_wipe_17
def wp_T_turn (a1 : Int) (M : Mm) (post : Int → Prop) : Prop :=
  wp_T_isWithin a1 0 2 (fun (r3 : Int) => (¬ r3 = 0 → wp_D_toldTurn (M 12 0) M (fun (r23 : Int) => (0 ≤ r23 → (¬ a1 = 0 → (¬ a1 = 1 → wp_U_timesTillStill r23 (fun (r78 : Int) => post r78)) ∧
        (a1 = 1 → wp_U_typeOf r23 (M 12 0) (fun (r71 : Int) => post r71))) ∧
      (a1 = 0 → wp_G_has (12 + 2) r23 M (fun (r46 : Int) => (r46 = 0 → post 0) ∧
        (¬ r46 = 0 → post 1)))) ∧
    (¬ 0 ≤ r23 → post (-7)))) ∧
  (r3 = 0 → post (-2)))
set_option maxHeartbeats 4000000 in
set_option maxRecDepth 100000 in
theorem mt_T_turn (l : Launch) (X : Xw) (hlc : lcl X)(hT0 : IsT X) (a1 : Int) (ra1 : inR a1) (M : Mm) (hm_M : mr M) (post : Int → Prop) (sz : Nat) (hw : wp_T_turn a1 M post) : Met l yy_T_turn (Cond.code yy_T_turn bc_T_turn 3 (some .int) :: tg) ({ frames := 3, cells := 0, slots := 0, locals := 73 } : Room) (Pw X [.ref (xA X 0), .int (iI a1)] M sz) (Qi X sz (fun r M1 => M1 = M ∧ post r)) 0 0 (xF X sz) := by
  unfold wp_T_turn at hw
  refine x_enter (by decide) hlc hm_M (Nat.le_of_ble_eq_true rfl) ?_
  intro p e s m below meth c ls hC hsz hr hlocks hS hl
  have hx := hC.1.1
  have hb := hC.1.2.1
  have hl : lv_has ls 3 [(0, .ref (xA X 0)), (1, .int (iI a1))] := hl
  refine lv_iload_n hx hb dd_T_turn_0 rfl (lv_at hl 1 rfl) ?_
  refine x_iconst hC dd_T_turn_1 ?_
  refine x_iconst hC dd_T_turn_2 ?_
  refine x_callSi hC hS (As := [.int (iI a1), .int (iI 0), .int (iI 2)]) (rest := []) cs_T_isWithin (mt_T_isWithin l X hC.2.2.1  a1 ra1 0 (rk rfl) 2 (rk rfl) M hm_M _ _ hw) tb_203 rfl rfl ⟨Nat.le_of_ble_eq_true rfl, Nat.le_of_ble_eq_true rfl⟩ rfl hl.1 (Nat.le_of_ble_eq_true rfl) dd_T_turn_3 ⟨Nat.le_refl _, Nat.le_refl _⟩ rfl (fun r3 Mx H locs rr3 hp hS => ?_)
  obtain ⟨hq, hw⟩ := hp
  rw [hq] at hS
  refine x_if_ne hC rr3 (tgt := 12) dd_T_turn_6 (by decide) (fun c1 => ?_) (fun c1 => ?_)
  · have hw := hw.1 c1
    refine lv_aload_n hx hb dd_T_turn_12 rfl (lv_at hl 0 rfl) ?_
    refine x_get hC hS hT0.1 rfl iw_T 3 (by decide) tb_183 rfl rfl dd_T_turn_13 ?_
    refine lv_aload_n hx hb dd_T_turn_16 rfl (lv_at hl 0 rfl) ?_
    refine x_get hC hS hT0.1 rfl iw_T 0 (by decide) tb_180 rfl rfl dd_T_turn_17 ?_
    refine x_get hC hS hT0.2.2.2.2.2.1.1 rfl iw_S 0 (by decide) tb_84 rfl rfl dd_T_turn_20 ?_
    refine x_callVi hC hS (As := [.int (iI (M 12 0))]) (rest := []) hT0.2.2.1.1 rfl cv_D_toldTurn (mt_D_toldTurn l X hC.2.2.1 hT0.2.2.1 (M 12 0) (hm_M 12 0) M hm_M _ _ hw) tb_256 rfl rfl ⟨Nat.le_of_ble_eq_true rfl, Nat.le_of_ble_eq_true rfl⟩ rfl hl.1 (Nat.le_of_ble_eq_true rfl) dd_T_turn_23 ⟨Nat.le_refl _, Nat.le_refl _⟩ rfl (fun r23 Mx H locs rr23 hp hS => ?_)
    obtain ⟨hq, hw⟩ := hp
    rw [hq] at hS
    refine lv_istore_n (lv' := [(2, .int (iI r23)), (0, .ref (xA X 0)), (1, .int (iI a1))]) hx hb dd_T_turn_26 rfl hl (by decide) rfl (fun ls hl => ?_)
    refine lv_iload_n hx hb dd_T_turn_27 rfl (lv_at hl 0 rfl) ?_
    refine x_if_ge hC rr23 (tgt := 34) dd_T_turn_28 (by decide) (fun c2 => ?_) (fun c2 => ?_)
    · have hw := hw.1 c2
      refine lv_iload_n hx hb dd_T_turn_34 rfl (lv_at hl 2 rfl) ?_
      refine x_if_ne hC ra1 (tgt := 58) dd_T_turn_35 (by decide) (fun c3 => ?_) (fun c3 => ?_)
      · have hw := hw.1 c3
        refine lv_iload_n hx hb dd_T_turn_58 rfl (lv_at hl 2 rfl) ?_
        refine x_iconst hC dd_T_turn_59 ?_
        refine x_icmp_ne hC ra1 (rk rfl) (tgt := 77) dd_T_turn_60 (by decide) (fun c4 => ?_) (fun c4 => ?_)
        · have hw := hw.1 c4
          refine lv_iload_n hx hb dd_T_turn_77 rfl (lv_at hl 0 rfl) ?_
          refine x_callSi hC hS (As := [.int (iI r23)]) (rest := []) cs_U_timesTillStill (mt_U_timesTillStill l X hC.2.2.1  r23 rr23 M hm_M _ _ hw) tb_282 rfl rfl ⟨Nat.le_of_ble_eq_true rfl, Nat.le_of_ble_eq_true rfl⟩ rfl hl.1 (Nat.le_of_ble_eq_true rfl) dd_T_turn_78 ⟨Nat.le_refl _, Nat.le_refl _⟩ rfl (fun r78 Mx H locs rr78 hp hS => ?_)
          obtain ⟨hq, hw⟩ := hp
          rw [hq] at hS
          exact x_iret hC hS hlocks hr rr78 ⟨rfl, hw⟩ dd_T_turn_81
        · have hw := hw.2 c4
          refine lv_iload_n hx hb dd_T_turn_63 rfl (lv_at hl 0 rfl) ?_
          refine lv_aload_n hx hb dd_T_turn_64 rfl (lv_at hl 1 rfl) ?_
          refine x_get hC hS hT0.1 rfl iw_T 0 (by decide) tb_180 rfl rfl dd_T_turn_65 ?_
          refine x_get hC hS hT0.2.2.2.2.2.1.1 rfl iw_S 0 (by decide) tb_84 rfl rfl dd_T_turn_68 ?_
          refine x_callSi hC hS (As := [.int (iI r23), .int (iI (M 12 0))]) (rest := []) cs_U_typeOf (mt_U_typeOf l X hC.2.2.1  r23 rr23 (M 12 0) (hm_M 12 0) M hm_M _ _ hw) tb_276 rfl rfl ⟨Nat.le_of_ble_eq_true rfl, Nat.le_of_ble_eq_true rfl⟩ rfl hl.1 (Nat.le_of_ble_eq_true rfl) dd_T_turn_71 ⟨Nat.le_refl _, Nat.le_refl _⟩ rfl (fun r71 Mx H locs rr71 hp hS => ?_)
          obtain ⟨hq, hw⟩ := hp
          rw [hq] at hS
          refine lv_goto (tgt := 81) hx hb dd_T_turn_74 (by decide) ?_
          exact x_iret hC hS hlocks hr rr71 ⟨rfl, hw⟩ dd_T_turn_81
      · have hw := hw.2 c3
        refine lv_aload_n hx hb dd_T_turn_38 rfl (lv_at hl 1 rfl) ?_
        refine x_get hC hS hT0.1 rfl iw_T 0 (by decide) tb_180 rfl rfl dd_T_turn_39 ?_
        refine x_get hC hS hT0.2.2.2.2.2.1.1 rfl iw_S 3 (by decide) tb_94 rfl rfl dd_T_turn_42 ?_
        refine lv_iload_n hx hb dd_T_turn_45 rfl (lv_at hl 0 rfl) ?_
        refine x_callVi hC hS (As := [.int (iI r23)]) (rest := []) hT0.2.2.2.2.2.1.2.2.1 rfl cv_G_has (mt_G_has l X hC.2.2.1 (12 + 2) hT0.2.2.2.2.2.1.2.2 r23 rr23 M hm_M _ _ hw) tb_262 rfl rfl ⟨Nat.le_of_ble_eq_true rfl, Nat.le_of_ble_eq_true rfl⟩ rfl hl.1 (Nat.le_of_ble_eq_true rfl) dd_T_turn_46 ⟨Nat.le_refl _, Nat.le_refl _⟩ rfl (fun r46 Mx H locs rr46 hp hS => ?_)
        obtain ⟨hq, hw⟩ := hp
        rw [hq] at hS
        refine x_if_eq hC rr46 (tgt := 56) dd_T_turn_49 (by decide) (fun c5 => ?_) (fun c5 => ?_)
        · have hw := hw.1 c5
          refine x_iconst hC dd_T_turn_56 ?_
          exact x_iret hC hS hlocks hr (rk rfl) ⟨rfl, hw⟩ dd_T_turn_57
        · have hw := hw.2 c5
          refine x_iconst hC dd_T_turn_52 ?_
          refine lv_goto (tgt := 57) hx hb dd_T_turn_53 (by decide) ?_
          exact x_iret hC hS hlocks hr (rk rfl) ⟨rfl, hw⟩ dd_T_turn_57
    · have hw := hw.2 c2
      refine x_bipush hC dd_T_turn_31 (by decide) ?_
      exact x_iret hC hS hlocks hr (rk rfl) ⟨rfl, hw⟩ dd_T_turn_33
  · have hw := hw.2 c1
    refine x_bipush hC dd_T_turn_9 (by decide) ?_
    exact x_iret hC hS hlocks hr (rk rfl) ⟨rfl, hw⟩ dd_T_turn_11
def wp_T_type (a1 : Int) (a2 : Int) (M : Mm) (post : Int → Mm → Prop) : Prop :=
  (a1 < (-1) → post (-2) M) ∧
  (¬ a1 < (-1) → wp_T_isWithin a2 0 1 (fun (r8 : Int) => (¬ r8 = 0 → wp_Y_bringUp 12 M (fun (M_3 : Mm) => (¬ a1 = (-1) → (a1 < (M_3 4 2) → (¬ a2 = 0 → (0 ≤ a1 ∧ a1 < 15) ∧ ∀ z8 : Int, z8 = M_3 6 (a1).toNat → post z8 M_3) ∧
          (a2 = 0 → (0 ≤ a1 ∧ a1 < 15) ∧ ∀ z10 : Int, z10 = M_3 5 (a1).toNat → post z10 M_3)) ∧
        (¬ a1 < (M_3 4 2) → post (-6) M_3)) ∧
      (a1 = (-1) → post (M_3 4 2) M_3))) ∧
    (r8 = 0 → post (-2) M)))
set_option maxHeartbeats 4000000 in
set_option maxRecDepth 100000 in
theorem mt_T_type (l : Launch) (X : Xw) (hlc : lcl X)(hT0 : IsT X) (a1 : Int) (ra1 : inR a1) (a2 : Int) (ra2 : inR a2) (M : Mm) (hm_M : mr M) (post : Int → Mm → Prop) (sz : Nat) (hw : wp_T_type a1 a2 M post) : Met l yy_T_type (Cond.code yy_T_type bc_T_type 3 (some .int) :: tg) ({ frames := 4, cells := 0, slots := 0, locals := 95 } : Room) (Pw X [.ref (xA X 0), .int (iI a1), .int (iI a2)] M sz) (Qi X sz post) 0 0 (xF X sz) := by
  unfold wp_T_type at hw
  refine x_enter (by decide) hlc hm_M (Nat.le_of_ble_eq_true rfl) ?_
  intro p e s m below meth c ls hC hsz hr hlocks hS hl
  have hx := hC.1.1
  have hb := hC.1.2.1
  have hl : lv_has ls 3 [(0, .ref (xA X 0)), (1, .int (iI a1)), (2, .int (iI a2))] := hl
  refine lv_iload_n hx hb dd_T_type_0 rfl (lv_at hl 1 rfl) ?_
  refine x_iconst hC dd_T_type_1 ?_
  refine x_icmp_lt hC ra1 (rk rfl) (tgt := 14) dd_T_type_2 (by decide) (fun c1 => ?_) (fun c1 => ?_)
  · have hw := hw.1 c1
    refine x_bipush hC dd_T_type_14 (by decide) ?_
    exact x_iret hC hS hlocks hr (rk rfl) hw dd_T_type_16
  · have hw := hw.2 c1
    refine lv_iload_n hx hb dd_T_type_5 rfl (lv_at hl 2 rfl) ?_
    refine x_iconst hC dd_T_type_6 ?_
    refine x_iconst hC dd_T_type_7 ?_
    refine x_callSi hC hS (As := [.int (iI a2), .int (iI 0), .int (iI 1)]) (rest := []) cs_T_isWithin (mt_T_isWithin l X hC.2.2.1  a2 ra2 0 (rk rfl) 1 (rk rfl) M hm_M _ _ hw) tb_203 rfl rfl ⟨Nat.le_of_ble_eq_true rfl, Nat.le_of_ble_eq_true rfl⟩ rfl hl.1 (Nat.le_of_ble_eq_true rfl) dd_T_type_8 ⟨Nat.le_refl _, Nat.le_refl _⟩ rfl (fun r8 Mx H locs rr8 hp hS => ?_)
    obtain ⟨hq, hw⟩ := hp
    rw [hq] at hS
    refine x_if_ne hC rr8 (tgt := 17) dd_T_type_11 (by decide) (fun c2 => ?_) (fun c2 => ?_)
    · have hw := hw.1 c2
      refine lv_aload_n hx hb dd_T_type_17 rfl (lv_at hl 0 rfl) ?_
      refine x_get hC hS hT0.1 rfl iw_T 4 (by decide) tb_184 rfl rfl dd_T_type_18 ?_
      refine lv_aload_n hx hb dd_T_type_21 rfl (lv_at hl 0 rfl) ?_
      refine x_get hC hS hT0.1 rfl iw_T 0 (by decide) tb_180 rfl rfl dd_T_type_22 ?_
      refine x_callVv hC hS (As := [.ref (xA X 12)]) (rest := []) hT0.2.2.2.1.1 rfl cv_Y_bringUp (mt_Y_bringUp l X hC.2.2.1 12 hT0.2.2.2.1 hT0.2.2.2.2.2.1  M hm_M _ _ hw) tb_290 rfl rfl ⟨Nat.le_of_ble_eq_true rfl, Nat.le_of_ble_eq_true rfl⟩ rfl hl.1 (Nat.le_of_ble_eq_true rfl) dd_T_type_25 ⟨Nat.le_refl _, Nat.le_refl _⟩ rfl (fun M_3 H locs hw hS => ?_)
      have hm_M_3 := hS.2.2.2
      refine lv_iload_n hx hb dd_T_type_28 rfl (lv_at hl 1 rfl) ?_
      refine x_iconst hC dd_T_type_29 ?_
      refine x_icmp_ne hC ra1 (rk rfl) (tgt := 41) dd_T_type_30 (by decide) (fun c4 => ?_) (fun c4 => ?_)
      · have hw := hw.1 c4
        refine lv_iload_n hx hb dd_T_type_41 rfl (lv_at hl 1 rfl) ?_
        refine lv_aload_n hx hb dd_T_type_42 rfl (lv_at hl 0 rfl) ?_
        refine x_get hC hS hT0.1 rfl iw_T 4 (by decide) tb_184 rfl rfl dd_T_type_43 ?_
        refine x_get hC hS hT0.2.2.2.1.1 rfl iw_Y 2 (by decide) tb_132 rfl rfl dd_T_type_46 ?_
        refine x_icmp_lt hC ra1 (hm_M_3 4 2) (tgt := 55) dd_T_type_49 (by decide) (fun c5 => ?_) (fun c5 => ?_)
        · have hw := hw.1 c5
          refine lv_iload_n hx hb dd_T_type_55 rfl (lv_at hl 2 rfl) ?_
          refine x_if_ne hC ra2 (tgt := 71) dd_T_type_56 (by decide) (fun c6 => ?_) (fun c6 => ?_)
          · have hw := hw.1 c6
            refine lv_aload_n hx hb dd_T_type_71 rfl (lv_at hl 0 rfl) ?_
            refine x_get hC hS hT0.1 rfl iw_T 4 (by decide) tb_184 rfl rfl dd_T_type_72 ?_
            refine x_get hC hS hT0.2.2.2.1.1 rfl iw_Y 1 (by decide) tb_130 rfl rfl dd_T_type_75 ?_
            refine lv_iload_n hx hb dd_T_type_78 rfl (lv_at hl 1 rfl) ?_
            obtain ⟨q7, hw⟩ := hw
            refine x_iald hC hS hT0.2.2.2.1.2.2 q7 dd_T_type_79 ?_
            refine x_nm (hm_M_3 6 _) (fun z8 rz8 ez8 => ?_)
            have hw := hw z8 ez8
            exact x_iret hC hS hlocks hr rz8 hw dd_T_type_80
          · have hw := hw.2 c6
            refine lv_aload_n hx hb dd_T_type_59 rfl (lv_at hl 0 rfl) ?_
            refine x_get hC hS hT0.1 rfl iw_T 4 (by decide) tb_184 rfl rfl dd_T_type_60 ?_
            refine x_get hC hS hT0.2.2.2.1.1 rfl iw_Y 0 (by decide) tb_128 rfl rfl dd_T_type_63 ?_
            refine lv_iload_n hx hb dd_T_type_66 rfl (lv_at hl 1 rfl) ?_
            obtain ⟨q9, hw⟩ := hw
            refine x_iald hC hS hT0.2.2.2.1.2.1 q9 dd_T_type_67 ?_
            refine x_nm (hm_M_3 5 _) (fun z10 rz10 ez10 => ?_)
            have hw := hw z10 ez10
            refine lv_goto (tgt := 80) hx hb dd_T_type_68 (by decide) ?_
            exact x_iret hC hS hlocks hr rz10 hw dd_T_type_80
        · have hw := hw.2 c5
          refine x_bipush hC dd_T_type_52 (by decide) ?_
          exact x_iret hC hS hlocks hr (rk rfl) hw dd_T_type_54
      · have hw := hw.2 c4
        refine lv_aload_n hx hb dd_T_type_33 rfl (lv_at hl 0 rfl) ?_
        refine x_get hC hS hT0.1 rfl iw_T 4 (by decide) tb_184 rfl rfl dd_T_type_34 ?_
        refine x_get hC hS hT0.2.2.2.1.1 rfl iw_Y 2 (by decide) tb_132 rfl rfl dd_T_type_37 ?_
        exact x_iret hC hS hlocks hr (hm_M_3 4 2) hw dd_T_type_40
    · have hw := hw.2 c2
      refine x_bipush hC dd_T_type_14 (by decide) ?_
      exact x_iret hC hS hlocks hr (rk rfl) hw dd_T_type_16
def wp_T_orbit (a1 : Int) (a2 : Int) (M : Mm) (post : Int → Prop) : Prop :=
  inR ((M 12 0) - 1) ∧ wp_T_isWithin a1 0 ((M 12 0) - 1) (fun (r11 : Int) => (¬ r11 = 0 → wp_T_isWithin a2 0 1 (fun (r22 : Int) => (¬ r22 = 0 → (¬ a2 = 0 → wp_G_holding (12 + 2) a1 M (fun (r57 : Int) => post r57)) ∧
      (a2 = 0 → wp_G_reachFrom (12 + 2) a1 M (fun (r43 : Int) => post r43))) ∧
    (r22 = 0 → post (-2)))) ∧
  (r11 = 0 → post (-1)))
set_option maxHeartbeats 4000000 in
set_option maxRecDepth 100000 in
theorem mt_T_orbit (l : Launch) (X : Xw) (hlc : lcl X)(hT0 : IsT X) (a1 : Int) (ra1 : inR a1) (a2 : Int) (ra2 : inR a2) (M : Mm) (hm_M : mr M) (post : Int → Prop) (sz : Nat) (hw : wp_T_orbit a1 a2 M post) : Met l yy_T_orbit (Cond.code yy_T_orbit bc_T_orbit 3 (some .int) :: tg) ({ frames := 2, cells := 0, slots := 0, locals := 44 } : Room) (Pw X [.ref (xA X 0), .int (iI a1), .int (iI a2)] M sz) (Qi X sz (fun r M1 => M1 = M ∧ post r)) 0 0 (xF X sz) := by
  unfold wp_T_orbit at hw
  refine x_enter (by decide) hlc hm_M (Nat.le_of_ble_eq_true rfl) ?_
  intro p e s m below meth c ls hC hsz hr hlocks hS hl
  have hx := hC.1.1
  have hb := hC.1.2.1
  have hl : lv_has ls 3 [(0, .ref (xA X 0)), (1, .int (iI a1)), (2, .int (iI a2))] := hl
  refine lv_iload_n hx hb dd_T_orbit_0 rfl (lv_at hl 1 rfl) ?_
  refine x_iconst hC dd_T_orbit_1 ?_
  refine lv_aload_n hx hb dd_T_orbit_2 rfl (lv_at hl 0 rfl) ?_
  refine x_get hC hS hT0.1 rfl iw_T 0 (by decide) tb_180 rfl rfl dd_T_orbit_3 ?_
  refine x_get hC hS hT0.2.2.2.2.2.1.1 rfl iw_S 0 (by decide) tb_84 rfl rfl dd_T_orbit_6 ?_
  refine x_iconst hC dd_T_orbit_9 ?_
  obtain ⟨q1, hw⟩ := hw
  refine x_sub hC dd_T_orbit_10 ?_
  refine x_callSi hC hS (As := [.int (iI a1), .int (iI 0), .int (iI ((M 12 0) - 1))]) (rest := []) cs_T_isWithin (mt_T_isWithin l X hC.2.2.1  a1 ra1 0 (rk rfl) ((M 12 0) - 1) q1 M hm_M _ _ hw) tb_203 rfl rfl ⟨Nat.le_of_ble_eq_true rfl, Nat.le_of_ble_eq_true rfl⟩ rfl hl.1 (Nat.le_of_ble_eq_true rfl) dd_T_orbit_11 ⟨Nat.le_refl _, Nat.le_refl _⟩ rfl (fun r11 Mx H locs rr11 hp hS => ?_)
  obtain ⟨hq, hw⟩ := hp
  rw [hq] at hS
  refine x_if_ne hC rr11 (tgt := 19) dd_T_orbit_14 (by decide) (fun c2 => ?_) (fun c2 => ?_)
  · have hw := hw.1 c2
    refine lv_iload_n hx hb dd_T_orbit_19 rfl (lv_at hl 2 rfl) ?_
    refine x_iconst hC dd_T_orbit_20 ?_
    refine x_iconst hC dd_T_orbit_21 ?_
    refine x_callSi hC hS (As := [.int (iI a2), .int (iI 0), .int (iI 1)]) (rest := []) cs_T_isWithin (mt_T_isWithin l X hC.2.2.1  a2 ra2 0 (rk rfl) 1 (rk rfl) M hm_M _ _ hw) tb_203 rfl rfl ⟨Nat.le_of_ble_eq_true rfl, Nat.le_of_ble_eq_true rfl⟩ rfl hl.1 (Nat.le_of_ble_eq_true rfl) dd_T_orbit_22 ⟨Nat.le_refl _, Nat.le_refl _⟩ rfl (fun r22 Mx H locs rr22 hp hS => ?_)
    obtain ⟨hq, hw⟩ := hp
    rw [hq] at hS
    refine x_if_ne hC rr22 (tgt := 31) dd_T_orbit_25 (by decide) (fun c3 => ?_) (fun c3 => ?_)
    · have hw := hw.1 c3
      refine lv_iload_n hx hb dd_T_orbit_31 rfl (lv_at hl 2 rfl) ?_
      refine x_if_ne hC ra2 (tgt := 49) dd_T_orbit_32 (by decide) (fun c4 => ?_) (fun c4 => ?_)
      · have hw := hw.1 c4
        refine lv_aload_n hx hb dd_T_orbit_49 rfl (lv_at hl 0 rfl) ?_
        refine x_get hC hS hT0.1 rfl iw_T 0 (by decide) tb_180 rfl rfl dd_T_orbit_50 ?_
        refine x_get hC hS hT0.2.2.2.2.2.1.1 rfl iw_S 3 (by decide) tb_94 rfl rfl dd_T_orbit_53 ?_
        refine lv_iload_n hx hb dd_T_orbit_56 rfl (lv_at hl 1 rfl) ?_
        refine x_callVi hC hS (As := [.int (iI a1)]) (rest := []) hT0.2.2.2.2.2.1.2.2.1 rfl cv_G_holding (mt_G_holding l X hC.2.2.1 (12 + 2) hT0.2.2.2.2.2.1.2.2 a1 ra1 M hm_M _ _ hw) tb_313 rfl rfl ⟨Nat.le_of_ble_eq_true rfl, Nat.le_of_ble_eq_true rfl⟩ rfl hl.1 (Nat.le_of_ble_eq_true rfl) dd_T_orbit_57 ⟨Nat.le_refl _, Nat.le_refl _⟩ rfl (fun r57 Mx H locs rr57 hp hS => ?_)
        obtain ⟨hq, hw⟩ := hp
        rw [hq] at hS
        exact x_iret hC hS hlocks hr rr57 ⟨rfl, hw⟩ dd_T_orbit_60
      · have hw := hw.2 c4
        refine lv_aload_n hx hb dd_T_orbit_35 rfl (lv_at hl 0 rfl) ?_
        refine x_get hC hS hT0.1 rfl iw_T 0 (by decide) tb_180 rfl rfl dd_T_orbit_36 ?_
        refine x_get hC hS hT0.2.2.2.2.2.1.1 rfl iw_S 3 (by decide) tb_94 rfl rfl dd_T_orbit_39 ?_
        refine lv_iload_n hx hb dd_T_orbit_42 rfl (lv_at hl 1 rfl) ?_
        refine x_callVi hC hS (As := [.int (iI a1)]) (rest := []) hT0.2.2.2.2.2.1.2.2.1 rfl cv_G_reachFrom (mt_G_reachFrom l X hC.2.2.1 (12 + 2) hT0.2.2.2.2.2.1.2.2 a1 ra1 M hm_M _ _ hw) tb_307 rfl rfl ⟨Nat.le_of_ble_eq_true rfl, Nat.le_of_ble_eq_true rfl⟩ rfl hl.1 (Nat.le_of_ble_eq_true rfl) dd_T_orbit_43 ⟨Nat.le_refl _, Nat.le_refl _⟩ rfl (fun r43 Mx H locs rr43 hp hS => ?_)
        obtain ⟨hq, hw⟩ := hp
        rw [hq] at hS
        refine lv_goto (tgt := 60) hx hb dd_T_orbit_46 (by decide) ?_
        exact x_iret hC hS hlocks hr rr43 ⟨rfl, hw⟩ dd_T_orbit_60
    · have hw := hw.2 c3
      refine x_bipush hC dd_T_orbit_28 (by decide) ?_
      exact x_iret hC hS hlocks hr (rk rfl) ⟨rfl, hw⟩ dd_T_orbit_30
  · have hw := hw.2 c2
    refine x_iconst hC dd_T_orbit_17 ?_
    exact x_iret hC hS hlocks hr (rk rfl) ⟨rfl, hw⟩ dd_T_orbit_18
def wp_T_sorts (a1 : Int) (M : Mm) (post : Int → Mm → Prop) : Prop :=
  wp_T_isWithin a1 1 4 (fun (r3 : Int) => (¬ r3 = 0 → ∀ v2_19 : Int, v2_19 = (M 12 1) → ∀ M_2 : Mm, M_2 = ms M 12 1 a1 → ∀ M_3 : Mm, M_3 = ms M_2 7 8 0 → post v2_19 M_3) ∧
  (r3 = 0 → post (-2) M))
set_option maxHeartbeats 4000000 in
set_option maxRecDepth 100000 in
theorem mt_T_sorts (l : Launch) (X : Xw) (hlc : lcl X)(hT0 : IsT X) (a1 : Int) (ra1 : inR a1) (M : Mm) (hm_M : mr M) (post : Int → Mm → Prop) (sz : Nat) (hw : wp_T_sorts a1 M post) : Met l yy_T_sorts (Cond.code yy_T_sorts bc_T_sorts 3 (some .int) :: tg) ({ frames := 1, cells := 0, slots := 0, locals := 22 } : Room) (Pw X [.ref (xA X 0), .int (iI a1)] M sz) (Qi X sz post) 0 0 (xF X sz) := by
  unfold wp_T_sorts at hw
  refine x_enter (by decide) hlc hm_M (Nat.le_of_ble_eq_true rfl) ?_
  intro p e s m below meth c ls hC hsz hr hlocks hS hl
  have hx := hC.1.1
  have hb := hC.1.2.1
  have hl : lv_has ls 3 [(0, .ref (xA X 0)), (1, .int (iI a1))] := hl
  refine lv_iload_n hx hb dd_T_sorts_0 rfl (lv_at hl 1 rfl) ?_
  refine x_iconst hC dd_T_sorts_1 ?_
  refine x_iconst hC dd_T_sorts_2 ?_
  refine x_callSi hC hS (As := [.int (iI a1), .int (iI 1), .int (iI 4)]) (rest := []) cs_T_isWithin (mt_T_isWithin l X hC.2.2.1  a1 ra1 1 (rk rfl) 4 (rk rfl) M hm_M _ _ hw) tb_203 rfl rfl ⟨Nat.le_of_ble_eq_true rfl, Nat.le_of_ble_eq_true rfl⟩ rfl hl.1 (Nat.le_of_ble_eq_true rfl) dd_T_sorts_3 ⟨Nat.le_refl _, Nat.le_refl _⟩ rfl (fun r3 Mx H locs rr3 hp hS => ?_)
  obtain ⟨hq, hw⟩ := hp
  rw [hq] at hS
  refine x_if_ne hC rr3 (tgt := 12) dd_T_sorts_6 (by decide) (fun c1 => ?_) (fun c1 => ?_)
  · have hw := hw.1 c1
    refine lv_aload_n hx hb dd_T_sorts_12 rfl (lv_at hl 0 rfl) ?_
    refine x_get hC hS hT0.1 rfl iw_T 0 (by decide) tb_180 rfl rfl dd_T_sorts_13 ?_
    refine x_get hC hS hT0.2.2.2.2.2.1.1 rfl iw_S 1 (by decide) tb_89 rfl rfl dd_T_sorts_16 ?_
    refine x_nm (hm_M 12 1) (fun v2_19 rv2_19 ev2_19 => ?_)
    have hw := hw v2_19 ev2_19
    refine lv_istore_n (lv' := [(2, .int (iI v2_19)), (0, .ref (xA X 0)), (1, .int (iI a1))]) hx hb dd_T_sorts_19 rfl hl (by decide) rfl (fun ls hl => ?_)
    refine lv_aload_n hx hb dd_T_sorts_20 rfl (lv_at hl 1 rfl) ?_
    refine x_get hC hS hT0.1 rfl iw_T 0 (by decide) tb_180 rfl rfl dd_T_sorts_21 ?_
    refine lv_iload_n hx hb dd_T_sorts_24 rfl (lv_at hl 2 rfl) ?_
    refine x_put hC hS hT0.2.2.2.2.2.1.1 rfl iw_S fy_S fk_S fn_S 1 (by decide) tb_89 rfl ra1 rfl rfl (ps_S_1 _ _ _ _) (Nat.le_of_ble_eq_true rfl) dd_T_sorts_25 (fun H locs hS => ?_)
    obtain ⟨M_2, eM_2⟩ : ∃ Z : Mm, Z = ms M 12 1 a1 := ⟨_, rfl⟩
    rw [← eM_2] at hS
    have hw := hw M_2 eM_2
    have hm_M_2 := hS.2.2.2
    refine lv_aload_n hx hb dd_T_sorts_28 rfl (lv_at hl 1 rfl) ?_
    refine x_get hC hS hT0.1 rfl iw_T 5 (by decide) tb_185 rfl rfl dd_T_sorts_29 ?_
    refine x_iconst hC dd_T_sorts_32 ?_
    refine x_put hC hS hT0.2.2.2.2.1.1 rfl iw_P fy_P fk_P fn_P 8 (by decide) tb_160 rfl (rk rfl) rfl rfl (ps_P_8 _ _ _) (Nat.le_of_ble_eq_true rfl) dd_T_sorts_33 (fun H locs hS => ?_)
    obtain ⟨M_3, eM_3⟩ : ∃ Z : Mm, Z = ms M_2 7 8 0 := ⟨_, rfl⟩
    rw [← eM_3] at hS
    have hw := hw M_3 eM_3
    have hm_M_3 := hS.2.2.2
    refine lv_iload_n hx hb dd_T_sorts_36 rfl (lv_at hl 0 rfl) ?_
    exact x_iret hC hS hlocks hr rv2_19 hw dd_T_sorts_37
  · have hw := hw.2 c1
    refine x_bipush hC dd_T_sorts_9 (by decide) ?_
    exact x_iret hC hS hlocks hr (rk rfl) hw dd_T_sorts_11
def wp_T_weight (a1 : Int) (a2 : Int) (M : Mm) (post : Int → Mm → Prop) : Prop :=
  wp_T_isWithin a1 0 3 (fun (r3 : Int) => (¬ r3 = 0 → wp_T_isWithin a2 0 9 (fun (r15 : Int) => (¬ r15 = 0 → (0 ≤ a1 ∧ a1 < 4) ∧ ∀ z4 : Int, z4 = M (12 + 1) (a1).toNat → (0 ≤ a1 ∧ a1 < 4) ∧ ∀ M_6 : Mm, M_6 = ms M (12 + 1) (a1).toNat a2 → post z4 M_6) ∧
    (r15 = 0 → post (-2) M))) ∧
  (r3 = 0 → post (-1) M))
set_option maxHeartbeats 4000000 in
set_option maxRecDepth 100000 in
theorem mt_T_weight (l : Launch) (X : Xw) (hlc : lcl X)(hT0 : IsT X) (a1 : Int) (ra1 : inR a1) (a2 : Int) (ra2 : inR a2) (M : Mm) (hm_M : mr M) (post : Int → Mm → Prop) (sz : Nat) (hw : wp_T_weight a1 a2 M post) : Met l yy_T_weight (Cond.code yy_T_weight bc_T_weight 4 (some .int) :: tg) ({ frames := 1, cells := 0, slots := 0, locals := 22 } : Room) (Pw X [.ref (xA X 0), .int (iI a1), .int (iI a2)] M sz) (Qi X sz post) 0 0 (xF X sz) := by
  unfold wp_T_weight at hw
  refine x_enter (by decide) hlc hm_M (Nat.le_of_ble_eq_true rfl) ?_
  intro p e s m below meth c ls hC hsz hr hlocks hS hl
  have hx := hC.1.1
  have hb := hC.1.2.1
  have hl : lv_has ls 4 [(0, .ref (xA X 0)), (1, .int (iI a1)), (2, .int (iI a2))] := hl
  refine lv_iload_n hx hb dd_T_weight_0 rfl (lv_at hl 1 rfl) ?_
  refine x_iconst hC dd_T_weight_1 ?_
  refine x_iconst hC dd_T_weight_2 ?_
  refine x_callSi hC hS (As := [.int (iI a1), .int (iI 0), .int (iI 3)]) (rest := []) cs_T_isWithin (mt_T_isWithin l X hC.2.2.1  a1 ra1 0 (rk rfl) 3 (rk rfl) M hm_M _ _ hw) tb_203 rfl rfl ⟨Nat.le_of_ble_eq_true rfl, Nat.le_of_ble_eq_true rfl⟩ rfl hl.1 (Nat.le_of_ble_eq_true rfl) dd_T_weight_3 ⟨Nat.le_refl _, Nat.le_refl _⟩ rfl (fun r3 Mx H locs rr3 hp hS => ?_)
  obtain ⟨hq, hw⟩ := hp
  rw [hq] at hS
  refine x_if_ne hC rr3 (tgt := 11) dd_T_weight_6 (by decide) (fun c1 => ?_) (fun c1 => ?_)
  · have hw := hw.1 c1
    refine lv_iload_n hx hb dd_T_weight_11 rfl (lv_at hl 2 rfl) ?_
    refine x_iconst hC dd_T_weight_12 ?_
    refine x_bipush hC dd_T_weight_13 (by decide) ?_
    refine x_callSi hC hS (As := [.int (iI a2), .int (iI 0), .int (iI 9)]) (rest := []) cs_T_isWithin (mt_T_isWithin l X hC.2.2.1  a2 ra2 0 (rk rfl) 9 (rk rfl) M hm_M _ _ hw) tb_203 rfl rfl ⟨Nat.le_of_ble_eq_true rfl, Nat.le_of_ble_eq_true rfl⟩ rfl hl.1 (Nat.le_of_ble_eq_true rfl) dd_T_weight_15 ⟨Nat.le_refl _, Nat.le_refl _⟩ rfl (fun r15 Mx H locs rr15 hp hS => ?_)
    obtain ⟨hq, hw⟩ := hp
    rw [hq] at hS
    refine x_if_ne hC rr15 (tgt := 24) dd_T_weight_18 (by decide) (fun c2 => ?_) (fun c2 => ?_)
    · have hw := hw.1 c2
      refine lv_aload_n hx hb dd_T_weight_24 rfl (lv_at hl 0 rfl) ?_
      refine x_get hC hS hT0.1 rfl iw_T 0 (by decide) tb_180 rfl rfl dd_T_weight_25 ?_
      refine x_get hC hS hT0.2.2.2.2.2.1.1 rfl iw_S 2 (by decide) tb_91 rfl rfl dd_T_weight_28 ?_
      refine lv_iload_n hx hb dd_T_weight_31 rfl (lv_at hl 1 rfl) ?_
      obtain ⟨q3, hw⟩ := hw
      refine x_iald hC hS hT0.2.2.2.2.2.1.2.1 q3 dd_T_weight_32 ?_
      refine x_nm (hm_M (12 + 1) _) (fun z4 rz4 ez4 => ?_)
      have hw := hw z4 ez4
      refine lv_istore_n (lv' := [(3, .int (iI z4)), (0, .ref (xA X 0)), (1, .int (iI a1)), (2, .int (iI a2))]) hx hb dd_T_weight_33 rfl hl (by decide) rfl (fun ls hl => ?_)
      refine lv_aload_n hx hb dd_T_weight_34 rfl (lv_at hl 1 rfl) ?_
      refine x_get hC hS hT0.1 rfl iw_T 0 (by decide) tb_180 rfl rfl dd_T_weight_35 ?_
      refine x_get hC hS hT0.2.2.2.2.2.1.1 rfl iw_S 2 (by decide) tb_91 rfl rfl dd_T_weight_38 ?_
      refine lv_iload_n hx hb dd_T_weight_41 rfl (lv_at hl 2 rfl) ?_
      refine lv_iload_n hx hb dd_T_weight_42 rfl (lv_at hl 3 rfl) ?_
      obtain ⟨q5, hw⟩ := hw
      refine x_iast hC hS hT0.2.2.2.2.2.1.2.1 q5 ra2 dd_T_weight_43 (fun H locs hS => ?_)
      obtain ⟨M_6, eM_6⟩ : ∃ Z : Mm, Z = ms M (12 + 1) (a1).toNat a2 := ⟨_, rfl⟩
      rw [← eM_6] at hS
      have hw := hw M_6 eM_6
      have hm_M_6 := hS.2.2.2
      refine lv_iload_n hx hb dd_T_weight_44 rfl (lv_at hl 0 rfl) ?_
      exact x_iret hC hS hlocks hr rz4 hw dd_T_weight_45
    · have hw := hw.2 c2
      refine x_bipush hC dd_T_weight_21 (by decide) ?_
      exact x_iret hC hS hlocks hr (rk rfl) hw dd_T_weight_23
  · have hw := hw.2 c1
    refine x_iconst hC dd_T_weight_9 ?_
    exact x_iret hC hS hlocks hr (rk rfl) hw dd_T_weight_10
def wp_T_patterns (a1 : Int) (M : Mm) (post : Int → Mm → Prop) : Prop :=
  wp_T_isWithin a1 (-1) 63 (fun (r4 : Int) => (¬ r4 = 0 → wp_P_bringUp 12 M (fun (M_2 : Mm) => (¬ a1 = (-1) → wp_P_amountOfWeight 12 a1 M_2 (fun (r48 : Int) => post r48 M_2)) ∧
    (a1 = (-1) → post (M_2 7 7) M_2))) ∧
  (r4 = 0 → post (-2) M))
set_option maxHeartbeats 4000000 in
set_option maxRecDepth 100000 in
theorem mt_T_patterns (l : Launch) (X : Xw) (hlc : lcl X)(hT0 : IsT X) (a1 : Int) (ra1 : inR a1) (M : Mm) (hm_M : mr M) (post : Int → Mm → Prop) (sz : Nat) (hw : wp_T_patterns a1 M post) : Met l yy_T_patterns (Cond.code yy_T_patterns bc_T_patterns 2 (some .int) :: tg) ({ frames := 4, cells := 0, slots := 0, locals := 94 } : Room) (Pw X [.ref (xA X 0), .int (iI a1)] M sz) (Qi X sz post) 0 0 (xF X sz) := by
  unfold wp_T_patterns at hw
  refine x_enter (by decide) hlc hm_M (Nat.le_of_ble_eq_true rfl) ?_
  intro p e s m below meth c ls hC hsz hr hlocks hS hl
  have hx := hC.1.1
  have hb := hC.1.2.1
  have hl : lv_has ls 2 [(0, .ref (xA X 0)), (1, .int (iI a1))] := hl
  refine lv_iload_n hx hb dd_T_patterns_0 rfl (lv_at hl 1 rfl) ?_
  refine x_iconst hC dd_T_patterns_1 ?_
  refine x_bipush hC dd_T_patterns_2 (by decide) ?_
  refine x_callSi hC hS (As := [.int (iI a1), .int (iI (-1)), .int (iI 63)]) (rest := []) cs_T_isWithin (mt_T_isWithin l X hC.2.2.1  a1 ra1 (-1) (rk rfl) 63 (rk rfl) M hm_M _ _ hw) tb_203 rfl rfl ⟨Nat.le_of_ble_eq_true rfl, Nat.le_of_ble_eq_true rfl⟩ rfl hl.1 (Nat.le_of_ble_eq_true rfl) dd_T_patterns_4 ⟨Nat.le_refl _, Nat.le_refl _⟩ rfl (fun r4 Mx H locs rr4 hp hS => ?_)
  obtain ⟨hq, hw⟩ := hp
  rw [hq] at hS
  refine x_if_ne hC rr4 (tgt := 13) dd_T_patterns_7 (by decide) (fun c1 => ?_) (fun c1 => ?_)
  · have hw := hw.1 c1
    refine lv_aload_n hx hb dd_T_patterns_13 rfl (lv_at hl 0 rfl) ?_
    refine x_get hC hS hT0.1 rfl iw_T 5 (by decide) tb_185 rfl rfl dd_T_patterns_14 ?_
    refine lv_aload_n hx hb dd_T_patterns_17 rfl (lv_at hl 0 rfl) ?_
    refine x_get hC hS hT0.1 rfl iw_T 0 (by decide) tb_180 rfl rfl dd_T_patterns_18 ?_
    refine x_callVv hC hS (As := [.ref (xA X 12)]) (rest := []) hT0.2.2.2.2.1.1 rfl cv_P_bringUp (mt_P_bringUp l X hC.2.2.1 12 hT0.2.2.2.2.1 hT0.2.2.2.2.2.1  M hm_M _ _ hw) tb_329 rfl rfl ⟨Nat.le_of_ble_eq_true rfl, Nat.le_of_ble_eq_true rfl⟩ rfl hl.1 (Nat.le_of_ble_eq_true rfl) dd_T_patterns_21 ⟨Nat.le_refl _, Nat.le_refl _⟩ rfl (fun M_2 H locs hw hS => ?_)
    have hm_M_2 := hS.2.2.2
    refine lv_iload_n hx hb dd_T_patterns_24 rfl (lv_at hl 1 rfl) ?_
    refine x_iconst hC dd_T_patterns_25 ?_
    refine x_icmp_ne hC ra1 (rk rfl) (tgt := 39) dd_T_patterns_26 (by decide) (fun c3 => ?_) (fun c3 => ?_)
    · have hw := hw.1 c3
      refine lv_aload_n hx hb dd_T_patterns_39 rfl (lv_at hl 0 rfl) ?_
      refine x_get hC hS hT0.1 rfl iw_T 5 (by decide) tb_185 rfl rfl dd_T_patterns_40 ?_
      refine lv_iload_n hx hb dd_T_patterns_43 rfl (lv_at hl 1 rfl) ?_
      refine lv_aload_n hx hb dd_T_patterns_44 rfl (lv_at hl 0 rfl) ?_
      refine x_get hC hS hT0.1 rfl iw_T 0 (by decide) tb_180 rfl rfl dd_T_patterns_45 ?_
      refine x_callVi hC hS (As := [.int (iI a1), .ref (xA X 12)]) (rest := []) hT0.2.2.2.2.1.1 rfl cv_P_amountOfWeight (mt_P_amountOfWeight l X hC.2.2.1 12 hT0.2.2.2.2.1 hT0.2.2.2.2.2.1 a1 ra1 M_2 hm_M_2 _ _ hw) tb_358 rfl rfl ⟨Nat.le_of_ble_eq_true rfl, Nat.le_of_ble_eq_true rfl⟩ rfl hl.1 (Nat.le_of_ble_eq_true rfl) dd_T_patterns_48 ⟨Nat.le_refl _, Nat.le_refl _⟩ rfl (fun r48 Mx H locs rr48 hp hS => ?_)
      obtain ⟨hq, hw⟩ := hp
      rw [hq] at hS
      exact x_iret hC hS hlocks hr rr48 hw dd_T_patterns_51
    · have hw := hw.2 c3
      refine lv_aload_n hx hb dd_T_patterns_29 rfl (lv_at hl 0 rfl) ?_
      refine x_get hC hS hT0.1 rfl iw_T 5 (by decide) tb_185 rfl rfl dd_T_patterns_30 ?_
      refine x_get hC hS hT0.2.2.2.2.1.1 rfl iw_P 7 (by decide) tb_158 rfl rfl dd_T_patterns_33 ?_
      refine lv_goto (tgt := 51) hx hb dd_T_patterns_36 (by decide) ?_
      exact x_iret hC hS hlocks hr (hm_M_2 7 7) hw dd_T_patterns_51
  · have hw := hw.2 c1
    refine x_bipush hC dd_T_patterns_10 (by decide) ?_
    exact x_iret hC hS hlocks hr (rk rfl) hw dd_T_patterns_12
def wp_T_pattern (a1 : Int) (a2 : Int) (M : Mm) (post : Int → Mm → Prop) : Prop :=
  wp_T_isWithin a2 0 4 (fun (r3 : Int) => (¬ r3 = 0 → wp_P_bringUp 12 M (fun (M_2 : Mm) => inR ((M_2 7 7) - 1) ∧ wp_T_isWithin a1 0 ((M_2 7 7) - 1) (fun (r34 : Int) => (¬ r34 = 0 → wp_P_leastOf a1 M_2 (fun (r48 : Int) => (a2 = 0 → post r48 M_2) ∧
      (a2 = 1 → wp_P_sizeOf a1 M_2 (fun (r91 : Int) => post r91 M_2)) ∧
      (a2 = 2 → wp_S_weightOf 12 r48 M_2 (fun (r100 : Int) => post r100 M_2)) ∧
      (a2 = 3 → wp_P_twinOf 12 a1 M_2 (fun (r113 : Int) => post r113 M_2)) ∧
      ((a2 < 0 ∨ 3 < a2) → wp_S_coloursOf 12 r48 M_2 (fun (r122 : Int) => post r122 M_2)))) ∧
    (r34 = 0 → post (-6) M_2)))) ∧
  (r3 = 0 → post (-2) M))
set_option maxHeartbeats 4000000 in
set_option maxRecDepth 100000 in
theorem mt_T_pattern (l : Launch) (X : Xw) (hlc : lcl X)(hT0 : IsT X) (a1 : Int) (ra1 : inR a1) (a2 : Int) (ra2 : inR a2) (M : Mm) (hm_M : mr M) (post : Int → Mm → Prop) (sz : Nat) (hw : wp_T_pattern a1 a2 M post) : Met l yy_T_pattern (Cond.code yy_T_pattern bc_T_pattern 4 (some .int) :: tg) ({ frames := 4, cells := 0, slots := 0, locals := 94 } : Room) (Pw X [.ref (xA X 0), .int (iI a1), .int (iI a2)] M sz) (Qi X sz post) 0 0 (xF X sz) := by
  unfold wp_T_pattern at hw
  refine x_enter (by decide) hlc hm_M (Nat.le_of_ble_eq_true rfl) ?_
  intro p e s m below meth c ls hC hsz hr hlocks hS hl
  have hx := hC.1.1
  have hb := hC.1.2.1
  have hl : lv_has ls 4 [(0, .ref (xA X 0)), (1, .int (iI a1)), (2, .int (iI a2))] := hl
  refine lv_iload_n hx hb dd_T_pattern_0 rfl (lv_at hl 2 rfl) ?_
  refine x_iconst hC dd_T_pattern_1 ?_
  refine x_iconst hC dd_T_pattern_2 ?_
  refine x_callSi hC hS (As := [.int (iI a2), .int (iI 0), .int (iI 4)]) (rest := []) cs_T_isWithin (mt_T_isWithin l X hC.2.2.1  a2 ra2 0 (rk rfl) 4 (rk rfl) M hm_M _ _ hw) tb_203 rfl rfl ⟨Nat.le_of_ble_eq_true rfl, Nat.le_of_ble_eq_true rfl⟩ rfl hl.1 (Nat.le_of_ble_eq_true rfl) dd_T_pattern_3 ⟨Nat.le_refl _, Nat.le_refl _⟩ rfl (fun r3 Mx H locs rr3 hp hS => ?_)
  obtain ⟨hq, hw⟩ := hp
  rw [hq] at hS
  refine x_if_ne hC rr3 (tgt := 12) dd_T_pattern_6 (by decide) (fun c1 => ?_) (fun c1 => ?_)
  · have hw := hw.1 c1
    refine lv_aload_n hx hb dd_T_pattern_12 rfl (lv_at hl 0 rfl) ?_
    refine x_get hC hS hT0.1 rfl iw_T 5 (by decide) tb_185 rfl rfl dd_T_pattern_13 ?_
    refine lv_aload_n hx hb dd_T_pattern_16 rfl (lv_at hl 0 rfl) ?_
    refine x_get hC hS hT0.1 rfl iw_T 0 (by decide) tb_180 rfl rfl dd_T_pattern_17 ?_
    refine x_callVv hC hS (As := [.ref (xA X 12)]) (rest := []) hT0.2.2.2.2.1.1 rfl cv_P_bringUp (mt_P_bringUp l X hC.2.2.1 12 hT0.2.2.2.2.1 hT0.2.2.2.2.2.1  M hm_M _ _ hw) tb_329 rfl rfl ⟨Nat.le_of_ble_eq_true rfl, Nat.le_of_ble_eq_true rfl⟩ rfl hl.1 (Nat.le_of_ble_eq_true rfl) dd_T_pattern_20 ⟨Nat.le_refl _, Nat.le_refl _⟩ rfl (fun M_2 H locs hw hS => ?_)
    have hm_M_2 := hS.2.2.2
    refine lv_iload_n hx hb dd_T_pattern_23 rfl (lv_at hl 1 rfl) ?_
    refine x_iconst hC dd_T_pattern_24 ?_
    refine lv_aload_n hx hb dd_T_pattern_25 rfl (lv_at hl 0 rfl) ?_
    refine x_get hC hS hT0.1 rfl iw_T 5 (by decide) tb_185 rfl rfl dd_T_pattern_26 ?_
    refine x_get hC hS hT0.2.2.2.2.1.1 rfl iw_P 7 (by decide) tb_158 rfl rfl dd_T_pattern_29 ?_
    refine x_iconst hC dd_T_pattern_32 ?_
    obtain ⟨q3, hw⟩ := hw
    refine x_sub hC dd_T_pattern_33 ?_
    refine x_callSi hC hS (As := [.int (iI a1), .int (iI 0), .int (iI ((M_2 7 7) - 1))]) (rest := []) cs_T_isWithin (mt_T_isWithin l X hC.2.2.1  a1 ra1 0 (rk rfl) ((M_2 7 7) - 1) q3 M_2 hm_M_2 _ _ hw) tb_203 rfl rfl ⟨Nat.le_of_ble_eq_true rfl, Nat.le_of_ble_eq_true rfl⟩ rfl hl.1 (Nat.le_of_ble_eq_true rfl) dd_T_pattern_34 ⟨Nat.le_refl _, Nat.le_refl _⟩ rfl (fun r34 Mx H locs rr34 hp hS => ?_)
    obtain ⟨hq, hw⟩ := hp
    rw [hq] at hS
    refine x_if_ne hC rr34 (tgt := 43) dd_T_pattern_37 (by decide) (fun c4 => ?_) (fun c4 => ?_)
    · have hw := hw.1 c4
      refine lv_aload_n hx hb dd_T_pattern_43 rfl (lv_at hl 0 rfl) ?_
      refine x_get hC hS hT0.1 rfl iw_T 5 (by decide) tb_185 rfl rfl dd_T_pattern_44 ?_
      refine lv_iload_n hx hb dd_T_pattern_47 rfl (lv_at hl 1 rfl) ?_
      refine x_callVi hC hS (As := [.int (iI a1)]) (rest := []) hT0.2.2.2.2.1.1 rfl cv_P_leastOf (mt_P_leastOf l X hC.2.2.1 hT0.2.2.2.2.1 a1 ra1 M_2 hm_M_2 _ _ hw) tb_379 rfl rfl ⟨Nat.le_of_ble_eq_true rfl, Nat.le_of_ble_eq_true rfl⟩ rfl hl.1 (Nat.le_of_ble_eq_true rfl) dd_T_pattern_48 ⟨Nat.le_refl _, Nat.le_refl _⟩ rfl (fun r48 Mx H locs rr48 hp hS => ?_)
      obtain ⟨hq, hw⟩ := hp
      rw [hq] at hS
      refine lv_istore_n (lv' := [(3, .int (iI r48)), (0, .ref (xA X 0)), (1, .int (iI a1)), (2, .int (iI a2))]) hx hb dd_T_pattern_51 rfl hl (by decide) rfl (fun ls hl => ?_)
      refine lv_iload_n hx hb dd_T_pattern_52 rfl (lv_at hl 3 rfl) ?_
      rcases (show a2 = 0 ∨ a2 = 1 ∨ a2 = 2 ∨ a2 = 3 ∨ (a2 < 0 ∨ 3 < a2) by omega) with hc_ | hc_ | hc_ | hc_ | hc_
      · have hw := hw.1 hc_
        refine x_tin hC 0 ra2 hc_ dd_T_pattern_53 (by decide) (by decide) rfl (by decide) (tgt := 84) ?_
        refine lv_iload_n hx hb dd_T_pattern_84 rfl (lv_at hl 0 rfl) ?_
        exact x_iret hC hS hlocks hr rr48 hw dd_T_pattern_85
      · have hw := hw.2.1 hc_
        refine x_tin hC 1 ra2 hc_ dd_T_pattern_53 (by decide) (by decide) rfl (by decide) (tgt := 86) ?_
        refine lv_aload_n hx hb dd_T_pattern_86 rfl (lv_at hl 1 rfl) ?_
        refine x_get hC hS hT0.1 rfl iw_T 5 (by decide) tb_185 rfl rfl dd_T_pattern_87 ?_
        refine lv_iload_n hx hb dd_T_pattern_90 rfl (lv_at hl 2 rfl) ?_
        refine x_callVi hC hS (As := [.int (iI a1)]) (rest := []) hT0.2.2.2.2.1.1 rfl cv_P_sizeOf (mt_P_sizeOf l X hC.2.2.1 hT0.2.2.2.2.1 a1 ra1 M_2 hm_M_2 _ _ hw) tb_380 rfl rfl ⟨Nat.le_of_ble_eq_true rfl, Nat.le_of_ble_eq_true rfl⟩ rfl hl.1 (Nat.le_of_ble_eq_true rfl) dd_T_pattern_91 ⟨Nat.le_refl _, Nat.le_refl _⟩ rfl (fun r91 Mx H locs rr91 hp hS => ?_)
        obtain ⟨hq, hw⟩ := hp
        rw [hq] at hS
        exact x_iret hC hS hlocks hr rr91 hw dd_T_pattern_94
      · have hw := hw.2.2.1 hc_
        refine x_tin hC 2 ra2 hc_ dd_T_pattern_53 (by decide) (by decide) rfl (by decide) (tgt := 95) ?_
        refine lv_aload_n hx hb dd_T_pattern_95 rfl (lv_at hl 1 rfl) ?_
        refine x_get hC hS hT0.1 rfl iw_T 0 (by decide) tb_180 rfl rfl dd_T_pattern_96 ?_
        refine lv_iload_n hx hb dd_T_pattern_99 rfl (lv_at hl 0 rfl) ?_
        refine x_callVi hC hS (As := [.int (iI r48)]) (rest := []) hT0.2.2.2.2.2.1.1 rfl cv_S_weightOf (mt_S_weightOf l X hC.2.2.1 12 hT0.2.2.2.2.2.1 r48 rr48 M_2 hm_M_2 _ _ hw) tb_384 rfl rfl ⟨Nat.le_of_ble_eq_true rfl, Nat.le_of_ble_eq_true rfl⟩ rfl hl.1 (Nat.le_of_ble_eq_true rfl) dd_T_pattern_100 ⟨Nat.le_refl _, Nat.le_refl _⟩ rfl (fun r100 Mx H locs rr100 hp hS => ?_)
        obtain ⟨hq, hw⟩ := hp
        rw [hq] at hS
        exact x_iret hC hS hlocks hr rr100 hw dd_T_pattern_103
      · have hw := hw.2.2.2.1 hc_
        refine x_tin hC 3 ra2 hc_ dd_T_pattern_53 (by decide) (by decide) rfl (by decide) (tgt := 104) ?_
        refine lv_aload_n hx hb dd_T_pattern_104 rfl (lv_at hl 1 rfl) ?_
        refine x_get hC hS hT0.1 rfl iw_T 5 (by decide) tb_185 rfl rfl dd_T_pattern_105 ?_
        refine lv_iload_n hx hb dd_T_pattern_108 rfl (lv_at hl 2 rfl) ?_
        refine lv_aload_n hx hb dd_T_pattern_109 rfl (lv_at hl 1 rfl) ?_
        refine x_get hC hS hT0.1 rfl iw_T 0 (by decide) tb_180 rfl rfl dd_T_pattern_110 ?_
        refine x_callVi hC hS (As := [.int (iI a1), .ref (xA X 12)]) (rest := []) hT0.2.2.2.2.1.1 rfl cv_P_twinOf (mt_P_twinOf l X hC.2.2.1 12 hT0.2.2.2.2.1 hT0.2.2.2.2.2.1 a1 ra1 M_2 hm_M_2 _ _ hw) tb_385 rfl rfl ⟨Nat.le_of_ble_eq_true rfl, Nat.le_of_ble_eq_true rfl⟩ rfl hl.1 (Nat.le_of_ble_eq_true rfl) dd_T_pattern_113 ⟨Nat.le_refl _, Nat.le_refl _⟩ rfl (fun r113 Mx H locs rr113 hp hS => ?_)
        obtain ⟨hq, hw⟩ := hp
        rw [hq] at hS
        exact x_iret hC hS hlocks hr rr113 hw dd_T_pattern_116
      · have hw := hw.2.2.2.2 hc_
        refine x_tout hC ra2 dd_T_pattern_53 hc_ (by decide) (tgt := 117) ?_
        refine lv_aload_n hx hb dd_T_pattern_117 rfl (lv_at hl 1 rfl) ?_
        refine x_get hC hS hT0.1 rfl iw_T 0 (by decide) tb_180 rfl rfl dd_T_pattern_118 ?_
        refine lv_iload_n hx hb dd_T_pattern_121 rfl (lv_at hl 0 rfl) ?_
        refine x_callVi hC hS (As := [.int (iI r48)]) (rest := []) hT0.2.2.2.2.2.1.1 rfl cv_S_coloursOf (mt_S_coloursOf l X hC.2.2.1 12 hT0.2.2.2.2.2.1 r48 rr48 M_2 hm_M_2 _ _ hw) tb_397 rfl rfl ⟨Nat.le_of_ble_eq_true rfl, Nat.le_of_ble_eq_true rfl⟩ rfl hl.1 (Nat.le_of_ble_eq_true rfl) dd_T_pattern_122 ⟨Nat.le_refl _, Nat.le_refl _⟩ rfl (fun r122 Mx H locs rr122 hp hS => ?_)
        obtain ⟨hq, hw⟩ := hp
        rw [hq] at hS
        exact x_iret hC hS hlocks hr rr122 hw dd_T_pattern_125
    · have hw := hw.2 c4
      refine x_bipush hC dd_T_pattern_40 (by decide) ?_
      exact x_iret hC hS hlocks hr (rk rfl) hw dd_T_pattern_42
  · have hw := hw.2 c1
    refine x_bipush hC dd_T_pattern_9 (by decide) ?_
    exact x_iret hC hS hlocks hr (rk rfl) hw dd_T_pattern_11
def wp_T_isNumber (a1 : Int) (M : Mm) (post : Int → Prop) : Prop :=
  wp_S_colourings 12 M (fun (r6 : Int) => inR (r6 - 1) ∧ wp_T_isWithin a1 0 (r6 - 1) (fun (r11 : Int) => (r11 = 0 ∨ r11 = 1) ∧ post r11))
set_option maxHeartbeats 4000000 in
set_option maxRecDepth 100000 in
theorem mt_T_isNumber (l : Launch) (X : Xw) (hlc : lcl X)(hT0 : IsT X) (a1 : Int) (ra1 : inR a1) (M : Mm) (hm_M : mr M) (post : Int → Prop) (sz : Nat) (hw : wp_T_isNumber a1 M post) : Met l yy_T_isNumber (Cond.code yy_T_isNumber bc_T_isNumber 2 (some .boolean) :: tg) ({ frames := 1, cells := 0, slots := 0, locals := 22 } : Room) (Pw X [.ref (xA X 0), .int (iI a1)] M sz) (Qi X sz (fun r M1 => M1 = M ∧ post r)) 0 0 (xF X sz) := by
  unfold wp_T_isNumber at hw
  refine x_enter (by decide) hlc hm_M (Nat.le_of_ble_eq_true rfl) ?_
  intro p e s m below meth c ls hC hsz hr hlocks hS hl
  have hx := hC.1.1
  have hb := hC.1.2.1
  have hl : lv_has ls 2 [(0, .ref (xA X 0)), (1, .int (iI a1))] := hl
  refine lv_iload_n hx hb dd_T_isNumber_0 rfl (lv_at hl 1 rfl) ?_
  refine x_iconst hC dd_T_isNumber_1 ?_
  refine lv_aload_n hx hb dd_T_isNumber_2 rfl (lv_at hl 0 rfl) ?_
  refine x_get hC hS hT0.1 rfl iw_T 0 (by decide) tb_180 rfl rfl dd_T_isNumber_3 ?_
  refine x_callVi hC hS (As := []) (rest := [.int (iI 0), .int (iI a1)]) hT0.2.2.2.2.2.1.1 rfl cv_S_colourings (mt_S_colourings l X hC.2.2.1 12 hT0.2.2.2.2.2.1  M hm_M _ _ hw) tb_410 rfl rfl ⟨Nat.le_of_ble_eq_true rfl, Nat.le_of_ble_eq_true rfl⟩ rfl hl.1 (Nat.le_of_ble_eq_true rfl) dd_T_isNumber_6 ⟨Nat.le_refl _, Nat.le_refl _⟩ rfl (fun r6 Mx H locs rr6 hp hS => ?_)
  obtain ⟨hq, hw⟩ := hp
  rw [hq] at hS
  refine x_iconst hC dd_T_isNumber_9 ?_
  obtain ⟨q1, hw⟩ := hw
  refine x_sub hC dd_T_isNumber_10 ?_
  refine x_callSi hC hS (As := [.int (iI a1), .int (iI 0), .int (iI (r6 - 1))]) (rest := []) cs_T_isWithin (mt_T_isWithin l X hC.2.2.1  a1 ra1 0 (rk rfl) (r6 - 1) q1 M hm_M _ _ hw) tb_203 rfl rfl ⟨Nat.le_of_ble_eq_true rfl, Nat.le_of_ble_eq_true rfl⟩ rfl hl.1 (Nat.le_of_ble_eq_true rfl) dd_T_isNumber_11 ⟨Nat.le_refl _, Nat.le_refl _⟩ rfl (fun r11 Mx H locs rr11 hp hS => ?_)
  obtain ⟨hq, hw⟩ := hp
  rw [hq] at hS
  exact x_zret hC hS hlocks hr hw.1 ⟨rfl, hw.2⟩ dd_T_isNumber_14
def wp_T_of (a1 : Int) (a2 : Int) (M : Mm) (post : Int → Mm → Prop) : Prop :=
  wp_T_isNumber a1 M (fun (r2 : Int) => (r2 = 0 → post (-2) M) ∧
  (¬ r2 = 0 → wp_T_isWithin a2 0 3 (fun (r11 : Int) => (¬ r11 = 0 → (¬ a2 = 3 → wp_P_bringUp 12 M (fun (M_4 : Mm) => wp_P_patternOf a1 M_4 (fun (r50 : Int) => (¬ a2 = 0 → (¬ a2 = 1 → wp_P_keepersOf (12 + 2) a1 M_4 (fun (r88 : Int) => post r88 M_4)) ∧
          (a2 = 1 → wp_P_leastOf r50 M_4 (fun (r70 : Int) => post r70 M_4))) ∧
        (a2 = 0 → post r50 M_4)))) ∧
      (a2 = 3 → wp_S_mirrored 12 a1 M (fun (r30 : Int) => post r30 M))) ∧
    (r11 = 0 → post (-2) M))))
set_option maxHeartbeats 4000000 in
set_option maxRecDepth 100000 in
theorem mt_T_of (l : Launch) (X : Xw) (hlc : lcl X)(hT0 : IsT X) (a1 : Int) (ra1 : inR a1) (a2 : Int) (ra2 : inR a2) (M : Mm) (hm_M : mr M) (post : Int → Mm → Prop) (sz : Nat) (hw : wp_T_of a1 a2 M post) : Met l yy_T_of (Cond.code yy_T_of bc_T_of 4 (some .int) :: tg) ({ frames := 4, cells := 0, slots := 0, locals := 94 } : Room) (Pw X [.ref (xA X 0), .int (iI a1), .int (iI a2)] M sz) (Qi X sz post) 0 0 (xF X sz) := by
  unfold wp_T_of at hw
  refine x_enter (by decide) hlc hm_M (Nat.le_of_ble_eq_true rfl) ?_
  intro p e s m below meth c ls hC hsz hr hlocks hS hl
  have hx := hC.1.1
  have hb := hC.1.2.1
  have hl : lv_has ls 4 [(0, .ref (xA X 0)), (1, .int (iI a1)), (2, .int (iI a2))] := hl
  refine lv_aload_n hx hb dd_T_of_0 rfl (lv_at hl 0 rfl) ?_
  refine lv_iload_n hx hb dd_T_of_1 rfl (lv_at hl 1 rfl) ?_
  refine x_callVi hC hS (As := [.int (iI a1)]) (rest := []) hT0.1 rfl cv_T_isNumber (mt_T_isNumber l X hC.2.2.1 hT0 a1 ra1 M hm_M _ _ hw) tb_406 rfl rfl ⟨Nat.le_of_ble_eq_true rfl, Nat.le_of_ble_eq_true rfl⟩ rfl hl.1 (Nat.le_of_ble_eq_true rfl) dd_T_of_2 ⟨Nat.le_refl _, Nat.le_refl _⟩ rfl (fun r2 Mx H locs rr2 hp hS => ?_)
  obtain ⟨hq, hw⟩ := hp
  rw [hq] at hS
  refine x_if_eq hC rr2 (tgt := 17) dd_T_of_5 (by decide) (fun c1 => ?_) (fun c1 => ?_)
  · have hw := hw.1 c1
    refine x_bipush hC dd_T_of_17 (by decide) ?_
    exact x_iret hC hS hlocks hr (rk rfl) hw dd_T_of_19
  · have hw := hw.2 c1
    refine lv_iload_n hx hb dd_T_of_8 rfl (lv_at hl 2 rfl) ?_
    refine x_iconst hC dd_T_of_9 ?_
    refine x_iconst hC dd_T_of_10 ?_
    refine x_callSi hC hS (As := [.int (iI a2), .int (iI 0), .int (iI 3)]) (rest := []) cs_T_isWithin (mt_T_isWithin l X hC.2.2.1  a2 ra2 0 (rk rfl) 3 (rk rfl) M hm_M _ _ hw) tb_203 rfl rfl ⟨Nat.le_of_ble_eq_true rfl, Nat.le_of_ble_eq_true rfl⟩ rfl hl.1 (Nat.le_of_ble_eq_true rfl) dd_T_of_11 ⟨Nat.le_refl _, Nat.le_refl _⟩ rfl (fun r11 Mx H locs rr11 hp hS => ?_)
    obtain ⟨hq, hw⟩ := hp
    rw [hq] at hS
    refine x_if_ne hC rr11 (tgt := 20) dd_T_of_14 (by decide) (fun c2 => ?_) (fun c2 => ?_)
    · have hw := hw.1 c2
      refine lv_iload_n hx hb dd_T_of_20 rfl (lv_at hl 2 rfl) ?_
      refine x_iconst hC dd_T_of_21 ?_
      refine x_icmp_ne hC ra2 (rk rfl) (tgt := 34) dd_T_of_22 (by decide) (fun c3 => ?_) (fun c3 => ?_)
      · have hw := hw.1 c3
        refine lv_aload_n hx hb dd_T_of_34 rfl (lv_at hl 0 rfl) ?_
        refine x_get hC hS hT0.1 rfl iw_T 5 (by decide) tb_185 rfl rfl dd_T_of_35 ?_
        refine lv_aload_n hx hb dd_T_of_38 rfl (lv_at hl 0 rfl) ?_
        refine x_get hC hS hT0.1 rfl iw_T 0 (by decide) tb_180 rfl rfl dd_T_of_39 ?_
        refine x_callVv hC hS (As := [.ref (xA X 12)]) (rest := []) hT0.2.2.2.2.1.1 rfl cv_P_bringUp (mt_P_bringUp l X hC.2.2.1 12 hT0.2.2.2.2.1 hT0.2.2.2.2.2.1  M hm_M _ _ hw) tb_329 rfl rfl ⟨Nat.le_of_ble_eq_true rfl, Nat.le_of_ble_eq_true rfl⟩ rfl hl.1 (Nat.le_of_ble_eq_true rfl) dd_T_of_42 ⟨Nat.le_refl _, Nat.le_refl _⟩ rfl (fun M_4 H locs hw hS => ?_)
        have hm_M_4 := hS.2.2.2
        refine lv_aload_n hx hb dd_T_of_45 rfl (lv_at hl 0 rfl) ?_
        refine x_get hC hS hT0.1 rfl iw_T 5 (by decide) tb_185 rfl rfl dd_T_of_46 ?_
        refine lv_iload_n hx hb dd_T_of_49 rfl (lv_at hl 1 rfl) ?_
        refine x_callVi hC hS (As := [.int (iI a1)]) (rest := []) hT0.2.2.2.2.1.1 rfl cv_P_patternOf (mt_P_patternOf l X hC.2.2.1 hT0.2.2.2.2.1 a1 ra1 M_4 hm_M_4 _ _ hw) tb_412 rfl rfl ⟨Nat.le_of_ble_eq_true rfl, Nat.le_of_ble_eq_true rfl⟩ rfl hl.1 (Nat.le_of_ble_eq_true rfl) dd_T_of_50 ⟨Nat.le_refl _, Nat.le_refl _⟩ rfl (fun r50 Mx H locs rr50 hp hS => ?_)
        obtain ⟨hq, hw⟩ := hp
        rw [hq] at hS
        refine lv_istore_n (lv' := [(3, .int (iI r50)), (0, .ref (xA X 0)), (1, .int (iI a1)), (2, .int (iI a2))]) hx hb dd_T_of_53 rfl hl (by decide) rfl (fun ls hl => ?_)
        refine lv_iload_n hx hb dd_T_of_54 rfl (lv_at hl 3 rfl) ?_
        refine x_if_ne hC ra2 (tgt := 60) dd_T_of_55 (by decide) (fun c5 => ?_) (fun c5 => ?_)
        · have hw := hw.1 c5
          refine lv_iload_n hx hb dd_T_of_60 rfl (lv_at hl 3 rfl) ?_
          refine x_iconst hC dd_T_of_61 ?_
          refine x_icmp_ne hC ra2 (rk rfl) (tgt := 76) dd_T_of_62 (by decide) (fun c6 => ?_) (fun c6 => ?_)
          · have hw := hw.1 c6
            refine lv_aload_n hx hb dd_T_of_76 rfl (lv_at hl 1 rfl) ?_
            refine x_get hC hS hT0.1 rfl iw_T 5 (by decide) tb_185 rfl rfl dd_T_of_77 ?_
            refine lv_iload_n hx hb dd_T_of_80 rfl (lv_at hl 2 rfl) ?_
            refine lv_aload_n hx hb dd_T_of_81 rfl (lv_at hl 1 rfl) ?_
            refine x_get hC hS hT0.1 rfl iw_T 0 (by decide) tb_180 rfl rfl dd_T_of_82 ?_
            refine x_get hC hS hT0.2.2.2.2.2.1.1 rfl iw_S 3 (by decide) tb_94 rfl rfl dd_T_of_85 ?_
            refine x_callVi hC hS (As := [.int (iI a1), .ref (xA X (12 + 2))]) (rest := []) hT0.2.2.2.2.1.1 rfl cv_P_keepersOf (mt_P_keepersOf l X hC.2.2.1 (12 + 2) hT0.2.2.2.2.1 hT0.2.2.2.2.2.1.2.2 a1 ra1 M_4 hm_M_4 _ _ hw) tb_413 rfl rfl ⟨Nat.le_of_ble_eq_true rfl, Nat.le_of_ble_eq_true rfl⟩ rfl hl.1 (Nat.le_of_ble_eq_true rfl) dd_T_of_88 ⟨Nat.le_refl _, Nat.le_refl _⟩ rfl (fun r88 Mx H locs rr88 hp hS => ?_)
            obtain ⟨hq, hw⟩ := hp
            rw [hq] at hS
            exact x_iret hC hS hlocks hr rr88 hw dd_T_of_91
          · have hw := hw.2 c6
            refine lv_aload_n hx hb dd_T_of_65 rfl (lv_at hl 1 rfl) ?_
            refine x_get hC hS hT0.1 rfl iw_T 5 (by decide) tb_185 rfl rfl dd_T_of_66 ?_
            refine lv_iload_n hx hb dd_T_of_69 rfl (lv_at hl 0 rfl) ?_
            refine x_callVi hC hS (As := [.int (iI r50)]) (rest := []) hT0.2.2.2.2.1.1 rfl cv_P_leastOf (mt_P_leastOf l X hC.2.2.1 hT0.2.2.2.2.1 r50 rr50 M_4 hm_M_4 _ _ hw) tb_379 rfl rfl ⟨Nat.le_of_ble_eq_true rfl, Nat.le_of_ble_eq_true rfl⟩ rfl hl.1 (Nat.le_of_ble_eq_true rfl) dd_T_of_70 ⟨Nat.le_refl _, Nat.le_refl _⟩ rfl (fun r70 Mx H locs rr70 hp hS => ?_)
            obtain ⟨hq, hw⟩ := hp
            rw [hq] at hS
            refine lv_goto (tgt := 91) hx hb dd_T_of_73 (by decide) ?_
            exact x_iret hC hS hlocks hr rr70 hw dd_T_of_91
        · have hw := hw.2 c5
          refine lv_iload_n hx hb dd_T_of_58 rfl (lv_at hl 0 rfl) ?_
          exact x_iret hC hS hlocks hr rr50 hw dd_T_of_59
      · have hw := hw.2 c3
        refine lv_aload_n hx hb dd_T_of_25 rfl (lv_at hl 0 rfl) ?_
        refine x_get hC hS hT0.1 rfl iw_T 0 (by decide) tb_180 rfl rfl dd_T_of_26 ?_
        refine lv_iload_n hx hb dd_T_of_29 rfl (lv_at hl 1 rfl) ?_
        refine x_callVi hC hS (As := [.int (iI a1)]) (rest := []) hT0.2.2.2.2.2.1.1 rfl cv_S_mirrored (mt_S_mirrored l X hC.2.2.1 12 hT0.2.2.2.2.2.1 a1 ra1 M hm_M _ _ hw) tb_411 rfl rfl ⟨Nat.le_of_ble_eq_true rfl, Nat.le_of_ble_eq_true rfl⟩ rfl hl.1 (Nat.le_of_ble_eq_true rfl) dd_T_of_30 ⟨Nat.le_refl _, Nat.le_refl _⟩ rfl (fun r30 Mx H locs rr30 hp hS => ?_)
        obtain ⟨hq, hw⟩ := hp
        rw [hq] at hS
        exact x_iret hC hS hlocks hr rr30 hw dd_T_of_33
    · have hw := hw.2 c2
      refine x_bipush hC dd_T_of_17 (by decide) ?_
      exact x_iret hC hS hlocks hr (rk rfl) hw dd_T_of_19
def wp_T_kinds (a1 : Int) (M : Mm) (post : Int → Mm → Prop) : Prop :=
  wp_T_isWithin a1 0 3 (fun (r3 : Int) => (¬ r3 = 0 → wp_P_bringUp 12 M (fun (M_2 : Mm) => (a1 = 0 → wp_P_amountHanded 12 M_2 (fun (r60 : Int) => post r60 M_2)) ∧
    (a1 = 1 → wp_P_amountOfAllColours 12 M_2 (fun (r72 : Int) => post r72 M_2)) ∧
    (a1 = 2 → wp_P_amountAlone M_2 (fun (r80 : Int) => post r80 M_2)) ∧
    ((a1 < 0 ∨ 2 < a1) → wp_P_greatestSize M_2 (fun (r88 : Int) => post r88 M_2)))) ∧
  (r3 = 0 → post (-2) M))
set_option maxHeartbeats 4000000 in
set_option maxRecDepth 100000 in
theorem mt_T_kinds (l : Launch) (X : Xw) (hlc : lcl X)(hT0 : IsT X) (a1 : Int) (ra1 : inR a1) (M : Mm) (hm_M : mr M) (post : Int → Mm → Prop) (sz : Nat) (hw : wp_T_kinds a1 M post) : Met l yy_T_kinds (Cond.code yy_T_kinds bc_T_kinds 2 (some .int) :: tg) ({ frames := 5, cells := 0, slots := 0, locals := 112 } : Room) (Pw X [.ref (xA X 0), .int (iI a1)] M sz) (Qi X sz post) 0 0 (xF X sz) := by
  unfold wp_T_kinds at hw
  refine x_enter (by decide) hlc hm_M (Nat.le_of_ble_eq_true rfl) ?_
  intro p e s m below meth c ls hC hsz hr hlocks hS hl
  have hx := hC.1.1
  have hb := hC.1.2.1
  have hl : lv_has ls 2 [(0, .ref (xA X 0)), (1, .int (iI a1))] := hl
  refine lv_iload_n hx hb dd_T_kinds_0 rfl (lv_at hl 1 rfl) ?_
  refine x_iconst hC dd_T_kinds_1 ?_
  refine x_iconst hC dd_T_kinds_2 ?_
  refine x_callSi hC hS (As := [.int (iI a1), .int (iI 0), .int (iI 3)]) (rest := []) cs_T_isWithin (mt_T_isWithin l X hC.2.2.1  a1 ra1 0 (rk rfl) 3 (rk rfl) M hm_M _ _ hw) tb_203 rfl rfl ⟨Nat.le_of_ble_eq_true rfl, Nat.le_of_ble_eq_true rfl⟩ rfl hl.1 (Nat.le_of_ble_eq_true rfl) dd_T_kinds_3 ⟨Nat.le_refl _, Nat.le_refl _⟩ rfl (fun r3 Mx H locs rr3 hp hS => ?_)
  obtain ⟨hq, hw⟩ := hp
  rw [hq] at hS
  refine x_if_ne hC rr3 (tgt := 12) dd_T_kinds_6 (by decide) (fun c1 => ?_) (fun c1 => ?_)
  · have hw := hw.1 c1
    refine lv_aload_n hx hb dd_T_kinds_12 rfl (lv_at hl 0 rfl) ?_
    refine x_get hC hS hT0.1 rfl iw_T 5 (by decide) tb_185 rfl rfl dd_T_kinds_13 ?_
    refine lv_aload_n hx hb dd_T_kinds_16 rfl (lv_at hl 0 rfl) ?_
    refine x_get hC hS hT0.1 rfl iw_T 0 (by decide) tb_180 rfl rfl dd_T_kinds_17 ?_
    refine x_callVv hC hS (As := [.ref (xA X 12)]) (rest := []) hT0.2.2.2.2.1.1 rfl cv_P_bringUp (mt_P_bringUp l X hC.2.2.1 12 hT0.2.2.2.2.1 hT0.2.2.2.2.2.1  M hm_M _ _ hw) tb_329 rfl rfl ⟨Nat.le_of_ble_eq_true rfl, Nat.le_of_ble_eq_true rfl⟩ rfl hl.1 (Nat.le_of_ble_eq_true rfl) dd_T_kinds_20 ⟨Nat.le_refl _, Nat.le_refl _⟩ rfl (fun M_2 H locs hw hS => ?_)
    have hm_M_2 := hS.2.2.2
    refine lv_iload_n hx hb dd_T_kinds_23 rfl (lv_at hl 1 rfl) ?_
    rcases (show a1 = 0 ∨ a1 = 1 ∨ a1 = 2 ∨ (a1 < 0 ∨ 2 < a1) by omega) with hc_ | hc_ | hc_ | hc_
    · have hw := hw.1 hc_
      refine x_tin hC 0 ra1 hc_ dd_T_kinds_24 (by decide) (by decide) rfl (by decide) (tgt := 52) ?_
      refine lv_aload_n hx hb dd_T_kinds_52 rfl (lv_at hl 0 rfl) ?_
      refine x_get hC hS hT0.1 rfl iw_T 5 (by decide) tb_185 rfl rfl dd_T_kinds_53 ?_
      refine lv_aload_n hx hb dd_T_kinds_56 rfl (lv_at hl 0 rfl) ?_
      refine x_get hC hS hT0.1 rfl iw_T 0 (by decide) tb_180 rfl rfl dd_T_kinds_57 ?_
      refine x_callVi hC hS (As := [.ref (xA X 12)]) (rest := []) hT0.2.2.2.2.1.1 rfl cv_P_amountHanded (mt_P_amountHanded l X hC.2.2.1 12 hT0.2.2.2.2.1 hT0.2.2.2.2.2.1  M_2 hm_M_2 _ _ hw) tb_422 rfl rfl ⟨Nat.le_of_ble_eq_true rfl, Nat.le_of_ble_eq_true rfl⟩ rfl hl.1 (Nat.le_of_ble_eq_true rfl) dd_T_kinds_60 ⟨Nat.le_refl _, Nat.le_refl _⟩ rfl (fun r60 Mx H locs rr60 hp hS => ?_)
      obtain ⟨hq, hw⟩ := hp
      rw [hq] at hS
      exact x_iret hC hS hlocks hr rr60 hw dd_T_kinds_63
    · have hw := hw.2.1 hc_
      refine x_tin hC 1 ra1 hc_ dd_T_kinds_24 (by decide) (by decide) rfl (by decide) (tgt := 64) ?_
      refine lv_aload_n hx hb dd_T_kinds_64 rfl (lv_at hl 0 rfl) ?_
      refine x_get hC hS hT0.1 rfl iw_T 5 (by decide) tb_185 rfl rfl dd_T_kinds_65 ?_
      refine lv_aload_n hx hb dd_T_kinds_68 rfl (lv_at hl 0 rfl) ?_
      refine x_get hC hS hT0.1 rfl iw_T 0 (by decide) tb_180 rfl rfl dd_T_kinds_69 ?_
      refine x_callVi hC hS (As := [.ref (xA X 12)]) (rest := []) hT0.2.2.2.2.1.1 rfl cv_P_amountOfAllColours (mt_P_amountOfAllColours l X hC.2.2.1 12 hT0.2.2.2.2.1 hT0.2.2.2.2.2.1  M_2 hm_M_2 _ _ hw) tb_427 rfl rfl ⟨Nat.le_of_ble_eq_true rfl, Nat.le_of_ble_eq_true rfl⟩ rfl hl.1 (Nat.le_of_ble_eq_true rfl) dd_T_kinds_72 ⟨Nat.le_refl _, Nat.le_refl _⟩ rfl (fun r72 Mx H locs rr72 hp hS => ?_)
      obtain ⟨hq, hw⟩ := hp
      rw [hq] at hS
      exact x_iret hC hS hlocks hr rr72 hw dd_T_kinds_75
    · have hw := hw.2.2.1 hc_
      refine x_tin hC 2 ra1 hc_ dd_T_kinds_24 (by decide) (by decide) rfl (by decide) (tgt := 76) ?_
      refine lv_aload_n hx hb dd_T_kinds_76 rfl (lv_at hl 0 rfl) ?_
      refine x_get hC hS hT0.1 rfl iw_T 5 (by decide) tb_185 rfl rfl dd_T_kinds_77 ?_
      refine x_callVi hC hS (As := []) (rest := []) hT0.2.2.2.2.1.1 rfl cv_P_amountAlone (mt_P_amountAlone l X hC.2.2.1 hT0.2.2.2.2.1  M_2 hm_M_2 _ _ hw) tb_432 rfl rfl ⟨Nat.le_of_ble_eq_true rfl, Nat.le_of_ble_eq_true rfl⟩ rfl hl.1 (Nat.le_of_ble_eq_true rfl) dd_T_kinds_80 ⟨Nat.le_refl _, Nat.le_refl _⟩ rfl (fun r80 Mx H locs rr80 hp hS => ?_)
      obtain ⟨hq, hw⟩ := hp
      rw [hq] at hS
      exact x_iret hC hS hlocks hr rr80 hw dd_T_kinds_83
    · have hw := hw.2.2.2 hc_
      refine x_tout hC ra1 dd_T_kinds_24 hc_ (by decide) (tgt := 84) ?_
      refine lv_aload_n hx hb dd_T_kinds_84 rfl (lv_at hl 0 rfl) ?_
      refine x_get hC hS hT0.1 rfl iw_T 5 (by decide) tb_185 rfl rfl dd_T_kinds_85 ?_
      refine x_callVi hC hS (As := []) (rest := []) hT0.2.2.2.2.1.1 rfl cv_P_greatestSize (mt_P_greatestSize l X hC.2.2.1 hT0.2.2.2.2.1  M_2 hm_M_2 _ _ hw) tb_436 rfl rfl ⟨Nat.le_of_ble_eq_true rfl, Nat.le_of_ble_eq_true rfl⟩ rfl hl.1 (Nat.le_of_ble_eq_true rfl) dd_T_kinds_88 ⟨Nat.le_refl _, Nat.le_refl _⟩ rfl (fun r88 Mx H locs rr88 hp hS => ?_)
      obtain ⟨hq, hw⟩ := hp
      rw [hq] at hS
      exact x_iret hC hS hlocks hr rr88 hw dd_T_kinds_91
  · have hw := hw.2 c1
    refine x_bipush hC dd_T_kinds_9 (by decide) ?_
    exact x_iret hC hS hlocks hr (rk rfl) hw dd_T_kinds_11
def wp_T_by (a1 : Int) (a2 : Int) (M : Mm) (post : Int → Mm → Prop) : Prop :=
  wp_T_isNumber a1 M (fun (r2 : Int) => (¬ r2 = 0 → inR ((M 12 0) - 1) ∧ wp_T_isWithin a2 0 ((M 12 0) - 1) (fun (r22 : Int) => (¬ r22 = 0 → wp_P_bringUp 12 M (fun (M_4 : Mm) => wp_P_firstToLeast (12 + 2) a1 M_4 (fun (r53 : Int) => wp_U_goal r53 a2 (fun (r57 : Int) => post r57 M_4)))) ∧
    (r22 = 0 → post (-1) M))) ∧
  (r2 = 0 → post (-2) M))
set_option maxHeartbeats 4000000 in
set_option maxRecDepth 100000 in
theorem mt_T_by (l : Launch) (X : Xw) (hlc : lcl X)(hT0 : IsT X) (a1 : Int) (ra1 : inR a1) (a2 : Int) (ra2 : inR a2) (M : Mm) (hm_M : mr M) (post : Int → Mm → Prop) (sz : Nat) (hw : wp_T_by a1 a2 M post) : Met l yy_T_by (Cond.code yy_T_by bc_T_by 3 (some .int) :: tg) ({ frames := 4, cells := 0, slots := 0, locals := 94 } : Room) (Pw X [.ref (xA X 0), .int (iI a1), .int (iI a2)] M sz) (Qi X sz post) 0 0 (xF X sz) := by
  unfold wp_T_by at hw
  refine x_enter (by decide) hlc hm_M (Nat.le_of_ble_eq_true rfl) ?_
  intro p e s m below meth c ls hC hsz hr hlocks hS hl
  have hx := hC.1.1
  have hb := hC.1.2.1
  have hl : lv_has ls 3 [(0, .ref (xA X 0)), (1, .int (iI a1)), (2, .int (iI a2))] := hl
  refine lv_aload_n hx hb dd_T_by_0 rfl (lv_at hl 0 rfl) ?_
  refine lv_iload_n hx hb dd_T_by_1 rfl (lv_at hl 1 rfl) ?_
  refine x_callVi hC hS (As := [.int (iI a1)]) (rest := []) hT0.1 rfl cv_T_isNumber (mt_T_isNumber l X hC.2.2.1 hT0 a1 ra1 M hm_M _ _ hw) tb_406 rfl rfl ⟨Nat.le_of_ble_eq_true rfl, Nat.le_of_ble_eq_true rfl⟩ rfl hl.1 (Nat.le_of_ble_eq_true rfl) dd_T_by_2 ⟨Nat.le_refl _, Nat.le_refl _⟩ rfl (fun r2 Mx H locs rr2 hp hS => ?_)
  obtain ⟨hq, hw⟩ := hp
  rw [hq] at hS
  refine x_if_ne hC rr2 (tgt := 11) dd_T_by_5 (by decide) (fun c1 => ?_) (fun c1 => ?_)
  · have hw := hw.1 c1
    refine lv_iload_n hx hb dd_T_by_11 rfl (lv_at hl 2 rfl) ?_
    refine x_iconst hC dd_T_by_12 ?_
    refine lv_aload_n hx hb dd_T_by_13 rfl (lv_at hl 0 rfl) ?_
    refine x_get hC hS hT0.1 rfl iw_T 0 (by decide) tb_180 rfl rfl dd_T_by_14 ?_
    refine x_get hC hS hT0.2.2.2.2.2.1.1 rfl iw_S 0 (by decide) tb_84 rfl rfl dd_T_by_17 ?_
    refine x_iconst hC dd_T_by_20 ?_
    obtain ⟨q2, hw⟩ := hw
    refine x_sub hC dd_T_by_21 ?_
    refine x_callSi hC hS (As := [.int (iI a2), .int (iI 0), .int (iI ((M 12 0) - 1))]) (rest := []) cs_T_isWithin (mt_T_isWithin l X hC.2.2.1  a2 ra2 0 (rk rfl) ((M 12 0) - 1) q2 M hm_M _ _ hw) tb_203 rfl rfl ⟨Nat.le_of_ble_eq_true rfl, Nat.le_of_ble_eq_true rfl⟩ rfl hl.1 (Nat.le_of_ble_eq_true rfl) dd_T_by_22 ⟨Nat.le_refl _, Nat.le_refl _⟩ rfl (fun r22 Mx H locs rr22 hp hS => ?_)
    obtain ⟨hq, hw⟩ := hp
    rw [hq] at hS
    refine x_if_ne hC rr22 (tgt := 30) dd_T_by_25 (by decide) (fun c3 => ?_) (fun c3 => ?_)
    · have hw := hw.1 c3
      refine lv_aload_n hx hb dd_T_by_30 rfl (lv_at hl 0 rfl) ?_
      refine x_get hC hS hT0.1 rfl iw_T 5 (by decide) tb_185 rfl rfl dd_T_by_31 ?_
      refine lv_aload_n hx hb dd_T_by_34 rfl (lv_at hl 0 rfl) ?_
      refine x_get hC hS hT0.1 rfl iw_T 0 (by decide) tb_180 rfl rfl dd_T_by_35 ?_
      refine x_callVv hC hS (As := [.ref (xA X 12)]) (rest := []) hT0.2.2.2.2.1.1 rfl cv_P_bringUp (mt_P_bringUp l X hC.2.2.1 12 hT0.2.2.2.2.1 hT0.2.2.2.2.2.1  M hm_M _ _ hw) tb_329 rfl rfl ⟨Nat.le_of_ble_eq_true rfl, Nat.le_of_ble_eq_true rfl⟩ rfl hl.1 (Nat.le_of_ble_eq_true rfl) dd_T_by_38 ⟨Nat.le_refl _, Nat.le_refl _⟩ rfl (fun M_4 H locs hw hS => ?_)
      have hm_M_4 := hS.2.2.2
      refine lv_aload_n hx hb dd_T_by_41 rfl (lv_at hl 0 rfl) ?_
      refine x_get hC hS hT0.1 rfl iw_T 5 (by decide) tb_185 rfl rfl dd_T_by_42 ?_
      refine lv_iload_n hx hb dd_T_by_45 rfl (lv_at hl 1 rfl) ?_
      refine lv_aload_n hx hb dd_T_by_46 rfl (lv_at hl 0 rfl) ?_
      refine x_get hC hS hT0.1 rfl iw_T 0 (by decide) tb_180 rfl rfl dd_T_by_47 ?_
      refine x_get hC hS hT0.2.2.2.2.2.1.1 rfl iw_S 3 (by decide) tb_94 rfl rfl dd_T_by_50 ?_
      refine x_callVi hC hS (As := [.int (iI a1), .ref (xA X (12 + 2))]) (rest := []) hT0.2.2.2.2.1.1 rfl cv_P_firstToLeast (mt_P_firstToLeast l X hC.2.2.1 (12 + 2) hT0.2.2.2.2.1 hT0.2.2.2.2.2.1.2.2 a1 ra1 M_4 hm_M_4 _ _ hw) tb_447 rfl rfl ⟨Nat.le_of_ble_eq_true rfl, Nat.le_of_ble_eq_true rfl⟩ rfl hl.1 (Nat.le_of_ble_eq_true rfl) dd_T_by_53 ⟨Nat.le_refl _, Nat.le_refl _⟩ rfl (fun r53 Mx H locs rr53 hp hS => ?_)
      obtain ⟨hq, hw⟩ := hp
      rw [hq] at hS
      refine lv_iload_n hx hb dd_T_by_56 rfl (lv_at hl 2 rfl) ?_
      refine x_callSi hC hS (As := [.int (iI r53), .int (iI a2)]) (rest := []) cs_U_goal (mt_U_goal l X hC.2.2.1  r53 rr53 a2 ra2 M_4 hm_M_4 _ _ hw) tb_451 rfl rfl ⟨Nat.le_of_ble_eq_true rfl, Nat.le_of_ble_eq_true rfl⟩ rfl hl.1 (Nat.le_of_ble_eq_true rfl) dd_T_by_57 ⟨Nat.le_refl _, Nat.le_refl _⟩ rfl (fun r57 Mx H locs rr57 hp hS => ?_)
      obtain ⟨hq, hw⟩ := hp
      rw [hq] at hS
      exact x_iret hC hS hlocks hr rr57 hw dd_T_by_60
    · have hw := hw.2 c3
      refine x_iconst hC dd_T_by_28 ?_
      exact x_iret hC hS hlocks hr (rk rfl) hw dd_T_by_29
  · have hw := hw.2 c1
    refine x_bipush hC dd_T_by_8 (by decide) ?_
    exact x_iret hC hS hlocks hr (rk rfl) hw dd_T_by_10
def wp_T_image (a1 : Int) (M : Mm) (post : Int → Mm → Prop) : Prop :=
  wp_T_isWithin a1 0 1 (fun (r3 : Int) => (¬ r3 = 0 → (0 ≤ a1 ∧ a1 < 2) ∧ wp_S_copyFrom (18 + 6 * (a1).toNat) 12 M (fun (M_3 : Mm) => ∀ M_4 : Mm, M_4 = ms M_3 0 2 (bOr (M_3 0 2) (bShl 1 a1)) → post 1 M_4)) ∧
  (r3 = 0 → post (-2) M))
set_option maxHeartbeats 4000000 in
set_option maxRecDepth 100000 in
theorem mt_T_image (l : Launch) (X : Xw) (hlc : lcl X)(hT0 : IsT X) (a1 : Int) (ra1 : inR a1) (M : Mm) (hm_M : mr M) (post : Int → Mm → Prop) (sz : Nat) (hw : wp_T_image a1 M post) : Met l yy_T_image (Cond.code yy_T_image bc_T_image 2 (some .int) :: tg) ({ frames := 3, cells := 0, slots := 0, locals := 68 } : Room) (Pw X [.ref (xA X 0), .int (iI a1)] M sz) (Qi X sz post) 0 0 (xF X sz) := by
  unfold wp_T_image at hw
  refine x_enter (by decide) hlc hm_M (Nat.le_of_ble_eq_true rfl) ?_
  intro p e s m below meth c ls hC hsz hr hlocks hS hl
  have hx := hC.1.1
  have hb := hC.1.2.1
  have hl : lv_has ls 2 [(0, .ref (xA X 0)), (1, .int (iI a1))] := hl
  refine lv_iload_n hx hb dd_T_image_0 rfl (lv_at hl 1 rfl) ?_
  refine x_iconst hC dd_T_image_1 ?_
  refine x_iconst hC dd_T_image_2 ?_
  refine x_callSi hC hS (As := [.int (iI a1), .int (iI 0), .int (iI 1)]) (rest := []) cs_T_isWithin (mt_T_isWithin l X hC.2.2.1  a1 ra1 0 (rk rfl) 1 (rk rfl) M hm_M _ _ hw) tb_203 rfl rfl ⟨Nat.le_of_ble_eq_true rfl, Nat.le_of_ble_eq_true rfl⟩ rfl hl.1 (Nat.le_of_ble_eq_true rfl) dd_T_image_3 ⟨Nat.le_refl _, Nat.le_refl _⟩ rfl (fun r3 Mx H locs rr3 hp hS => ?_)
  obtain ⟨hq, hw⟩ := hp
  rw [hq] at hS
  refine x_if_ne hC rr3 (tgt := 12) dd_T_image_6 (by decide) (fun c1 => ?_) (fun c1 => ?_)
  · have hw := hw.1 c1
    refine lv_aload_n hx hb dd_T_image_12 rfl (lv_at hl 0 rfl) ?_
    refine x_get hC hS hT0.1 rfl iw_T 1 (by decide) tb_181 rfl rfl dd_T_image_13 ?_
    refine lv_iload_n hx hb dd_T_image_16 rfl (lv_at hl 1 rfl) ?_
    obtain ⟨q2, hw⟩ := hw
    refine x_aald hC hS hT0.2.1 q2 rfl dd_T_image_17 ?_
    refine lv_aload_n hx hb dd_T_image_18 rfl (lv_at hl 0 rfl) ?_
    refine x_get hC hS hT0.1 rfl iw_T 0 (by decide) tb_180 rfl rfl dd_T_image_19 ?_
    refine x_callVv hC hS (As := [.ref (xA X 12)]) (rest := []) (hT0.2.2.2.2.2.2 (a1).toNat (by omega)).1 rfl cv_S_copyFrom (mt_S_copyFrom l X hC.2.2.1 (18 + 6 * (a1).toNat) 12 (hT0.2.2.2.2.2.2 (a1).toNat (by omega)) hT0.2.2.2.2.2.1  M hm_M _ _ hw) tb_456 rfl rfl ⟨Nat.le_of_ble_eq_true rfl, Nat.le_of_ble_eq_true rfl⟩ rfl hl.1 (Nat.le_of_ble_eq_true rfl) dd_T_image_22 ⟨Nat.le_refl _, Nat.le_refl _⟩ rfl (fun M_3 H locs hw hS => ?_)
    have hm_M_3 := hS.2.2.2
    refine lv_aload_n hx hb dd_T_image_25 rfl (lv_at hl 0 rfl) ?_
    refine lv_dup hx hb dd_T_image_26 rfl ?_
    refine x_get hC hS hT0.1 rfl iw_T 2 (by decide) tb_182 rfl rfl dd_T_image_27 ?_
    refine x_iconst hC dd_T_image_30 ?_
    refine lv_iload_n hx hb dd_T_image_31 rfl (lv_at hl 1 rfl) ?_
    refine x_shl hC dd_T_image_32 ?_
    refine x_or hC dd_T_image_33 ?_
    refine x_put hC hS hT0.1 rfl iw_T fy_T fk_T fn_T 2 (by decide) tb_182 rfl (rng _) rfl rfl (ps_T_2 _ _ _) (Nat.le_of_ble_eq_true rfl) dd_T_image_34 (fun H locs hS => ?_)
    obtain ⟨M_4, eM_4⟩ : ∃ Z : Mm, Z = ms M_3 0 2 (bOr (M_3 0 2) (bShl 1 a1)) := ⟨_, rfl⟩
    rw [← eM_4] at hS
    have hw := hw M_4 eM_4
    have hm_M_4 := hS.2.2.2
    refine x_iconst hC dd_T_image_37 ?_
    exact x_iret hC hS hlocks hr (rk rfl) hw dd_T_image_38
  · have hw := hw.2 c1
    refine x_bipush hC dd_T_image_9 (by decide) ?_
    exact x_iret hC hS hlocks hr (rk rfl) hw dd_T_image_11
def wp_T_restore (a1 : Int) (M : Mm) (post : Int → Mm → Prop) : Prop :=
  wp_T_isWithin a1 0 1 (fun (r3 : Int) => (¬ r3 = 0 → (¬ (bAnd (bShr (M 0 2) a1) 1) = 0 → (0 ≤ a1 ∧ a1 < 2) ∧ wp_S_copyFrom 12 (18 + 6 * (a1).toNat) M (fun (M_4 : Mm) => wp_T_forgetGroup M_4 (fun (M_5 : Mm) => post 1 M_5))) ∧
    ((bAnd (bShr (M 0 2) a1) 1) = 0 → post (-3) M)) ∧
  (r3 = 0 → post (-2) M))
set_option maxHeartbeats 4000000 in
set_option maxRecDepth 100000 in
theorem mt_T_restore (l : Launch) (X : Xw) (hlc : lcl X)(hT0 : IsT X) (a1 : Int) (ra1 : inR a1) (M : Mm) (hm_M : mr M) (post : Int → Mm → Prop) (sz : Nat) (hw : wp_T_restore a1 M post) : Met l yy_T_restore (Cond.code yy_T_restore bc_T_restore 2 (some .int) :: tg) ({ frames := 3, cells := 0, slots := 0, locals := 68 } : Room) (Pw X [.ref (xA X 0), .int (iI a1)] M sz) (Qi X sz post) 0 0 (xF X sz) := by
  unfold wp_T_restore at hw
  refine x_enter (by decide) hlc hm_M (Nat.le_of_ble_eq_true rfl) ?_
  intro p e s m below meth c ls hC hsz hr hlocks hS hl
  have hx := hC.1.1
  have hb := hC.1.2.1
  have hl : lv_has ls 2 [(0, .ref (xA X 0)), (1, .int (iI a1))] := hl
  refine lv_iload_n hx hb dd_T_restore_0 rfl (lv_at hl 1 rfl) ?_
  refine x_iconst hC dd_T_restore_1 ?_
  refine x_iconst hC dd_T_restore_2 ?_
  refine x_callSi hC hS (As := [.int (iI a1), .int (iI 0), .int (iI 1)]) (rest := []) cs_T_isWithin (mt_T_isWithin l X hC.2.2.1  a1 ra1 0 (rk rfl) 1 (rk rfl) M hm_M _ _ hw) tb_203 rfl rfl ⟨Nat.le_of_ble_eq_true rfl, Nat.le_of_ble_eq_true rfl⟩ rfl hl.1 (Nat.le_of_ble_eq_true rfl) dd_T_restore_3 ⟨Nat.le_refl _, Nat.le_refl _⟩ rfl (fun r3 Mx H locs rr3 hp hS => ?_)
  obtain ⟨hq, hw⟩ := hp
  rw [hq] at hS
  refine x_if_ne hC rr3 (tgt := 12) dd_T_restore_6 (by decide) (fun c1 => ?_) (fun c1 => ?_)
  · have hw := hw.1 c1
    refine lv_aload_n hx hb dd_T_restore_12 rfl (lv_at hl 0 rfl) ?_
    refine x_get hC hS hT0.1 rfl iw_T 2 (by decide) tb_182 rfl rfl dd_T_restore_13 ?_
    refine lv_iload_n hx hb dd_T_restore_16 rfl (lv_at hl 1 rfl) ?_
    refine x_shr hC dd_T_restore_17 ?_
    refine x_iconst hC dd_T_restore_18 ?_
    refine x_and hC dd_T_restore_19 ?_
    refine x_if_ne hC (rng _) (tgt := 26) dd_T_restore_20 (by decide) (fun c2 => ?_) (fun c2 => ?_)
    · have hw := hw.1 c2
      refine lv_aload_n hx hb dd_T_restore_26 rfl (lv_at hl 0 rfl) ?_
      refine x_get hC hS hT0.1 rfl iw_T 0 (by decide) tb_180 rfl rfl dd_T_restore_27 ?_
      refine lv_aload_n hx hb dd_T_restore_30 rfl (lv_at hl 0 rfl) ?_
      refine x_get hC hS hT0.1 rfl iw_T 1 (by decide) tb_181 rfl rfl dd_T_restore_31 ?_
      refine lv_iload_n hx hb dd_T_restore_34 rfl (lv_at hl 1 rfl) ?_
      obtain ⟨q3, hw⟩ := hw
      refine x_aald hC hS hT0.2.1 q3 rfl dd_T_restore_35 ?_
      refine x_callVv hC hS (As := [.ref (xA X (18 + 6 * (a1).toNat))]) (rest := []) hT0.2.2.2.2.2.1.1 rfl cv_S_copyFrom (mt_S_copyFrom l X hC.2.2.1 12 (18 + 6 * (a1).toNat) hT0.2.2.2.2.2.1 (hT0.2.2.2.2.2.2 (a1).toNat (by omega))  M hm_M _ _ hw) tb_456 rfl rfl ⟨Nat.le_of_ble_eq_true rfl, Nat.le_of_ble_eq_true rfl⟩ rfl hl.1 (Nat.le_of_ble_eq_true rfl) dd_T_restore_36 ⟨Nat.le_refl _, Nat.le_refl _⟩ rfl (fun M_4 H locs hw hS => ?_)
      have hm_M_4 := hS.2.2.2
      refine lv_aload_n hx hb dd_T_restore_39 rfl (lv_at hl 0 rfl) ?_
      refine x_callVv hC hS (As := []) (rest := []) hT0.1 rfl cv_T_forgetGroup (mt_T_forgetGroup l X hC.2.2.1 hT0  M_4 hm_M_4 _ _ hw) tb_205 rfl rfl ⟨Nat.le_of_ble_eq_true rfl, Nat.le_of_ble_eq_true rfl⟩ rfl hl.1 (Nat.le_of_ble_eq_true rfl) dd_T_restore_40 ⟨Nat.le_refl _, Nat.le_refl _⟩ rfl (fun M_5 H locs hw hS => ?_)
      have hm_M_5 := hS.2.2.2
      refine x_iconst hC dd_T_restore_43 ?_
      exact x_iret hC hS hlocks hr (rk rfl) hw dd_T_restore_44
    · have hw := hw.2 c2
      refine x_bipush hC dd_T_restore_23 (by decide) ?_
      exact x_iret hC hS hlocks hr (rk rfl) hw dd_T_restore_25
  · have hw := hw.2 c1
    refine x_bipush hC dd_T_restore_9 (by decide) ?_
    exact x_iret hC hS hlocks hr (rk rfl) hw dd_T_restore_11
def wp_T_count (a1 : Int) (M : Mm) (post : Int → Prop) : Prop :=
  (a1 = 0 → post (M 12 0)) ∧
  (a1 = 1 → post (M (12 + 2) 1)) ∧
  (a1 = 2 → post (M 12 1)) ∧
  (a1 = 3 → post (M 2 1)) ∧
  (a1 = 4 → post (M 0 2)) ∧
  ((a1 < 0 ∨ 4 < a1) → wp_T_isWithin a1 10 13 (fun (r81 : Int) => (r81 = 0 → post (-2)) ∧
    (¬ r81 = 0 → inR (a1 - 10) ∧ (0 ≤ (a1 - 10) ∧ (a1 - 10) < 4) ∧ ∀ z4 : Int, z4 = M (12 + 1) ((a1 - 10)).toNat → post z4)))
set_option maxHeartbeats 4000000 in
set_option maxRecDepth 100000 in
theorem mt_T_count (l : Launch) (X : Xw) (hlc : lcl X)(hT0 : IsT X) (a1 : Int) (ra1 : inR a1) (M : Mm) (hm_M : mr M) (post : Int → Prop) (sz : Nat) (hw : wp_T_count a1 M post) : Met l yy_T_count (Cond.code yy_T_count bc_T_count 2 (some .int) :: tg) ({ frames := 1, cells := 0, slots := 0, locals := 22 } : Room) (Pw X [.ref (xA X 0), .int (iI a1)] M sz) (Qi X sz (fun r M1 => M1 = M ∧ post r)) 0 0 (xF X sz) := by
  unfold wp_T_count at hw
  refine x_enter (by decide) hlc hm_M (Nat.le_of_ble_eq_true rfl) ?_
  intro p e s m below meth c ls hC hsz hr hlocks hS hl
  have hx := hC.1.1
  have hb := hC.1.2.1
  have hl : lv_has ls 2 [(0, .ref (xA X 0)), (1, .int (iI a1))] := hl
  refine lv_iload_n hx hb dd_T_count_0 rfl (lv_at hl 1 rfl) ?_
  rcases (show a1 = 0 ∨ a1 = 1 ∨ a1 = 2 ∨ a1 = 3 ∨ a1 = 4 ∨ (a1 < 0 ∨ 4 < a1) by omega) with hc_ | hc_ | hc_ | hc_ | hc_ | hc_
  · have hw := hw.1 hc_
    refine x_tin hC 0 ra1 hc_ dd_T_count_1 (by decide) (by decide) rfl (by decide) (tgt := 36) ?_
    refine lv_aload_n hx hb dd_T_count_36 rfl (lv_at hl 0 rfl) ?_
    refine x_get hC hS hT0.1 rfl iw_T 0 (by decide) tb_180 rfl rfl dd_T_count_37 ?_
    refine x_get hC hS hT0.2.2.2.2.2.1.1 rfl iw_S 0 (by decide) tb_84 rfl rfl dd_T_count_40 ?_
    exact x_iret hC hS hlocks hr (hm_M 12 0) ⟨rfl, hw⟩ dd_T_count_43
  · have hw := hw.2.1 hc_
    refine x_tin hC 1 ra1 hc_ dd_T_count_1 (by decide) (by decide) rfl (by decide) (tgt := 44) ?_
    refine lv_aload_n hx hb dd_T_count_44 rfl (lv_at hl 0 rfl) ?_
    refine x_get hC hS hT0.1 rfl iw_T 0 (by decide) tb_180 rfl rfl dd_T_count_45 ?_
    refine x_get hC hS hT0.2.2.2.2.2.1.1 rfl iw_S 3 (by decide) tb_94 rfl rfl dd_T_count_48 ?_
    refine x_get hC hS hT0.2.2.2.2.2.1.2.2.1 rfl iw_G 1 (by decide) tb_64 rfl rfl dd_T_count_51 ?_
    exact x_iret hC hS hlocks hr (hm_M (12 + 2) 1) ⟨rfl, hw⟩ dd_T_count_54
  · have hw := hw.2.2.1 hc_
    refine x_tin hC 2 ra1 hc_ dd_T_count_1 (by decide) (by decide) rfl (by decide) (tgt := 55) ?_
    refine lv_aload_n hx hb dd_T_count_55 rfl (lv_at hl 0 rfl) ?_
    refine x_get hC hS hT0.1 rfl iw_T 0 (by decide) tb_180 rfl rfl dd_T_count_56 ?_
    refine x_get hC hS hT0.2.2.2.2.2.1.1 rfl iw_S 1 (by decide) tb_89 rfl rfl dd_T_count_59 ?_
    exact x_iret hC hS hlocks hr (hm_M 12 1) ⟨rfl, hw⟩ dd_T_count_62
  · have hw := hw.2.2.2.1 hc_
    refine x_tin hC 3 ra1 hc_ dd_T_count_1 (by decide) (by decide) rfl (by decide) (tgt := 63) ?_
    refine lv_aload_n hx hb dd_T_count_63 rfl (lv_at hl 0 rfl) ?_
    refine x_get hC hS hT0.1 rfl iw_T 3 (by decide) tb_183 rfl rfl dd_T_count_64 ?_
    refine x_get hC hS hT0.2.2.1.1 rfl iw_D 1 (by decide) tb_115 rfl rfl dd_T_count_67 ?_
    exact x_iret hC hS hlocks hr (hm_M 2 1) ⟨rfl, hw⟩ dd_T_count_70
  · have hw := hw.2.2.2.2.1 hc_
    refine x_tin hC 4 ra1 hc_ dd_T_count_1 (by decide) (by decide) rfl (by decide) (tgt := 71) ?_
    refine lv_aload_n hx hb dd_T_count_71 rfl (lv_at hl 0 rfl) ?_
    refine x_get hC hS hT0.1 rfl iw_T 2 (by decide) tb_182 rfl rfl dd_T_count_72 ?_
    exact x_iret hC hS hlocks hr (hm_M 0 2) ⟨rfl, hw⟩ dd_T_count_75
  · have hw := hw.2.2.2.2.2 hc_
    refine x_tout hC ra1 dd_T_count_1 hc_ (by decide) (tgt := 76) ?_
    refine lv_iload_n hx hb dd_T_count_76 rfl (lv_at hl 1 rfl) ?_
    refine x_bipush hC dd_T_count_77 (by decide) ?_
    refine x_bipush hC dd_T_count_79 (by decide) ?_
    refine x_callSi hC hS (As := [.int (iI a1), .int (iI 10), .int (iI 13)]) (rest := []) cs_T_isWithin (mt_T_isWithin l X hC.2.2.1  a1 ra1 10 (rk rfl) 13 (rk rfl) M hm_M _ _ hw) tb_203 rfl rfl ⟨Nat.le_of_ble_eq_true rfl, Nat.le_of_ble_eq_true rfl⟩ rfl hl.1 (Nat.le_of_ble_eq_true rfl) dd_T_count_81 ⟨Nat.le_refl _, Nat.le_refl _⟩ rfl (fun r81 Mx H locs rr81 hp hS => ?_)
    obtain ⟨hq, hw⟩ := hp
    rw [hq] at hS
    refine x_if_eq hC rr81 (tgt := 102) dd_T_count_84 (by decide) (fun c1 => ?_) (fun c1 => ?_)
    · have hw := hw.1 c1
      refine x_bipush hC dd_T_count_102 (by decide) ?_
      exact x_iret hC hS hlocks hr (rk rfl) ⟨rfl, hw⟩ dd_T_count_104
    · have hw := hw.2 c1
      refine lv_aload_n hx hb dd_T_count_87 rfl (lv_at hl 0 rfl) ?_
      refine x_get hC hS hT0.1 rfl iw_T 0 (by decide) tb_180 rfl rfl dd_T_count_88 ?_
      refine x_get hC hS hT0.2.2.2.2.2.1.1 rfl iw_S 2 (by decide) tb_91 rfl rfl dd_T_count_91 ?_
      refine lv_iload_n hx hb dd_T_count_94 rfl (lv_at hl 1 rfl) ?_
      refine x_bipush hC dd_T_count_95 (by decide) ?_
      obtain ⟨q2, hw⟩ := hw
      refine x_sub hC dd_T_count_97 ?_
      obtain ⟨q3, hw⟩ := hw
      refine x_iald hC hS hT0.2.2.2.2.2.1.2.1 q3 dd_T_count_98 ?_
      refine x_nm (hm_M (12 + 1) _) (fun z4 rz4 ez4 => ?_)
      have hw := hw z4 ez4
      refine lv_goto (tgt := 104) hx hb dd_T_count_99 (by decide) ?_
      exact x_iret hC hS hlocks hr rz4 ⟨rfl, hw⟩ dd_T_count_104
