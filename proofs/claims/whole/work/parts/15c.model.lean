def wp_M_layTurn (a1 : Int) (M : Mm) (post : Mm → Prop) : Prop :=
  ∃ I2 : Nat → Int → Mm → Prop, (∃ n, I2 n 0 M) ∧ ∀ (n2 : Nat) (x2_2 : Int) (M2 : Mm), I2 n2 x2_2 M2 →
    (wp_M_many M2 (fun (r4 : Int) => (r4 ≤ x2_2 → post M2) ∧
      (¬ r4 ≤ x2_2 → inR (7 * a1) ∧ inR ((7 * a1) + x2_2) ∧ (0 ≤ ((7 * a1) + x2_2) ∧ ((7 * a1) + x2_2) < 35280) ∧ ∀ z5 : Int, z5 = M2 39 (((7 * a1) + x2_2)).toNat → (0 ≤ x2_2 ∧ x2_2 < 7) ∧ ∀ M_7 : Mm, M_7 = ms M2 35 (x2_2).toNat z5 → inR (x2_2 + 1) ∧ ∀ v2_27 : Int, v2_27 = x2_2 + 1 → ∃ k_8, k_8 < n2 ∧ I2 k_8 v2_27 M_7)))
set_option maxHeartbeats 4000000 in
set_option maxRecDepth 100000 in
theorem mt_M_layTurn (l : Launch) (X : Xw) (hlc : lcl X)(hM0 : IsM X) (a1 : Int) (ra1 : inR a1) (M : Mm) (hm_M : mr M) (post : Mm → Prop) (sz : Nat) (hw : wp_M_layTurn a1 M post) : Met l yy_M_layTurn (Cond.code yy_M_layTurn bc_M_layTurn 3 none :: tg) ({ frames := 1, cells := 0, slots := 0, locals := 20 } : Room) (Pw X [.ref (xA X 30), .int (iI a1)] M sz) (Qv X sz post) 0 0 (xF X sz) := by
  unfold wp_M_layTurn at hw
  refine x_enter (by decide) hlc hm_M (Nat.le_of_ble_eq_true rfl) ?_
  intro p e s m below meth c ls hC hsz hr hlocks hS hl
  have hx := hC.1.1
  have hb := hC.1.2.1
  have hl : lv_has ls 3 [(0, .ref (xA X 30)), (1, .int (iI a1))] := hl
  refine x_iconst hC dd_M_layTurn_0 ?_
  refine lv_istore_n (lv' := [(2, .int (iI 0)), (0, .ref (xA X 30)), (1, .int (iI a1))]) hx hb dd_M_layTurn_1 rfl hl (by decide) rfl (fun ls hl => ?_)
  obtain ⟨I2, ⟨n0, hI⟩, hstep_I2⟩ := hw
  have lp_I2 : ∀ (n2 : Nat) (x2_2 : Int) (M2 : Mm) (H : Heap) (locs : List Loc) (ls : Array Slot), I2 n2 x2_2 M2 → inR x2_2 → St X (xF X sz) s M2 H locs → lv_has ls 3 [(0, .ref (xA X 30)), (1, .int (iI a1)), (2, .int (iI x2_2))] → W p l e ({ frames := 1, cells := 0, slots := 0, locals := 20 } : Room) s m ([.ref (xA X 30), .int (iI a1)] : List Value).toArray below meth c H locs 0 0 (MQ below (Qv X sz post) ([.ref (xA X 30), .int (iI a1)] : List Value).toArray s 0 0 (xF X sz)) (F0 m 2 ls []) := by
    intro n2
    induction n2 using Nat.strongRecOn with
    | _ n2 ih_I2 =>
      intro x2_2 M2 H locs ls hI rx2_2 hS hl
      have hw := hstep_I2 n2 x2_2 M2 hI
      have hm_M2 := hS.2.2.2
      refine lv_iload_n hx hb dd_M_layTurn_2 rfl (lv_at hl 2 rfl) ?_
      refine lv_aload_n hx hb dd_M_layTurn_3 rfl (lv_at hl 0 rfl) ?_
      refine x_callVi hC hS (As := []) (rest := [.int (iI x2_2)]) hM0.1 rfl cv_M_many (mt_M_many l X hC.2.2.1 hM0  M2 hm_M2 _ _ hw) tb_495 rfl rfl ⟨Nat.le_of_ble_eq_true rfl, Nat.le_of_ble_eq_true rfl⟩ rfl hl.1 (Nat.le_of_ble_eq_true rfl) dd_M_layTurn_4 ⟨Nat.le_refl _, Nat.le_refl _⟩ rfl (fun r4 Mx H locs rr4 hp hS => ?_)
      obtain ⟨hq, hw⟩ := hp
      rw [hq] at hS
      refine x_icmp_ge hC rx2_2 rr4 (tgt := 33) dd_M_layTurn_7 (by decide) (fun c1 => ?_) (fun c1 => ?_)
      · have hw := hw.1 c1
        exact x_vret hC hS hlocks hr hw dd_M_layTurn_33
      · have hw := hw.2 c1
        refine lv_aload_n hx hb dd_M_layTurn_10 rfl (lv_at hl 0 rfl) ?_
        refine x_get hC hS hM0.1 rfl iw_M 5 (by decide) tb_520 rfl rfl dd_M_layTurn_11 ?_
        refine lv_iload_n hx hb dd_M_layTurn_14 rfl (lv_at hl 2 rfl) ?_
        refine lv_aload_n hx hb dd_M_layTurn_15 rfl (lv_at hl 0 rfl) ?_
        refine x_get hC hS hM0.1 rfl iw_M 11 (by decide) tb_526 rfl rfl dd_M_layTurn_16 ?_
        refine x_bipush hC dd_M_layTurn_19 (by decide) ?_
        refine lv_iload_n hx hb dd_M_layTurn_21 rfl (lv_at hl 1 rfl) ?_
        obtain ⟨q2, hw⟩ := hw
        refine x_mul hC dd_M_layTurn_22 ?_
        refine lv_iload_n hx hb dd_M_layTurn_23 rfl (lv_at hl 2 rfl) ?_
        obtain ⟨q3, hw⟩ := hw
        refine x_add hC dd_M_layTurn_24 ?_
        obtain ⟨q4, hw⟩ := hw
        refine x_iald hC hS hM0.2.2.2.2.2.2.2.2.2.1 q4 dd_M_layTurn_25 ?_
        refine x_nm (hm_M2 39 _) (fun z5 rz5 ez5 => ?_)
        have hw := hw z5 ez5
        obtain ⟨q6, hw⟩ := hw
        refine x_iast hC hS hM0.2.2.2.2.2.1 q6 rz5 dd_M_layTurn_26 (fun H locs hS => ?_)
        obtain ⟨M_7, eM_7⟩ : ∃ Z : Mm, Z = ms M2 35 (x2_2).toNat z5 := ⟨_, rfl⟩
        rw [← eM_7] at hS
        have hw := hw M_7 eM_7
        have hm_M_7 := hS.2.2.2
        obtain ⟨hr_, hw⟩ := hw
        obtain ⟨v2_27, rv2_27, ev2_27⟩ : ∃ z : Int, inR z ∧ z = x2_2 + 1 := ⟨_, hr_, rfl⟩
        have hw := hw v2_27 ev2_27
        refine lv_iinc (v := iI v2_27) (lv' := [(2, .int (iI v2_27)), (0, .ref (xA X 30)), (1, .int (iI a1))]) hx hb dd_M_layTurn_27 hl (k := 2) rfl (by rw [ev2_27]; exact iI_add _ _) (by decide) rfl (fun ls hl => ?_)
        refine lv_goto (tgt := 2) hx hb dd_M_layTurn_30 (by decide) ?_
        obtain ⟨k_8, h9, hI⟩ := hw
        exact ih_I2 k_8 h9 v2_27 M_7 _ _ _ hI rv2_27 hS (lv_sub hl [1, 2, 0] rfl)
  exact lp_I2 n0 0 M _ _ _ hI (rk rfl) hS (lv_sub hl [1, 2, 0] rfl)
def wp_M_layTypes (M : Mm) (post : Mm → Prop) : Prop :=
  ∀ M_1 : Mm, M_1 = ms M 30 17 0 → ∃ I7 : Nat → Int → Mm → Prop, (∃ n, I7 n 0 M_1) ∧ ∀ (n7 : Nat) (x1_7 : Int) (M7 : Mm), I7 n7 x1_7 M7 →
    (((M7 30 12) ≤ x1_7 → post M7) ∧
      (¬ (M7 30 12) ≤ x1_7 → wp_M_layTurn x1_7 M7 (fun (M_3 : Mm) => wp_M_typeOfRow M_3 (fun (r22 : Int) (M_4 : Mm) => wp_M_addType r22 M_4 (fun (M_5 : Mm) => inR (x1_7 + 1) ∧ ∀ v1_28 : Int, v1_28 = x1_7 + 1 → ∃ k_6, k_6 < n7 ∧ I7 k_6 v1_28 M_5)))))
set_option maxHeartbeats 4000000 in
set_option maxRecDepth 100000 in
theorem mt_M_layTypes (l : Launch) (X : Xw) (hlc : lcl X)(hM0 : IsM X) (M : Mm) (hm_M : mr M) (post : Mm → Prop) (sz : Nat) (hw : wp_M_layTypes M post) : Met l yy_M_layTypes (Cond.code yy_M_layTypes bc_M_layTypes 2 none :: tg) ({ frames := 2, cells := 0, slots := 0, locals := 44 } : Room) (Pw X [.ref (xA X 30)] M sz) (Qv X sz post) 0 0 (xF X sz) := by
  unfold wp_M_layTypes at hw
  refine x_enter (by decide) hlc hm_M (Nat.le_of_ble_eq_true rfl) ?_
  intro p e s m below meth c ls hC hsz hr hlocks hS hl
  have hx := hC.1.1
  have hb := hC.1.2.1
  have hl : lv_has ls 2 [(0, .ref (xA X 30))] := hl
  refine lv_aload_n hx hb dd_M_layTypes_0 rfl (lv_at hl 0 rfl) ?_
  refine x_iconst hC dd_M_layTypes_1 ?_
  refine x_put hC hS hM0.1 rfl iw_M fy_M fk_M fn_M 17 (by decide) tb_532 rfl (rk rfl) rfl rfl (ps_M_17 _ _ _) (Nat.le_of_ble_eq_true rfl) dd_M_layTypes_2 (fun H locs hS => ?_)
  obtain ⟨M_1, eM_1⟩ : ∃ Z : Mm, Z = ms M 30 17 0 := ⟨_, rfl⟩
  rw [← eM_1] at hS
  have hw := hw M_1 eM_1
  have hm_M_1 := hS.2.2.2
  refine x_iconst hC dd_M_layTypes_5 ?_
  refine lv_istore_n (lv' := [(1, .int (iI 0)), (0, .ref (xA X 30))]) hx hb dd_M_layTypes_6 rfl hl (by decide) rfl (fun ls hl => ?_)
  obtain ⟨I7, ⟨n0, hI⟩, hstep_I7⟩ := hw
  have lp_I7 : ∀ (n7 : Nat) (x1_7 : Int) (M7 : Mm) (H : Heap) (locs : List Loc) (ls : Array Slot), I7 n7 x1_7 M7 → inR x1_7 → St X (xF X sz) s M7 H locs → lv_has ls 2 [(0, .ref (xA X 30)), (1, .int (iI x1_7))] → W p l e ({ frames := 2, cells := 0, slots := 0, locals := 44 } : Room) s m ([.ref (xA X 30)] : List Value).toArray below meth c H locs 0 0 (MQ below (Qv X sz post) ([.ref (xA X 30)] : List Value).toArray s 0 0 (xF X sz)) (F0 m 7 ls []) := by
    intro n7
    induction n7 using Nat.strongRecOn with
    | _ n7 ih_I7 =>
      intro x1_7 M7 H locs ls hI rx1_7 hS hl
      have hw := hstep_I7 n7 x1_7 M7 hI
      have hm_M7 := hS.2.2.2
      refine lv_iload_n hx hb dd_M_layTypes_7 rfl (lv_at hl 1 rfl) ?_
      refine lv_aload_n hx hb dd_M_layTypes_8 rfl (lv_at hl 0 rfl) ?_
      refine x_get hC hS hM0.1 rfl iw_M 12 (by decide) tb_527 rfl rfl dd_M_layTypes_9 ?_
      refine x_icmp_ge hC rx1_7 (hm_M7 30 12) (tgt := 34) dd_M_layTypes_12 (by decide) (fun c2 => ?_) (fun c2 => ?_)
      · have hw := hw.1 c2
        exact x_vret hC hS hlocks hr hw dd_M_layTypes_34
      · have hw := hw.2 c2
        refine lv_aload_n hx hb dd_M_layTypes_15 rfl (lv_at hl 0 rfl) ?_
        refine lv_iload_n hx hb dd_M_layTypes_16 rfl (lv_at hl 1 rfl) ?_
        refine x_callVv hC hS (As := [.int (iI x1_7)]) (rest := []) hM0.1 rfl cv_M_layTurn (mt_M_layTurn l X hC.2.2.1 hM0 x1_7 rx1_7 M7 hm_M7 _ _ hw) tb_672 rfl rfl ⟨Nat.le_of_ble_eq_true rfl, Nat.le_of_ble_eq_true rfl⟩ rfl hl.1 (Nat.le_of_ble_eq_true rfl) dd_M_layTypes_17 ⟨Nat.le_refl _, Nat.le_refl _⟩ rfl (fun M_3 H locs hw hS => ?_)
        have hm_M_3 := hS.2.2.2
        refine lv_aload_n hx hb dd_M_layTypes_20 rfl (lv_at hl 0 rfl) ?_
        refine lv_aload_n hx hb dd_M_layTypes_21 rfl (lv_at hl 0 rfl) ?_
        refine x_callVi hC hS (As := []) (rest := [.ref (xA X 30)]) hM0.1 rfl cv_M_typeOfRow (mt_M_typeOfRow l X hC.2.2.1 hM0  M_3 hm_M_3 _ _ hw) tb_654 rfl rfl ⟨Nat.le_of_ble_eq_true rfl, Nat.le_of_ble_eq_true rfl⟩ rfl hl.1 (Nat.le_of_ble_eq_true rfl) dd_M_layTypes_22 ⟨Nat.le_refl _, Nat.le_refl _⟩ rfl (fun r22 M_4 H locs rr22 hw hS => ?_)
        have hm_M_4 := hS.2.2.2
        refine x_callVv hC hS (As := [.int (iI r22)]) (rest := []) hM0.1 rfl cv_M_addType (mt_M_addType l X hC.2.2.1 hM0 r22 rr22 M_4 hm_M_4 _ _ hw) tb_676 rfl rfl ⟨Nat.le_of_ble_eq_true rfl, Nat.le_of_ble_eq_true rfl⟩ rfl hl.1 (Nat.le_of_ble_eq_true rfl) dd_M_layTypes_25 ⟨Nat.le_refl _, Nat.le_refl _⟩ rfl (fun M_5 H locs hw hS => ?_)
        have hm_M_5 := hS.2.2.2
        obtain ⟨hr_, hw⟩ := hw
        obtain ⟨v1_28, rv1_28, ev1_28⟩ : ∃ z : Int, inR z ∧ z = x1_7 + 1 := ⟨_, hr_, rfl⟩
        have hw := hw v1_28 ev1_28
        refine lv_iinc (v := iI v1_28) (lv' := [(1, .int (iI v1_28)), (0, .ref (xA X 30))]) hx hb dd_M_layTypes_28 hl (k := 1) rfl (by rw [ev1_28]; exact iI_add _ _) (by decide) rfl (fun ls hl => ?_)
        refine lv_goto (tgt := 7) hx hb dd_M_layTypes_31 (by decide) ?_
        obtain ⟨k_6, h7, hI⟩ := hw
        exact ih_I7 k_6 h7 v1_28 M_5 _ _ _ hI rv1_28 hS (lv_sub hl [1, 0] rfl)
  exact lp_I7 n0 0 M_1 _ _ _ hI (rk rfl) hS (lv_sub hl [1, 0] rfl)
def wp_M_type (a1 : Int) (a2 : Int) (M : Mm) (post : Int → Mm → Prop) : Prop :=
  (a1 < (-1) → post (-2) M) ∧
  (¬ a1 < (-1) → wp_M_in a2 0 1 (fun (r8 : Int) => (¬ r8 = 0 → wp_M_layTypes M (fun (M_3 : Mm) => (¬ a1 = (-1) → (a1 < (M_3 30 17) → (¬ a2 = 0 → (0 ≤ a1 ∧ a1 < 16) ∧ ∀ z8 : Int, z8 = M_3 43 (a1).toNat → post z8 M_3) ∧
          (a2 = 0 → (0 ≤ a1 ∧ a1 < 16) ∧ ∀ z10 : Int, z10 = M_3 42 (a1).toNat → post z10 M_3)) ∧
        (¬ a1 < (M_3 30 17) → post (-6) M_3)) ∧
      (a1 = (-1) → post (M_3 30 17) M_3))) ∧
    (r8 = 0 → post (-2) M)))
set_option maxHeartbeats 4000000 in
set_option maxRecDepth 100000 in
theorem mt_M_type (l : Launch) (X : Xw) (hlc : lcl X)(hM0 : IsM X) (a1 : Int) (ra1 : inR a1) (a2 : Int) (ra2 : inR a2) (M : Mm) (hm_M : mr M) (post : Int → Mm → Prop) (sz : Nat) (hw : wp_M_type a1 a2 M post) : Met l yy_M_type (Cond.code yy_M_type bc_M_type 3 (some .int) :: tg) ({ frames := 3, cells := 0, slots := 0, locals := 65 } : Room) (Pw X [.ref (xA X 30), .int (iI a1), .int (iI a2)] M sz) (Qi X sz post) 0 0 (xF X sz) := by
  unfold wp_M_type at hw
  refine x_enter (by decide) hlc hm_M (Nat.le_of_ble_eq_true rfl) ?_
  intro p e s m below meth c ls hC hsz hr hlocks hS hl
  have hx := hC.1.1
  have hb := hC.1.2.1
  have hl : lv_has ls 3 [(0, .ref (xA X 30)), (1, .int (iI a1)), (2, .int (iI a2))] := hl
  refine lv_iload_n hx hb dd_M_type_0 rfl (lv_at hl 1 rfl) ?_
  refine x_iconst hC dd_M_type_1 ?_
  refine x_icmp_lt hC ra1 (rk rfl) (tgt := 14) dd_M_type_2 (by decide) (fun c1 => ?_) (fun c1 => ?_)
  · have hw := hw.1 c1
    refine x_bipush hC dd_M_type_14 (by decide) ?_
    exact x_iret hC hS hlocks hr (rk rfl) hw dd_M_type_16
  · have hw := hw.2 c1
    refine lv_iload_n hx hb dd_M_type_5 rfl (lv_at hl 2 rfl) ?_
    refine x_iconst hC dd_M_type_6 ?_
    refine x_iconst hC dd_M_type_7 ?_
    refine x_callSi hC hS (As := [.int (iI a2), .int (iI 0), .int (iI 1)]) (rest := []) cs_M_in (mt_M_in l X hC.2.2.1  a2 ra2 0 (rk rfl) 1 (rk rfl) M hm_M _ _ hw) tb_596 rfl rfl ⟨Nat.le_of_ble_eq_true rfl, Nat.le_of_ble_eq_true rfl⟩ rfl hl.1 (Nat.le_of_ble_eq_true rfl) dd_M_type_8 ⟨Nat.le_refl _, Nat.le_refl _⟩ rfl (fun r8 Mx H locs rr8 hp hS => ?_)
    obtain ⟨hq, hw⟩ := hp
    rw [hq] at hS
    refine x_if_ne hC rr8 (tgt := 17) dd_M_type_11 (by decide) (fun c2 => ?_) (fun c2 => ?_)
    · have hw := hw.1 c2
      refine lv_aload_n hx hb dd_M_type_17 rfl (lv_at hl 0 rfl) ?_
      refine x_callVv hC hS (As := []) (rest := []) hM0.1 rfl cv_M_layTypes (mt_M_layTypes l X hC.2.2.1 hM0  M hm_M _ _ hw) tb_668 rfl rfl ⟨Nat.le_of_ble_eq_true rfl, Nat.le_of_ble_eq_true rfl⟩ rfl hl.1 (Nat.le_of_ble_eq_true rfl) dd_M_type_18 ⟨Nat.le_refl _, Nat.le_refl _⟩ rfl (fun M_3 H locs hw hS => ?_)
      have hm_M_3 := hS.2.2.2
      refine lv_iload_n hx hb dd_M_type_21 rfl (lv_at hl 1 rfl) ?_
      refine x_iconst hC dd_M_type_22 ?_
      refine x_icmp_ne hC ra1 (rk rfl) (tgt := 31) dd_M_type_23 (by decide) (fun c4 => ?_) (fun c4 => ?_)
      · have hw := hw.1 c4
        refine lv_iload_n hx hb dd_M_type_31 rfl (lv_at hl 1 rfl) ?_
        refine lv_aload_n hx hb dd_M_type_32 rfl (lv_at hl 0 rfl) ?_
        refine x_get hC hS hM0.1 rfl iw_M 17 (by decide) tb_532 rfl rfl dd_M_type_33 ?_
        refine x_icmp_lt hC ra1 (hm_M_3 30 17) (tgt := 44) dd_M_type_36 (by decide) (fun c5 => ?_) (fun c5 => ?_)
        · have hw := hw.1 c5
          refine lv_iload_n hx hb dd_M_type_44 rfl (lv_at hl 2 rfl) ?_
          refine x_if_ne hC ra2 (tgt := 57) dd_M_type_45 (by decide) (fun c6 => ?_) (fun c6 => ?_)
          · have hw := hw.1 c6
            refine lv_aload_n hx hb dd_M_type_57 rfl (lv_at hl 0 rfl) ?_
            refine x_get hC hS hM0.1 rfl iw_M 16 (by decide) tb_531 rfl rfl dd_M_type_58 ?_
            refine lv_iload_n hx hb dd_M_type_61 rfl (lv_at hl 1 rfl) ?_
            obtain ⟨q7, hw⟩ := hw
            refine x_iald hC hS hM0.2.2.2.2.2.2.2.2.2.2.2.2.2.1 q7 dd_M_type_62 ?_
            refine x_nm (hm_M_3 43 _) (fun z8 rz8 ez8 => ?_)
            have hw := hw z8 ez8
            exact x_iret hC hS hlocks hr rz8 hw dd_M_type_63
          · have hw := hw.2 c6
            refine lv_aload_n hx hb dd_M_type_48 rfl (lv_at hl 0 rfl) ?_
            refine x_get hC hS hM0.1 rfl iw_M 15 (by decide) tb_530 rfl rfl dd_M_type_49 ?_
            refine lv_iload_n hx hb dd_M_type_52 rfl (lv_at hl 1 rfl) ?_
            obtain ⟨q9, hw⟩ := hw
            refine x_iald hC hS hM0.2.2.2.2.2.2.2.2.2.2.2.2.1 q9 dd_M_type_53 ?_
            refine x_nm (hm_M_3 42 _) (fun z10 rz10 ez10 => ?_)
            have hw := hw z10 ez10
            refine lv_goto (tgt := 63) hx hb dd_M_type_54 (by decide) ?_
            exact x_iret hC hS hlocks hr rz10 hw dd_M_type_63
        · have hw := hw.2 c5
          refine x_bipush hC dd_M_type_39 (by decide) ?_
          refine lv_goto (tgt := 63) hx hb dd_M_type_41 (by decide) ?_
          exact x_iret hC hS hlocks hr (rk rfl) hw dd_M_type_63
      · have hw := hw.2 c4
        refine lv_aload_n hx hb dd_M_type_26 rfl (lv_at hl 0 rfl) ?_
        refine x_get hC hS hM0.1 rfl iw_M 17 (by decide) tb_532 rfl rfl dd_M_type_27 ?_
        exact x_iret hC hS hlocks hr (hm_M_3 30 17) hw dd_M_type_30
    · have hw := hw.2 c2
      refine x_bipush hC dd_M_type_14 (by decide) ?_
      exact x_iret hC hS hlocks hr (rk rfl) hw dd_M_type_16
def wp_M_isPoint (a1 : Int) (M : Mm) (post : Int → Prop) : Prop :=
  wp_M_many M (fun (r3 : Int) => inR (r3 - 1) ∧ wp_M_in a1 0 (r3 - 1) (fun (r8 : Int) => (r8 = 0 ∨ r8 = 1) ∧ post r8))
set_option maxHeartbeats 4000000 in
set_option maxRecDepth 100000 in
theorem mt_M_isPoint (l : Launch) (X : Xw) (hlc : lcl X)(hM0 : IsM X) (a1 : Int) (ra1 : inR a1) (M : Mm) (hm_M : mr M) (post : Int → Prop) (sz : Nat) (hw : wp_M_isPoint a1 M post) : Met l yy_M_isPoint (Cond.code yy_M_isPoint bc_M_isPoint 2 (some .boolean) :: tg) ({ frames := 1, cells := 0, slots := 0, locals := 22 } : Room) (Pw X [.ref (xA X 30), .int (iI a1)] M sz) (Qi X sz (fun r M1 => M1 = M ∧ post r)) 0 0 (xF X sz) := by
  unfold wp_M_isPoint at hw
  refine x_enter (by decide) hlc hm_M (Nat.le_of_ble_eq_true rfl) ?_
  intro p e s m below meth c ls hC hsz hr hlocks hS hl
  have hx := hC.1.1
  have hb := hC.1.2.1
  have hl : lv_has ls 2 [(0, .ref (xA X 30)), (1, .int (iI a1))] := hl
  refine lv_iload_n hx hb dd_M_isPoint_0 rfl (lv_at hl 1 rfl) ?_
  refine x_iconst hC dd_M_isPoint_1 ?_
  refine lv_aload_n hx hb dd_M_isPoint_2 rfl (lv_at hl 0 rfl) ?_
  refine x_callVi hC hS (As := []) (rest := [.int (iI 0), .int (iI a1)]) hM0.1 rfl cv_M_many (mt_M_many l X hC.2.2.1 hM0  M hm_M _ _ hw) tb_495 rfl rfl ⟨Nat.le_of_ble_eq_true rfl, Nat.le_of_ble_eq_true rfl⟩ rfl hl.1 (Nat.le_of_ble_eq_true rfl) dd_M_isPoint_3 ⟨Nat.le_refl _, Nat.le_refl _⟩ rfl (fun r3 Mx H locs rr3 hp hS => ?_)
  obtain ⟨hq, hw⟩ := hp
  rw [hq] at hS
  refine x_iconst hC dd_M_isPoint_6 ?_
  obtain ⟨q1, hw⟩ := hw
  refine x_sub hC dd_M_isPoint_7 ?_
  refine x_callSi hC hS (As := [.int (iI a1), .int (iI 0), .int (iI (r3 - 1))]) (rest := []) cs_M_in (mt_M_in l X hC.2.2.1  a1 ra1 0 (rk rfl) (r3 - 1) q1 M hm_M _ _ hw) tb_596 rfl rfl ⟨Nat.le_of_ble_eq_true rfl, Nat.le_of_ble_eq_true rfl⟩ rfl hl.1 (Nat.le_of_ble_eq_true rfl) dd_M_isPoint_8 ⟨Nat.le_refl _, Nat.le_refl _⟩ rfl (fun r8 Mx H locs rr8 hp hS => ?_)
  obtain ⟨hq, hw⟩ := hp
  rw [hq] at hS
  exact x_zret hC hS hlocks hr hw.1 ⟨rfl, hw.2⟩ dd_M_isPoint_11
def wp_M_orbit (a1 : Int) (a2 : Int) (M : Mm) (post : Int → Prop) : Prop :=
  wp_M_isPoint a1 M (fun (r2 : Int) => (¬ r2 = 0 → wp_M_in a2 0 1 (fun (r13 : Int) => (¬ r13 = 0 → ∃ I30 : Nat → Int → Int → Int → Prop, (∃ n, I30 n 0 0 0) ∧ ∀ (n30 : Nat) (x3_30 : Int) (x4_30 : Int) (x5_30 : Int), I30 n30 x3_30 x4_30 x5_30 →
        (((M 30 12) ≤ x5_30 → ∃ I88 : Nat → Int → Int → Prop, (∃ n, I88 n 0 0) ∧ ∀ (n88 : Nat) (x5_88 : Int) (x6_88 : Int), I88 n88 x5_88 x6_88 →
              ((7 ≤ x6_88 → (¬ a2 = 0 → post x4_30) ∧
                  (a2 = 0 → post x5_88)) ∧
                (¬ 7 ≤ x6_88 → inR (x5_88 + (bAnd (bShr x3_30 x6_88) 1)) ∧ ∀ v5_104 : Int, v5_104 = (x5_88 + (bAnd (bShr x3_30 x6_88) 1)) → inR (x6_88 + 1) ∧ ∀ v6_106 : Int, v6_106 = x6_88 + 1 → ∃ k_7, k_7 < n88 ∧ I88 k_7 v5_104 v6_106))) ∧
          (¬ (M 30 12) ≤ x5_30 → inR (7 * x5_30) ∧ inR ((7 * x5_30) + a1) ∧ (0 ≤ ((7 * x5_30) + a1) ∧ ((7 * x5_30) + a1) < 35280) ∧ ∀ z12 : Int, z12 = M 39 (((7 * x5_30) + a1)).toNat → ∀ v3_59 : Int, v3_59 = (bOr x3_30 (bShl 1 z12)) → ∀ K73 : Int → Prop, (∀ (s1_73 : Int), (inR (x4_30 + s1_73) ∧ ∀ v4_74 : Int, v4_74 = (x4_30 + s1_73) → inR (x5_30 + 1) ∧ ∀ v5_76 : Int, v5_76 = x5_30 + 1 → ∃ k_14, k_14 < n30 ∧ I30 k_14 v3_59 v4_74 v5_76) →
              K73 s1_73) →
            ((¬ z12 = a1 → K73 0) ∧
            (z12 = a1 → K73 1))))) ∧
    (r13 = 0 → post (-2)))) ∧
  (r2 = 0 → post (-1)))
set_option maxHeartbeats 4000000 in
set_option maxRecDepth 100000 in
theorem mt_M_orbit (l : Launch) (X : Xw) (hlc : lcl X)(hM0 : IsM X) (a1 : Int) (ra1 : inR a1) (a2 : Int) (ra2 : inR a2) (M : Mm) (hm_M : mr M) (post : Int → Prop) (sz : Nat) (hw : wp_M_orbit a1 a2 M post) : Met l yy_M_orbit (Cond.code yy_M_orbit bc_M_orbit 7 (some .int) :: tg) ({ frames := 2, cells := 0, slots := 0, locals := 43 } : Room) (Pw X [.ref (xA X 30), .int (iI a1), .int (iI a2)] M sz) (Qi X sz (fun r M1 => M1 = M ∧ post r)) 0 0 (xF X sz) := by
  unfold wp_M_orbit at hw
  refine x_enter (by decide) hlc hm_M (Nat.le_of_ble_eq_true rfl) ?_
  intro p e s m below meth c ls hC hsz hr hlocks hS hl
  have hx := hC.1.1
  have hb := hC.1.2.1
  have hl : lv_has ls 7 [(0, .ref (xA X 30)), (1, .int (iI a1)), (2, .int (iI a2))] := hl
  refine lv_aload_n hx hb dd_M_orbit_0 rfl (lv_at hl 0 rfl) ?_
  refine lv_iload_n hx hb dd_M_orbit_1 rfl (lv_at hl 1 rfl) ?_
  refine x_callVi hC hS (As := [.int (iI a1)]) (rest := []) hM0.1 rfl cv_M_isPoint (mt_M_isPoint l X hC.2.2.1 hM0 a1 ra1 M hm_M _ _ hw) tb_684 rfl rfl ⟨Nat.le_of_ble_eq_true rfl, Nat.le_of_ble_eq_true rfl⟩ rfl hl.1 (Nat.le_of_ble_eq_true rfl) dd_M_orbit_2 ⟨Nat.le_refl _, Nat.le_refl _⟩ rfl (fun r2 Mx H locs rr2 hp hS => ?_)
  obtain ⟨hq, hw⟩ := hp
  rw [hq] at hS
  refine x_if_ne hC rr2 (tgt := 10) dd_M_orbit_5 (by decide) (fun c1 => ?_) (fun c1 => ?_)
  · have hw := hw.1 c1
    refine lv_iload_n hx hb dd_M_orbit_10 rfl (lv_at hl 2 rfl) ?_
    refine x_iconst hC dd_M_orbit_11 ?_
    refine x_iconst hC dd_M_orbit_12 ?_
    refine x_callSi hC hS (As := [.int (iI a2), .int (iI 0), .int (iI 1)]) (rest := []) cs_M_in (mt_M_in l X hC.2.2.1  a2 ra2 0 (rk rfl) 1 (rk rfl) M hm_M _ _ hw) tb_596 rfl rfl ⟨Nat.le_of_ble_eq_true rfl, Nat.le_of_ble_eq_true rfl⟩ rfl hl.1 (Nat.le_of_ble_eq_true rfl) dd_M_orbit_13 ⟨Nat.le_refl _, Nat.le_refl _⟩ rfl (fun r13 Mx H locs rr13 hp hS => ?_)
    obtain ⟨hq, hw⟩ := hp
    rw [hq] at hS
    refine x_if_ne hC rr13 (tgt := 22) dd_M_orbit_16 (by decide) (fun c2 => ?_) (fun c2 => ?_)
    · have hw := hw.1 c2
      refine x_iconst hC dd_M_orbit_22 ?_
      refine lv_istore_n (lv' := [(3, .int (iI 0)), (0, .ref (xA X 30)), (1, .int (iI a1)), (2, .int (iI a2))]) hx hb dd_M_orbit_23 rfl hl (by decide) rfl (fun ls hl => ?_)
      refine x_iconst hC dd_M_orbit_24 ?_
      refine lv_istore (lv' := [(4, .int (iI 0)), (3, .int (iI 0)), (0, .ref (xA X 30)), (1, .int (iI a1)), (2, .int (iI a2))]) hx hb dd_M_orbit_25 hl (by decide) rfl (fun ls hl => ?_)
      refine x_iconst hC dd_M_orbit_27 ?_
      refine lv_istore (lv' := [(5, .int (iI 0)), (4, .int (iI 0)), (3, .int (iI 0)), (0, .ref (xA X 30)), (1, .int (iI a1)), (2, .int (iI a2))]) hx hb dd_M_orbit_28 hl (by decide) rfl (fun ls hl => ?_)
      obtain ⟨I30, ⟨n0, hI⟩, hstep_I30⟩ := hw
      have lp_I30 : ∀ (n30 : Nat) (x3_30 : Int) (x4_30 : Int) (x5_30 : Int) (H : Heap) (locs : List Loc) (ls : Array Slot), I30 n30 x3_30 x4_30 x5_30 → inR x3_30 → inR x4_30 → inR x5_30 → St X (xF X sz) s M H locs → lv_has ls 7 [(0, .ref (xA X 30)), (1, .int (iI a1)), (2, .int (iI a2)), (3, .int (iI x3_30)), (4, .int (iI x4_30)), (5, .int (iI x5_30))] → W p l e ({ frames := 2, cells := 0, slots := 0, locals := 43 } : Room) s m ([.ref (xA X 30), .int (iI a1), .int (iI a2)] : List Value).toArray below meth c H locs 0 0 (MQ below (Qi X sz (fun r M1 => M1 = M ∧ post r)) ([.ref (xA X 30), .int (iI a1), .int (iI a2)] : List Value).toArray s 0 0 (xF X sz)) (F0 m 30 ls []) := by
        intro n30
        induction n30 using Nat.strongRecOn with
        | _ n30 ih_I30 =>
          intro x3_30 x4_30 x5_30 H locs ls hI rx3_30 rx4_30 rx5_30 hS hl
          have hw := hstep_I30 n30 x3_30 x4_30 x5_30 hI
          refine lv_iload hx hb dd_M_orbit_30 (lv_at hl 5 rfl) ?_
          refine lv_aload_n hx hb dd_M_orbit_32 rfl (lv_at hl 0 rfl) ?_
          refine x_get hC hS hM0.1 rfl iw_M 12 (by decide) tb_527 rfl rfl dd_M_orbit_33 ?_
          refine x_icmp_ge hC rx5_30 (hm_M 30 12) (tgt := 82) dd_M_orbit_36 (by decide) (fun c3 => ?_) (fun c3 => ?_)
          · have hw := hw.1 c3
            refine x_iconst hC dd_M_orbit_82 ?_
            refine lv_istore (lv' := [(5, .int (iI 0)), (0, .ref (xA X 30)), (1, .int (iI a1)), (2, .int (iI a2)), (3, .int (iI x3_30)), (4, .int (iI x4_30))]) hx hb dd_M_orbit_83 hl (by decide) rfl (fun ls hl => ?_)
            refine x_iconst hC dd_M_orbit_85 ?_
            refine lv_istore (lv' := [(6, .int (iI 0)), (5, .int (iI 0)), (0, .ref (xA X 30)), (1, .int (iI a1)), (2, .int (iI a2)), (3, .int (iI x3_30)), (4, .int (iI x4_30))]) hx hb dd_M_orbit_86 hl (by decide) rfl (fun ls hl => ?_)
            obtain ⟨I88, ⟨n0, hI⟩, hstep_I88⟩ := hw
            have lp_I88 : ∀ (n88 : Nat) (x5_88 : Int) (x6_88 : Int) (H : Heap) (locs : List Loc) (ls : Array Slot), I88 n88 x5_88 x6_88 → inR x5_88 → inR x6_88 → St X (xF X sz) s M H locs → lv_has ls 7 [(2, .int (iI a2)), (3, .int (iI x3_30)), (4, .int (iI x4_30)), (5, .int (iI x5_88)), (6, .int (iI x6_88))] → W p l e ({ frames := 2, cells := 0, slots := 0, locals := 43 } : Room) s m ([.ref (xA X 30), .int (iI a1), .int (iI a2)] : List Value).toArray below meth c H locs 0 0 (MQ below (Qi X sz (fun r M1 => M1 = M ∧ post r)) ([.ref (xA X 30), .int (iI a1), .int (iI a2)] : List Value).toArray s 0 0 (xF X sz)) (F0 m 88 ls []) := by
              intro n88
              induction n88 using Nat.strongRecOn with
              | _ n88 ih_I88 =>
                intro x5_88 x6_88 H locs ls hI rx5_88 rx6_88 hS hl
                have hw := hstep_I88 n88 x5_88 x6_88 hI
                refine lv_iload hx hb dd_M_orbit_88 (lv_at hl 4 rfl) ?_
                refine x_bipush hC dd_M_orbit_90 (by decide) ?_
                refine x_icmp_ge hC rx6_88 (rk rfl) (tgt := 112) dd_M_orbit_92 (by decide) (fun c4 => ?_) (fun c4 => ?_)
                · have hw := hw.1 c4
                  refine lv_iload_n hx hb dd_M_orbit_112 rfl (lv_at hl 0 rfl) ?_
                  refine x_if_ne hC ra2 (tgt := 121) dd_M_orbit_113 (by decide) (fun c5 => ?_) (fun c5 => ?_)
                  · have hw := hw.1 c5
                    refine lv_iload hx hb dd_M_orbit_121 (lv_at hl 2 rfl) ?_
                    exact x_iret hC hS hlocks hr rx4_30 ⟨rfl, hw⟩ dd_M_orbit_123
                  · have hw := hw.2 c5
                    refine lv_iload hx hb dd_M_orbit_116 (lv_at hl 3 rfl) ?_
                    refine lv_goto (tgt := 123) hx hb dd_M_orbit_118 (by decide) ?_
                    exact x_iret hC hS hlocks hr rx5_88 ⟨rfl, hw⟩ dd_M_orbit_123
                · have hw := hw.2 c4
                  refine lv_iload hx hb dd_M_orbit_95 (lv_at hl 3 rfl) ?_
                  refine lv_iload_n hx hb dd_M_orbit_97 rfl (lv_at hl 1 rfl) ?_
                  refine lv_iload hx hb dd_M_orbit_98 (lv_at hl 4 rfl) ?_
                  refine x_shr hC dd_M_orbit_100 ?_
                  refine x_iconst hC dd_M_orbit_101 ?_
                  refine x_and hC dd_M_orbit_102 ?_
                  obtain ⟨q6, hw⟩ := hw
                  refine x_add hC dd_M_orbit_103 ?_
                  refine x_nm q6 (fun v5_104 rv5_104 ev5_104 => ?_)
                  have hw := hw v5_104 ev5_104
                  refine lv_istore (lv' := [(5, .int (iI v5_104)), (2, .int (iI a2)), (3, .int (iI x3_30)), (4, .int (iI x4_30)), (6, .int (iI x6_88))]) hx hb dd_M_orbit_104 hl (by decide) rfl (fun ls hl => ?_)
                  obtain ⟨hr_, hw⟩ := hw
                  obtain ⟨v6_106, rv6_106, ev6_106⟩ : ∃ z : Int, inR z ∧ z = x6_88 + 1 := ⟨_, hr_, rfl⟩
                  have hw := hw v6_106 ev6_106
                  refine lv_iinc (v := iI v6_106) (lv' := [(6, .int (iI v6_106)), (5, .int (iI v5_104)), (2, .int (iI a2)), (3, .int (iI x3_30)), (4, .int (iI x4_30))]) hx hb dd_M_orbit_106 hl (k := 4) rfl (by rw [ev6_106]; exact iI_add _ _) (by decide) rfl (fun ls hl => ?_)
                  refine lv_goto (tgt := 88) hx hb dd_M_orbit_109 (by decide) ?_
                  obtain ⟨k_7, h8, hI⟩ := hw
                  exact ih_I88 k_7 h8 v5_104 v6_106 _ _ _ hI rv5_104 rv6_106 hS (lv_sub hl [2, 3, 4, 1, 0] rfl)
            exact lp_I88 n0 0 0 _ _ _ hI (rk rfl) (rk rfl) hS (lv_sub hl [4, 5, 6, 1, 0] rfl)
          · have hw := hw.2 c3
            refine lv_aload_n hx hb dd_M_orbit_39 rfl (lv_at hl 0 rfl) ?_
            refine x_get hC hS hM0.1 rfl iw_M 11 (by decide) tb_526 rfl rfl dd_M_orbit_40 ?_
            refine x_bipush hC dd_M_orbit_43 (by decide) ?_
            refine lv_iload hx hb dd_M_orbit_45 (lv_at hl 5 rfl) ?_
            obtain ⟨q9, hw⟩ := hw
            refine x_mul hC dd_M_orbit_47 ?_
            refine lv_iload_n hx hb dd_M_orbit_48 rfl (lv_at hl 1 rfl) ?_
            obtain ⟨q10, hw⟩ := hw
            refine x_add hC dd_M_orbit_49 ?_
            obtain ⟨q11, hw⟩ := hw
            refine x_iald hC hS hM0.2.2.2.2.2.2.2.2.2.1 q11 dd_M_orbit_50 ?_
            refine x_nm (hm_M 39 _) (fun z12 rz12 ez12 => ?_)
            have hw := hw z12 ez12
            refine lv_istore (lv' := [(6, .int (iI z12)), (0, .ref (xA X 30)), (1, .int (iI a1)), (2, .int (iI a2)), (3, .int (iI x3_30)), (4, .int (iI x4_30)), (5, .int (iI x5_30))]) hx hb dd_M_orbit_51 hl (by decide) rfl (fun ls hl => ?_)
            refine lv_iload_n hx hb dd_M_orbit_53 rfl (lv_at hl 4 rfl) ?_
            refine x_iconst hC dd_M_orbit_54 ?_
            refine lv_iload hx hb dd_M_orbit_55 (lv_at hl 0 rfl) ?_
            refine x_shl hC dd_M_orbit_57 ?_
            refine x_or hC dd_M_orbit_58 ?_
            refine x_nm (rng _) (fun v3_59 rv3_59 ev3_59 => ?_)
            have hw := hw v3_59 ev3_59
            refine lv_istore_n (lv' := [(3, .int (iI v3_59)), (6, .int (iI z12)), (0, .ref (xA X 30)), (1, .int (iI a1)), (2, .int (iI a2)), (4, .int (iI x4_30)), (5, .int (iI x5_30))]) hx hb dd_M_orbit_59 rfl hl (by decide) rfl (fun ls hl => ?_)
            refine lv_iload hx hb dd_M_orbit_60 (lv_at hl 5 rfl) ?_
            refine lv_iload hx hb dd_M_orbit_62 (lv_at hl 1 rfl) ?_
            refine lv_iload_n hx hb dd_M_orbit_64 rfl (lv_at hl 3 rfl) ?_
            have hw := hw (fun (s1_73 : Int) => ∀ (H : Heap) (locs : List Loc) (ls : Array Slot), inR s1_73 → St X (xF X sz) s M H locs → lv_has ls 7 [(0, .ref (xA X 30)), (1, .int (iI a1)), (2, .int (iI a2)), (3, .int (iI v3_59)), (5, .int (iI x5_30))] → W p l e ({ frames := 2, cells := 0, slots := 0, locals := 43 } : Room) s m ([.ref (xA X 30), .int (iI a1), .int (iI a2)] : List Value).toArray below meth c H locs 0 0 (MQ below (Qi X sz (fun r M1 => M1 = M ∧ post r)) ([.ref (xA X 30), .int (iI a1), .int (iI a2)] : List Value).toArray s 0 0 (xF X sz)) (F0 m 73 ls [.int (iI s1_73), .int (iI x4_30)])) (by
                intro s1_73 hw H locs ls rs1_73 hS hl
                obtain ⟨q13, hw⟩ := hw
                refine x_add hC dd_M_orbit_73 ?_
                refine x_nm q13 (fun v4_74 rv4_74 ev4_74 => ?_)
                have hw := hw v4_74 ev4_74
                refine lv_istore (lv' := [(4, .int (iI v4_74)), (0, .ref (xA X 30)), (1, .int (iI a1)), (2, .int (iI a2)), (3, .int (iI v3_59)), (5, .int (iI x5_30))]) hx hb dd_M_orbit_74 hl (by decide) rfl (fun ls hl => ?_)
                obtain ⟨hr_, hw⟩ := hw
                obtain ⟨v5_76, rv5_76, ev5_76⟩ : ∃ z : Int, inR z ∧ z = x5_30 + 1 := ⟨_, hr_, rfl⟩
                have hw := hw v5_76 ev5_76
                refine lv_iinc (v := iI v5_76) (lv' := [(5, .int (iI v5_76)), (4, .int (iI v4_74)), (0, .ref (xA X 30)), (1, .int (iI a1)), (2, .int (iI a2)), (3, .int (iI v3_59))]) hx hb dd_M_orbit_76 hl (k := 5) rfl (by rw [ev5_76]; exact iI_add _ _) (by decide) rfl (fun ls hl => ?_)
                refine lv_goto (tgt := 30) hx hb dd_M_orbit_79 (by decide) ?_
                obtain ⟨k_14, h15, hI⟩ := hw
                exact ih_I30 k_14 h15 v3_59 v4_74 v5_76 _ _ _ hI rv3_59 rv4_74 rv5_76 hS (lv_sub hl [2, 3, 4, 5, 1, 0] rfl))
            refine x_icmp_ne hC rz12 ra1 (tgt := 72) dd_M_orbit_65 (by decide) (fun c16 => ?_) (fun c16 => ?_)
            · have hw := hw.1 c16
              refine x_iconst hC dd_M_orbit_72 ?_
              exact hw _ _ _ (rk rfl) hS (lv_sub hl [2, 3, 4, 0, 6] rfl)
            · have hw := hw.2 c16
              refine x_iconst hC dd_M_orbit_68 ?_
              refine lv_goto (tgt := 73) hx hb dd_M_orbit_69 (by decide) ?_
              exact hw _ _ _ (rk rfl) hS (lv_sub hl [2, 3, 4, 0, 6] rfl)
      exact lp_I30 n0 0 0 0 _ _ _ hI (rk rfl) (rk rfl) (rk rfl) hS (lv_sub hl [3, 4, 5, 2, 1, 0] rfl)
    · have hw := hw.2 c2
      refine x_bipush hC dd_M_orbit_19 (by decide) ?_
      exact x_iret hC hS hlocks hr (rk rfl) ⟨rfl, hw⟩ dd_M_orbit_21
  · have hw := hw.2 c1
    refine x_iconst hC dd_M_orbit_8 ?_
    exact x_iret hC hS hlocks hr (rk rfl) ⟨rfl, hw⟩ dd_M_orbit_9
def wp_M_layColours (a1 : Int) (M : Mm) (post : Mm → Prop) : Prop :=
  wp_M_many M (fun (r3 : Int) => inR (r3 - 1) ∧ ∀ v3_8 : Int, v3_8 = (r3 - 1) → ∃ I9 : Nat → Int → Int → Mm → Prop, (∃ n, I9 n a1 v3_8 M) ∧ ∀ (n9 : Nat) (x2_9 : Int) (x3_9 : Int) (M9 : Mm), I9 n9 x2_9 x3_9 M9 →
    ((x3_9 < 0 → post M9) ∧
      (¬ x3_9 < 0 → (0 ≤ (1 : Int) ∧ (1 : Int) < 5046) ∧ ∀ z4 : Int, z4 = M9 31 ((1 : Int)).toNat → (0 ≤ x2_9 ∧ 0 < z4) ∧ (0 ≤ x3_9 ∧ x3_9 < 7) ∧ ∀ M_7 : Mm, M_7 = ms M9 44 (x3_9).toNat (x2_9 % z4) → (0 ≤ (1 : Int) ∧ (1 : Int) < 5046) ∧ ∀ z9 : Int, z9 = M_7 31 ((1 : Int)).toNat → (0 ≤ x2_9 ∧ 0 < z9) ∧ ∀ v2_35 : Int, v2_35 = (x2_9 / z9) → inR (x3_9 + (-1)) ∧ ∀ v3_36 : Int, v3_36 = x3_9 + (-1) → ∃ k_11, k_11 < n9 ∧ I9 k_11 v2_35 v3_36 M_7)))
set_option maxHeartbeats 4000000 in
set_option maxRecDepth 100000 in
theorem mt_M_layColours (l : Launch) (X : Xw) (hlc : lcl X)(hM0 : IsM X) (a1 : Int) (ra1 : inR a1) (M : Mm) (hm_M : mr M) (post : Mm → Prop) (sz : Nat) (hw : wp_M_layColours a1 M post) : Met l yy_M_layColours (Cond.code yy_M_layColours bc_M_layColours 4 none :: tg) ({ frames := 1, cells := 0, slots := 0, locals := 20 } : Room) (Pw X [.ref (xA X 30), .int (iI a1)] M sz) (Qv X sz post) 0 0 (xF X sz) := by
  unfold wp_M_layColours at hw
  refine x_enter (by decide) hlc hm_M (Nat.le_of_ble_eq_true rfl) ?_
  intro p e s m below meth c ls hC hsz hr hlocks hS hl
  have hx := hC.1.1
  have hb := hC.1.2.1
  have hl : lv_has ls 4 [(0, .ref (xA X 30)), (1, .int (iI a1))] := hl
  refine lv_iload_n hx hb dd_M_layColours_0 rfl (lv_at hl 1 rfl) ?_
  refine lv_istore_n (lv' := [(2, .int (iI a1)), (0, .ref (xA X 30)), (1, .int (iI a1))]) hx hb dd_M_layColours_1 rfl hl (by decide) rfl (fun ls hl => ?_)
  refine lv_aload_n hx hb dd_M_layColours_2 rfl (lv_at hl 1 rfl) ?_
  refine x_callVi hC hS (As := []) (rest := []) hM0.1 rfl cv_M_many (mt_M_many l X hC.2.2.1 hM0  M hm_M _ _ hw) tb_495 rfl rfl ⟨Nat.le_of_ble_eq_true rfl, Nat.le_of_ble_eq_true rfl⟩ rfl hl.1 (Nat.le_of_ble_eq_true rfl) dd_M_layColours_3 ⟨Nat.le_refl _, Nat.le_refl _⟩ rfl (fun r3 Mx H locs rr3 hp hS => ?_)
  obtain ⟨hq, hw⟩ := hp
  rw [hq] at hS
  refine x_iconst hC dd_M_layColours_6 ?_
  obtain ⟨q1, hw⟩ := hw
  refine x_sub hC dd_M_layColours_7 ?_
  refine x_nm q1 (fun v3_8 rv3_8 ev3_8 => ?_)
  have hw := hw v3_8 ev3_8
  refine lv_istore_n (lv' := [(3, .int (iI v3_8)), (2, .int (iI a1)), (0, .ref (xA X 30)), (1, .int (iI a1))]) hx hb dd_M_layColours_8 rfl hl (by decide) rfl (fun ls hl => ?_)
  obtain ⟨I9, ⟨n0, hI⟩, hstep_I9⟩ := hw
  have lp_I9 : ∀ (n9 : Nat) (x2_9 : Int) (x3_9 : Int) (M9 : Mm) (H : Heap) (locs : List Loc) (ls : Array Slot), I9 n9 x2_9 x3_9 M9 → inR x2_9 → inR x3_9 → St X (xF X sz) s M9 H locs → lv_has ls 4 [(0, .ref (xA X 30)), (2, .int (iI x2_9)), (3, .int (iI x3_9))] → W p l e ({ frames := 1, cells := 0, slots := 0, locals := 20 } : Room) s m ([.ref (xA X 30), .int (iI a1)] : List Value).toArray below meth c H locs 0 0 (MQ below (Qv X sz post) ([.ref (xA X 30), .int (iI a1)] : List Value).toArray s 0 0 (xF X sz)) (F0 m 9 ls []) := by
    intro n9
    induction n9 using Nat.strongRecOn with
    | _ n9 ih_I9 =>
      intro x2_9 x3_9 M9 H locs ls hI rx2_9 rx3_9 hS hl
      have hw := hstep_I9 n9 x2_9 x3_9 M9 hI
      have hm_M9 := hS.2.2.2
      refine lv_iload_n hx hb dd_M_layColours_9 rfl (lv_at hl 2 rfl) ?_
      refine x_if_lt hC rx3_9 (tgt := 42) dd_M_layColours_10 (by decide) (fun c2 => ?_) (fun c2 => ?_)
      · have hw := hw.1 c2
        exact x_vret hC hS hlocks hr hw dd_M_layColours_42
      · have hw := hw.2 c2
        refine lv_aload_n hx hb dd_M_layColours_13 rfl (lv_at hl 0 rfl) ?_
        refine x_get hC hS hM0.1 rfl iw_M 18 (by decide) tb_533 rfl rfl dd_M_layColours_14 ?_
        refine lv_iload_n hx hb dd_M_layColours_17 rfl (lv_at hl 2 rfl) ?_
        refine lv_iload_n hx hb dd_M_layColours_18 rfl (lv_at hl 1 rfl) ?_
        refine lv_aload_n hx hb dd_M_layColours_19 rfl (lv_at hl 0 rfl) ?_
        refine x_get hC hS hM0.1 rfl iw_M 0 (by decide) tb_515 rfl rfl dd_M_layColours_20 ?_
        refine x_iconst hC dd_M_layColours_23 ?_
        obtain ⟨q3, hw⟩ := hw
        refine x_iald hC hS hM0.2.1 q3 dd_M_layColours_24 ?_
        refine x_nm (hm_M9 31 _) (fun z4 rz4 ez4 => ?_)
        have hw := hw z4 ez4
        obtain ⟨q5, hw⟩ := hw
        refine x_rem hC rx2_9 rz4 q5 dd_M_layColours_25 ?_
        obtain ⟨q6, hw⟩ := hw
        refine x_iast hC hS hM0.2.2.2.2.2.2.2.2.2.2.2.2.2.2.1 q6 (rMod rz4 q5.2) dd_M_layColours_26 (fun H locs hS => ?_)
        obtain ⟨M_7, eM_7⟩ : ∃ Z : Mm, Z = ms M9 44 (x3_9).toNat (x2_9 % z4) := ⟨_, rfl⟩
        rw [← eM_7] at hS
        have hw := hw M_7 eM_7
        have hm_M_7 := hS.2.2.2
        refine lv_iload_n hx hb dd_M_layColours_27 rfl (lv_at hl 1 rfl) ?_
        refine lv_aload_n hx hb dd_M_layColours_28 rfl (lv_at hl 0 rfl) ?_
        refine x_get hC hS hM0.1 rfl iw_M 0 (by decide) tb_515 rfl rfl dd_M_layColours_29 ?_
        refine x_iconst hC dd_M_layColours_32 ?_
        obtain ⟨q8, hw⟩ := hw
        refine x_iald hC hS hM0.2.1 q8 dd_M_layColours_33 ?_
        refine x_nm (hm_M_7 31 _) (fun z9 rz9 ez9 => ?_)
        have hw := hw z9 ez9
        obtain ⟨q10, hw⟩ := hw
        refine x_div hC rx2_9 rz9 q10 dd_M_layColours_34 ?_
        refine x_nm (rDiv rx2_9 q10.1 q10.2) (fun v2_35 rv2_35 ev2_35 => ?_)
        have hw := hw v2_35 ev2_35
        refine lv_istore_n (lv' := [(2, .int (iI v2_35)), (0, .ref (xA X 30)), (3, .int (iI x3_9))]) hx hb dd_M_layColours_35 rfl hl (by decide) rfl (fun ls hl => ?_)
        obtain ⟨hr_, hw⟩ := hw
        obtain ⟨v3_36, rv3_36, ev3_36⟩ : ∃ z : Int, inR z ∧ z = x3_9 + (-1) := ⟨_, hr_, rfl⟩
        have hw := hw v3_36 ev3_36
        refine lv_iinc (v := iI v3_36) (lv' := [(3, .int (iI v3_36)), (2, .int (iI v2_35)), (0, .ref (xA X 30))]) hx hb dd_M_layColours_36 hl (k := 2) rfl (by rw [ev3_36]; exact iI_add _ _) (by decide) rfl (fun ls hl => ?_)
        refine lv_goto (tgt := 9) hx hb dd_M_layColours_39 (by decide) ?_
        obtain ⟨k_11, h12, hI⟩ := hw
        exact ih_I9 k_11 h12 v2_35 v3_36 M_7 _ _ _ hI rv2_35 rv3_36 hS (lv_sub hl [2, 1, 0] rfl)
  exact lp_I9 n0 a1 v3_8 M _ _ _ hI ra1 rv3_8 hS (lv_sub hl [2, 1, 0] rfl)
def wp_M_layWorths (M : Mm) (post : Mm → Prop) : Prop :=
  wp_M_many M (fun (r3 : Int) => inR (r3 - 1) ∧ ∀ v2_8 : Int, v2_8 = (r3 - 1) → ∃ I9 : Nat → Int → Int → Mm → Prop, (∃ n, I9 n 1 v2_8 M) ∧ ∀ (n9 : Nat) (x1_9 : Int) (x2_9 : Int) (M9 : Mm), I9 n9 x1_9 x2_9 M9 →
    ((x2_9 < 0 → ∀ M_3 : Mm, M_3 = ms M9 30 23 x1_9 → post M_3) ∧
      (¬ x2_9 < 0 → (0 ≤ x2_9 ∧ x2_9 < 7) ∧ ∀ M_5 : Mm, M_5 = ms M9 48 (x2_9).toNat x1_9 → (0 ≤ (1 : Int) ∧ (1 : Int) < 5046) ∧ ∀ z7 : Int, z7 = M_5 31 ((1 : Int)).toNat → inR (x1_9 * z7) ∧ ∀ v1_28 : Int, v1_28 = (x1_9 * z7) → inR (x2_9 + (-1)) ∧ ∀ v2_29 : Int, v2_29 = x2_9 + (-1) → ∃ k_9, k_9 < n9 ∧ I9 k_9 v1_28 v2_29 M_5)))
set_option maxHeartbeats 4000000 in
set_option maxRecDepth 100000 in
theorem mt_M_layWorths (l : Launch) (X : Xw) (hlc : lcl X)(hM0 : IsM X) (M : Mm) (hm_M : mr M) (post : Mm → Prop) (sz : Nat) (hw : wp_M_layWorths M post) : Met l yy_M_layWorths (Cond.code yy_M_layWorths bc_M_layWorths 3 none :: tg) ({ frames := 1, cells := 0, slots := 0, locals := 20 } : Room) (Pw X [.ref (xA X 30)] M sz) (Qv X sz post) 0 0 (xF X sz) := by
  unfold wp_M_layWorths at hw
  refine x_enter (by decide) hlc hm_M (Nat.le_of_ble_eq_true rfl) ?_
  intro p e s m below meth c ls hC hsz hr hlocks hS hl
  have hx := hC.1.1
  have hb := hC.1.2.1
  have hl : lv_has ls 3 [(0, .ref (xA X 30))] := hl
  refine x_iconst hC dd_M_layWorths_0 ?_
  refine lv_istore_n (lv' := [(1, .int (iI 1)), (0, .ref (xA X 30))]) hx hb dd_M_layWorths_1 rfl hl (by decide) rfl (fun ls hl => ?_)
  refine lv_aload_n hx hb dd_M_layWorths_2 rfl (lv_at hl 1 rfl) ?_
  refine x_callVi hC hS (As := []) (rest := []) hM0.1 rfl cv_M_many (mt_M_many l X hC.2.2.1 hM0  M hm_M _ _ hw) tb_495 rfl rfl ⟨Nat.le_of_ble_eq_true rfl, Nat.le_of_ble_eq_true rfl⟩ rfl hl.1 (Nat.le_of_ble_eq_true rfl) dd_M_layWorths_3 ⟨Nat.le_refl _, Nat.le_refl _⟩ rfl (fun r3 Mx H locs rr3 hp hS => ?_)
  obtain ⟨hq, hw⟩ := hp
  rw [hq] at hS
  refine x_iconst hC dd_M_layWorths_6 ?_
  obtain ⟨q1, hw⟩ := hw
  refine x_sub hC dd_M_layWorths_7 ?_
  refine x_nm q1 (fun v2_8 rv2_8 ev2_8 => ?_)
  have hw := hw v2_8 ev2_8
  refine lv_istore_n (lv' := [(2, .int (iI v2_8)), (1, .int (iI 1)), (0, .ref (xA X 30))]) hx hb dd_M_layWorths_8 rfl hl (by decide) rfl (fun ls hl => ?_)
  obtain ⟨I9, ⟨n0, hI⟩, hstep_I9⟩ := hw
  have lp_I9 : ∀ (n9 : Nat) (x1_9 : Int) (x2_9 : Int) (M9 : Mm) (H : Heap) (locs : List Loc) (ls : Array Slot), I9 n9 x1_9 x2_9 M9 → inR x1_9 → inR x2_9 → St X (xF X sz) s M9 H locs → lv_has ls 3 [(0, .ref (xA X 30)), (1, .int (iI x1_9)), (2, .int (iI x2_9))] → W p l e ({ frames := 1, cells := 0, slots := 0, locals := 20 } : Room) s m ([.ref (xA X 30)] : List Value).toArray below meth c H locs 0 0 (MQ below (Qv X sz post) ([.ref (xA X 30)] : List Value).toArray s 0 0 (xF X sz)) (F0 m 9 ls []) := by
    intro n9
    induction n9 using Nat.strongRecOn with
    | _ n9 ih_I9 =>
      intro x1_9 x2_9 M9 H locs ls hI rx1_9 rx2_9 hS hl
      have hw := hstep_I9 n9 x1_9 x2_9 M9 hI
      have hm_M9 := hS.2.2.2
      refine lv_iload_n hx hb dd_M_layWorths_9 rfl (lv_at hl 2 rfl) ?_
      refine x_if_lt hC rx2_9 (tgt := 35) dd_M_layWorths_10 (by decide) (fun c2 => ?_) (fun c2 => ?_)
      · have hw := hw.1 c2
        refine lv_aload_n hx hb dd_M_layWorths_35 rfl (lv_at hl 0 rfl) ?_
        refine lv_iload_n hx hb dd_M_layWorths_36 rfl (lv_at hl 1 rfl) ?_
        refine x_put hC hS hM0.1 rfl iw_M fy_M fk_M fn_M 23 (by decide) tb_538 rfl rx1_9 rfl rfl (ps_M_23 _ _ _) (Nat.le_of_ble_eq_true rfl) dd_M_layWorths_37 (fun H locs hS => ?_)
        obtain ⟨M_3, eM_3⟩ : ∃ Z : Mm, Z = ms M9 30 23 x1_9 := ⟨_, rfl⟩
        rw [← eM_3] at hS
        have hw := hw M_3 eM_3
        have hm_M_3 := hS.2.2.2
        exact x_vret hC hS hlocks hr hw dd_M_layWorths_40
      · have hw := hw.2 c2
        refine lv_aload_n hx hb dd_M_layWorths_13 rfl (lv_at hl 0 rfl) ?_
        refine x_get hC hS hM0.1 rfl iw_M 24 (by decide) tb_539 rfl rfl dd_M_layWorths_14 ?_
        refine lv_iload_n hx hb dd_M_layWorths_17 rfl (lv_at hl 2 rfl) ?_
        refine lv_iload_n hx hb dd_M_layWorths_18 rfl (lv_at hl 1 rfl) ?_
        obtain ⟨q4, hw⟩ := hw
        refine x_iast hC hS hM0.2.2.2.2.2.2.2.2.2.2.2.2.2.2.2.2.2.2 q4 rx1_9 dd_M_layWorths_19 (fun H locs hS => ?_)
        obtain ⟨M_5, eM_5⟩ : ∃ Z : Mm, Z = ms M9 48 (x2_9).toNat x1_9 := ⟨_, rfl⟩
        rw [← eM_5] at hS
        have hw := hw M_5 eM_5
        have hm_M_5 := hS.2.2.2
        refine lv_iload_n hx hb dd_M_layWorths_20 rfl (lv_at hl 1 rfl) ?_
        refine lv_aload_n hx hb dd_M_layWorths_21 rfl (lv_at hl 0 rfl) ?_
        refine x_get hC hS hM0.1 rfl iw_M 0 (by decide) tb_515 rfl rfl dd_M_layWorths_22 ?_
        refine x_iconst hC dd_M_layWorths_25 ?_
        obtain ⟨q6, hw⟩ := hw
        refine x_iald hC hS hM0.2.1 q6 dd_M_layWorths_26 ?_
        refine x_nm (hm_M_5 31 _) (fun z7 rz7 ez7 => ?_)
        have hw := hw z7 ez7
        obtain ⟨q8, hw⟩ := hw
        refine x_mul hC dd_M_layWorths_27 ?_
        refine x_nm q8 (fun v1_28 rv1_28 ev1_28 => ?_)
        have hw := hw v1_28 ev1_28
        refine lv_istore_n (lv' := [(1, .int (iI v1_28)), (0, .ref (xA X 30)), (2, .int (iI x2_9))]) hx hb dd_M_layWorths_28 rfl hl (by decide) rfl (fun ls hl => ?_)
        obtain ⟨hr_, hw⟩ := hw
        obtain ⟨v2_29, rv2_29, ev2_29⟩ : ∃ z : Int, inR z ∧ z = x2_9 + (-1) := ⟨_, hr_, rfl⟩
        have hw := hw v2_29 ev2_29
        refine lv_iinc (v := iI v2_29) (lv' := [(2, .int (iI v2_29)), (1, .int (iI v1_28)), (0, .ref (xA X 30))]) hx hb dd_M_layWorths_29 hl (k := 2) rfl (by rw [ev2_29]; exact iI_add _ _) (by decide) rfl (fun ls hl => ?_)
        refine lv_goto (tgt := 9) hx hb dd_M_layWorths_32 (by decide) ?_
        obtain ⟨k_9, h10, hI⟩ := hw
        exact ih_I9 k_9 h10 v1_28 v2_29 M_5 _ _ _ hI rv1_28 rv2_29 hS (lv_sub hl [2, 1, 0] rfl)
  exact lp_I9 n0 1 v2_8 M _ _ _ hI (rk rfl) rv2_8 hS (lv_sub hl [2, 1, 0] rfl)
def wp_M_turned (a1 : Int) (M : Mm) (post : Int → Prop) : Prop :=
  ∃ I4 : Nat → Int → Int → Prop, (∃ n, I4 n 0 0) ∧ ∀ (n4 : Nat) (x2_4 : Int) (x3_4 : Int), I4 n4 x2_4 x3_4 →
    (wp_M_many M (fun (r6 : Int) => (r6 ≤ x3_4 → post x2_4) ∧
      (¬ r6 ≤ x3_4 → (0 ≤ x3_4 ∧ x3_4 < 7) ∧ ∀ z3 : Int, z3 = M 44 (x3_4).toNat → inR (7 * a1) ∧ inR ((7 * a1) + x3_4) ∧ (0 ≤ ((7 * a1) + x3_4) ∧ ((7 * a1) + x3_4) < 35280) ∧ ∀ z7 : Int, z7 = M 39 (((7 * a1) + x3_4)).toNat → (0 ≤ z7 ∧ z7 < 7) ∧ ∀ z9 : Int, z9 = M 48 (z7).toNat → inR (z3 * z9) ∧ inR (x2_4 + (z3 * z9)) ∧ ∀ v2_37 : Int, v2_37 = (x2_4 + (z3 * z9)) → inR (x3_4 + 1) ∧ ∀ v3_38 : Int, v3_38 = x3_4 + 1 → ∃ k_12, k_12 < n4 ∧ I4 k_12 v2_37 v3_38)))
set_option maxHeartbeats 4000000 in
set_option maxRecDepth 100000 in
theorem mt_M_turned (l : Launch) (X : Xw) (hlc : lcl X)(hM0 : IsM X) (a1 : Int) (ra1 : inR a1) (M : Mm) (hm_M : mr M) (post : Int → Prop) (sz : Nat) (hw : wp_M_turned a1 M post) : Met l yy_M_turned (Cond.code yy_M_turned bc_M_turned 4 (some .int) :: tg) ({ frames := 1, cells := 0, slots := 0, locals := 20 } : Room) (Pw X [.ref (xA X 30), .int (iI a1)] M sz) (Qi X sz (fun r M1 => M1 = M ∧ post r)) 0 0 (xF X sz) := by
  unfold wp_M_turned at hw
  refine x_enter (by decide) hlc hm_M (Nat.le_of_ble_eq_true rfl) ?_
  intro p e s m below meth c ls hC hsz hr hlocks hS hl
  have hx := hC.1.1
  have hb := hC.1.2.1
  have hl : lv_has ls 4 [(0, .ref (xA X 30)), (1, .int (iI a1))] := hl
  refine x_iconst hC dd_M_turned_0 ?_
  refine lv_istore_n (lv' := [(2, .int (iI 0)), (0, .ref (xA X 30)), (1, .int (iI a1))]) hx hb dd_M_turned_1 rfl hl (by decide) rfl (fun ls hl => ?_)
  refine x_iconst hC dd_M_turned_2 ?_
  refine lv_istore_n (lv' := [(3, .int (iI 0)), (2, .int (iI 0)), (0, .ref (xA X 30)), (1, .int (iI a1))]) hx hb dd_M_turned_3 rfl hl (by decide) rfl (fun ls hl => ?_)
  obtain ⟨I4, ⟨n0, hI⟩, hstep_I4⟩ := hw
  have lp_I4 : ∀ (n4 : Nat) (x2_4 : Int) (x3_4 : Int) (H : Heap) (locs : List Loc) (ls : Array Slot), I4 n4 x2_4 x3_4 → inR x2_4 → inR x3_4 → St X (xF X sz) s M H locs → lv_has ls 4 [(0, .ref (xA X 30)), (1, .int (iI a1)), (2, .int (iI x2_4)), (3, .int (iI x3_4))] → W p l e ({ frames := 1, cells := 0, slots := 0, locals := 20 } : Room) s m ([.ref (xA X 30), .int (iI a1)] : List Value).toArray below meth c H locs 0 0 (MQ below (Qi X sz (fun r M1 => M1 = M ∧ post r)) ([.ref (xA X 30), .int (iI a1)] : List Value).toArray s 0 0 (xF X sz)) (F0 m 4 ls []) := by
    intro n4
    induction n4 using Nat.strongRecOn with
    | _ n4 ih_I4 =>
      intro x2_4 x3_4 H locs ls hI rx2_4 rx3_4 hS hl
      have hw := hstep_I4 n4 x2_4 x3_4 hI
      refine lv_iload_n hx hb dd_M_turned_4 rfl (lv_at hl 3 rfl) ?_
      refine lv_aload_n hx hb dd_M_turned_5 rfl (lv_at hl 0 rfl) ?_
      refine x_callVi hC hS (As := []) (rest := [.int (iI x3_4)]) hM0.1 rfl cv_M_many (mt_M_many l X hC.2.2.1 hM0  M hm_M _ _ hw) tb_495 rfl rfl ⟨Nat.le_of_ble_eq_true rfl, Nat.le_of_ble_eq_true rfl⟩ rfl hl.1 (Nat.le_of_ble_eq_true rfl) dd_M_turned_6 ⟨Nat.le_refl _, Nat.le_refl _⟩ rfl (fun r6 Mx H locs rr6 hp hS => ?_)
      obtain ⟨hq, hw⟩ := hp
      rw [hq] at hS
      refine x_icmp_ge hC rx3_4 rr6 (tgt := 44) dd_M_turned_9 (by decide) (fun c1 => ?_) (fun c1 => ?_)
      · have hw := hw.1 c1
        refine lv_iload_n hx hb dd_M_turned_44 rfl (lv_at hl 2 rfl) ?_
        exact x_iret hC hS hlocks hr rx2_4 ⟨rfl, hw⟩ dd_M_turned_45
      · have hw := hw.2 c1
        refine lv_iload_n hx hb dd_M_turned_12 rfl (lv_at hl 2 rfl) ?_
        refine lv_aload_n hx hb dd_M_turned_13 rfl (lv_at hl 0 rfl) ?_
        refine x_get hC hS hM0.1 rfl iw_M 18 (by decide) tb_533 rfl rfl dd_M_turned_14 ?_
        refine lv_iload_n hx hb dd_M_turned_17 rfl (lv_at hl 3 rfl) ?_
        obtain ⟨q2, hw⟩ := hw
        refine x_iald hC hS hM0.2.2.2.2.2.2.2.2.2.2.2.2.2.2.1 q2 dd_M_turned_18 ?_
        refine x_nm (hm_M 44 _) (fun z3 rz3 ez3 => ?_)
        have hw := hw z3 ez3
        refine lv_aload_n hx hb dd_M_turned_19 rfl (lv_at hl 0 rfl) ?_
        refine x_get hC hS hM0.1 rfl iw_M 24 (by decide) tb_539 rfl rfl dd_M_turned_20 ?_
        refine lv_aload_n hx hb dd_M_turned_23 rfl (lv_at hl 0 rfl) ?_
        refine x_get hC hS hM0.1 rfl iw_M 11 (by decide) tb_526 rfl rfl dd_M_turned_24 ?_
        refine x_bipush hC dd_M_turned_27 (by decide) ?_
        refine lv_iload_n hx hb dd_M_turned_29 rfl (lv_at hl 1 rfl) ?_
        obtain ⟨q4, hw⟩ := hw
        refine x_mul hC dd_M_turned_30 ?_
        refine lv_iload_n hx hb dd_M_turned_31 rfl (lv_at hl 3 rfl) ?_
        obtain ⟨q5, hw⟩ := hw
        refine x_add hC dd_M_turned_32 ?_
        obtain ⟨q6, hw⟩ := hw
        refine x_iald hC hS hM0.2.2.2.2.2.2.2.2.2.1 q6 dd_M_turned_33 ?_
        refine x_nm (hm_M 39 _) (fun z7 rz7 ez7 => ?_)
        have hw := hw z7 ez7
        obtain ⟨q8, hw⟩ := hw
        refine x_iald hC hS hM0.2.2.2.2.2.2.2.2.2.2.2.2.2.2.2.2.2.2 q8 dd_M_turned_34 ?_
        refine x_nm (hm_M 48 _) (fun z9 rz9 ez9 => ?_)
        have hw := hw z9 ez9
        obtain ⟨q10, hw⟩ := hw
        refine x_mul hC dd_M_turned_35 ?_
        obtain ⟨q11, hw⟩ := hw
        refine x_add hC dd_M_turned_36 ?_
        refine x_nm q11 (fun v2_37 rv2_37 ev2_37 => ?_)
        have hw := hw v2_37 ev2_37
        refine lv_istore_n (lv' := [(2, .int (iI v2_37)), (0, .ref (xA X 30)), (1, .int (iI a1)), (3, .int (iI x3_4))]) hx hb dd_M_turned_37 rfl hl (by decide) rfl (fun ls hl => ?_)
        obtain ⟨hr_, hw⟩ := hw
        obtain ⟨v3_38, rv3_38, ev3_38⟩ : ∃ z : Int, inR z ∧ z = x3_4 + 1 := ⟨_, hr_, rfl⟩
        have hw := hw v3_38 ev3_38
        refine lv_iinc (v := iI v3_38) (lv' := [(3, .int (iI v3_38)), (2, .int (iI v2_37)), (0, .ref (xA X 30)), (1, .int (iI a1))]) hx hb dd_M_turned_38 hl (k := 3) rfl (by rw [ev3_38]; exact iI_add _ _) (by decide) rfl (fun ls hl => ?_)
        refine lv_goto (tgt := 4) hx hb dd_M_turned_41 (by decide) ?_
        obtain ⟨k_12, h13, hI⟩ := hw
        exact ih_I4 k_12 h13 v2_37 v3_38 _ _ _ hI rv2_37 rv3_38 hS (lv_sub hl [2, 3, 1, 0] rfl)
  exact lp_I4 n0 0 0 _ _ _ hI (rk rfl) (rk rfl) hS (lv_sub hl [2, 3, 1, 0] rfl)
def wp_M_strike (a1 : Int) (M : Mm) (post : Mm → Prop) : Prop :=
  wp_M_layColours a1 M (fun (M_1 : Mm) => ∃ I7 : Nat → Int → Mm → Prop, (∃ n, I7 n 0 M_1) ∧ ∀ (n7 : Nat) (x2_7 : Int) (M7 : Mm), I7 n7 x2_7 M7 →
    (((M7 30 12) ≤ x2_7 → post M7) ∧
      (¬ (M7 30 12) ≤ x2_7 → wp_M_turned x2_7 M7 (fun (r17 : Int) => (0 ≤ r17 ∧ r17 < 16384) ∧ ∀ z4 : Int, z4 = M7 45 (r17).toNat → ∀ K53 : Mm → Prop, (∀ (M53 : Mm), (inR (x2_7 + 1) ∧ ∀ v2_53 : Int, v2_53 = x2_7 + 1 → ∃ k_5, k_5 < n7 ∧ I7 k_5 v2_53 M53) →
          K53 M53) →
        ((0 ≤ z4 → K53 M7) ∧
        (¬ 0 ≤ z4 → (0 ≤ r17 ∧ r17 < 16384) ∧ ∀ M_9 : Mm, M_9 = ms M7 45 (r17).toNat (M7 30 22) → (0 ≤ (M_9 30 22) ∧ (M_9 30 22) < 16384) ∧ ∀ z11 : Int, z11 = M_9 47 ((M_9 30 22)).toNat → inR (z11 + 1) ∧ (0 ≤ (M_9 30 22) ∧ (M_9 30 22) < 16384) ∧ ∀ M_14 : Mm, M_14 = ms M_9 47 ((M_9 30 22)).toNat (z11 + 1) → K53 M_14))))))
set_option maxHeartbeats 4000000 in
set_option maxRecDepth 100000 in
theorem mt_M_strike (l : Launch) (X : Xw) (hlc : lcl X)(hM0 : IsM X) (a1 : Int) (ra1 : inR a1) (M : Mm) (hm_M : mr M) (post : Mm → Prop) (sz : Nat) (hw : wp_M_strike a1 M post) : Met l yy_M_strike (Cond.code yy_M_strike bc_M_strike 4 none :: tg) ({ frames := 2, cells := 0, slots := 0, locals := 43 } : Room) (Pw X [.ref (xA X 30), .int (iI a1)] M sz) (Qv X sz post) 0 0 (xF X sz) := by
  unfold wp_M_strike at hw
  refine x_enter (by decide) hlc hm_M (Nat.le_of_ble_eq_true rfl) ?_
  intro p e s m below meth c ls hC hsz hr hlocks hS hl
  have hx := hC.1.1
  have hb := hC.1.2.1
  have hl : lv_has ls 4 [(0, .ref (xA X 30)), (1, .int (iI a1))] := hl
  refine lv_aload_n hx hb dd_M_strike_0 rfl (lv_at hl 0 rfl) ?_
  refine lv_iload_n hx hb dd_M_strike_1 rfl (lv_at hl 1 rfl) ?_
  refine x_callVv hC hS (As := [.int (iI a1)]) (rest := []) hM0.1 rfl cv_M_layColours (mt_M_layColours l X hC.2.2.1 hM0 a1 ra1 M hm_M _ _ hw) tb_712 rfl rfl ⟨Nat.le_of_ble_eq_true rfl, Nat.le_of_ble_eq_true rfl⟩ rfl hl.1 (Nat.le_of_ble_eq_true rfl) dd_M_strike_2 ⟨Nat.le_refl _, Nat.le_refl _⟩ rfl (fun M_1 H locs hw hS => ?_)
  have hm_M_1 := hS.2.2.2
  refine x_iconst hC dd_M_strike_5 ?_
  refine lv_istore_n (lv' := [(2, .int (iI 0)), (0, .ref (xA X 30)), (1, .int (iI a1))]) hx hb dd_M_strike_6 rfl hl (by decide) rfl (fun ls hl => ?_)
  obtain ⟨I7, ⟨n0, hI⟩, hstep_I7⟩ := hw
  have lp_I7 : ∀ (n7 : Nat) (x2_7 : Int) (M7 : Mm) (H : Heap) (locs : List Loc) (ls : Array Slot), I7 n7 x2_7 M7 → inR x2_7 → St X (xF X sz) s M7 H locs → lv_has ls 4 [(0, .ref (xA X 30)), (2, .int (iI x2_7))] → W p l e ({ frames := 2, cells := 0, slots := 0, locals := 43 } : Room) s m ([.ref (xA X 30), .int (iI a1)] : List Value).toArray below meth c H locs 0 0 (MQ below (Qv X sz post) ([.ref (xA X 30), .int (iI a1)] : List Value).toArray s 0 0 (xF X sz)) (F0 m 7 ls []) := by
    intro n7
    induction n7 using Nat.strongRecOn with
    | _ n7 ih_I7 =>
      intro x2_7 M7 H locs ls hI rx2_7 hS hl
      have hw := hstep_I7 n7 x2_7 M7 hI
      have hm_M7 := hS.2.2.2
      refine lv_iload_n hx hb dd_M_strike_7 rfl (lv_at hl 1 rfl) ?_
      refine lv_aload_n hx hb dd_M_strike_8 rfl (lv_at hl 0 rfl) ?_
      refine x_get hC hS hM0.1 rfl iw_M 12 (by decide) tb_527 rfl rfl dd_M_strike_9 ?_
      refine x_icmp_ge hC rx2_7 (hm_M7 30 12) (tgt := 59) dd_M_strike_12 (by decide) (fun c2 => ?_) (fun c2 => ?_)
      · have hw := hw.1 c2
        exact x_vret hC hS hlocks hr hw dd_M_strike_59
      · have hw := hw.2 c2
        refine lv_aload_n hx hb dd_M_strike_15 rfl (lv_at hl 0 rfl) ?_
        refine lv_iload_n hx hb dd_M_strike_16 rfl (lv_at hl 1 rfl) ?_
        refine x_callVi hC hS (As := [.int (iI x2_7)]) (rest := []) hM0.1 rfl cv_M_turned (mt_M_turned l X hC.2.2.1 hM0 x2_7 rx2_7 M7 hm_M7 _ _ hw) tb_716 rfl rfl ⟨Nat.le_of_ble_eq_true rfl, Nat.le_of_ble_eq_true rfl⟩ rfl hl.1 (Nat.le_of_ble_eq_true rfl) dd_M_strike_17 ⟨Nat.le_refl _, Nat.le_refl _⟩ rfl (fun r17 Mx H locs rr17 hp hS => ?_)
        obtain ⟨hq, hw⟩ := hp
        rw [hq] at hS
        refine lv_istore_n (lv' := [(3, .int (iI r17)), (0, .ref (xA X 30)), (2, .int (iI x2_7))]) hx hb dd_M_strike_20 rfl hl (by decide) rfl (fun ls hl => ?_)
        refine lv_aload_n hx hb dd_M_strike_21 rfl (lv_at hl 1 rfl) ?_
        refine x_get hC hS hM0.1 rfl iw_M 19 (by decide) tb_534 rfl rfl dd_M_strike_22 ?_
        refine lv_iload_n hx hb dd_M_strike_25 rfl (lv_at hl 0 rfl) ?_
        obtain ⟨q3, hw⟩ := hw
        refine x_iald hC hS hM0.2.2.2.2.2.2.2.2.2.2.2.2.2.2.2.1 q3 dd_M_strike_26 ?_
        refine x_nm (hm_M7 45 _) (fun z4 rz4 ez4 => ?_)
        have hw := hw z4 ez4
        have hw := hw (fun (M53 : Mm) => ∀ (H : Heap) (locs : List Loc) (ls : Array Slot), St X (xF X sz) s M53 H locs → lv_has ls 4 [(0, .ref (xA X 30)), (2, .int (iI x2_7))] → W p l e ({ frames := 2, cells := 0, slots := 0, locals := 43 } : Room) s m ([.ref (xA X 30), .int (iI a1)] : List Value).toArray below meth c H locs 0 0 (MQ below (Qv X sz post) ([.ref (xA X 30), .int (iI a1)] : List Value).toArray s 0 0 (xF X sz)) (F0 m 53 ls [])) (by
            intro M53 hw H locs ls  hS hl
            have hm_M53 := hS.2.2.2
            obtain ⟨hr_, hw⟩ := hw
            obtain ⟨v2_53, rv2_53, ev2_53⟩ : ∃ z : Int, inR z ∧ z = x2_7 + 1 := ⟨_, hr_, rfl⟩
            have hw := hw v2_53 ev2_53
            refine lv_iinc (v := iI v2_53) (lv' := [(2, .int (iI v2_53)), (0, .ref (xA X 30))]) hx hb dd_M_strike_53 hl (k := 1) rfl (by rw [ev2_53]; exact iI_add _ _) (by decide) rfl (fun ls hl => ?_)
            refine lv_goto (tgt := 7) hx hb dd_M_strike_56 (by decide) ?_
            obtain ⟨k_5, h6, hI⟩ := hw
            exact ih_I7 k_5 h6 v2_53 M53 _ _ _ hI rv2_53 hS (lv_sub hl [1, 0] rfl))
        refine x_if_ge hC rz4 (tgt := 53) dd_M_strike_27 (by decide) (fun c7 => ?_) (fun c7 => ?_)
        · have hw := hw.1 c7
          exact hw _ _ _  hS (lv_sub hl [1, 2] rfl)
        · have hw := hw.2 c7
          refine lv_aload_n hx hb dd_M_strike_30 rfl (lv_at hl 1 rfl) ?_
          refine x_get hC hS hM0.1 rfl iw_M 19 (by decide) tb_534 rfl rfl dd_M_strike_31 ?_
          refine lv_iload_n hx hb dd_M_strike_34 rfl (lv_at hl 0 rfl) ?_
          refine lv_aload_n hx hb dd_M_strike_35 rfl (lv_at hl 1 rfl) ?_
          refine x_get hC hS hM0.1 rfl iw_M 22 (by decide) tb_537 rfl rfl dd_M_strike_36 ?_
          obtain ⟨q8, hw⟩ := hw
          refine x_iast hC hS hM0.2.2.2.2.2.2.2.2.2.2.2.2.2.2.2.1 q8 (hm_M7 30 22) dd_M_strike_39 (fun H locs hS => ?_)
          obtain ⟨M_9, eM_9⟩ : ∃ Z : Mm, Z = ms M7 45 (r17).toNat (M7 30 22) := ⟨_, rfl⟩
          rw [← eM_9] at hS
          have hw := hw M_9 eM_9
          have hm_M_9 := hS.2.2.2
          refine lv_aload_n hx hb dd_M_strike_40 rfl (lv_at hl 1 rfl) ?_
          refine x_get hC hS hM0.1 rfl iw_M 21 (by decide) tb_536 rfl rfl dd_M_strike_41 ?_
          refine lv_aload_n hx hb dd_M_strike_44 rfl (lv_at hl 1 rfl) ?_
          refine x_get hC hS hM0.1 rfl iw_M 22 (by decide) tb_537 rfl rfl dd_M_strike_45 ?_
          refine lv_dup2_11 hx hb dd_M_strike_48 rfl rfl ?_
          obtain ⟨q10, hw⟩ := hw
          refine x_iald hC hS hM0.2.2.2.2.2.2.2.2.2.2.2.2.2.2.2.2.2.1 q10 dd_M_strike_49 ?_
          refine x_nm (hm_M_9 47 _) (fun z11 rz11 ez11 => ?_)
          have hw := hw z11 ez11
          refine x_iconst hC dd_M_strike_50 ?_
          obtain ⟨q12, hw⟩ := hw
          refine x_add hC dd_M_strike_51 ?_
          obtain ⟨q13, hw⟩ := hw
          refine x_iast hC hS hM0.2.2.2.2.2.2.2.2.2.2.2.2.2.2.2.2.2.1 q13 q12 dd_M_strike_52 (fun H locs hS => ?_)
          obtain ⟨M_14, eM_14⟩ : ∃ Z : Mm, Z = ms M_9 47 ((M_9 30 22)).toNat (z11 + 1) := ⟨_, rfl⟩
          rw [← eM_14] at hS
          have hw := hw M_14 eM_14
          have hm_M_14 := hS.2.2.2
          exact hw _ _ _  hS (lv_sub hl [1, 2] rfl)
  exact lp_I7 n0 0 M_1 _ _ _ hI (rk rfl) hS (lv_sub hl [1, 0] rfl)
def wp_M_layPatterns (M : Mm) (post : Mm → Prop) : Prop :=
  wp_M_layWorths M (fun (M_1 : Mm) => ∀ M_2 : Mm, M_2 = ms M_1 30 22 0 → ∃ I11 : Nat → Int → Mm → Prop, (∃ n, I11 n 0 M_2) ∧ ∀ (n11 : Nat) (x1_11 : Int) (M11 : Mm), I11 n11 x1_11 M11 →
    (((M11 30 23) ≤ x1_11 → ∃ I35 : Nat → Int → Mm → Prop, (∃ n, I35 n 0 M11) ∧ ∀ (n35 : Nat) (x1_35 : Int) (M35 : Mm), I35 n35 x1_35 M35 →
          (((M35 30 23) ≤ x1_35 → post M35) ∧
            (¬ (M35 30 23) ≤ x1_35 → (0 ≤ x1_35 ∧ x1_35 < 16384) ∧ ∀ z6 : Int, z6 = M35 45 (x1_35).toNat → ∀ K87 : Mm → Prop, (∀ (M87 : Mm), (inR (x1_35 + 1) ∧ ∀ v1_87 : Int, v1_87 = x1_35 + 1 → ∃ k_7, k_7 < n35 ∧ I35 k_7 v1_87 M87) →
                K87 M87) →
              ((0 ≤ z6 → K87 M35) ∧
              (¬ 0 ≤ z6 → (0 ≤ (M35 30 22) ∧ (M35 30 22) < 16384) ∧ ∀ M_11 : Mm, M_11 = ms M35 46 ((M35 30 22)).toNat x1_35 → (0 ≤ (M_11 30 22) ∧ (M_11 30 22) < 16384) ∧ ∀ M_13 : Mm, M_13 = ms M_11 47 ((M_11 30 22)).toNat 0 → wp_M_strike x1_35 M_13 (fun (M_14 : Mm) => inR ((M_14 30 22) + 1) ∧ ∀ M_16 : Mm, M_16 = ms M_14 30 22 ((M_14 30 22) + 1) → K87 M_16)))))) ∧
      (¬ (M11 30 23) ≤ x1_11 → (0 ≤ x1_11 ∧ x1_11 < 16384) ∧ ∀ M_18 : Mm, M_18 = ms M11 45 (x1_11).toNat (-6) → inR (x1_11 + 1) ∧ ∀ v1_27 : Int, v1_27 = x1_11 + 1 → ∃ k_19, k_19 < n11 ∧ I11 k_19 v1_27 M_18)))
set_option maxHeartbeats 4000000 in
set_option maxRecDepth 100000 in
theorem mt_M_layPatterns (l : Launch) (X : Xw) (hlc : lcl X)(hM0 : IsM X) (M : Mm) (hm_M : mr M) (post : Mm → Prop) (sz : Nat) (hw : wp_M_layPatterns M post) : Met l yy_M_layPatterns (Cond.code yy_M_layPatterns bc_M_layPatterns 2 none :: tg) ({ frames := 3, cells := 0, slots := 0, locals := 66 } : Room) (Pw X [.ref (xA X 30)] M sz) (Qv X sz post) 0 0 (xF X sz) := by
  unfold wp_M_layPatterns at hw
  refine x_enter (by decide) hlc hm_M (Nat.le_of_ble_eq_true rfl) ?_
  intro p e s m below meth c ls hC hsz hr hlocks hS hl
  have hx := hC.1.1
  have hb := hC.1.2.1
  have hl : lv_has ls 2 [(0, .ref (xA X 30))] := hl
  refine lv_aload_n hx hb dd_M_layPatterns_0 rfl (lv_at hl 0 rfl) ?_
  refine x_callVv hC hS (As := []) (rest := []) hM0.1 rfl cv_M_layWorths (mt_M_layWorths l X hC.2.2.1 hM0  M hm_M _ _ hw) tb_704 rfl rfl ⟨Nat.le_of_ble_eq_true rfl, Nat.le_of_ble_eq_true rfl⟩ rfl hl.1 (Nat.le_of_ble_eq_true rfl) dd_M_layPatterns_1 ⟨Nat.le_refl _, Nat.le_refl _⟩ rfl (fun M_1 H locs hw hS => ?_)
  have hm_M_1 := hS.2.2.2
  refine lv_aload_n hx hb dd_M_layPatterns_4 rfl (lv_at hl 0 rfl) ?_
  refine x_iconst hC dd_M_layPatterns_5 ?_
  refine x_put hC hS hM0.1 rfl iw_M fy_M fk_M fn_M 22 (by decide) tb_537 rfl (rk rfl) rfl rfl (ps_M_22 _ _ _) (Nat.le_of_ble_eq_true rfl) dd_M_layPatterns_6 (fun H locs hS => ?_)
  obtain ⟨M_2, eM_2⟩ : ∃ Z : Mm, Z = ms M_1 30 22 0 := ⟨_, rfl⟩
  rw [← eM_2] at hS
  have hw := hw M_2 eM_2
  have hm_M_2 := hS.2.2.2
  refine x_iconst hC dd_M_layPatterns_9 ?_
  refine lv_istore_n (lv' := [(1, .int (iI 0)), (0, .ref (xA X 30))]) hx hb dd_M_layPatterns_10 rfl hl (by decide) rfl (fun ls hl => ?_)
  obtain ⟨I11, ⟨n0, hI⟩, hstep_I11⟩ := hw
  have lp_I11 : ∀ (n11 : Nat) (x1_11 : Int) (M11 : Mm) (H : Heap) (locs : List Loc) (ls : Array Slot), I11 n11 x1_11 M11 → inR x1_11 → St X (xF X sz) s M11 H locs → lv_has ls 2 [(0, .ref (xA X 30)), (1, .int (iI x1_11))] → W p l e ({ frames := 3, cells := 0, slots := 0, locals := 66 } : Room) s m ([.ref (xA X 30)] : List Value).toArray below meth c H locs 0 0 (MQ below (Qv X sz post) ([.ref (xA X 30)] : List Value).toArray s 0 0 (xF X sz)) (F0 m 11 ls []) := by
    intro n11
    induction n11 using Nat.strongRecOn with
    | _ n11 ih_I11 =>
      intro x1_11 M11 H locs ls hI rx1_11 hS hl
      have hw := hstep_I11 n11 x1_11 M11 hI
      have hm_M11 := hS.2.2.2
      refine lv_iload_n hx hb dd_M_layPatterns_11 rfl (lv_at hl 1 rfl) ?_
      refine lv_aload_n hx hb dd_M_layPatterns_12 rfl (lv_at hl 0 rfl) ?_
      refine x_get hC hS hM0.1 rfl iw_M 23 (by decide) tb_538 rfl rfl dd_M_layPatterns_13 ?_
      refine x_icmp_ge hC rx1_11 (hm_M11 30 23) (tgt := 33) dd_M_layPatterns_16 (by decide) (fun c3 => ?_) (fun c3 => ?_)
      · have hw := hw.1 c3
        refine x_iconst hC dd_M_layPatterns_33 ?_
        refine lv_istore_n (lv' := [(1, .int (iI 0)), (0, .ref (xA X 30))]) hx hb dd_M_layPatterns_34 rfl hl (by decide) rfl (fun ls hl => ?_)
        obtain ⟨I35, ⟨n0, hI⟩, hstep_I35⟩ := hw
        have lp_I35 : ∀ (n35 : Nat) (x1_35 : Int) (M35 : Mm) (H : Heap) (locs : List Loc) (ls : Array Slot), I35 n35 x1_35 M35 → inR x1_35 → St X (xF X sz) s M35 H locs → lv_has ls 2 [(0, .ref (xA X 30)), (1, .int (iI x1_35))] → W p l e ({ frames := 3, cells := 0, slots := 0, locals := 66 } : Room) s m ([.ref (xA X 30)] : List Value).toArray below meth c H locs 0 0 (MQ below (Qv X sz post) ([.ref (xA X 30)] : List Value).toArray s 0 0 (xF X sz)) (F0 m 35 ls []) := by
          intro n35
          induction n35 using Nat.strongRecOn with
          | _ n35 ih_I35 =>
            intro x1_35 M35 H locs ls hI rx1_35 hS hl
            have hw := hstep_I35 n35 x1_35 M35 hI
            have hm_M35 := hS.2.2.2
            refine lv_iload_n hx hb dd_M_layPatterns_35 rfl (lv_at hl 1 rfl) ?_
            refine lv_aload_n hx hb dd_M_layPatterns_36 rfl (lv_at hl 0 rfl) ?_
            refine x_get hC hS hM0.1 rfl iw_M 23 (by decide) tb_538 rfl rfl dd_M_layPatterns_37 ?_
            refine x_icmp_ge hC rx1_35 (hm_M35 30 23) (tgt := 93) dd_M_layPatterns_40 (by decide) (fun c4 => ?_) (fun c4 => ?_)
            · have hw := hw.1 c4
              exact x_vret hC hS hlocks hr hw dd_M_layPatterns_93
            · have hw := hw.2 c4
              refine lv_aload_n hx hb dd_M_layPatterns_43 rfl (lv_at hl 0 rfl) ?_
              refine x_get hC hS hM0.1 rfl iw_M 19 (by decide) tb_534 rfl rfl dd_M_layPatterns_44 ?_
              refine lv_iload_n hx hb dd_M_layPatterns_47 rfl (lv_at hl 1 rfl) ?_
              obtain ⟨q5, hw⟩ := hw
              refine x_iald hC hS hM0.2.2.2.2.2.2.2.2.2.2.2.2.2.2.2.1 q5 dd_M_layPatterns_48 ?_
              refine x_nm (hm_M35 45 _) (fun z6 rz6 ez6 => ?_)
              have hw := hw z6 ez6
              have hw := hw (fun (M87 : Mm) => ∀ (H : Heap) (locs : List Loc) (ls : Array Slot), St X (xF X sz) s M87 H locs → lv_has ls 2 [(0, .ref (xA X 30)), (1, .int (iI x1_35))] → W p l e ({ frames := 3, cells := 0, slots := 0, locals := 66 } : Room) s m ([.ref (xA X 30)] : List Value).toArray below meth c H locs 0 0 (MQ below (Qv X sz post) ([.ref (xA X 30)] : List Value).toArray s 0 0 (xF X sz)) (F0 m 87 ls [])) (by
                  intro M87 hw H locs ls  hS hl
                  have hm_M87 := hS.2.2.2
                  obtain ⟨hr_, hw⟩ := hw
                  obtain ⟨v1_87, rv1_87, ev1_87⟩ : ∃ z : Int, inR z ∧ z = x1_35 + 1 := ⟨_, hr_, rfl⟩
                  have hw := hw v1_87 ev1_87
                  refine lv_iinc (v := iI v1_87) (lv' := [(1, .int (iI v1_87)), (0, .ref (xA X 30))]) hx hb dd_M_layPatterns_87 hl (k := 1) rfl (by rw [ev1_87]; exact iI_add _ _) (by decide) rfl (fun ls hl => ?_)
                  refine lv_goto (tgt := 35) hx hb dd_M_layPatterns_90 (by decide) ?_
                  obtain ⟨k_7, h8, hI⟩ := hw
                  exact ih_I35 k_7 h8 v1_87 M87 _ _ _ hI rv1_87 hS (lv_sub hl [1, 0] rfl))
              refine x_if_ge hC rz6 (tgt := 87) dd_M_layPatterns_49 (by decide) (fun c9 => ?_) (fun c9 => ?_)
              · have hw := hw.1 c9
                exact hw _ _ _  hS (lv_sub hl [0, 1] rfl)
              · have hw := hw.2 c9
                refine lv_aload_n hx hb dd_M_layPatterns_52 rfl (lv_at hl 0 rfl) ?_
                refine x_get hC hS hM0.1 rfl iw_M 20 (by decide) tb_535 rfl rfl dd_M_layPatterns_53 ?_
                refine lv_aload_n hx hb dd_M_layPatterns_56 rfl (lv_at hl 0 rfl) ?_
                refine x_get hC hS hM0.1 rfl iw_M 22 (by decide) tb_537 rfl rfl dd_M_layPatterns_57 ?_
                refine lv_iload_n hx hb dd_M_layPatterns_60 rfl (lv_at hl 1 rfl) ?_
                obtain ⟨q10, hw⟩ := hw
                refine x_iast hC hS hM0.2.2.2.2.2.2.2.2.2.2.2.2.2.2.2.2.1 q10 rx1_35 dd_M_layPatterns_61 (fun H locs hS => ?_)
                obtain ⟨M_11, eM_11⟩ : ∃ Z : Mm, Z = ms M35 46 ((M35 30 22)).toNat x1_35 := ⟨_, rfl⟩
                rw [← eM_11] at hS
                have hw := hw M_11 eM_11
                have hm_M_11 := hS.2.2.2
                refine lv_aload_n hx hb dd_M_layPatterns_62 rfl (lv_at hl 0 rfl) ?_
                refine x_get hC hS hM0.1 rfl iw_M 21 (by decide) tb_536 rfl rfl dd_M_layPatterns_63 ?_
                refine lv_aload_n hx hb dd_M_layPatterns_66 rfl (lv_at hl 0 rfl) ?_
                refine x_get hC hS hM0.1 rfl iw_M 22 (by decide) tb_537 rfl rfl dd_M_layPatterns_67 ?_
                refine x_iconst hC dd_M_layPatterns_70 ?_
                obtain ⟨q12, hw⟩ := hw
                refine x_iast hC hS hM0.2.2.2.2.2.2.2.2.2.2.2.2.2.2.2.2.2.1 q12 (rk rfl) dd_M_layPatterns_71 (fun H locs hS => ?_)
                obtain ⟨M_13, eM_13⟩ : ∃ Z : Mm, Z = ms M_11 47 ((M_11 30 22)).toNat 0 := ⟨_, rfl⟩
                rw [← eM_13] at hS
                have hw := hw M_13 eM_13
                have hm_M_13 := hS.2.2.2
                refine lv_aload_n hx hb dd_M_layPatterns_72 rfl (lv_at hl 0 rfl) ?_
                refine lv_iload_n hx hb dd_M_layPatterns_73 rfl (lv_at hl 1 rfl) ?_
                refine x_callVv hC hS (As := [.int (iI x1_35)]) (rest := []) hM0.1 rfl cv_M_strike (mt_M_strike l X hC.2.2.1 hM0 x1_35 rx1_35 M_13 hm_M_13 _ _ hw) tb_708 rfl rfl ⟨Nat.le_of_ble_eq_true rfl, Nat.le_of_ble_eq_true rfl⟩ rfl hl.1 (Nat.le_of_ble_eq_true rfl) dd_M_layPatterns_74 ⟨Nat.le_refl _, Nat.le_refl _⟩ rfl (fun M_14 H locs hw hS => ?_)
                have hm_M_14 := hS.2.2.2
                refine lv_aload_n hx hb dd_M_layPatterns_77 rfl (lv_at hl 0 rfl) ?_
                refine lv_dup hx hb dd_M_layPatterns_78 rfl ?_
                refine x_get hC hS hM0.1 rfl iw_M 22 (by decide) tb_537 rfl rfl dd_M_layPatterns_79 ?_
                refine x_iconst hC dd_M_layPatterns_82 ?_
                obtain ⟨q15, hw⟩ := hw
                refine x_add hC dd_M_layPatterns_83 ?_
                refine x_put hC hS hM0.1 rfl iw_M fy_M fk_M fn_M 22 (by decide) tb_537 rfl q15 rfl rfl (ps_M_22 _ _ _) (Nat.le_of_ble_eq_true rfl) dd_M_layPatterns_84 (fun H locs hS => ?_)
                obtain ⟨M_16, eM_16⟩ : ∃ Z : Mm, Z = ms M_14 30 22 ((M_14 30 22) + 1) := ⟨_, rfl⟩
                rw [← eM_16] at hS
                have hw := hw M_16 eM_16
                have hm_M_16 := hS.2.2.2
                exact hw _ _ _  hS (lv_sub hl [0, 1] rfl)
        exact lp_I35 n0 0 M11 _ _ _ hI (rk rfl) hS (lv_sub hl [1, 0] rfl)
      · have hw := hw.2 c3
        refine lv_aload_n hx hb dd_M_layPatterns_19 rfl (lv_at hl 0 rfl) ?_
        refine x_get hC hS hM0.1 rfl iw_M 19 (by decide) tb_534 rfl rfl dd_M_layPatterns_20 ?_
        refine lv_iload_n hx hb dd_M_layPatterns_23 rfl (lv_at hl 1 rfl) ?_
        refine x_bipush hC dd_M_layPatterns_24 (by decide) ?_
        obtain ⟨q17, hw⟩ := hw
        refine x_iast hC hS hM0.2.2.2.2.2.2.2.2.2.2.2.2.2.2.2.1 q17 (rk rfl) dd_M_layPatterns_26 (fun H locs hS => ?_)
        obtain ⟨M_18, eM_18⟩ : ∃ Z : Mm, Z = ms M11 45 (x1_11).toNat (-6) := ⟨_, rfl⟩
        rw [← eM_18] at hS
        have hw := hw M_18 eM_18
        have hm_M_18 := hS.2.2.2
        obtain ⟨hr_, hw⟩ := hw
        obtain ⟨v1_27, rv1_27, ev1_27⟩ : ∃ z : Int, inR z ∧ z = x1_11 + 1 := ⟨_, hr_, rfl⟩
        have hw := hw v1_27 ev1_27
        refine lv_iinc (v := iI v1_27) (lv' := [(1, .int (iI v1_27)), (0, .ref (xA X 30))]) hx hb dd_M_layPatterns_27 hl (k := 1) rfl (by rw [ev1_27]; exact iI_add _ _) (by decide) rfl (fun ls hl => ?_)
        refine lv_goto (tgt := 11) hx hb dd_M_layPatterns_30 (by decide) ?_
        obtain ⟨k_19, h20, hI⟩ := hw
        exact ih_I11 k_19 h20 v1_27 M_18 _ _ _ hI rv1_27 hS (lv_sub hl [1, 0] rfl)
  exact lp_I11 n0 0 M_2 _ _ _ hI (rk rfl) hS (lv_sub hl [1, 0] rfl)
def wp_M_weightOf (a1 : Int) (M : Mm) (post : Int → Mm → Prop) : Prop :=
  wp_M_layColours a1 M (fun (M_1 : Mm) => ∃ I9 : Nat → Int → Int → Prop, (∃ n, I9 n 0 0) ∧ ∀ (n9 : Nat) (x2_9 : Int) (x3_9 : Int), I9 n9 x2_9 x3_9 →
    (wp_M_many M_1 (fun (r11 : Int) => (r11 ≤ x3_9 → post x2_9 M_1) ∧
      (¬ r11 ≤ x3_9 → (0 ≤ x3_9 ∧ x3_9 < 7) ∧ ∀ z4 : Int, z4 = M_1 44 (x3_9).toNat → inR (2 + z4) ∧ (0 ≤ (2 + z4) ∧ (2 + z4) < 5046) ∧ ∀ z7 : Int, z7 = M_1 31 ((2 + z4)).toNat → inR (x2_9 + z7) ∧ ∀ v2_32 : Int, v2_32 = (x2_9 + z7) → inR (x3_9 + 1) ∧ ∀ v3_33 : Int, v3_33 = x3_9 + 1 → ∃ k_9, k_9 < n9 ∧ I9 k_9 v2_32 v3_33))))
set_option maxHeartbeats 4000000 in
set_option maxRecDepth 100000 in
theorem mt_M_weightOf (l : Launch) (X : Xw) (hlc : lcl X)(hM0 : IsM X) (a1 : Int) (ra1 : inR a1) (M : Mm) (hm_M : mr M) (post : Int → Mm → Prop) (sz : Nat) (hw : wp_M_weightOf a1 M post) : Met l yy_M_weightOf (Cond.code yy_M_weightOf bc_M_weightOf 4 (some .int) :: tg) ({ frames := 2, cells := 0, slots := 0, locals := 43 } : Room) (Pw X [.ref (xA X 30), .int (iI a1)] M sz) (Qi X sz post) 0 0 (xF X sz) := by
  unfold wp_M_weightOf at hw
  refine x_enter (by decide) hlc hm_M (Nat.le_of_ble_eq_true rfl) ?_
  intro p e s m below meth c ls hC hsz hr hlocks hS hl
  have hx := hC.1.1
  have hb := hC.1.2.1
  have hl : lv_has ls 4 [(0, .ref (xA X 30)), (1, .int (iI a1))] := hl
  refine lv_aload_n hx hb dd_M_weightOf_0 rfl (lv_at hl 0 rfl) ?_
  refine lv_iload_n hx hb dd_M_weightOf_1 rfl (lv_at hl 1 rfl) ?_
  refine x_callVv hC hS (As := [.int (iI a1)]) (rest := []) hM0.1 rfl cv_M_layColours (mt_M_layColours l X hC.2.2.1 hM0 a1 ra1 M hm_M _ _ hw) tb_712 rfl rfl ⟨Nat.le_of_ble_eq_true rfl, Nat.le_of_ble_eq_true rfl⟩ rfl hl.1 (Nat.le_of_ble_eq_true rfl) dd_M_weightOf_2 ⟨Nat.le_refl _, Nat.le_refl _⟩ rfl (fun M_1 H locs hw hS => ?_)
  have hm_M_1 := hS.2.2.2
  refine x_iconst hC dd_M_weightOf_5 ?_
  refine lv_istore_n (lv' := [(2, .int (iI 0)), (0, .ref (xA X 30)), (1, .int (iI a1))]) hx hb dd_M_weightOf_6 rfl hl (by decide) rfl (fun ls hl => ?_)
  refine x_iconst hC dd_M_weightOf_7 ?_
  refine lv_istore_n (lv' := [(3, .int (iI 0)), (2, .int (iI 0)), (0, .ref (xA X 30)), (1, .int (iI a1))]) hx hb dd_M_weightOf_8 rfl hl (by decide) rfl (fun ls hl => ?_)
  obtain ⟨I9, ⟨n0, hI⟩, hstep_I9⟩ := hw
  have lp_I9 : ∀ (n9 : Nat) (x2_9 : Int) (x3_9 : Int) (H : Heap) (locs : List Loc) (ls : Array Slot), I9 n9 x2_9 x3_9 → inR x2_9 → inR x3_9 → St X (xF X sz) s M_1 H locs → lv_has ls 4 [(0, .ref (xA X 30)), (2, .int (iI x2_9)), (3, .int (iI x3_9))] → W p l e ({ frames := 2, cells := 0, slots := 0, locals := 43 } : Room) s m ([.ref (xA X 30), .int (iI a1)] : List Value).toArray below meth c H locs 0 0 (MQ below (Qi X sz post) ([.ref (xA X 30), .int (iI a1)] : List Value).toArray s 0 0 (xF X sz)) (F0 m 9 ls []) := by
    intro n9
    induction n9 using Nat.strongRecOn with
    | _ n9 ih_I9 =>
      intro x2_9 x3_9 H locs ls hI rx2_9 rx3_9 hS hl
      have hw := hstep_I9 n9 x2_9 x3_9 hI
      refine lv_iload_n hx hb dd_M_weightOf_9 rfl (lv_at hl 2 rfl) ?_
      refine lv_aload_n hx hb dd_M_weightOf_10 rfl (lv_at hl 0 rfl) ?_
      refine x_callVi hC hS (As := []) (rest := [.int (iI x3_9)]) hM0.1 rfl cv_M_many (mt_M_many l X hC.2.2.1 hM0  M_1 hm_M_1 _ _ hw) tb_495 rfl rfl ⟨Nat.le_of_ble_eq_true rfl, Nat.le_of_ble_eq_true rfl⟩ rfl hl.1 (Nat.le_of_ble_eq_true rfl) dd_M_weightOf_11 ⟨Nat.le_refl _, Nat.le_refl _⟩ rfl (fun r11 Mx H locs rr11 hp hS => ?_)
      obtain ⟨hq, hw⟩ := hp
      rw [hq] at hS
      refine x_icmp_ge hC rx3_9 rr11 (tgt := 39) dd_M_weightOf_14 (by decide) (fun c2 => ?_) (fun c2 => ?_)
      · have hw := hw.1 c2
        refine lv_iload_n hx hb dd_M_weightOf_39 rfl (lv_at hl 1 rfl) ?_
        exact x_iret hC hS hlocks hr rx2_9 hw dd_M_weightOf_40
      · have hw := hw.2 c2
        refine lv_iload_n hx hb dd_M_weightOf_17 rfl (lv_at hl 1 rfl) ?_
        refine lv_aload_n hx hb dd_M_weightOf_18 rfl (lv_at hl 0 rfl) ?_
        refine x_get hC hS hM0.1 rfl iw_M 0 (by decide) tb_515 rfl rfl dd_M_weightOf_19 ?_
        refine x_iconst hC dd_M_weightOf_22 ?_
        refine lv_aload_n hx hb dd_M_weightOf_23 rfl (lv_at hl 0 rfl) ?_
        refine x_get hC hS hM0.1 rfl iw_M 18 (by decide) tb_533 rfl rfl dd_M_weightOf_24 ?_
        refine lv_iload_n hx hb dd_M_weightOf_27 rfl (lv_at hl 2 rfl) ?_
        obtain ⟨q3, hw⟩ := hw
        refine x_iald hC hS hM0.2.2.2.2.2.2.2.2.2.2.2.2.2.2.1 q3 dd_M_weightOf_28 ?_
        refine x_nm (hm_M_1 44 _) (fun z4 rz4 ez4 => ?_)
        have hw := hw z4 ez4
        obtain ⟨q5, hw⟩ := hw
        refine x_add hC dd_M_weightOf_29 ?_
        obtain ⟨q6, hw⟩ := hw
        refine x_iald hC hS hM0.2.1 q6 dd_M_weightOf_30 ?_
        refine x_nm (hm_M_1 31 _) (fun z7 rz7 ez7 => ?_)
        have hw := hw z7 ez7
        obtain ⟨q8, hw⟩ := hw
        refine x_add hC dd_M_weightOf_31 ?_
        refine x_nm q8 (fun v2_32 rv2_32 ev2_32 => ?_)
        have hw := hw v2_32 ev2_32
        refine lv_istore_n (lv' := [(2, .int (iI v2_32)), (0, .ref (xA X 30)), (3, .int (iI x3_9))]) hx hb dd_M_weightOf_32 rfl hl (by decide) rfl (fun ls hl => ?_)
        obtain ⟨hr_, hw⟩ := hw
        obtain ⟨v3_33, rv3_33, ev3_33⟩ : ∃ z : Int, inR z ∧ z = x3_9 + 1 := ⟨_, hr_, rfl⟩
        have hw := hw v3_33 ev3_33
        refine lv_iinc (v := iI v3_33) (lv' := [(3, .int (iI v3_33)), (2, .int (iI v2_32)), (0, .ref (xA X 30))]) hx hb dd_M_weightOf_33 hl (k := 2) rfl (by rw [ev3_33]; exact iI_add _ _) (by decide) rfl (fun ls hl => ?_)
        refine lv_goto (tgt := 9) hx hb dd_M_weightOf_36 (by decide) ?_
        obtain ⟨k_9, h10, hI⟩ := hw
        exact ih_I9 k_9 h10 v2_32 v3_33 _ _ _ hI rv2_32 rv3_33 hS (lv_sub hl [2, 1, 0] rfl)
  exact lp_I9 n0 0 0 _ _ _ hI (rk rfl) (rk rfl) hS (lv_sub hl [2, 1, 0] rfl)
def wp_M_coloursOf (a1 : Int) (M : Mm) (post : Int → Mm → Prop) : Prop :=
  wp_M_layColours a1 M (fun (M_1 : Mm) => ∃ I9 : Nat → Int → Int → Prop, (∃ n, I9 n 0 0) ∧ ∀ (n9 : Nat) (x2_9 : Int) (x3_9 : Int), I9 n9 x2_9 x3_9 →
    (wp_M_many M_1 (fun (r11 : Int) => (r11 ≤ x3_9 → inR ((bAnd x2_9 1) + (bAnd (bShr x2_9 1) 1)) ∧ inR (((bAnd x2_9 1) + (bAnd (bShr x2_9 1) 1)) + (bAnd (bShr x2_9 2) 1)) ∧ inR ((((bAnd x2_9 1) + (bAnd (bShr x2_9 1) 1)) + (bAnd (bShr x2_9 2) 1)) + (bAnd (bShr x2_9 3) 1)) ∧ post ((((bAnd x2_9 1) + (bAnd (bShr x2_9 1) 1)) + (bAnd (bShr x2_9 2) 1)) + (bAnd (bShr x2_9 3) 1)) M_1) ∧
      (¬ r11 ≤ x3_9 → (0 ≤ x3_9 ∧ x3_9 < 7) ∧ ∀ z7 : Int, z7 = M_1 44 (x3_9).toNat → ∀ v2_27 : Int, v2_27 = (bOr x2_9 (bShl 1 z7)) → inR (x3_9 + 1) ∧ ∀ v3_28 : Int, v3_28 = x3_9 + 1 → ∃ k_8, k_8 < n9 ∧ I9 k_8 v2_27 v3_28))))
set_option maxHeartbeats 4000000 in
set_option maxRecDepth 100000 in
theorem mt_M_coloursOf (l : Launch) (X : Xw) (hlc : lcl X)(hM0 : IsM X) (a1 : Int) (ra1 : inR a1) (M : Mm) (hm_M : mr M) (post : Int → Mm → Prop) (sz : Nat) (hw : wp_M_coloursOf a1 M post) : Met l yy_M_coloursOf (Cond.code yy_M_coloursOf bc_M_coloursOf 4 (some .int) :: tg) ({ frames := 2, cells := 0, slots := 0, locals := 43 } : Room) (Pw X [.ref (xA X 30), .int (iI a1)] M sz) (Qi X sz post) 0 0 (xF X sz) := by
  unfold wp_M_coloursOf at hw
  refine x_enter (by decide) hlc hm_M (Nat.le_of_ble_eq_true rfl) ?_
  intro p e s m below meth c ls hC hsz hr hlocks hS hl
  have hx := hC.1.1
  have hb := hC.1.2.1
  have hl : lv_has ls 4 [(0, .ref (xA X 30)), (1, .int (iI a1))] := hl
  refine lv_aload_n hx hb dd_M_coloursOf_0 rfl (lv_at hl 0 rfl) ?_
  refine lv_iload_n hx hb dd_M_coloursOf_1 rfl (lv_at hl 1 rfl) ?_
  refine x_callVv hC hS (As := [.int (iI a1)]) (rest := []) hM0.1 rfl cv_M_layColours (mt_M_layColours l X hC.2.2.1 hM0 a1 ra1 M hm_M _ _ hw) tb_712 rfl rfl ⟨Nat.le_of_ble_eq_true rfl, Nat.le_of_ble_eq_true rfl⟩ rfl hl.1 (Nat.le_of_ble_eq_true rfl) dd_M_coloursOf_2 ⟨Nat.le_refl _, Nat.le_refl _⟩ rfl (fun M_1 H locs hw hS => ?_)
  have hm_M_1 := hS.2.2.2
  refine x_iconst hC dd_M_coloursOf_5 ?_
  refine lv_istore_n (lv' := [(2, .int (iI 0)), (0, .ref (xA X 30)), (1, .int (iI a1))]) hx hb dd_M_coloursOf_6 rfl hl (by decide) rfl (fun ls hl => ?_)
  refine x_iconst hC dd_M_coloursOf_7 ?_
  refine lv_istore_n (lv' := [(3, .int (iI 0)), (2, .int (iI 0)), (0, .ref (xA X 30)), (1, .int (iI a1))]) hx hb dd_M_coloursOf_8 rfl hl (by decide) rfl (fun ls hl => ?_)
  obtain ⟨I9, ⟨n0, hI⟩, hstep_I9⟩ := hw
  have lp_I9 : ∀ (n9 : Nat) (x2_9 : Int) (x3_9 : Int) (H : Heap) (locs : List Loc) (ls : Array Slot), I9 n9 x2_9 x3_9 → inR x2_9 → inR x3_9 → St X (xF X sz) s M_1 H locs → lv_has ls 4 [(0, .ref (xA X 30)), (2, .int (iI x2_9)), (3, .int (iI x3_9))] → W p l e ({ frames := 2, cells := 0, slots := 0, locals := 43 } : Room) s m ([.ref (xA X 30), .int (iI a1)] : List Value).toArray below meth c H locs 0 0 (MQ below (Qi X sz post) ([.ref (xA X 30), .int (iI a1)] : List Value).toArray s 0 0 (xF X sz)) (F0 m 9 ls []) := by
    intro n9
    induction n9 using Nat.strongRecOn with
    | _ n9 ih_I9 =>
      intro x2_9 x3_9 H locs ls hI rx2_9 rx3_9 hS hl
      have hw := hstep_I9 n9 x2_9 x3_9 hI
      refine lv_iload_n hx hb dd_M_coloursOf_9 rfl (lv_at hl 2 rfl) ?_
      refine lv_aload_n hx hb dd_M_coloursOf_10 rfl (lv_at hl 0 rfl) ?_
      refine x_callVi hC hS (As := []) (rest := [.int (iI x3_9)]) hM0.1 rfl cv_M_many (mt_M_many l X hC.2.2.1 hM0  M_1 hm_M_1 _ _ hw) tb_495 rfl rfl ⟨Nat.le_of_ble_eq_true rfl, Nat.le_of_ble_eq_true rfl⟩ rfl hl.1 (Nat.le_of_ble_eq_true rfl) dd_M_coloursOf_11 ⟨Nat.le_refl _, Nat.le_refl _⟩ rfl (fun r11 Mx H locs rr11 hp hS => ?_)
      obtain ⟨hq, hw⟩ := hp
      rw [hq] at hS
      refine x_icmp_ge hC rx3_9 rr11 (tgt := 34) dd_M_coloursOf_14 (by decide) (fun c2 => ?_) (fun c2 => ?_)
      · have hw := hw.1 c2
        refine lv_iload_n hx hb dd_M_coloursOf_34 rfl (lv_at hl 1 rfl) ?_
        refine x_iconst hC dd_M_coloursOf_35 ?_
        refine x_and hC dd_M_coloursOf_36 ?_
        refine lv_iload_n hx hb dd_M_coloursOf_37 rfl (lv_at hl 1 rfl) ?_
        refine x_iconst hC dd_M_coloursOf_38 ?_
        refine x_shr hC dd_M_coloursOf_39 ?_
        refine x_iconst hC dd_M_coloursOf_40 ?_
        refine x_and hC dd_M_coloursOf_41 ?_
        obtain ⟨q3, hw⟩ := hw
        refine x_add hC dd_M_coloursOf_42 ?_
        refine lv_iload_n hx hb dd_M_coloursOf_43 rfl (lv_at hl 1 rfl) ?_
        refine x_iconst hC dd_M_coloursOf_44 ?_
        refine x_shr hC dd_M_coloursOf_45 ?_
        refine x_iconst hC dd_M_coloursOf_46 ?_
        refine x_and hC dd_M_coloursOf_47 ?_
        obtain ⟨q4, hw⟩ := hw
        refine x_add hC dd_M_coloursOf_48 ?_
        refine lv_iload_n hx hb dd_M_coloursOf_49 rfl (lv_at hl 1 rfl) ?_
        refine x_iconst hC dd_M_coloursOf_50 ?_
        refine x_shr hC dd_M_coloursOf_51 ?_
        refine x_iconst hC dd_M_coloursOf_52 ?_
        refine x_and hC dd_M_coloursOf_53 ?_
        obtain ⟨q5, hw⟩ := hw
        refine x_add hC dd_M_coloursOf_54 ?_
        exact x_iret hC hS hlocks hr q5 hw dd_M_coloursOf_55
      · have hw := hw.2 c2
        refine lv_iload_n hx hb dd_M_coloursOf_17 rfl (lv_at hl 1 rfl) ?_
        refine x_iconst hC dd_M_coloursOf_18 ?_
        refine lv_aload_n hx hb dd_M_coloursOf_19 rfl (lv_at hl 0 rfl) ?_
        refine x_get hC hS hM0.1 rfl iw_M 18 (by decide) tb_533 rfl rfl dd_M_coloursOf_20 ?_
        refine lv_iload_n hx hb dd_M_coloursOf_23 rfl (lv_at hl 2 rfl) ?_
        obtain ⟨q6, hw⟩ := hw
        refine x_iald hC hS hM0.2.2.2.2.2.2.2.2.2.2.2.2.2.2.1 q6 dd_M_coloursOf_24 ?_
        refine x_nm (hm_M_1 44 _) (fun z7 rz7 ez7 => ?_)
        have hw := hw z7 ez7
        refine x_shl hC dd_M_coloursOf_25 ?_
        refine x_or hC dd_M_coloursOf_26 ?_
        refine x_nm (rng _) (fun v2_27 rv2_27 ev2_27 => ?_)
        have hw := hw v2_27 ev2_27
        refine lv_istore_n (lv' := [(2, .int (iI v2_27)), (0, .ref (xA X 30)), (3, .int (iI x3_9))]) hx hb dd_M_coloursOf_27 rfl hl (by decide) rfl (fun ls hl => ?_)
        obtain ⟨hr_, hw⟩ := hw
        obtain ⟨v3_28, rv3_28, ev3_28⟩ : ∃ z : Int, inR z ∧ z = x3_9 + 1 := ⟨_, hr_, rfl⟩
        have hw := hw v3_28 ev3_28
        refine lv_iinc (v := iI v3_28) (lv' := [(3, .int (iI v3_28)), (2, .int (iI v2_27)), (0, .ref (xA X 30))]) hx hb dd_M_coloursOf_28 hl (k := 2) rfl (by rw [ev3_28]; exact iI_add _ _) (by decide) rfl (fun ls hl => ?_)
        refine lv_goto (tgt := 9) hx hb dd_M_coloursOf_31 (by decide) ?_
        obtain ⟨k_8, h9, hI⟩ := hw
        exact ih_I9 k_8 h9 v2_27 v3_28 _ _ _ hI rv2_27 rv3_28 hS (lv_sub hl [2, 1, 0] rfl)
  exact lp_I9 n0 0 0 _ _ _ hI (rk rfl) (rk rfl) hS (lv_sub hl [2, 1, 0] rfl)
def wp_M_mirrored (a1 : Int) (M : Mm) (post : Int → Mm → Prop) : Prop :=
  wp_M_layColours a1 M (fun (M_1 : Mm) => ∃ I9 : Nat → Int → Int → Prop, (∃ n, I9 n 0 0) ∧ ∀ (n9 : Nat) (x2_9 : Int) (x3_9 : Int), I9 n9 x2_9 x3_9 →
    (wp_M_many M_1 (fun (r11 : Int) => (r11 ≤ x3_9 → post x2_9 M_1) ∧
      (¬ r11 ≤ x3_9 → wp_M_many M_1 (fun (r23 : Int) => inR (r23 - 1) ∧ inR ((r23 - 1) - x3_9) ∧ (0 ≤ ((r23 - 1) - x3_9) ∧ ((r23 - 1) - x3_9) < 7) ∧ ∀ z6 : Int, z6 = M_1 44 (((r23 - 1) - x3_9)).toNat → (0 ≤ x3_9 ∧ x3_9 < 7) ∧ ∀ z8 : Int, z8 = M_1 48 (x3_9).toNat → inR (z6 * z8) ∧ inR (x2_9 + (z6 * z8)) ∧ ∀ v2_39 : Int, v2_39 = (x2_9 + (z6 * z8)) → inR (x3_9 + 1) ∧ ∀ v3_40 : Int, v3_40 = x3_9 + 1 → ∃ k_11, k_11 < n9 ∧ I9 k_11 v2_39 v3_40)))))
set_option maxHeartbeats 4000000 in
set_option maxRecDepth 100000 in
theorem mt_M_mirrored (l : Launch) (X : Xw) (hlc : lcl X)(hM0 : IsM X) (a1 : Int) (ra1 : inR a1) (M : Mm) (hm_M : mr M) (post : Int → Mm → Prop) (sz : Nat) (hw : wp_M_mirrored a1 M post) : Met l yy_M_mirrored (Cond.code yy_M_mirrored bc_M_mirrored 4 (some .int) :: tg) ({ frames := 2, cells := 0, slots := 0, locals := 43 } : Room) (Pw X [.ref (xA X 30), .int (iI a1)] M sz) (Qi X sz post) 0 0 (xF X sz) := by
  unfold wp_M_mirrored at hw
  refine x_enter (by decide) hlc hm_M (Nat.le_of_ble_eq_true rfl) ?_
  intro p e s m below meth c ls hC hsz hr hlocks hS hl
  have hx := hC.1.1
  have hb := hC.1.2.1
  have hl : lv_has ls 4 [(0, .ref (xA X 30)), (1, .int (iI a1))] := hl
  refine lv_aload_n hx hb dd_M_mirrored_0 rfl (lv_at hl 0 rfl) ?_
  refine lv_iload_n hx hb dd_M_mirrored_1 rfl (lv_at hl 1 rfl) ?_
  refine x_callVv hC hS (As := [.int (iI a1)]) (rest := []) hM0.1 rfl cv_M_layColours (mt_M_layColours l X hC.2.2.1 hM0 a1 ra1 M hm_M _ _ hw) tb_712 rfl rfl ⟨Nat.le_of_ble_eq_true rfl, Nat.le_of_ble_eq_true rfl⟩ rfl hl.1 (Nat.le_of_ble_eq_true rfl) dd_M_mirrored_2 ⟨Nat.le_refl _, Nat.le_refl _⟩ rfl (fun M_1 H locs hw hS => ?_)
  have hm_M_1 := hS.2.2.2
  refine x_iconst hC dd_M_mirrored_5 ?_
  refine lv_istore_n (lv' := [(2, .int (iI 0)), (0, .ref (xA X 30)), (1, .int (iI a1))]) hx hb dd_M_mirrored_6 rfl hl (by decide) rfl (fun ls hl => ?_)
  refine x_iconst hC dd_M_mirrored_7 ?_
  refine lv_istore_n (lv' := [(3, .int (iI 0)), (2, .int (iI 0)), (0, .ref (xA X 30)), (1, .int (iI a1))]) hx hb dd_M_mirrored_8 rfl hl (by decide) rfl (fun ls hl => ?_)
  obtain ⟨I9, ⟨n0, hI⟩, hstep_I9⟩ := hw
  have lp_I9 : ∀ (n9 : Nat) (x2_9 : Int) (x3_9 : Int) (H : Heap) (locs : List Loc) (ls : Array Slot), I9 n9 x2_9 x3_9 → inR x2_9 → inR x3_9 → St X (xF X sz) s M_1 H locs → lv_has ls 4 [(0, .ref (xA X 30)), (2, .int (iI x2_9)), (3, .int (iI x3_9))] → W p l e ({ frames := 2, cells := 0, slots := 0, locals := 43 } : Room) s m ([.ref (xA X 30), .int (iI a1)] : List Value).toArray below meth c H locs 0 0 (MQ below (Qi X sz post) ([.ref (xA X 30), .int (iI a1)] : List Value).toArray s 0 0 (xF X sz)) (F0 m 9 ls []) := by
    intro n9
    induction n9 using Nat.strongRecOn with
    | _ n9 ih_I9 =>
      intro x2_9 x3_9 H locs ls hI rx2_9 rx3_9 hS hl
      have hw := hstep_I9 n9 x2_9 x3_9 hI
      refine lv_iload_n hx hb dd_M_mirrored_9 rfl (lv_at hl 2 rfl) ?_
      refine lv_aload_n hx hb dd_M_mirrored_10 rfl (lv_at hl 0 rfl) ?_
      refine x_callVi hC hS (As := []) (rest := [.int (iI x3_9)]) hM0.1 rfl cv_M_many (mt_M_many l X hC.2.2.1 hM0  M_1 hm_M_1 _ _ hw) tb_495 rfl rfl ⟨Nat.le_of_ble_eq_true rfl, Nat.le_of_ble_eq_true rfl⟩ rfl hl.1 (Nat.le_of_ble_eq_true rfl) dd_M_mirrored_11 ⟨Nat.le_refl _, Nat.le_refl _⟩ rfl (fun r11 Mx H locs rr11 hp hS => ?_)
      obtain ⟨hq, hw⟩ := hp
      rw [hq] at hS
      refine x_icmp_ge hC rx3_9 rr11 (tgt := 46) dd_M_mirrored_14 (by decide) (fun c2 => ?_) (fun c2 => ?_)
      · have hw := hw.1 c2
        refine lv_iload_n hx hb dd_M_mirrored_46 rfl (lv_at hl 1 rfl) ?_
        exact x_iret hC hS hlocks hr rx2_9 hw dd_M_mirrored_47
      · have hw := hw.2 c2
        refine lv_iload_n hx hb dd_M_mirrored_17 rfl (lv_at hl 1 rfl) ?_
        refine lv_aload_n hx hb dd_M_mirrored_18 rfl (lv_at hl 0 rfl) ?_
        refine x_get hC hS hM0.1 rfl iw_M 18 (by decide) tb_533 rfl rfl dd_M_mirrored_19 ?_
        refine lv_aload_n hx hb dd_M_mirrored_22 rfl (lv_at hl 0 rfl) ?_
        refine x_callVi hC hS (As := []) (rest := [.ref (xA X 44), .int (iI x2_9)]) hM0.1 rfl cv_M_many (mt_M_many l X hC.2.2.1 hM0  M_1 hm_M_1 _ _ hw) tb_495 rfl rfl ⟨Nat.le_of_ble_eq_true rfl, Nat.le_of_ble_eq_true rfl⟩ rfl hl.1 (Nat.le_of_ble_eq_true rfl) dd_M_mirrored_23 ⟨Nat.le_refl _, Nat.le_refl _⟩ rfl (fun r23 Mx H locs rr23 hp hS => ?_)
        obtain ⟨hq, hw⟩ := hp
        rw [hq] at hS
        refine x_iconst hC dd_M_mirrored_26 ?_
        obtain ⟨q3, hw⟩ := hw
        refine x_sub hC dd_M_mirrored_27 ?_
        refine lv_iload_n hx hb dd_M_mirrored_28 rfl (lv_at hl 2 rfl) ?_
        obtain ⟨q4, hw⟩ := hw
        refine x_sub hC dd_M_mirrored_29 ?_
        obtain ⟨q5, hw⟩ := hw
        refine x_iald hC hS hM0.2.2.2.2.2.2.2.2.2.2.2.2.2.2.1 q5 dd_M_mirrored_30 ?_
        refine x_nm (hm_M_1 44 _) (fun z6 rz6 ez6 => ?_)
        have hw := hw z6 ez6
        refine lv_aload_n hx hb dd_M_mirrored_31 rfl (lv_at hl 0 rfl) ?_
        refine x_get hC hS hM0.1 rfl iw_M 24 (by decide) tb_539 rfl rfl dd_M_mirrored_32 ?_
        refine lv_iload_n hx hb dd_M_mirrored_35 rfl (lv_at hl 2 rfl) ?_
        obtain ⟨q7, hw⟩ := hw
        refine x_iald hC hS hM0.2.2.2.2.2.2.2.2.2.2.2.2.2.2.2.2.2.2 q7 dd_M_mirrored_36 ?_
        refine x_nm (hm_M_1 48 _) (fun z8 rz8 ez8 => ?_)
        have hw := hw z8 ez8
        obtain ⟨q9, hw⟩ := hw
        refine x_mul hC dd_M_mirrored_37 ?_
        obtain ⟨q10, hw⟩ := hw
        refine x_add hC dd_M_mirrored_38 ?_
        refine x_nm q10 (fun v2_39 rv2_39 ev2_39 => ?_)
        have hw := hw v2_39 ev2_39
        refine lv_istore_n (lv' := [(2, .int (iI v2_39)), (0, .ref (xA X 30)), (3, .int (iI x3_9))]) hx hb dd_M_mirrored_39 rfl hl (by decide) rfl (fun ls hl => ?_)
        obtain ⟨hr_, hw⟩ := hw
        obtain ⟨v3_40, rv3_40, ev3_40⟩ : ∃ z : Int, inR z ∧ z = x3_9 + 1 := ⟨_, hr_, rfl⟩
        have hw := hw v3_40 ev3_40
        refine lv_iinc (v := iI v3_40) (lv' := [(3, .int (iI v3_40)), (2, .int (iI v2_39)), (0, .ref (xA X 30))]) hx hb dd_M_mirrored_40 hl (k := 2) rfl (by rw [ev3_40]; exact iI_add _ _) (by decide) rfl (fun ls hl => ?_)
        refine lv_goto (tgt := 9) hx hb dd_M_mirrored_43 (by decide) ?_
        obtain ⟨k_11, h12, hI⟩ := hw
        exact ih_I9 k_11 h12 v2_39 v3_40 _ _ _ hI rv2_39 rv3_40 hS (lv_sub hl [2, 1, 0] rfl)
  exact lp_I9 n0 0 0 _ _ _ hI (rk rfl) (rk rfl) hS (lv_sub hl [2, 1, 0] rfl)
