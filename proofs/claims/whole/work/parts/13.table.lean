def wp_P_setPlaces (u1 : Nat) (M : Mm) (post : Mm → Prop) : Prop :=
  ∀ z1 : Int, z1 = (if (7 : Int) < (M u1 0) then 7 else (M u1 0)) → ∀ M_2 : Mm, M_2 = ms M 7 4 z1 → ∀ M_3 : Mm, M_3 = ms M_2 7 5 (M_2 u1 1) → inR ((M_3 7 4) - 1) ∧ ∀ v3_29 : Int, v3_29 = ((M_3 7 4) - 1) → ∃ I30 : Nat → Int → Int → Mm → Prop, (∃ n, I30 n 1 v3_29 M_3) ∧ ∀ (n30 : Nat) (x2_30 : Int) (x3_30 : Int) (M30 : Mm), I30 n30 x2_30 x3_30 M30 →
    ((x3_30 < 0 → post M30) ∧
      (¬ x3_30 < 0 → (0 ≤ x3_30 ∧ x3_30 < 8) ∧ ∀ M_7 : Mm, M_7 = ms M30 11 (x3_30).toNat x2_30 → inR (x2_30 * (M_7 7 5)) ∧ ∀ v2_47 : Int, v2_47 = (x2_30 * (M_7 7 5)) → inR (x3_30 + (-1)) ∧ ∀ v3_48 : Int, v3_48 = x3_30 + (-1) → ∃ k_9, k_9 < n30 ∧ I30 k_9 v2_47 v3_48 M_7))
set_option maxHeartbeats 4000000 in
set_option maxRecDepth 100000 in
theorem mt_P_setPlaces (l : Launch) (X : Xw) (hlc : lcl X) (u1 : Nat) (hP0 : IsP X) (hu1 : IsS X u1) (M : Mm) (hm_M : mr M) (post : Mm → Prop) (sz : Nat) (hw : wp_P_setPlaces u1 M post) : Met l yy_P_setPlaces (Cond.code yy_P_setPlaces bc_P_setPlaces 4 none :: tg) ({ frames := 1, cells := 0, slots := 0, locals := 21 } : Room) (Pw X [.ref (xA X 7), .ref (xA X u1)] M sz) (Qv X sz post) 0 0 (xF X sz) := by
  unfold wp_P_setPlaces at hw
  refine x_enter (by decide) hlc hm_M (Nat.le_of_ble_eq_true rfl) ?_
  intro p e s m below meth c ls hC hsz hr hlocks hS hl
  have hx := hC.1.1
  have hb := hC.1.2.1
  have hl : lv_has ls 4 [(0, .ref (xA X 7)), (1, .ref (xA X u1))] := hl
  refine lv_aload_n hx hb dd_P_setPlaces_0 rfl (lv_at hl 0 rfl) ?_
  refine lv_aload_n hx hb dd_P_setPlaces_1 rfl (lv_at hl 1 rfl) ?_
  refine x_get hC hS hu1.1 rfl iw_S 0 (by decide) tb_86 rfl rfl dd_P_setPlaces_2 ?_
  refine x_bipush hC dd_P_setPlaces_5 (by decide) ?_
  refine x_min hC (hm_M u1 0) (rk rfl) hl.1 tb_337 (Nat.le_of_ble_eq_true rfl) (Nat.le_of_ble_eq_true rfl) ⟨Nat.le_refl _, Nat.le_refl _⟩ dd_P_setPlaces_7 (fun z1 rz1 ez1 => ?_)
  have hw := hw z1 ez1
  refine x_put hC hS hP0.1 rfl iw_P fy_P fk_P fn_P 4 (by decide) tb_154 rfl rz1 rfl rfl (ps_P_4 _ _ _) (Nat.le_of_ble_eq_true rfl) dd_P_setPlaces_10 (fun H locs hS => ?_)
  obtain ⟨M_2, eM_2⟩ : ∃ Z : Mm, Z = ms M 7 4 z1 := ⟨_, rfl⟩
  rw [← eM_2] at hS
  have hw := hw M_2 eM_2
  have hm_M_2 := hS.2.2.2
  refine lv_aload_n hx hb dd_P_setPlaces_13 rfl (lv_at hl 0 rfl) ?_
  refine lv_aload_n hx hb dd_P_setPlaces_14 rfl (lv_at hl 1 rfl) ?_
  refine x_get hC hS hu1.1 rfl iw_S 1 (by decide) tb_88 rfl rfl dd_P_setPlaces_15 ?_
  refine x_put hC hS hP0.1 rfl iw_P fy_P fk_P fn_P 5 (by decide) tb_155 rfl (hm_M_2 u1 1) rfl rfl (ps_P_5 _ _ _) (Nat.le_of_ble_eq_true rfl) dd_P_setPlaces_18 (fun H locs hS => ?_)
  obtain ⟨M_3, eM_3⟩ : ∃ Z : Mm, Z = ms M_2 7 5 (M_2 u1 1) := ⟨_, rfl⟩
  rw [← eM_3] at hS
  have hw := hw M_3 eM_3
  have hm_M_3 := hS.2.2.2
  refine x_iconst hC dd_P_setPlaces_21 ?_
  refine lv_istore_n (lv' := [(2, .int (iI 1)), (0, .ref (xA X 7)), (1, .ref (xA X u1))]) hx hb dd_P_setPlaces_22 rfl hl (by decide) rfl (fun ls hl => ?_)
  refine lv_aload_n hx hb dd_P_setPlaces_23 rfl (lv_at hl 1 rfl) ?_
  refine x_get hC hS hP0.1 rfl iw_P 4 (by decide) tb_154 rfl rfl dd_P_setPlaces_24 ?_
  refine x_iconst hC dd_P_setPlaces_27 ?_
  obtain ⟨q4, hw⟩ := hw
  refine x_sub hC dd_P_setPlaces_28 ?_
  refine x_nm q4 (fun v3_29 rv3_29 ev3_29 => ?_)
  have hw := hw v3_29 ev3_29
  refine lv_istore_n (lv' := [(3, .int (iI v3_29)), (2, .int (iI 1)), (0, .ref (xA X 7)), (1, .ref (xA X u1))]) hx hb dd_P_setPlaces_29 rfl hl (by decide) rfl (fun ls hl => ?_)
  obtain ⟨I30, ⟨n0, hI⟩, hstep_I30⟩ := hw
  have lp_I30 : ∀ (n30 : Nat) (x2_30 : Int) (x3_30 : Int) (M30 : Mm) (H : Heap) (locs : List Loc) (ls : Array Slot), I30 n30 x2_30 x3_30 M30 → inR x2_30 → inR x3_30 → St X (xF X sz) s M30 H locs → lv_has ls 4 [(0, .ref (xA X 7)), (2, .int (iI x2_30)), (3, .int (iI x3_30))] → W p l e ({ frames := 1, cells := 0, slots := 0, locals := 21 } : Room) s m ([.ref (xA X 7), .ref (xA X u1)] : List Value).toArray below meth c H locs 0 0 (MQ below (Qv X sz post) ([.ref (xA X 7), .ref (xA X u1)] : List Value).toArray s 0 0 (xF X sz)) (F0 m 30 ls []) := by
    intro n30
    induction n30 using Nat.strongRecOn with
    | _ n30 ih_I30 =>
      intro x2_30 x3_30 M30 H locs ls hI rx2_30 rx3_30 hS hl
      have hw := hstep_I30 n30 x2_30 x3_30 M30 hI
      have hm_M30 := hS.2.2.2
      refine lv_iload_n hx hb dd_P_setPlaces_30 rfl (lv_at hl 2 rfl) ?_
      refine x_if_lt hC rx3_30 (tgt := 54) dd_P_setPlaces_31 (by decide) (fun c5 => ?_) (fun c5 => ?_)
      · have hw := hw.1 c5
        exact x_vret hC hS hlocks hr hw dd_P_setPlaces_54
      · have hw := hw.2 c5
        refine lv_aload_n hx hb dd_P_setPlaces_34 rfl (lv_at hl 0 rfl) ?_
        refine x_get hC hS hP0.1 rfl iw_P 3 (by decide) tb_153 rfl rfl dd_P_setPlaces_35 ?_
        refine lv_iload_n hx hb dd_P_setPlaces_38 rfl (lv_at hl 2 rfl) ?_
        refine lv_iload_n hx hb dd_P_setPlaces_39 rfl (lv_at hl 1 rfl) ?_
        obtain ⟨q6, hw⟩ := hw
        refine x_iast hC hS hP0.2.2.2.2 q6 rx2_30 dd_P_setPlaces_40 (fun H locs hS => ?_)
        obtain ⟨M_7, eM_7⟩ : ∃ Z : Mm, Z = ms M30 11 (x3_30).toNat x2_30 := ⟨_, rfl⟩
        rw [← eM_7] at hS
        have hw := hw M_7 eM_7
        have hm_M_7 := hS.2.2.2
        refine lv_iload_n hx hb dd_P_setPlaces_41 rfl (lv_at hl 1 rfl) ?_
        refine lv_aload_n hx hb dd_P_setPlaces_42 rfl (lv_at hl 0 rfl) ?_
        refine x_get hC hS hP0.1 rfl iw_P 5 (by decide) tb_155 rfl rfl dd_P_setPlaces_43 ?_
        obtain ⟨q8, hw⟩ := hw
        refine x_mul hC dd_P_setPlaces_46 ?_
        refine x_nm q8 (fun v2_47 rv2_47 ev2_47 => ?_)
        have hw := hw v2_47 ev2_47
        refine lv_istore_n (lv' := [(2, .int (iI v2_47)), (0, .ref (xA X 7)), (3, .int (iI x3_30))]) hx hb dd_P_setPlaces_47 rfl hl (by decide) rfl (fun ls hl => ?_)
        obtain ⟨hr_, hw⟩ := hw
        obtain ⟨v3_48, rv3_48, ev3_48⟩ : ∃ z : Int, inR z ∧ z = x3_30 + (-1) := ⟨_, hr_, rfl⟩
        have hw := hw v3_48 ev3_48
        refine lv_iinc (v := iI v3_48) (lv' := [(3, .int (iI v3_48)), (2, .int (iI v2_47)), (0, .ref (xA X 7))]) hx hb dd_P_setPlaces_48 hl (k := 2) rfl (by rw [ev3_48]; exact iI_add _ _) (by decide) rfl (fun ls hl => ?_)
        refine lv_goto (tgt := 30) hx hb dd_P_setPlaces_51 (by decide) ?_
        obtain ⟨k_9, h10, hI⟩ := hw
        exact ih_I30 k_9 h10 v2_47 v3_48 M_7 _ _ _ hI rv2_47 rv3_48 hS (lv_sub hl [2, 1, 0] rfl)
  exact lp_I30 n0 1 v3_29 M_3 _ _ _ hI (rk rfl) rv3_29 hS (lv_sub hl [2, 1, 0] rfl)
def wp_P_put (a1 : Int) (M : Mm) (post : Mm → Prop) : Prop :=
  wp_T_isWithin a1 0 16383 (fun (r5 : Int) => (r5 = 0 → post M) ∧
  (¬ r5 = 0 → (0 ≤ a1 ∧ a1 < 16384) ∧ ∀ z3 : Int, z3 = M 8 (a1).toNat → (¬ z3 = (-6) → post M) ∧
    (z3 = (-6) → (16384 ≤ (M 7 6) → post M) ∧
      (¬ 16384 ≤ (M 7 6) → (0 ≤ a1 ∧ a1 < 16384) ∧ ∀ M_7 : Mm, M_7 = ms M 8 (a1).toNat (M 7 7) → (0 ≤ (M_7 7 6) ∧ (M_7 7 6) < 16384) ∧ ∀ M_9 : Mm, M_9 = ms M_7 9 ((M_7 7 6)).toNat a1 → inR ((M_9 7 6) + 1) ∧ ∀ M_11 : Mm, M_11 = ms M_9 7 6 ((M_9 7 6) + 1) → post M_11))))
set_option maxHeartbeats 4000000 in
set_option maxRecDepth 100000 in
theorem mt_P_put (l : Launch) (X : Xw) (hlc : lcl X)(hP0 : IsP X) (a1 : Int) (ra1 : inR a1) (M : Mm) (hm_M : mr M) (post : Mm → Prop) (sz : Nat) (hw : wp_P_put a1 M post) : Met l yy_P_put (Cond.code yy_P_put bc_P_put 2 none :: tg) ({ frames := 1, cells := 0, slots := 0, locals := 22 } : Room) (Pw X [.ref (xA X 7), .int (iI a1)] M sz) (Qv X sz post) 0 0 (xF X sz) := by
  unfold wp_P_put at hw
  refine x_enter (by decide) hlc hm_M (Nat.le_of_ble_eq_true rfl) ?_
  intro p e s m below meth c ls hC hsz hr hlocks hS hl
  have hx := hC.1.1
  have hb := hC.1.2.1
  have hl : lv_has ls 2 [(0, .ref (xA X 7)), (1, .int (iI a1))] := hl
  refine lv_iload_n hx hb dd_P_put_0 rfl (lv_at hl 1 rfl) ?_
  refine x_iconst hC dd_P_put_1 ?_
  refine x_sipush hC dd_P_put_2 (by decide) ?_
  refine x_callSiN hC hS (As := [.int (iI a1), .int (iI 0), .int (iI 16383)]) (rest := []) cs_T_isWithin (mt_T_isWithin l X hC.2.2.1  a1 ra1 0 (rk rfl) 16383 (rk rfl) M hm_M _ _ hw) (nW_1 hC.2.2.2.2) rfl rfl ⟨Nat.le_of_ble_eq_true rfl, Nat.le_of_ble_eq_true rfl⟩ rfl hl.1 (Nat.le_of_ble_eq_true rfl) dd_P_put_5 ⟨Nat.le_refl _, Nat.le_refl _⟩ rfl (fun r5 Mx H locs rr5 hp hS => ?_)
  obtain ⟨hq, hw⟩ := hp
  rw [hq] at hS
  refine x_if_eq hC rr5 (tgt := 62) dd_P_put_8 (by decide) (fun c1 => ?_) (fun c1 => ?_)
  · have hw := hw.1 c1
    exact x_vret hC hS hlocks hr hw dd_P_put_62
  · have hw := hw.2 c1
    refine lv_aload_n hx hb dd_P_put_11 rfl (lv_at hl 0 rfl) ?_
    refine x_get hC hS hP0.1 rfl iw_P 0 (by decide) tb_150 rfl rfl dd_P_put_12 ?_
    refine lv_iload_n hx hb dd_P_put_15 rfl (lv_at hl 1 rfl) ?_
    obtain ⟨q2, hw⟩ := hw
    refine x_iald hC hS hP0.2.1 q2 dd_P_put_16 ?_
    refine x_nm (hm_M 8 _) (fun z3 rz3 ez3 => ?_)
    have hw := hw z3 ez3
    refine x_bipush hC dd_P_put_17 (by decide) ?_
    refine x_icmp_ne hC rz3 (rk rfl) (tgt := 62) dd_P_put_19 (by decide) (fun c4 => ?_) (fun c4 => ?_)
    · have hw := hw.1 c4
      exact x_vret hC hS hlocks hr hw dd_P_put_62
    · have hw := hw.2 c4
      refine lv_aload_n hx hb dd_P_put_22 rfl (lv_at hl 0 rfl) ?_
      refine x_get hC hS hP0.1 rfl iw_P 6 (by decide) tb_156 rfl rfl dd_P_put_23 ?_
      refine x_sipush hC dd_P_put_26 (by decide) ?_
      refine x_icmp_ge hC (hm_M 7 6) (rk rfl) (tgt := 62) dd_P_put_29 (by decide) (fun c5 => ?_) (fun c5 => ?_)
      · have hw := hw.1 c5
        exact x_vret hC hS hlocks hr hw dd_P_put_62
      · have hw := hw.2 c5
        refine lv_aload_n hx hb dd_P_put_32 rfl (lv_at hl 0 rfl) ?_
        refine x_get hC hS hP0.1 rfl iw_P 0 (by decide) tb_150 rfl rfl dd_P_put_33 ?_
        refine lv_iload_n hx hb dd_P_put_36 rfl (lv_at hl 1 rfl) ?_
        refine lv_aload_n hx hb dd_P_put_37 rfl (lv_at hl 0 rfl) ?_
        refine x_get hC hS hP0.1 rfl iw_P 7 (by decide) tb_157 rfl rfl dd_P_put_38 ?_
        obtain ⟨q6, hw⟩ := hw
        refine x_iast hC hS hP0.2.1 q6 (hm_M 7 7) dd_P_put_41 (fun H locs hS => ?_)
        obtain ⟨M_7, eM_7⟩ : ∃ Z : Mm, Z = ms M 8 (a1).toNat (M 7 7) := ⟨_, rfl⟩
        rw [← eM_7] at hS
        have hw := hw M_7 eM_7
        have hm_M_7 := hS.2.2.2
        refine lv_aload_n hx hb dd_P_put_42 rfl (lv_at hl 0 rfl) ?_
        refine x_get hC hS hP0.1 rfl iw_P 1 (by decide) tb_151 rfl rfl dd_P_put_43 ?_
        refine lv_aload_n hx hb dd_P_put_46 rfl (lv_at hl 0 rfl) ?_
        refine x_get hC hS hP0.1 rfl iw_P 6 (by decide) tb_156 rfl rfl dd_P_put_47 ?_
        refine lv_iload_n hx hb dd_P_put_50 rfl (lv_at hl 1 rfl) ?_
        obtain ⟨q8, hw⟩ := hw
        refine x_iast hC hS hP0.2.2.1 q8 ra1 dd_P_put_51 (fun H locs hS => ?_)
        obtain ⟨M_9, eM_9⟩ : ∃ Z : Mm, Z = ms M_7 9 ((M_7 7 6)).toNat a1 := ⟨_, rfl⟩
        rw [← eM_9] at hS
        have hw := hw M_9 eM_9
        have hm_M_9 := hS.2.2.2
        refine lv_aload_n hx hb dd_P_put_52 rfl (lv_at hl 0 rfl) ?_
        refine lv_dup hx hb dd_P_put_53 rfl ?_
        refine x_get hC hS hP0.1 rfl iw_P 6 (by decide) tb_156 rfl rfl dd_P_put_54 ?_
        refine x_iconst hC dd_P_put_57 ?_
        obtain ⟨q10, hw⟩ := hw
        refine x_add hC dd_P_put_58 ?_
        refine x_put hC hS hP0.1 rfl iw_P fy_P fk_P fn_P 6 (by decide) tb_156 rfl q10 rfl rfl (ps_P_6 _ _ _) (Nat.le_of_ble_eq_true rfl) dd_P_put_59 (fun H locs hS => ?_)
        obtain ⟨M_11, eM_11⟩ : ∃ Z : Mm, Z = ms M_9 7 6 ((M_9 7 6) + 1) := ⟨_, rfl⟩
        rw [← eM_11] at hS
        have hw := hw M_11 eM_11
        have hm_M_11 := hS.2.2.2
        exact x_vret hC hS hlocks hr hw dd_P_put_62
def wp_P_turned (a1 : Int) (a2 : Int) (M : Mm) (post : Int → Prop) : Prop :=
  (1 ≤ (M 7 5) → inR ((M 7 4) - 1) ∧ ∀ v5_22 : Int, v5_22 = ((M 7 4) - 1) → ∃ I24 : Nat → Int → Int → Int → Prop, (∃ n, I24 n a1 0 v5_22) ∧ ∀ (n24 : Nat) (x3_24 : Int) (x4_24 : Int) (x5_24 : Int), I24 n24 x3_24 x4_24 x5_24 →
      ((x5_24 < 0 → post x4_24) ∧
        (¬ x5_24 < 0 → (0 ≤ x3_24 ∧ 0 < (M 7 5)) ∧ wp_U_goal a2 x5_24 (fun (r44 : Int) => (0 ≤ r44 ∧ r44 < 8) ∧ ∀ z6 : Int, z6 = M 11 (r44).toNat → inR ((x3_24 % (M 7 5)) * z6) ∧ inR (x4_24 + ((x3_24 % (M 7 5)) * z6)) ∧ ∀ v4_50 : Int, v4_50 = (x4_24 + ((x3_24 % (M 7 5)) * z6)) → (0 ≤ x3_24 ∧ 0 < (M 7 5)) ∧ ∀ v3_58 : Int, v3_58 = (x3_24 / (M 7 5)) → inR (x5_24 + (-1)) ∧ ∀ v5_59 : Int, v5_59 = x5_24 + (-1) → ∃ k_10, k_10 < n24 ∧ I24 k_10 v3_58 v4_50 v5_59)))) ∧
  (¬ 1 ≤ (M 7 5) → post (-6))
set_option maxHeartbeats 4000000 in
set_option maxRecDepth 100000 in
theorem mt_P_turned (l : Launch) (X : Xw) (hlc : lcl X)(hP0 : IsP X) (a1 : Int) (ra1 : inR a1) (a2 : Int) (ra2 : inR a2) (M : Mm) (hm_M : mr M) (post : Int → Prop) (sz : Nat) (hw : wp_P_turned a1 a2 M post) : Met l yy_P_turned (Cond.code yy_P_turned bc_P_turned 6 (some .int) :: tg) ({ frames := 1, cells := 0, slots := 0, locals := 21 } : Room) (Pw X [.ref (xA X 7), .int (iI a1), .int (iI a2)] M sz) (Qi X sz (fun r M1 => M1 = M ∧ post r)) 0 0 (xF X sz) := by
  unfold wp_P_turned at hw
  refine x_enter (by decide) hlc hm_M (Nat.le_of_ble_eq_true rfl) ?_
  intro p e s m below meth c ls hC hsz hr hlocks hS hl
  have hx := hC.1.1
  have hb := hC.1.2.1
  have hl : lv_has ls 6 [(0, .ref (xA X 7)), (1, .int (iI a1)), (2, .int (iI a2))] := hl
  refine lv_aload_n hx hb dd_P_turned_0 rfl (lv_at hl 0 rfl) ?_
  refine x_get hC hS hP0.1 rfl iw_P 5 (by decide) tb_155 rfl rfl dd_P_turned_1 ?_
  refine x_iconst hC dd_P_turned_4 ?_
  refine x_icmp_ge hC (hm_M 7 5) (rk rfl) (tgt := 11) dd_P_turned_5 (by decide) (fun c1 => ?_) (fun c1 => ?_)
  · have hw := hw.1 c1
    refine lv_iload_n hx hb dd_P_turned_11 rfl (lv_at hl 1 rfl) ?_
    refine lv_istore_n (lv' := [(3, .int (iI a1)), (0, .ref (xA X 7)), (1, .int (iI a1)), (2, .int (iI a2))]) hx hb dd_P_turned_12 rfl hl (by decide) rfl (fun ls hl => ?_)
    refine x_iconst hC dd_P_turned_13 ?_
    refine lv_istore (lv' := [(4, .int (iI 0)), (3, .int (iI a1)), (0, .ref (xA X 7)), (1, .int (iI a1)), (2, .int (iI a2))]) hx hb dd_P_turned_14 hl (by decide) rfl (fun ls hl => ?_)
    refine lv_aload_n hx hb dd_P_turned_16 rfl (lv_at hl 2 rfl) ?_
    refine x_get hC hS hP0.1 rfl iw_P 4 (by decide) tb_154 rfl rfl dd_P_turned_17 ?_
    refine x_iconst hC dd_P_turned_20 ?_
    obtain ⟨q2, hw⟩ := hw
    refine x_sub hC dd_P_turned_21 ?_
    refine x_nm q2 (fun v5_22 rv5_22 ev5_22 => ?_)
    have hw := hw v5_22 ev5_22
    refine lv_istore (lv' := [(5, .int (iI v5_22)), (4, .int (iI 0)), (3, .int (iI a1)), (0, .ref (xA X 7)), (1, .int (iI a1)), (2, .int (iI a2))]) hx hb dd_P_turned_22 hl (by decide) rfl (fun ls hl => ?_)
    obtain ⟨I24, ⟨n0, hI⟩, hstep_I24⟩ := hw
    have lp_I24 : ∀ (n24 : Nat) (x3_24 : Int) (x4_24 : Int) (x5_24 : Int) (H : Heap) (locs : List Loc) (ls : Array Slot), I24 n24 x3_24 x4_24 x5_24 → inR x3_24 → inR x4_24 → inR x5_24 → St X (xF X sz) s M H locs → lv_has ls 6 [(0, .ref (xA X 7)), (2, .int (iI a2)), (3, .int (iI x3_24)), (4, .int (iI x4_24)), (5, .int (iI x5_24))] → W p l e ({ frames := 1, cells := 0, slots := 0, locals := 21 } : Room) s m ([.ref (xA X 7), .int (iI a1), .int (iI a2)] : List Value).toArray below meth c H locs 0 0 (MQ below (Qi X sz (fun r M1 => M1 = M ∧ post r)) ([.ref (xA X 7), .int (iI a1), .int (iI a2)] : List Value).toArray s 0 0 (xF X sz)) (F0 m 24 ls []) := by
      intro n24
      induction n24 using Nat.strongRecOn with
      | _ n24 ih_I24 =>
        intro x3_24 x4_24 x5_24 H locs ls hI rx3_24 rx4_24 rx5_24 hS hl
        have hw := hstep_I24 n24 x3_24 x4_24 x5_24 hI
        refine lv_iload hx hb dd_P_turned_24 (lv_at hl 4 rfl) ?_
        refine x_if_lt hC rx5_24 (tgt := 65) dd_P_turned_26 (by decide) (fun c3 => ?_) (fun c3 => ?_)
        · have hw := hw.1 c3
          refine lv_iload hx hb dd_P_turned_65 (lv_at hl 3 rfl) ?_
          exact x_iret hC hS hlocks hr rx4_24 ⟨rfl, hw⟩ dd_P_turned_67
        · have hw := hw.2 c3
          refine lv_iload hx hb dd_P_turned_29 (lv_at hl 3 rfl) ?_
          refine lv_iload_n hx hb dd_P_turned_31 rfl (lv_at hl 2 rfl) ?_
          refine lv_aload_n hx hb dd_P_turned_32 rfl (lv_at hl 0 rfl) ?_
          refine x_get hC hS hP0.1 rfl iw_P 5 (by decide) tb_155 rfl rfl dd_P_turned_33 ?_
          obtain ⟨q4, hw⟩ := hw
          refine x_rem hC rx3_24 (hm_M 7 5) q4 dd_P_turned_36 ?_
          refine lv_aload_n hx hb dd_P_turned_37 rfl (lv_at hl 0 rfl) ?_
          refine x_get hC hS hP0.1 rfl iw_P 3 (by decide) tb_153 rfl rfl dd_P_turned_38 ?_
          refine lv_iload_n hx hb dd_P_turned_41 rfl (lv_at hl 1 rfl) ?_
          refine lv_iload hx hb dd_P_turned_42 (lv_at hl 4 rfl) ?_
          refine x_callSi hC hS (As := [.int (iI a2), .int (iI x5_24)]) (rest := [.ref (xA X 11), .int (iI (x3_24 % (M 7 5))), .int (iI x4_24)]) cs_U_goal (mt_U_goal l X hC.2.2.1  a2 ra2 x5_24 rx5_24 M hm_M _ _ hw) tb_357 rfl rfl ⟨Nat.le_of_ble_eq_true rfl, Nat.le_of_ble_eq_true rfl⟩ rfl hl.1 (Nat.le_of_ble_eq_true rfl) dd_P_turned_44 ⟨Nat.le_refl _, Nat.le_refl _⟩ rfl (fun r44 Mx H locs rr44 hp hS => ?_)
          obtain ⟨hq, hw⟩ := hp
          rw [hq] at hS
          obtain ⟨q5, hw⟩ := hw
          refine x_iald hC hS hP0.2.2.2.2 q5 dd_P_turned_47 ?_
          refine x_nm (hm_M 11 _) (fun z6 rz6 ez6 => ?_)
          have hw := hw z6 ez6
          obtain ⟨q7, hw⟩ := hw
          refine x_mul hC dd_P_turned_48 ?_
          obtain ⟨q8, hw⟩ := hw
          refine x_add hC dd_P_turned_49 ?_
          refine x_nm q8 (fun v4_50 rv4_50 ev4_50 => ?_)
          have hw := hw v4_50 ev4_50
          refine lv_istore (lv' := [(4, .int (iI v4_50)), (0, .ref (xA X 7)), (2, .int (iI a2)), (3, .int (iI x3_24)), (5, .int (iI x5_24))]) hx hb dd_P_turned_50 hl (by decide) rfl (fun ls hl => ?_)
          refine lv_iload_n hx hb dd_P_turned_52 rfl (lv_at hl 3 rfl) ?_
          refine lv_aload_n hx hb dd_P_turned_53 rfl (lv_at hl 1 rfl) ?_
          refine x_get hC hS hP0.1 rfl iw_P 5 (by decide) tb_155 rfl rfl dd_P_turned_54 ?_
          obtain ⟨q9, hw⟩ := hw
          refine x_div hC rx3_24 (hm_M 7 5) q9 dd_P_turned_57 ?_
          refine x_nm (rDiv rx3_24 q9.1 q9.2) (fun v3_58 rv3_58 ev3_58 => ?_)
          have hw := hw v3_58 ev3_58
          refine lv_istore_n (lv' := [(3, .int (iI v3_58)), (4, .int (iI v4_50)), (0, .ref (xA X 7)), (2, .int (iI a2)), (5, .int (iI x5_24))]) hx hb dd_P_turned_58 rfl hl (by decide) rfl (fun ls hl => ?_)
          obtain ⟨hr_, hw⟩ := hw
          obtain ⟨v5_59, rv5_59, ev5_59⟩ : ∃ z : Int, inR z ∧ z = x5_24 + (-1) := ⟨_, hr_, rfl⟩
          have hw := hw v5_59 ev5_59
          refine lv_iinc (v := iI v5_59) (lv' := [(5, .int (iI v5_59)), (3, .int (iI v3_58)), (4, .int (iI v4_50)), (0, .ref (xA X 7)), (2, .int (iI a2))]) hx hb dd_P_turned_59 hl (k := 4) rfl (by rw [ev5_59]; exact iI_add _ _) (by decide) rfl (fun ls hl => ?_)
          refine lv_goto (tgt := 24) hx hb dd_P_turned_62 (by decide) ?_
          obtain ⟨k_10, h11, hI⟩ := hw
          exact ih_I24 k_10 h11 v3_58 v4_50 v5_59 _ _ _ hI rv3_58 rv4_50 rv5_59 hS (lv_sub hl [3, 4, 1, 2, 0] rfl)
    exact lp_I24 n0 a1 0 v5_22 _ _ _ hI ra1 (rk rfl) rv5_22 hS (lv_sub hl [3, 5, 2, 1, 0] rfl)
  · have hw := hw.2 c1
    refine x_bipush hC dd_P_turned_8 (by decide) ?_
    exact x_iret hC hS hlocks hr (rk rfl) ⟨rfl, hw⟩ dd_P_turned_10
def wp_P_gather (g2 : Nat) (a1 : Int) (M : Mm) (post : Mm → Prop) : Prop :=
  ((M 7 7) < 16384 → ∀ v3_15 : Int, v3_15 = (M 7 6) → wp_P_put a1 M (fun (M_2 : Mm) => ∃ I24 : Nat → Int → Mm → Prop, (∃ n, I24 n v3_15 M_2) ∧ ∀ (n24 : Nat) (x4_24 : Int) (M24 : Mm), I24 n24 x4_24 M24 →
      (∀ K87 : Prop, ((inR ((M24 7 7) + 1) ∧ ∀ M_4 : Mm, M_4 = ms M24 7 7 ((M24 7 7) + 1) → (0 ≤ (M_4 7 7) ∧ (M_4 7 7) < 16385) ∧ ∀ M_6 : Mm, M_6 = ms M_4 10 ((M_4 7 7)).toNat (M_4 7 6) → post M_6) →
          K87) →
        (((M24 7 6) ≤ x4_24 → K87) ∧
        (¬ (M24 7 6) ≤ x4_24 → (16384 ≤ x4_24 → K87) ∧
          (¬ 16384 ≤ x4_24 → ∃ I44 : Nat → Int → Mm → Prop, (∃ n, I44 n 0 M24) ∧ ∀ (n44 : Nat) (x5_44 : Int) (M44 : Mm), I44 n44 x5_44 M44 →
              (((M44 g2 3) ≤ x5_44 → inR (x4_24 + 1) ∧ ∀ v4_81 : Int, v4_81 = x4_24 + 1 → ∃ k_10, k_10 < n24 ∧ I24 k_10 v4_81 M44) ∧
                (¬ (M44 g2 3) ≤ x5_44 → (0 ≤ x4_24 ∧ x4_24 < 16384) ∧ ∀ z13 : Int, z13 = M44 9 (x4_24).toNat → (0 ≤ x5_44 ∧ x5_44 < 12) ∧ ∀ z15 : Int, z15 = M44 (g2 + 2) (x5_44).toNat → wp_P_turned z13 z15 M44 (fun (r69 : Int) => wp_P_put r69 M44 (fun (M_16 : Mm) => inR (x5_44 + 1) ∧ ∀ v5_75 : Int, v5_75 = x5_44 + 1 → ∃ k_17, k_17 < n44 ∧ I44 k_17 v5_75 M_16)))))))))) ∧
  (¬ (M 7 7) < 16384 → post M)
set_option maxHeartbeats 4000000 in
set_option maxRecDepth 100000 in
theorem mt_P_gather (l : Launch) (X : Xw) (hlc : lcl X) (g2 : Nat) (hP0 : IsP X) (hg2 : IsG X g2) (a1 : Int) (ra1 : inR a1) (M : Mm) (hm_M : mr M) (post : Mm → Prop) (sz : Nat) (hw : wp_P_gather g2 a1 M post) : Met l yy_P_gather (Cond.code yy_P_gather bc_P_gather 6 none :: tg) ({ frames := 2, cells := 0, slots := 0, locals := 46 } : Room) (Pw X [.ref (xA X 7), .int (iI a1), .ref (xA X g2)] M sz) (Qv X sz post) 0 0 (xF X sz) := by
  unfold wp_P_gather at hw
  refine x_enter (by decide) hlc hm_M (Nat.le_of_ble_eq_true rfl) ?_
  intro p e s m below meth c ls hC hsz hr hlocks hS hl
  have hx := hC.1.1
  have hb := hC.1.2.1
  have hl : lv_has ls 6 [(0, .ref (xA X 7)), (1, .int (iI a1)), (2, .ref (xA X g2))] := hl
  refine lv_aload_n hx hb dd_P_gather_0 rfl (lv_at hl 0 rfl) ?_
  refine x_get hC hS hP0.1 rfl iw_P 7 (by decide) tb_157 rfl rfl dd_P_gather_1 ?_
  refine x_sipush hC dd_P_gather_4 (by decide) ?_
  refine x_icmp_lt hC (hm_M 7 7) (rk rfl) (tgt := 11) dd_P_gather_7 (by decide) (fun c1 => ?_) (fun c1 => ?_)
  · have hw := hw.1 c1
    refine lv_aload_n hx hb dd_P_gather_11 rfl (lv_at hl 0 rfl) ?_
    refine x_get hC hS hP0.1 rfl iw_P 6 (by decide) tb_156 rfl rfl dd_P_gather_12 ?_
    refine x_nm (hm_M 7 6) (fun v3_15 rv3_15 ev3_15 => ?_)
    have hw := hw v3_15 ev3_15
    refine lv_istore_n (lv' := [(3, .int (iI v3_15)), (0, .ref (xA X 7)), (1, .int (iI a1)), (2, .ref (xA X g2))]) hx hb dd_P_gather_15 rfl hl (by decide) rfl (fun ls hl => ?_)
    refine lv_aload_n hx hb dd_P_gather_16 rfl (lv_at hl 1 rfl) ?_
    refine lv_iload_n hx hb dd_P_gather_17 rfl (lv_at hl 2 rfl) ?_
    refine x_callVv hC hS (As := [.int (iI a1)]) (rest := []) hP0.1 rfl cv_P_put (mt_P_put l X hC.2.2.1 hP0 a1 ra1 M hm_M _ _ hw) tb_348 rfl rfl ⟨Nat.le_of_ble_eq_true rfl, Nat.le_of_ble_eq_true rfl⟩ rfl hl.1 (Nat.le_of_ble_eq_true rfl) dd_P_gather_18 ⟨Nat.le_refl _, Nat.le_refl _⟩ rfl (fun M_2 H locs hw hS => ?_)
    have hm_M_2 := hS.2.2.2
    refine lv_iload_n hx hb dd_P_gather_21 rfl (lv_at hl 0 rfl) ?_
    refine lv_istore (lv' := [(4, .int (iI v3_15)), (3, .int (iI v3_15)), (0, .ref (xA X 7)), (1, .int (iI a1)), (2, .ref (xA X g2))]) hx hb dd_P_gather_22 hl (by decide) rfl (fun ls hl => ?_)
    obtain ⟨I24, ⟨n0, hI⟩, hstep_I24⟩ := hw
    have lp_I24 : ∀ (n24 : Nat) (x4_24 : Int) (M24 : Mm) (H : Heap) (locs : List Loc) (ls : Array Slot), I24 n24 x4_24 M24 → inR x4_24 → St X (xF X sz) s M24 H locs → lv_has ls 6 [(0, .ref (xA X 7)), (2, .ref (xA X g2)), (4, .int (iI x4_24))] → W p l e ({ frames := 2, cells := 0, slots := 0, locals := 46 } : Room) s m ([.ref (xA X 7), .int (iI a1), .ref (xA X g2)] : List Value).toArray below meth c H locs 0 0 (MQ below (Qv X sz post) ([.ref (xA X 7), .int (iI a1), .ref (xA X g2)] : List Value).toArray s 0 0 (xF X sz)) (F0 m 24 ls []) := by
      intro n24
      induction n24 using Nat.strongRecOn with
      | _ n24 ih_I24 =>
        intro x4_24 M24 H locs ls hI rx4_24 hS hl
        have hw := hstep_I24 n24 x4_24 M24 hI
        have hm_M24 := hS.2.2.2
        refine lv_iload hx hb dd_P_gather_24 (lv_at hl 2 rfl) ?_
        refine lv_aload_n hx hb dd_P_gather_26 rfl (lv_at hl 0 rfl) ?_
        refine x_get hC hS hP0.1 rfl iw_P 6 (by decide) tb_156 rfl rfl dd_P_gather_27 ?_
        have hw := hw (∀ (H : Heap) (locs : List Loc) (ls : Array Slot), St X (xF X sz) s M24 H locs → lv_has ls 6 [(0, .ref (xA X 7))] → W p l e ({ frames := 2, cells := 0, slots := 0, locals := 46 } : Room) s m ([.ref (xA X 7), .int (iI a1), .ref (xA X g2)] : List Value).toArray below meth c H locs 0 0 (MQ below (Qv X sz post) ([.ref (xA X 7), .int (iI a1), .ref (xA X g2)] : List Value).toArray s 0 0 (xF X sz)) (F0 m 87 ls [])) (by
            intro  hw H locs ls  hS hl
            refine lv_aload_n hx hb dd_P_gather_87 rfl (lv_at hl 0 rfl) ?_
            refine lv_dup hx hb dd_P_gather_88 rfl ?_
            refine x_get hC hS hP0.1 rfl iw_P 7 (by decide) tb_157 rfl rfl dd_P_gather_89 ?_
            refine x_iconst hC dd_P_gather_92 ?_
            obtain ⟨q3, hw⟩ := hw
            refine x_add hC dd_P_gather_93 ?_
            refine x_put hC hS hP0.1 rfl iw_P fy_P fk_P fn_P 7 (by decide) tb_157 rfl q3 rfl rfl (ps_P_7 _ _ _) (Nat.le_of_ble_eq_true rfl) dd_P_gather_94 (fun H locs hS => ?_)
            obtain ⟨M_4, eM_4⟩ : ∃ Z : Mm, Z = ms M24 7 7 ((M24 7 7) + 1) := ⟨_, rfl⟩
            rw [← eM_4] at hS
            have hw := hw M_4 eM_4
            have hm_M_4 := hS.2.2.2
            refine lv_aload_n hx hb dd_P_gather_97 rfl (lv_at hl 0 rfl) ?_
            refine x_get hC hS hP0.1 rfl iw_P 2 (by decide) tb_152 rfl rfl dd_P_gather_98 ?_
            refine lv_aload_n hx hb dd_P_gather_101 rfl (lv_at hl 0 rfl) ?_
            refine x_get hC hS hP0.1 rfl iw_P 7 (by decide) tb_157 rfl rfl dd_P_gather_102 ?_
            refine lv_aload_n hx hb dd_P_gather_105 rfl (lv_at hl 0 rfl) ?_
            refine x_get hC hS hP0.1 rfl iw_P 6 (by decide) tb_156 rfl rfl dd_P_gather_106 ?_
            obtain ⟨q5, hw⟩ := hw
            refine x_iast hC hS hP0.2.2.2.1 q5 (hm_M_4 7 6) dd_P_gather_109 (fun H locs hS => ?_)
            obtain ⟨M_6, eM_6⟩ : ∃ Z : Mm, Z = ms M_4 10 ((M_4 7 7)).toNat (M_4 7 6) := ⟨_, rfl⟩
            rw [← eM_6] at hS
            have hw := hw M_6 eM_6
            have hm_M_6 := hS.2.2.2
            exact x_vret hC hS hlocks hr hw dd_P_gather_110)
        refine x_icmp_ge hC rx4_24 (hm_M24 7 6) (tgt := 87) dd_P_gather_30 (by decide) (fun c7 => ?_) (fun c7 => ?_)
        · have hw := hw.1 c7
          exact hw _ _ _  hS (lv_sub hl [0] rfl)
        · have hw := hw.2 c7
          refine lv_iload hx hb dd_P_gather_33 (lv_at hl 2 rfl) ?_
          refine x_sipush hC dd_P_gather_35 (by decide) ?_
          refine x_icmp_ge hC rx4_24 (rk rfl) (tgt := 87) dd_P_gather_38 (by decide) (fun c8 => ?_) (fun c8 => ?_)
          · have hw := hw.1 c8
            exact hw _ _ _  hS (lv_sub hl [0] rfl)
          · have hw := hw.2 c8
            refine x_iconst hC dd_P_gather_41 ?_
            refine lv_istore (lv' := [(5, .int (iI 0)), (0, .ref (xA X 7)), (2, .ref (xA X g2)), (4, .int (iI x4_24))]) hx hb dd_P_gather_42 hl (by decide) rfl (fun ls hl => ?_)
            obtain ⟨I44, ⟨n0, hI⟩, hstep_I44⟩ := hw
            have lp_I44 : ∀ (n44 : Nat) (x5_44 : Int) (M44 : Mm) (H : Heap) (locs : List Loc) (ls : Array Slot), I44 n44 x5_44 M44 → inR x5_44 → St X (xF X sz) s M44 H locs → lv_has ls 6 [(0, .ref (xA X 7)), (2, .ref (xA X g2)), (4, .int (iI x4_24)), (5, .int (iI x5_44))] → W p l e ({ frames := 2, cells := 0, slots := 0, locals := 46 } : Room) s m ([.ref (xA X 7), .int (iI a1), .ref (xA X g2)] : List Value).toArray below meth c H locs 0 0 (MQ below (Qv X sz post) ([.ref (xA X 7), .int (iI a1), .ref (xA X g2)] : List Value).toArray s 0 0 (xF X sz)) (F0 m 44 ls []) := by
              intro n44
              induction n44 using Nat.strongRecOn with
              | _ n44 ih_I44 =>
                intro x5_44 M44 H locs ls hI rx5_44 hS hl
                have hw := hstep_I44 n44 x5_44 M44 hI
                have hm_M44 := hS.2.2.2
                refine lv_iload hx hb dd_P_gather_44 (lv_at hl 3 rfl) ?_
                refine lv_aload_n hx hb dd_P_gather_46 rfl (lv_at hl 1 rfl) ?_
                refine x_get hC hS hg2.1 rfl iw_G 3 (by decide) tb_69 rfl rfl dd_P_gather_47 ?_
                refine x_icmp_ge hC rx5_44 (hm_M44 g2 3) (tgt := 81) dd_P_gather_50 (by decide) (fun c9 => ?_) (fun c9 => ?_)
                · have hw := hw.1 c9
                  obtain ⟨hr_, hw⟩ := hw
                  obtain ⟨v4_81, rv4_81, ev4_81⟩ : ∃ z : Int, inR z ∧ z = x4_24 + 1 := ⟨_, hr_, rfl⟩
                  have hw := hw v4_81 ev4_81
                  refine lv_iinc (v := iI v4_81) (lv' := [(4, .int (iI v4_81)), (0, .ref (xA X 7)), (2, .ref (xA X g2)), (5, .int (iI x5_44))]) hx hb dd_P_gather_81 hl (k := 2) rfl (by rw [ev4_81]; exact iI_add _ _) (by decide) rfl (fun ls hl => ?_)
                  refine lv_goto (tgt := 24) hx hb dd_P_gather_84 (by decide) ?_
                  obtain ⟨k_10, h11, hI⟩ := hw
                  exact ih_I24 k_10 h11 v4_81 M44 _ _ _ hI rv4_81 hS (lv_sub hl [1, 2, 0] rfl)
                · have hw := hw.2 c9
                  refine lv_aload_n hx hb dd_P_gather_53 rfl (lv_at hl 0 rfl) ?_
                  refine lv_aload_n hx hb dd_P_gather_54 rfl (lv_at hl 0 rfl) ?_
                  refine lv_aload_n hx hb dd_P_gather_55 rfl (lv_at hl 0 rfl) ?_
                  refine x_get hC hS hP0.1 rfl iw_P 1 (by decide) tb_151 rfl rfl dd_P_gather_56 ?_
                  refine lv_iload hx hb dd_P_gather_59 (lv_at hl 2 rfl) ?_
                  obtain ⟨q12, hw⟩ := hw
                  refine x_iald hC hS hP0.2.2.1 q12 dd_P_gather_61 ?_
                  refine x_nm (hm_M44 9 _) (fun z13 rz13 ez13 => ?_)
                  have hw := hw z13 ez13
                  refine lv_aload_n hx hb dd_P_gather_62 rfl (lv_at hl 1 rfl) ?_
                  refine x_get hC hS hg2.1 rfl iw_G 2 (by decide) tb_67 rfl rfl dd_P_gather_63 ?_
                  refine lv_iload hx hb dd_P_gather_66 (lv_at hl 3 rfl) ?_
                  obtain ⟨q14, hw⟩ := hw
                  refine x_iald hC hS hg2.2.2.1 q14 dd_P_gather_68 ?_
                  refine x_nm (hm_M44 (g2 + 2) _) (fun z15 rz15 ez15 => ?_)
                  have hw := hw z15 ez15
                  refine x_callVi hC hS (As := [.int (iI z13), .int (iI z15)]) (rest := [.ref (xA X 7)]) hP0.1 rfl cv_P_turned (mt_P_turned l X hC.2.2.1 hP0 z13 rz13 z15 rz15 M44 hm_M44 _ _ hw) tb_353 rfl rfl ⟨Nat.le_of_ble_eq_true rfl, Nat.le_of_ble_eq_true rfl⟩ rfl hl.1 (Nat.le_of_ble_eq_true rfl) dd_P_gather_69 ⟨Nat.le_refl _, Nat.le_refl _⟩ rfl (fun r69 Mx H locs rr69 hp hS => ?_)
                  obtain ⟨hq, hw⟩ := hp
                  rw [hq] at hS
                  refine x_callVv hC hS (As := [.int (iI r69)]) (rest := []) hP0.1 rfl cv_P_put (mt_P_put l X hC.2.2.1 hP0 r69 rr69 M44 hm_M44 _ _ hw) tb_348 rfl rfl ⟨Nat.le_of_ble_eq_true rfl, Nat.le_of_ble_eq_true rfl⟩ rfl hl.1 (Nat.le_of_ble_eq_true rfl) dd_P_gather_72 ⟨Nat.le_refl _, Nat.le_refl _⟩ rfl (fun M_16 H locs hw hS => ?_)
                  have hm_M_16 := hS.2.2.2
                  obtain ⟨hr_, hw⟩ := hw
                  obtain ⟨v5_75, rv5_75, ev5_75⟩ : ∃ z : Int, inR z ∧ z = x5_44 + 1 := ⟨_, hr_, rfl⟩
                  have hw := hw v5_75 ev5_75
                  refine lv_iinc (v := iI v5_75) (lv' := [(5, .int (iI v5_75)), (0, .ref (xA X 7)), (2, .ref (xA X g2)), (4, .int (iI x4_24))]) hx hb dd_P_gather_75 hl (k := 3) rfl (by rw [ev5_75]; exact iI_add _ _) (by decide) rfl (fun ls hl => ?_)
                  refine lv_goto (tgt := 44) hx hb dd_P_gather_78 (by decide) ?_
                  obtain ⟨k_17, h18, hI⟩ := hw
                  exact ih_I44 k_17 h18 v5_75 M_16 _ _ _ hI rv5_75 hS (lv_sub hl [1, 2, 3, 0] rfl)
            exact lp_I44 n0 0 M24 _ _ _ hI (rk rfl) hS (lv_sub hl [1, 2, 3, 0] rfl)
    exact lp_I24 n0 v3_15 M_2 _ _ _ hI rv3_15 hS (lv_sub hl [2, 4, 0] rfl)
  · have hw := hw.2 c1
    exact x_vret hC hS hlocks hr hw dd_P_gather_10
def wp_P_bringUp (u1 : Nat) (M : Mm) (post : Mm → Prop) : Prop :=
  ((M 7 8) = 0 → wp_P_setPlaces u1 M (fun (M_2 : Mm) => wp_S_colourings u1 M_2 (fun (r14 : Int) => ∀ z3 : Int, z3 = (if (16384 : Int) < r14 then 16384 else r14) → ∃ I26 : Nat → Int → Mm → Prop, (∃ n, I26 n 0 M_2) ∧ ∀ (n26 : Nat) (x3_26 : Int) (M26 : Mm), I26 n26 x3_26 M26 →
      ((z3 ≤ x3_26 → ∀ M_5 : Mm, M_5 = ms M26 7 6 0 → ∀ M_6 : Mm, M_6 = ms M_5 7 7 0 → (0 ≤ (0 : Int) ∧ (0 : Int) < 16385) ∧ ∀ M_8 : Mm, M_8 = ms M_6 10 ((0 : Int)).toNat 0 → ∃ I64 : Nat → Int → Mm → Prop, (∃ n, I64 n 0 M_8) ∧ ∀ (n64 : Nat) (x3_64 : Int) (M64 : Mm), I64 n64 x3_64 M64 →
            ((z3 ≤ x3_64 → ∀ M_10 : Mm, M_10 = ms M64 7 8 1 → post M_10) ∧
              (¬ z3 ≤ x3_64 → (0 ≤ x3_64 ∧ x3_64 < 16384) ∧ ∀ z12 : Int, z12 = M64 8 (x3_64).toNat → ∀ K89 : Mm → Prop, (∀ (M89 : Mm), (inR (x3_64 + 1) ∧ ∀ v3_89 : Int, v3_89 = x3_64 + 1 → ∃ k_13, k_13 < n64 ∧ I64 k_13 v3_89 M89) →
                  K89 M89) →
                ((¬ z12 = (-6) → K89 M64) ∧
                (z12 = (-6) → wp_P_gather (u1 + 2) x3_64 M64 (fun (M_16 : Mm) => K89 M_16)))))) ∧
        (¬ z3 ≤ x3_26 → (0 ≤ x3_26 ∧ x3_26 < 16384) ∧ ∀ M_18 : Mm, M_18 = ms M26 8 (x3_26).toNat (-6) → inR (x3_26 + 1) ∧ ∀ v3_39 : Int, v3_39 = x3_26 + 1 → ∃ k_19, k_19 < n26 ∧ I26 k_19 v3_39 M_18))))) ∧
  (¬ (M 7 8) = 0 → post M)
set_option maxHeartbeats 4000000 in
set_option maxRecDepth 100000 in
theorem mt_P_bringUp (l : Launch) (X : Xw) (hlc : lcl X) (u1 : Nat) (hP0 : IsP X) (hu1 : IsS X u1) (M : Mm) (hm_M : mr M) (post : Mm → Prop) (sz : Nat) (hw : wp_P_bringUp u1 M post) : Met l yy_P_bringUp (Cond.code yy_P_bringUp bc_P_bringUp 4 none :: tg) ({ frames := 3, cells := 0, slots := 0, locals := 71 } : Room) (Pw X [.ref (xA X 7), .ref (xA X u1)] M sz) (Qv X sz post) 0 0 (xF X sz) := by
  unfold wp_P_bringUp at hw
  refine x_enter (by decide) hlc hm_M (Nat.le_of_ble_eq_true rfl) ?_
  intro p e s m below meth c ls hC hsz hr hlocks hS hl
  have hx := hC.1.1
  have hb := hC.1.2.1
  have hl : lv_has ls 4 [(0, .ref (xA X 7)), (1, .ref (xA X u1))] := hl
  refine lv_aload_n hx hb dd_P_bringUp_0 rfl (lv_at hl 0 rfl) ?_
  refine x_get hC hS hP0.1 rfl iw_P 8 (by decide) tb_159 rfl rfl dd_P_bringUp_1 ?_
  refine x_if_eq hC (hm_M 7 8) (tgt := 8) dd_P_bringUp_4 (by decide) (fun c1 => ?_) (fun c1 => ?_)
  · have hw := hw.1 c1
    refine lv_aload_n hx hb dd_P_bringUp_8 rfl (lv_at hl 0 rfl) ?_
    refine lv_aload_n hx hb dd_P_bringUp_9 rfl (lv_at hl 1 rfl) ?_
    refine x_callVv hC hS (As := [.ref (xA X u1)]) (rest := []) hP0.1 rfl cv_P_setPlaces (mt_P_setPlaces l X hC.2.2.1 u1 hP0 hu1  M hm_M _ _ hw) tb_333 rfl rfl ⟨Nat.le_of_ble_eq_true rfl, Nat.le_of_ble_eq_true rfl⟩ rfl hl.1 (Nat.le_of_ble_eq_true rfl) dd_P_bringUp_10 ⟨Nat.le_refl _, Nat.le_refl _⟩ rfl (fun M_2 H locs hw hS => ?_)
    have hm_M_2 := hS.2.2.2
    refine lv_aload_n hx hb dd_P_bringUp_13 rfl (lv_at hl 1 rfl) ?_
    refine x_callVi hC hS (As := []) (rest := []) hu1.1 rfl cv_S_colourings (mt_S_colourings l X hC.2.2.1 u1 hu1  M_2 hm_M_2 _ _ hw) tb_340 rfl rfl ⟨Nat.le_of_ble_eq_true rfl, Nat.le_of_ble_eq_true rfl⟩ rfl hl.1 (Nat.le_of_ble_eq_true rfl) dd_P_bringUp_14 ⟨Nat.le_refl _, Nat.le_refl _⟩ rfl (fun r14 Mx H locs rr14 hp hS => ?_)
    obtain ⟨hq, hw⟩ := hp
    rw [hq] at hS
    refine x_sipush hC dd_P_bringUp_17 (by decide) ?_
    refine x_min hC rr14 (rk rfl) hl.1 tb_337 (Nat.le_of_ble_eq_true rfl) (Nat.le_of_ble_eq_true rfl) ⟨Nat.le_refl _, Nat.le_refl _⟩ dd_P_bringUp_20 (fun z3 rz3 ez3 => ?_)
    have hw := hw z3 ez3
    refine lv_istore_n (lv' := [(2, .int (iI z3)), (0, .ref (xA X 7)), (1, .ref (xA X u1))]) hx hb dd_P_bringUp_23 rfl hl (by decide) rfl (fun ls hl => ?_)
    refine x_iconst hC dd_P_bringUp_24 ?_
    refine lv_istore_n (lv' := [(3, .int (iI 0)), (2, .int (iI z3)), (0, .ref (xA X 7)), (1, .ref (xA X u1))]) hx hb dd_P_bringUp_25 rfl hl (by decide) rfl (fun ls hl => ?_)
    obtain ⟨I26, ⟨n0, hI⟩, hstep_I26⟩ := hw
    have lp_I26 : ∀ (n26 : Nat) (x3_26 : Int) (M26 : Mm) (H : Heap) (locs : List Loc) (ls : Array Slot), I26 n26 x3_26 M26 → inR x3_26 → St X (xF X sz) s M26 H locs → lv_has ls 4 [(0, .ref (xA X 7)), (1, .ref (xA X u1)), (2, .int (iI z3)), (3, .int (iI x3_26))] → W p l e ({ frames := 3, cells := 0, slots := 0, locals := 71 } : Room) s m ([.ref (xA X 7), .ref (xA X u1)] : List Value).toArray below meth c H locs 0 0 (MQ below (Qv X sz post) ([.ref (xA X 7), .ref (xA X u1)] : List Value).toArray s 0 0 (xF X sz)) (F0 m 26 ls []) := by
      intro n26
      induction n26 using Nat.strongRecOn with
      | _ n26 ih_I26 =>
        intro x3_26 M26 H locs ls hI rx3_26 hS hl
        have hw := hstep_I26 n26 x3_26 M26 hI
        have hm_M26 := hS.2.2.2
        refine lv_iload_n hx hb dd_P_bringUp_26 rfl (lv_at hl 3 rfl) ?_
        refine lv_iload_n hx hb dd_P_bringUp_27 rfl (lv_at hl 2 rfl) ?_
        refine x_icmp_ge hC rx3_26 rz3 (tgt := 45) dd_P_bringUp_28 (by decide) (fun c4 => ?_) (fun c4 => ?_)
        · have hw := hw.1 c4
          refine lv_aload_n hx hb dd_P_bringUp_45 rfl (lv_at hl 0 rfl) ?_
          refine x_iconst hC dd_P_bringUp_46 ?_
          refine x_put hC hS hP0.1 rfl iw_P fy_P fk_P fn_P 6 (by decide) tb_156 rfl (rk rfl) rfl rfl (ps_P_6 _ _ _) (Nat.le_of_ble_eq_true rfl) dd_P_bringUp_47 (fun H locs hS => ?_)
          obtain ⟨M_5, eM_5⟩ : ∃ Z : Mm, Z = ms M26 7 6 0 := ⟨_, rfl⟩
          rw [← eM_5] at hS
          have hw := hw M_5 eM_5
          have hm_M_5 := hS.2.2.2
          refine lv_aload_n hx hb dd_P_bringUp_50 rfl (lv_at hl 0 rfl) ?_
          refine x_iconst hC dd_P_bringUp_51 ?_
          refine x_put hC hS hP0.1 rfl iw_P fy_P fk_P fn_P 7 (by decide) tb_157 rfl (rk rfl) rfl rfl (ps_P_7 _ _ _) (Nat.le_of_ble_eq_true rfl) dd_P_bringUp_52 (fun H locs hS => ?_)
          obtain ⟨M_6, eM_6⟩ : ∃ Z : Mm, Z = ms M_5 7 7 0 := ⟨_, rfl⟩
          rw [← eM_6] at hS
          have hw := hw M_6 eM_6
          have hm_M_6 := hS.2.2.2
          refine lv_aload_n hx hb dd_P_bringUp_55 rfl (lv_at hl 0 rfl) ?_
          refine x_get hC hS hP0.1 rfl iw_P 2 (by decide) tb_152 rfl rfl dd_P_bringUp_56 ?_
          refine x_iconst hC dd_P_bringUp_59 ?_
          refine x_iconst hC dd_P_bringUp_60 ?_
          obtain ⟨q7, hw⟩ := hw
          refine x_iast hC hS hP0.2.2.2.1 q7 (rk rfl) dd_P_bringUp_61 (fun H locs hS => ?_)
          obtain ⟨M_8, eM_8⟩ : ∃ Z : Mm, Z = ms M_6 10 ((0 : Int)).toNat 0 := ⟨_, rfl⟩
          rw [← eM_8] at hS
          have hw := hw M_8 eM_8
          have hm_M_8 := hS.2.2.2
          refine x_iconst hC dd_P_bringUp_62 ?_
          refine lv_istore_n (lv' := [(3, .int (iI 0)), (0, .ref (xA X 7)), (1, .ref (xA X u1)), (2, .int (iI z3))]) hx hb dd_P_bringUp_63 rfl hl (by decide) rfl (fun ls hl => ?_)
          obtain ⟨I64, ⟨n0, hI⟩, hstep_I64⟩ := hw
          have lp_I64 : ∀ (n64 : Nat) (x3_64 : Int) (M64 : Mm) (H : Heap) (locs : List Loc) (ls : Array Slot), I64 n64 x3_64 M64 → inR x3_64 → St X (xF X sz) s M64 H locs → lv_has ls 4 [(0, .ref (xA X 7)), (1, .ref (xA X u1)), (2, .int (iI z3)), (3, .int (iI x3_64))] → W p l e ({ frames := 3, cells := 0, slots := 0, locals := 71 } : Room) s m ([.ref (xA X 7), .ref (xA X u1)] : List Value).toArray below meth c H locs 0 0 (MQ below (Qv X sz post) ([.ref (xA X 7), .ref (xA X u1)] : List Value).toArray s 0 0 (xF X sz)) (F0 m 64 ls []) := by
            intro n64
            induction n64 using Nat.strongRecOn with
            | _ n64 ih_I64 =>
              intro x3_64 M64 H locs ls hI rx3_64 hS hl
              have hw := hstep_I64 n64 x3_64 M64 hI
              have hm_M64 := hS.2.2.2
              refine lv_iload_n hx hb dd_P_bringUp_64 rfl (lv_at hl 3 rfl) ?_
              refine lv_iload_n hx hb dd_P_bringUp_65 rfl (lv_at hl 2 rfl) ?_
              refine x_icmp_ge hC rx3_64 rz3 (tgt := 95) dd_P_bringUp_66 (by decide) (fun c9 => ?_) (fun c9 => ?_)
              · have hw := hw.1 c9
                refine lv_aload_n hx hb dd_P_bringUp_95 rfl (lv_at hl 0 rfl) ?_
                refine x_iconst hC dd_P_bringUp_96 ?_
                refine x_put hC hS hP0.1 rfl iw_P fy_P fk_P fn_P 8 (by decide) tb_159 rfl (rk rfl) rfl rfl (ps_P_8 _ _ _) (Nat.le_of_ble_eq_true rfl) dd_P_bringUp_97 (fun H locs hS => ?_)
                obtain ⟨M_10, eM_10⟩ : ∃ Z : Mm, Z = ms M64 7 8 1 := ⟨_, rfl⟩
                rw [← eM_10] at hS
                have hw := hw M_10 eM_10
                have hm_M_10 := hS.2.2.2
                exact x_vret hC hS hlocks hr hw dd_P_bringUp_100
              · have hw := hw.2 c9
                refine lv_aload_n hx hb dd_P_bringUp_69 rfl (lv_at hl 0 rfl) ?_
                refine x_get hC hS hP0.1 rfl iw_P 0 (by decide) tb_150 rfl rfl dd_P_bringUp_70 ?_
                refine lv_iload_n hx hb dd_P_bringUp_73 rfl (lv_at hl 3 rfl) ?_
                obtain ⟨q11, hw⟩ := hw
                refine x_iald hC hS hP0.2.1 q11 dd_P_bringUp_74 ?_
                refine x_nm (hm_M64 8 _) (fun z12 rz12 ez12 => ?_)
                have hw := hw z12 ez12
                refine x_bipush hC dd_P_bringUp_75 (by decide) ?_
                have hw := hw (fun (M89 : Mm) => ∀ (H : Heap) (locs : List Loc) (ls : Array Slot), St X (xF X sz) s M89 H locs → lv_has ls 4 [(0, .ref (xA X 7)), (1, .ref (xA X u1)), (2, .int (iI z3)), (3, .int (iI x3_64))] → W p l e ({ frames := 3, cells := 0, slots := 0, locals := 71 } : Room) s m ([.ref (xA X 7), .ref (xA X u1)] : List Value).toArray below meth c H locs 0 0 (MQ below (Qv X sz post) ([.ref (xA X 7), .ref (xA X u1)] : List Value).toArray s 0 0 (xF X sz)) (F0 m 89 ls [])) (by
                    intro M89 hw H locs ls  hS hl
                    have hm_M89 := hS.2.2.2
                    obtain ⟨hr_, hw⟩ := hw
                    obtain ⟨v3_89, rv3_89, ev3_89⟩ : ∃ z : Int, inR z ∧ z = x3_64 + 1 := ⟨_, hr_, rfl⟩
                    have hw := hw v3_89 ev3_89
                    refine lv_iinc (v := iI v3_89) (lv' := [(3, .int (iI v3_89)), (0, .ref (xA X 7)), (1, .ref (xA X u1)), (2, .int (iI z3))]) hx hb dd_P_bringUp_89 hl (k := 3) rfl (by rw [ev3_89]; exact iI_add _ _) (by decide) rfl (fun ls hl => ?_)
                    refine lv_goto (tgt := 64) hx hb dd_P_bringUp_92 (by decide) ?_
                    obtain ⟨k_13, h14, hI⟩ := hw
                    exact ih_I64 k_13 h14 v3_89 M89 _ _ _ hI rv3_89 hS (lv_sub hl [1, 2, 3, 0] rfl))
                refine x_icmp_ne hC rz12 (rk rfl) (tgt := 89) dd_P_bringUp_77 (by decide) (fun c15 => ?_) (fun c15 => ?_)
                · have hw := hw.1 c15
                  exact hw _ _ _  hS (lv_sub hl [0, 1, 2, 3] rfl)
                · have hw := hw.2 c15
                  refine lv_aload_n hx hb dd_P_bringUp_80 rfl (lv_at hl 0 rfl) ?_
                  refine lv_iload_n hx hb dd_P_bringUp_81 rfl (lv_at hl 3 rfl) ?_
                  refine lv_aload_n hx hb dd_P_bringUp_82 rfl (lv_at hl 1 rfl) ?_
                  refine x_get hC hS hu1.1 rfl iw_S 3 (by decide) tb_95 rfl rfl dd_P_bringUp_83 ?_
                  refine x_callVv hC hS (As := [.int (iI x3_64), .ref (xA X (u1 + 2))]) (rest := []) hP0.1 rfl cv_P_gather (mt_P_gather l X hC.2.2.1 (u1 + 2) hP0 hu1.2.2 x3_64 rx3_64 M64 hm_M64 _ _ hw) tb_344 rfl rfl ⟨Nat.le_of_ble_eq_true rfl, Nat.le_of_ble_eq_true rfl⟩ rfl hl.1 (Nat.le_of_ble_eq_true rfl) dd_P_bringUp_86 ⟨Nat.le_refl _, Nat.le_refl _⟩ rfl (fun M_16 H locs hw hS => ?_)
                  have hm_M_16 := hS.2.2.2
                  exact hw _ _ _  hS (lv_sub hl [0, 1, 2, 3] rfl)
          exact lp_I64 n0 0 M_8 _ _ _ hI (rk rfl) hS (lv_sub hl [1, 2, 3, 0] rfl)
        · have hw := hw.2 c4
          refine lv_aload_n hx hb dd_P_bringUp_31 rfl (lv_at hl 0 rfl) ?_
          refine x_get hC hS hP0.1 rfl iw_P 0 (by decide) tb_150 rfl rfl dd_P_bringUp_32 ?_
          refine lv_iload_n hx hb dd_P_bringUp_35 rfl (lv_at hl 3 rfl) ?_
          refine x_bipush hC dd_P_bringUp_36 (by decide) ?_
          obtain ⟨q17, hw⟩ := hw
          refine x_iast hC hS hP0.2.1 q17 (rk rfl) dd_P_bringUp_38 (fun H locs hS => ?_)
          obtain ⟨M_18, eM_18⟩ : ∃ Z : Mm, Z = ms M26 8 (x3_26).toNat (-6) := ⟨_, rfl⟩
          rw [← eM_18] at hS
          have hw := hw M_18 eM_18
          have hm_M_18 := hS.2.2.2
          obtain ⟨hr_, hw⟩ := hw
          obtain ⟨v3_39, rv3_39, ev3_39⟩ : ∃ z : Int, inR z ∧ z = x3_26 + 1 := ⟨_, hr_, rfl⟩
          have hw := hw v3_39 ev3_39
          refine lv_iinc (v := iI v3_39) (lv' := [(3, .int (iI v3_39)), (0, .ref (xA X 7)), (1, .ref (xA X u1)), (2, .int (iI z3))]) hx hb dd_P_bringUp_39 hl (k := 3) rfl (by rw [ev3_39]; exact iI_add _ _) (by decide) rfl (fun ls hl => ?_)
          refine lv_goto (tgt := 26) hx hb dd_P_bringUp_42 (by decide) ?_
          obtain ⟨k_19, h20, hI⟩ := hw
          exact ih_I26 k_19 h20 v3_39 M_18 _ _ _ hI rv3_39 hS (lv_sub hl [1, 2, 3, 0] rfl)
    exact lp_I26 n0 0 M_2 _ _ _ hI (rk rfl) hS (lv_sub hl [2, 3, 1, 0] rfl)
  · have hw := hw.2 c1
    exact x_vret hC hS hlocks hr hw dd_P_bringUp_7
def wp_P_patternOf (a1 : Int) (M : Mm) (post : Int → Prop) : Prop :=
  wp_T_isWithin a1 0 16383 (fun (r5 : Int) => (r5 = 0 → post (-6)) ∧
  (¬ r5 = 0 → (0 ≤ a1 ∧ a1 < 16384) ∧ ∀ z3 : Int, z3 = M 8 (a1).toNat → post z3))
set_option maxHeartbeats 4000000 in
set_option maxRecDepth 100000 in
theorem mt_P_patternOf (l : Launch) (X : Xw) (hlc : lcl X)(hP0 : IsP X) (a1 : Int) (ra1 : inR a1) (M : Mm) (hm_M : mr M) (post : Int → Prop) (sz : Nat) (hw : wp_P_patternOf a1 M post) : Met l yy_P_patternOf (Cond.code yy_P_patternOf bc_P_patternOf 2 (some .int) :: tg) ({ frames := 1, cells := 0, slots := 0, locals := 22 } : Room) (Pw X [.ref (xA X 7), .int (iI a1)] M sz) (Qi X sz (fun r M1 => M1 = M ∧ post r)) 0 0 (xF X sz) := by
  unfold wp_P_patternOf at hw
  refine x_enter (by decide) hlc hm_M (Nat.le_of_ble_eq_true rfl) ?_
  intro p e s m below meth c ls hC hsz hr hlocks hS hl
  have hx := hC.1.1
  have hb := hC.1.2.1
  have hl : lv_has ls 2 [(0, .ref (xA X 7)), (1, .int (iI a1))] := hl
  refine lv_iload_n hx hb dd_P_patternOf_0 rfl (lv_at hl 1 rfl) ?_
  refine x_iconst hC dd_P_patternOf_1 ?_
  refine x_sipush hC dd_P_patternOf_2 (by decide) ?_
  refine x_callSiN hC hS (As := [.int (iI a1), .int (iI 0), .int (iI 16383)]) (rest := []) cs_T_isWithin (mt_T_isWithin l X hC.2.2.1  a1 ra1 0 (rk rfl) 16383 (rk rfl) M hm_M _ _ hw) (nW_1 hC.2.2.2.2) rfl rfl ⟨Nat.le_of_ble_eq_true rfl, Nat.le_of_ble_eq_true rfl⟩ rfl hl.1 (Nat.le_of_ble_eq_true rfl) dd_P_patternOf_5 ⟨Nat.le_refl _, Nat.le_refl _⟩ rfl (fun r5 Mx H locs rr5 hp hS => ?_)
  obtain ⟨hq, hw⟩ := hp
  rw [hq] at hS
  refine x_if_eq hC rr5 (tgt := 20) dd_P_patternOf_8 (by decide) (fun c1 => ?_) (fun c1 => ?_)
  · have hw := hw.1 c1
    refine x_bipush hC dd_P_patternOf_20 (by decide) ?_
    exact x_iret hC hS hlocks hr (rk rfl) ⟨rfl, hw⟩ dd_P_patternOf_22
  · have hw := hw.2 c1
    refine lv_aload_n hx hb dd_P_patternOf_11 rfl (lv_at hl 0 rfl) ?_
    refine x_get hC hS hP0.1 rfl iw_P 0 (by decide) tb_150 rfl rfl dd_P_patternOf_12 ?_
    refine lv_iload_n hx hb dd_P_patternOf_15 rfl (lv_at hl 1 rfl) ?_
    obtain ⟨q2, hw⟩ := hw
    refine x_iald hC hS hP0.2.1 q2 dd_P_patternOf_16 ?_
    refine x_nm (hm_M 8 _) (fun z3 rz3 ez3 => ?_)
    have hw := hw z3 ez3
    refine lv_goto (tgt := 22) hx hb dd_P_patternOf_17 (by decide) ?_
    exact x_iret hC hS hlocks hr rz3 ⟨rfl, hw⟩ dd_P_patternOf_22
def wp_P_leastOf (a1 : Int) (M : Mm) (post : Int → Prop) : Prop :=
  inR ((M 7 7) - 1) ∧ wp_T_isWithin a1 0 ((M 7 7) - 1) (fun (r8 : Int) => ∀ K25 : Int → Prop, (∀ (s0_25 : Int), (wp_T_isWithin s0_25 0 16383 (fun (r31 : Int) => (r31 = 0 → post (-6)) ∧
      (¬ r31 = 0 → (0 ≤ s0_25 ∧ s0_25 < 16384) ∧ ∀ z4 : Int, z4 = M 9 (s0_25).toNat → post z4))) →
    K25 s0_25) →
  ((r8 = 0 → K25 (-6)) ∧
  (¬ r8 = 0 → (0 ≤ a1 ∧ a1 < 16385) ∧ ∀ z7 : Int, z7 = M 10 (a1).toNat → K25 z7)))
set_option maxHeartbeats 4000000 in
set_option maxRecDepth 100000 in
theorem mt_P_leastOf (l : Launch) (X : Xw) (hlc : lcl X)(hP0 : IsP X) (a1 : Int) (ra1 : inR a1) (M : Mm) (hm_M : mr M) (post : Int → Prop) (sz : Nat) (hw : wp_P_leastOf a1 M post) : Met l yy_P_leastOf (Cond.code yy_P_leastOf bc_P_leastOf 3 (some .int) :: tg) ({ frames := 1, cells := 0, slots := 0, locals := 22 } : Room) (Pw X [.ref (xA X 7), .int (iI a1)] M sz) (Qi X sz (fun r M1 => M1 = M ∧ post r)) 0 0 (xF X sz) := by
  unfold wp_P_leastOf at hw
  refine x_enter (by decide) hlc hm_M (Nat.le_of_ble_eq_true rfl) ?_
  intro p e s m below meth c ls hC hsz hr hlocks hS hl
  have hx := hC.1.1
  have hb := hC.1.2.1
  have hl : lv_has ls 3 [(0, .ref (xA X 7)), (1, .int (iI a1))] := hl
  refine lv_iload_n hx hb dd_P_leastOf_0 rfl (lv_at hl 1 rfl) ?_
  refine x_iconst hC dd_P_leastOf_1 ?_
  refine lv_aload_n hx hb dd_P_leastOf_2 rfl (lv_at hl 0 rfl) ?_
  refine x_get hC hS hP0.1 rfl iw_P 7 (by decide) tb_157 rfl rfl dd_P_leastOf_3 ?_
  refine x_iconst hC dd_P_leastOf_6 ?_
  obtain ⟨q1, hw⟩ := hw
  refine x_sub hC dd_P_leastOf_7 ?_
  refine x_callSiN hC hS (As := [.int (iI a1), .int (iI 0), .int (iI ((M 7 7) - 1))]) (rest := []) cs_T_isWithin (mt_T_isWithin l X hC.2.2.1  a1 ra1 0 (rk rfl) ((M 7 7) - 1) q1 M hm_M _ _ hw) (nW_1 hC.2.2.2.2) rfl rfl ⟨Nat.le_of_ble_eq_true rfl, Nat.le_of_ble_eq_true rfl⟩ rfl hl.1 (Nat.le_of_ble_eq_true rfl) dd_P_leastOf_8 ⟨Nat.le_refl _, Nat.le_refl _⟩ rfl (fun r8 Mx H locs rr8 hp hS => ?_)
  obtain ⟨hq, hw⟩ := hp
  rw [hq] at hS
  have hw := hw (fun (s0_25 : Int) => ∀ (H : Heap) (locs : List Loc) (ls : Array Slot), inR s0_25 → St X (xF X sz) s M H locs → lv_has ls 3 [(0, .ref (xA X 7))] → W p l e ({ frames := 1, cells := 0, slots := 0, locals := 22 } : Room) s m ([.ref (xA X 7), .int (iI a1)] : List Value).toArray below meth c H locs 0 0 (MQ below (Qi X sz (fun r M1 => M1 = M ∧ post r)) ([.ref (xA X 7), .int (iI a1)] : List Value).toArray s 0 0 (xF X sz)) (F0 m 25 ls [.int (iI s0_25)])) (by
      intro s0_25 hw H locs ls rs0_25 hS hl
      refine lv_istore_n (lv' := [(2, .int (iI s0_25)), (0, .ref (xA X 7))]) hx hb dd_P_leastOf_25 rfl hl (by decide) rfl (fun ls hl => ?_)
      refine lv_iload_n hx hb dd_P_leastOf_26 rfl (lv_at hl 0 rfl) ?_
      refine x_iconst hC dd_P_leastOf_27 ?_
      refine x_sipush hC dd_P_leastOf_28 (by decide) ?_
      refine x_callSiN hC hS (As := [.int (iI s0_25), .int (iI 0), .int (iI 16383)]) (rest := []) cs_T_isWithin (mt_T_isWithin l X hC.2.2.1  s0_25 rs0_25 0 (rk rfl) 16383 (rk rfl) M hm_M _ _ hw) (nW_1 hC.2.2.2.2) rfl rfl ⟨Nat.le_of_ble_eq_true rfl, Nat.le_of_ble_eq_true rfl⟩ rfl hl.1 (Nat.le_of_ble_eq_true rfl) dd_P_leastOf_31 ⟨Nat.le_refl _, Nat.le_refl _⟩ rfl (fun r31 Mx H locs rr31 hp hS => ?_)
      obtain ⟨hq, hw⟩ := hp
      rw [hq] at hS
      refine x_if_eq hC rr31 (tgt := 46) dd_P_leastOf_34 (by decide) (fun c2 => ?_) (fun c2 => ?_)
      · have hw := hw.1 c2
        refine x_bipush hC dd_P_leastOf_46 (by decide) ?_
        exact x_iret hC hS hlocks hr (rk rfl) ⟨rfl, hw⟩ dd_P_leastOf_48
      · have hw := hw.2 c2
        refine lv_aload_n hx hb dd_P_leastOf_37 rfl (lv_at hl 1 rfl) ?_
        refine x_get hC hS hP0.1 rfl iw_P 1 (by decide) tb_151 rfl rfl dd_P_leastOf_38 ?_
        refine lv_iload_n hx hb dd_P_leastOf_41 rfl (lv_at hl 0 rfl) ?_
        obtain ⟨q3, hw⟩ := hw
        refine x_iald hC hS hP0.2.2.1 q3 dd_P_leastOf_42 ?_
        refine x_nm (hm_M 9 _) (fun z4 rz4 ez4 => ?_)
        have hw := hw z4 ez4
        refine lv_goto (tgt := 48) hx hb dd_P_leastOf_43 (by decide) ?_
        exact x_iret hC hS hlocks hr rz4 ⟨rfl, hw⟩ dd_P_leastOf_48)
  refine x_if_eq hC rr8 (tgt := 23) dd_P_leastOf_11 (by decide) (fun c5 => ?_) (fun c5 => ?_)
  · have hw := hw.1 c5
    refine x_bipush hC dd_P_leastOf_23 (by decide) ?_
    exact hw _ _ _ (rk rfl) hS (lv_sub hl [0] rfl)
  · have hw := hw.2 c5
    refine lv_aload_n hx hb dd_P_leastOf_14 rfl (lv_at hl 0 rfl) ?_
    refine x_get hC hS hP0.1 rfl iw_P 2 (by decide) tb_152 rfl rfl dd_P_leastOf_15 ?_
    refine lv_iload_n hx hb dd_P_leastOf_18 rfl (lv_at hl 1 rfl) ?_
    obtain ⟨q6, hw⟩ := hw
    refine x_iald hC hS hP0.2.2.2.1 q6 dd_P_leastOf_19 ?_
    refine x_nm (hm_M 10 _) (fun z7 rz7 ez7 => ?_)
    have hw := hw z7 ez7
    refine lv_goto (tgt := 25) hx hb dd_P_leastOf_20 (by decide) ?_
    exact hw _ _ _ rz7 hS (lv_sub hl [0] rfl)
def wp_P_sizeOf (a1 : Int) (M : Mm) (post : Int → Prop) : Prop :=
  inR ((M 7 7) - 1) ∧ wp_T_isWithin a1 0 ((M 7 7) - 1) (fun (r8 : Int) => (r8 = 0 → post 0) ∧
  (¬ r8 = 0 → inR (a1 + 1) ∧ (0 ≤ (a1 + 1) ∧ (a1 + 1) < 16385) ∧ ∀ z5 : Int, z5 = M 10 ((a1 + 1)).toNat → (0 ≤ a1 ∧ a1 < 16385) ∧ ∀ z7 : Int, z7 = M 10 (a1).toNat → inR (z5 - z7) ∧ post (z5 - z7)))
set_option maxHeartbeats 4000000 in
set_option maxRecDepth 100000 in
theorem mt_P_sizeOf (l : Launch) (X : Xw) (hlc : lcl X)(hP0 : IsP X) (a1 : Int) (ra1 : inR a1) (M : Mm) (hm_M : mr M) (post : Int → Prop) (sz : Nat) (hw : wp_P_sizeOf a1 M post) : Met l yy_P_sizeOf (Cond.code yy_P_sizeOf bc_P_sizeOf 2 (some .int) :: tg) ({ frames := 1, cells := 0, slots := 0, locals := 22 } : Room) (Pw X [.ref (xA X 7), .int (iI a1)] M sz) (Qi X sz (fun r M1 => M1 = M ∧ post r)) 0 0 (xF X sz) := by
  unfold wp_P_sizeOf at hw
  refine x_enter (by decide) hlc hm_M (Nat.le_of_ble_eq_true rfl) ?_
  intro p e s m below meth c ls hC hsz hr hlocks hS hl
  have hx := hC.1.1
  have hb := hC.1.2.1
  have hl : lv_has ls 2 [(0, .ref (xA X 7)), (1, .int (iI a1))] := hl
  refine lv_iload_n hx hb dd_P_sizeOf_0 rfl (lv_at hl 1 rfl) ?_
  refine x_iconst hC dd_P_sizeOf_1 ?_
  refine lv_aload_n hx hb dd_P_sizeOf_2 rfl (lv_at hl 0 rfl) ?_
  refine x_get hC hS hP0.1 rfl iw_P 7 (by decide) tb_157 rfl rfl dd_P_sizeOf_3 ?_
  refine x_iconst hC dd_P_sizeOf_6 ?_
  obtain ⟨q1, hw⟩ := hw
  refine x_sub hC dd_P_sizeOf_7 ?_
  refine x_callSiN hC hS (As := [.int (iI a1), .int (iI 0), .int (iI ((M 7 7) - 1))]) (rest := []) cs_T_isWithin (mt_T_isWithin l X hC.2.2.1  a1 ra1 0 (rk rfl) ((M 7 7) - 1) q1 M hm_M _ _ hw) (nW_1 hC.2.2.2.2) rfl rfl ⟨Nat.le_of_ble_eq_true rfl, Nat.le_of_ble_eq_true rfl⟩ rfl hl.1 (Nat.le_of_ble_eq_true rfl) dd_P_sizeOf_8 ⟨Nat.le_refl _, Nat.le_refl _⟩ rfl (fun r8 Mx H locs rr8 hp hS => ?_)
  obtain ⟨hq, hw⟩ := hp
  rw [hq] at hS
  refine x_if_eq hC rr8 (tgt := 32) dd_P_sizeOf_11 (by decide) (fun c2 => ?_) (fun c2 => ?_)
  · have hw := hw.1 c2
    refine x_iconst hC dd_P_sizeOf_32 ?_
    exact x_iret hC hS hlocks hr (rk rfl) ⟨rfl, hw⟩ dd_P_sizeOf_33
  · have hw := hw.2 c2
    refine lv_aload_n hx hb dd_P_sizeOf_14 rfl (lv_at hl 0 rfl) ?_
    refine x_get hC hS hP0.1 rfl iw_P 2 (by decide) tb_152 rfl rfl dd_P_sizeOf_15 ?_
    refine lv_iload_n hx hb dd_P_sizeOf_18 rfl (lv_at hl 1 rfl) ?_
    refine x_iconst hC dd_P_sizeOf_19 ?_
    obtain ⟨q3, hw⟩ := hw
    refine x_add hC dd_P_sizeOf_20 ?_
    obtain ⟨q4, hw⟩ := hw
    refine x_iald hC hS hP0.2.2.2.1 q4 dd_P_sizeOf_21 ?_
    refine x_nm (hm_M 10 _) (fun z5 rz5 ez5 => ?_)
    have hw := hw z5 ez5
    refine lv_aload_n hx hb dd_P_sizeOf_22 rfl (lv_at hl 0 rfl) ?_
    refine x_get hC hS hP0.1 rfl iw_P 2 (by decide) tb_152 rfl rfl dd_P_sizeOf_23 ?_
    refine lv_iload_n hx hb dd_P_sizeOf_26 rfl (lv_at hl 1 rfl) ?_
    obtain ⟨q6, hw⟩ := hw
    refine x_iald hC hS hP0.2.2.2.1 q6 dd_P_sizeOf_27 ?_
    refine x_nm (hm_M 10 _) (fun z7 rz7 ez7 => ?_)
    have hw := hw z7 ez7
    obtain ⟨q8, hw⟩ := hw
    refine x_sub hC dd_P_sizeOf_28 ?_
    refine lv_goto (tgt := 33) hx hb dd_P_sizeOf_29 (by decide) ?_
    exact x_iret hC hS hlocks hr q8 ⟨rfl, hw⟩ dd_P_sizeOf_33
def wp_P_twinOf (u2 : Nat) (a1 : Int) (M : Mm) (post : Int → Prop) : Prop :=
  wp_P_leastOf a1 M (fun (r4 : Int) => wp_S_mirrored u2 r4 M (fun (r7 : Int) => wp_P_patternOf r7 M (fun (r10 : Int) => post r10)))
set_option maxHeartbeats 4000000 in
set_option maxRecDepth 100000 in
theorem mt_P_twinOf (l : Launch) (X : Xw) (hlc : lcl X) (u2 : Nat) (hP0 : IsP X) (hu2 : IsS X u2) (a1 : Int) (ra1 : inR a1) (M : Mm) (hm_M : mr M) (post : Int → Prop) (sz : Nat) (hw : wp_P_twinOf u2 a1 M post) : Met l yy_P_twinOf (Cond.code yy_P_twinOf bc_P_twinOf 3 (some .int) :: tg) ({ frames := 3, cells := 0, slots := 0, locals := 67 } : Room) (Pw X [.ref (xA X 7), .int (iI a1), .ref (xA X u2)] M sz) (Qi X sz (fun r M1 => M1 = M ∧ post r)) 0 0 (xF X sz) := by
  unfold wp_P_twinOf at hw
  refine x_enter (by decide) hlc hm_M (Nat.le_of_ble_eq_true rfl) ?_
  intro p e s m below meth c ls hC hsz hr hlocks hS hl
  have hx := hC.1.1
  have hb := hC.1.2.1
  have hl : lv_has ls 3 [(0, .ref (xA X 7)), (1, .int (iI a1)), (2, .ref (xA X u2))] := hl
  refine lv_aload_n hx hb dd_P_twinOf_0 rfl (lv_at hl 0 rfl) ?_
  refine lv_aload_n hx hb dd_P_twinOf_1 rfl (lv_at hl 2 rfl) ?_
  refine lv_aload_n hx hb dd_P_twinOf_2 rfl (lv_at hl 0 rfl) ?_
  refine lv_iload_n hx hb dd_P_twinOf_3 rfl (lv_at hl 1 rfl) ?_
  refine x_callVi hC hS (As := [.int (iI a1)]) (rest := [.ref (xA X u2), .ref (xA X 7)]) hP0.1 rfl cv_P_leastOf (mt_P_leastOf l X hC.2.2.1 hP0 a1 ra1 M hm_M _ _ hw) tb_362 rfl rfl ⟨Nat.le_of_ble_eq_true rfl, Nat.le_of_ble_eq_true rfl⟩ rfl hl.1 (Nat.le_of_ble_eq_true rfl) dd_P_twinOf_4 ⟨Nat.le_refl _, Nat.le_refl _⟩ rfl (fun r4 Mx H locs rr4 hp hS => ?_)
  obtain ⟨hq, hw⟩ := hp
  rw [hq] at hS
  refine x_callVi hC hS (As := [.int (iI r4)]) (rest := [.ref (xA X 7)]) hu2.1 rfl cv_S_mirrored (mt_S_mirrored l X hC.2.2.1 u2 hu2 r4 rr4 M hm_M _ _ hw) tb_389 rfl rfl ⟨Nat.le_of_ble_eq_true rfl, Nat.le_of_ble_eq_true rfl⟩ rfl hl.1 (Nat.le_of_ble_eq_true rfl) dd_P_twinOf_7 ⟨Nat.le_refl _, Nat.le_refl _⟩ rfl (fun r7 Mx H locs rr7 hp hS => ?_)
  obtain ⟨hq, hw⟩ := hp
  rw [hq] at hS
  refine x_callVi hC hS (As := [.int (iI r7)]) (rest := []) hP0.1 rfl cv_P_patternOf (mt_P_patternOf l X hC.2.2.1 hP0 r7 rr7 M hm_M _ _ hw) tb_393 rfl rfl ⟨Nat.le_of_ble_eq_true rfl, Nat.le_of_ble_eq_true rfl⟩ rfl hl.1 (Nat.le_of_ble_eq_true rfl) dd_P_twinOf_10 ⟨Nat.le_refl _, Nat.le_refl _⟩ rfl (fun r10 Mx H locs rr10 hp hS => ?_)
  obtain ⟨hq, hw⟩ := hp
  rw [hq] at hS
  exact x_iret hC hS hlocks hr rr10 ⟨rfl, hw⟩ dd_P_twinOf_13
def wp_P_keepersOf (g2 : Nat) (a1 : Int) (M : Mm) (post : Int → Prop) : Prop :=
  wp_P_patternOf a1 M (fun (r3 : Int) => wp_P_sizeOf r3 M (fun (r6 : Int) => (1 ≤ r6 → (0 ≤ (M g2 1) ∧ 0 < r6) ∧ post ((M g2 1) / r6)) ∧
  (¬ 1 ≤ r6 → post 0)))
set_option maxHeartbeats 4000000 in
set_option maxRecDepth 100000 in
theorem mt_P_keepersOf (l : Launch) (X : Xw) (hlc : lcl X) (g2 : Nat) (hP0 : IsP X) (hg2 : IsG X g2) (a1 : Int) (ra1 : inR a1) (M : Mm) (hm_M : mr M) (post : Int → Prop) (sz : Nat) (hw : wp_P_keepersOf g2 a1 M post) : Met l yy_P_keepersOf (Cond.code yy_P_keepersOf bc_P_keepersOf 4 (some .int) :: tg) ({ frames := 2, cells := 0, slots := 0, locals := 43 } : Room) (Pw X [.ref (xA X 7), .int (iI a1), .ref (xA X g2)] M sz) (Qi X sz (fun r M1 => M1 = M ∧ post r)) 0 0 (xF X sz) := by
  unfold wp_P_keepersOf at hw
  refine x_enter (by decide) hlc hm_M (Nat.le_of_ble_eq_true rfl) ?_
  intro p e s m below meth c ls hC hsz hr hlocks hS hl
  have hx := hC.1.1
  have hb := hC.1.2.1
  have hl : lv_has ls 4 [(0, .ref (xA X 7)), (1, .int (iI a1)), (2, .ref (xA X g2))] := hl
  refine lv_aload_n hx hb dd_P_keepersOf_0 rfl (lv_at hl 0 rfl) ?_
  refine lv_aload_n hx hb dd_P_keepersOf_1 rfl (lv_at hl 0 rfl) ?_
  refine lv_iload_n hx hb dd_P_keepersOf_2 rfl (lv_at hl 1 rfl) ?_
  refine x_callVi hC hS (As := [.int (iI a1)]) (rest := [.ref (xA X 7)]) hP0.1 rfl cv_P_patternOf (mt_P_patternOf l X hC.2.2.1 hP0 a1 ra1 M hm_M _ _ hw) tb_393 rfl rfl ⟨Nat.le_of_ble_eq_true rfl, Nat.le_of_ble_eq_true rfl⟩ rfl hl.1 (Nat.le_of_ble_eq_true rfl) dd_P_keepersOf_3 ⟨Nat.le_refl _, Nat.le_refl _⟩ rfl (fun r3 Mx H locs rr3 hp hS => ?_)
  obtain ⟨hq, hw⟩ := hp
  rw [hq] at hS
  refine x_callVi hC hS (As := [.int (iI r3)]) (rest := []) hP0.1 rfl cv_P_sizeOf (mt_P_sizeOf l X hC.2.2.1 hP0 r3 rr3 M hm_M _ _ hw) tb_417 rfl rfl ⟨Nat.le_of_ble_eq_true rfl, Nat.le_of_ble_eq_true rfl⟩ rfl hl.1 (Nat.le_of_ble_eq_true rfl) dd_P_keepersOf_6 ⟨Nat.le_refl _, Nat.le_refl _⟩ rfl (fun r6 Mx H locs rr6 hp hS => ?_)
  obtain ⟨hq, hw⟩ := hp
  rw [hq] at hS
  refine lv_istore_n (lv' := [(3, .int (iI r6)), (0, .ref (xA X 7)), (1, .int (iI a1)), (2, .ref (xA X g2))]) hx hb dd_P_keepersOf_9 rfl hl (by decide) rfl (fun ls hl => ?_)
  refine lv_iload_n hx hb dd_P_keepersOf_10 rfl (lv_at hl 0 rfl) ?_
  refine x_iconst hC dd_P_keepersOf_11 ?_
  refine x_icmp_ge hC rr6 (rk rfl) (tgt := 19) dd_P_keepersOf_12 (by decide) (fun c1 => ?_) (fun c1 => ?_)
  · have hw := hw.1 c1
    refine lv_aload_n hx hb dd_P_keepersOf_19 rfl (lv_at hl 3 rfl) ?_
    refine x_get hC hS hg2.1 rfl iw_G 1 (by decide) tb_65 rfl rfl dd_P_keepersOf_20 ?_
    refine lv_iload_n hx hb dd_P_keepersOf_23 rfl (lv_at hl 0 rfl) ?_
    obtain ⟨q2, hw⟩ := hw
    refine x_div hC (hm_M g2 1) rr6 q2 dd_P_keepersOf_24 ?_
    exact x_iret hC hS hlocks hr (rDiv (hm_M g2 1) q2.1 q2.2) ⟨rfl, hw⟩ dd_P_keepersOf_25
  · have hw := hw.2 c1
    refine x_iconst hC dd_P_keepersOf_15 ?_
    refine lv_goto (tgt := 25) hx hb dd_P_keepersOf_16 (by decide) ?_
    exact x_iret hC hS hlocks hr (rk rfl) ⟨rfl, hw⟩ dd_P_keepersOf_25
def wp_P_firstToLeast (g2 : Nat) (a1 : Int) (M : Mm) (post : Int → Prop) : Prop :=
  wp_P_patternOf a1 M (fun (r3 : Int) => wp_P_leastOf r3 M (fun (r6 : Int) => ∃ I17 : Nat → Int → Int → Prop, (∃ n, I17 n (-6) 0) ∧ ∀ (n17 : Nat) (x4_17 : Int) (x5_17 : Int), I17 n17 x4_17 x5_17 →
    (((M g2 1) ≤ x5_17 → post x4_17) ∧
      (¬ (M g2 1) ≤ x5_17 → (0 ≤ x5_17 ∧ x5_17 < 5040) ∧ ∀ z3 : Int, z3 = M (g2 + 1) (x5_17).toNat → ∀ K64 : Int → Prop, (∀ (y4_64 : Int), (inR (x5_17 + 1) ∧ ∀ v5_64 : Int, v5_64 = x5_17 + 1 → ∃ k_4, k_4 < n17 ∧ I17 k_4 y4_64 v5_64) →
          K64 y4_64) →
        (∀ K49 : Prop, ((wp_P_turned a1 z3 M (fun (r53 : Int) => (¬ r53 = r6 → K64 x4_17) ∧
            (r53 = r6 → K64 z3))) →
          K49) →
        ((x4_17 = (-6) → K49) ∧
        (¬ x4_17 = (-6) → (x4_17 ≤ z3 → K64 x4_17) ∧
          (¬ x4_17 ≤ z3 → K49))))))))
set_option maxHeartbeats 4000000 in
set_option maxRecDepth 100000 in
theorem mt_P_firstToLeast (l : Launch) (X : Xw) (hlc : lcl X) (g2 : Nat) (hP0 : IsP X) (hg2 : IsG X g2) (a1 : Int) (ra1 : inR a1) (M : Mm) (hm_M : mr M) (post : Int → Prop) (sz : Nat) (hw : wp_P_firstToLeast g2 a1 M post) : Met l yy_P_firstToLeast (Cond.code yy_P_firstToLeast bc_P_firstToLeast 7 (some .int) :: tg) ({ frames := 2, cells := 0, slots := 0, locals := 46 } : Room) (Pw X [.ref (xA X 7), .int (iI a1), .ref (xA X g2)] M sz) (Qi X sz (fun r M1 => M1 = M ∧ post r)) 0 0 (xF X sz) := by
  unfold wp_P_firstToLeast at hw
  refine x_enter (by decide) hlc hm_M (Nat.le_of_ble_eq_true rfl) ?_
  intro p e s m below meth c ls hC hsz hr hlocks hS hl
  have hx := hC.1.1
  have hb := hC.1.2.1
  have hl : lv_has ls 7 [(0, .ref (xA X 7)), (1, .int (iI a1)), (2, .ref (xA X g2))] := hl
  refine lv_aload_n hx hb dd_P_firstToLeast_0 rfl (lv_at hl 0 rfl) ?_
  refine lv_aload_n hx hb dd_P_firstToLeast_1 rfl (lv_at hl 0 rfl) ?_
  refine lv_iload_n hx hb dd_P_firstToLeast_2 rfl (lv_at hl 1 rfl) ?_
  refine x_callVi hC hS (As := [.int (iI a1)]) (rest := [.ref (xA X 7)]) hP0.1 rfl cv_P_patternOf (mt_P_patternOf l X hC.2.2.1 hP0 a1 ra1 M hm_M _ _ hw) tb_393 rfl rfl ⟨Nat.le_of_ble_eq_true rfl, Nat.le_of_ble_eq_true rfl⟩ rfl hl.1 (Nat.le_of_ble_eq_true rfl) dd_P_firstToLeast_3 ⟨Nat.le_refl _, Nat.le_refl _⟩ rfl (fun r3 Mx H locs rr3 hp hS => ?_)
  obtain ⟨hq, hw⟩ := hp
  rw [hq] at hS
  refine x_callVi hC hS (As := [.int (iI r3)]) (rest := []) hP0.1 rfl cv_P_leastOf (mt_P_leastOf l X hC.2.2.1 hP0 r3 rr3 M hm_M _ _ hw) tb_362 rfl rfl ⟨Nat.le_of_ble_eq_true rfl, Nat.le_of_ble_eq_true rfl⟩ rfl hl.1 (Nat.le_of_ble_eq_true rfl) dd_P_firstToLeast_6 ⟨Nat.le_refl _, Nat.le_refl _⟩ rfl (fun r6 Mx H locs rr6 hp hS => ?_)
  obtain ⟨hq, hw⟩ := hp
  rw [hq] at hS
  refine lv_istore_n (lv' := [(3, .int (iI r6)), (0, .ref (xA X 7)), (1, .int (iI a1)), (2, .ref (xA X g2))]) hx hb dd_P_firstToLeast_9 rfl hl (by decide) rfl (fun ls hl => ?_)
  refine x_bipush hC dd_P_firstToLeast_10 (by decide) ?_
  refine lv_istore (lv' := [(4, .int (iI (-6))), (3, .int (iI r6)), (0, .ref (xA X 7)), (1, .int (iI a1)), (2, .ref (xA X g2))]) hx hb dd_P_firstToLeast_12 hl (by decide) rfl (fun ls hl => ?_)
  refine x_iconst hC dd_P_firstToLeast_14 ?_
  refine lv_istore (lv' := [(5, .int (iI 0)), (4, .int (iI (-6))), (3, .int (iI r6)), (0, .ref (xA X 7)), (1, .int (iI a1)), (2, .ref (xA X g2))]) hx hb dd_P_firstToLeast_15 hl (by decide) rfl (fun ls hl => ?_)
  obtain ⟨I17, ⟨n0, hI⟩, hstep_I17⟩ := hw
  have lp_I17 : ∀ (n17 : Nat) (x4_17 : Int) (x5_17 : Int) (H : Heap) (locs : List Loc) (ls : Array Slot), I17 n17 x4_17 x5_17 → inR x4_17 → inR x5_17 → St X (xF X sz) s M H locs → lv_has ls 7 [(0, .ref (xA X 7)), (1, .int (iI a1)), (2, .ref (xA X g2)), (3, .int (iI r6)), (4, .int (iI x4_17)), (5, .int (iI x5_17))] → W p l e ({ frames := 2, cells := 0, slots := 0, locals := 46 } : Room) s m ([.ref (xA X 7), .int (iI a1), .ref (xA X g2)] : List Value).toArray below meth c H locs 0 0 (MQ below (Qi X sz (fun r M1 => M1 = M ∧ post r)) ([.ref (xA X 7), .int (iI a1), .ref (xA X g2)] : List Value).toArray s 0 0 (xF X sz)) (F0 m 17 ls []) := by
    intro n17
    induction n17 using Nat.strongRecOn with
    | _ n17 ih_I17 =>
      intro x4_17 x5_17 H locs ls hI rx4_17 rx5_17 hS hl
      have hw := hstep_I17 n17 x4_17 x5_17 hI
      refine lv_iload hx hb dd_P_firstToLeast_17 (lv_at hl 5 rfl) ?_
      refine lv_aload_n hx hb dd_P_firstToLeast_19 rfl (lv_at hl 2 rfl) ?_
      refine x_get hC hS hg2.1 rfl iw_G 1 (by decide) tb_65 rfl rfl dd_P_firstToLeast_20 ?_
      refine x_icmp_ge hC rx5_17 (hm_M g2 1) (tgt := 70) dd_P_firstToLeast_23 (by decide) (fun c1 => ?_) (fun c1 => ?_)
      · have hw := hw.1 c1
        refine lv_iload hx hb dd_P_firstToLeast_70 (lv_at hl 4 rfl) ?_
        exact x_iret hC hS hlocks hr rx4_17 ⟨rfl, hw⟩ dd_P_firstToLeast_72
      · have hw := hw.2 c1
        refine lv_aload_n hx hb dd_P_firstToLeast_26 rfl (lv_at hl 2 rfl) ?_
        refine x_get hC hS hg2.1 rfl iw_G 0 (by decide) tb_61 rfl rfl dd_P_firstToLeast_27 ?_
        refine lv_iload hx hb dd_P_firstToLeast_30 (lv_at hl 5 rfl) ?_
        obtain ⟨q2, hw⟩ := hw
        refine x_iald hC hS hg2.2.1 q2 dd_P_firstToLeast_32 ?_
        refine x_nm (hm_M (g2 + 1) _) (fun z3 rz3 ez3 => ?_)
        have hw := hw z3 ez3
        refine lv_istore (lv' := [(6, .int (iI z3)), (0, .ref (xA X 7)), (1, .int (iI a1)), (2, .ref (xA X g2)), (3, .int (iI r6)), (4, .int (iI x4_17)), (5, .int (iI x5_17))]) hx hb dd_P_firstToLeast_33 hl (by decide) rfl (fun ls hl => ?_)
        refine lv_iload hx hb dd_P_firstToLeast_35 (lv_at hl 5 rfl) ?_
        refine x_bipush hC dd_P_firstToLeast_37 (by decide) ?_
        have hw := hw (fun (y4_64 : Int) => ∀ (H : Heap) (locs : List Loc) (ls : Array Slot), inR y4_64 → St X (xF X sz) s M H locs → lv_has ls 7 [(0, .ref (xA X 7)), (1, .int (iI a1)), (2, .ref (xA X g2)), (3, .int (iI r6)), (4, .int (iI y4_64)), (5, .int (iI x5_17))] → W p l e ({ frames := 2, cells := 0, slots := 0, locals := 46 } : Room) s m ([.ref (xA X 7), .int (iI a1), .ref (xA X g2)] : List Value).toArray below meth c H locs 0 0 (MQ below (Qi X sz (fun r M1 => M1 = M ∧ post r)) ([.ref (xA X 7), .int (iI a1), .ref (xA X g2)] : List Value).toArray s 0 0 (xF X sz)) (F0 m 64 ls [])) (by
            intro y4_64 hw H locs ls ry4_64 hS hl
            obtain ⟨hr_, hw⟩ := hw
            obtain ⟨v5_64, rv5_64, ev5_64⟩ : ∃ z : Int, inR z ∧ z = x5_17 + 1 := ⟨_, hr_, rfl⟩
            have hw := hw v5_64 ev5_64
            refine lv_iinc (v := iI v5_64) (lv' := [(5, .int (iI v5_64)), (0, .ref (xA X 7)), (1, .int (iI a1)), (2, .ref (xA X g2)), (3, .int (iI r6)), (4, .int (iI y4_64))]) hx hb dd_P_firstToLeast_64 hl (k := 5) rfl (by rw [ev5_64]; exact iI_add _ _) (by decide) rfl (fun ls hl => ?_)
            refine lv_goto (tgt := 17) hx hb dd_P_firstToLeast_67 (by decide) ?_
            obtain ⟨k_4, h5, hI⟩ := hw
            exact ih_I17 k_4 h5 y4_64 v5_64 _ _ _ hI ry4_64 rv5_64 hS (lv_sub hl [1, 2, 3, 4, 5, 0] rfl))
        have hw := hw (∀ (H : Heap) (locs : List Loc) (ls : Array Slot), St X (xF X sz) s M H locs → lv_has ls 7 [(0, .ref (xA X 7)), (1, .int (iI a1)), (2, .ref (xA X g2)), (3, .int (iI r6)), (4, .int (iI x4_17)), (5, .int (iI x5_17)), (6, .int (iI z3))] → W p l e ({ frames := 2, cells := 0, slots := 0, locals := 46 } : Room) s m ([.ref (xA X 7), .int (iI a1), .ref (xA X g2)] : List Value).toArray below meth c H locs 0 0 (MQ below (Qi X sz (fun r M1 => M1 = M ∧ post r)) ([.ref (xA X 7), .int (iI a1), .ref (xA X g2)] : List Value).toArray s 0 0 (xF X sz)) (F0 m 49 ls [])) (by
            intro  hw H locs ls  hS hl
            refine lv_aload_n hx hb dd_P_firstToLeast_49 rfl (lv_at hl 0 rfl) ?_
            refine lv_iload_n hx hb dd_P_firstToLeast_50 rfl (lv_at hl 1 rfl) ?_
            refine lv_iload hx hb dd_P_firstToLeast_51 (lv_at hl 6 rfl) ?_
            refine x_callVi hC hS (As := [.int (iI a1), .int (iI z3)]) (rest := []) hP0.1 rfl cv_P_turned (mt_P_turned l X hC.2.2.1 hP0 a1 ra1 z3 rz3 M hm_M _ _ hw) tb_353 rfl rfl ⟨Nat.le_of_ble_eq_true rfl, Nat.le_of_ble_eq_true rfl⟩ rfl hl.1 (Nat.le_of_ble_eq_true rfl) dd_P_firstToLeast_53 ⟨Nat.le_refl _, Nat.le_refl _⟩ rfl (fun r53 Mx H locs rr53 hp hS => ?_)
            obtain ⟨hq, hw⟩ := hp
            rw [hq] at hS
            refine lv_iload_n hx hb dd_P_firstToLeast_56 rfl (lv_at hl 3 rfl) ?_
            refine x_icmp_ne hC rr53 rr6 (tgt := 64) dd_P_firstToLeast_57 (by decide) (fun c6 => ?_) (fun c6 => ?_)
            · have hw := hw.1 c6
              exact hw _ _ _ rx4_17 hS (lv_sub hl [0, 1, 2, 3, 4, 5] rfl)
            · have hw := hw.2 c6
              refine lv_iload hx hb dd_P_firstToLeast_60 (lv_at hl 6 rfl) ?_
              refine lv_istore (lv' := [(4, .int (iI z3)), (0, .ref (xA X 7)), (1, .int (iI a1)), (2, .ref (xA X g2)), (3, .int (iI r6)), (5, .int (iI x5_17)), (6, .int (iI z3))]) hx hb dd_P_firstToLeast_62 hl (by decide) rfl (fun ls hl => ?_)
              exact hw _ _ _ rz3 hS (lv_sub hl [1, 2, 3, 4, 0, 5] rfl))
        refine x_icmp_eq hC rx4_17 (rk rfl) (tgt := 49) dd_P_firstToLeast_39 (by decide) (fun c7 => ?_) (fun c7 => ?_)
        · have hw := hw.1 c7
          exact hw _ _ _  hS (lv_sub hl [1, 2, 3, 4, 5, 6, 0] rfl)
        · have hw := hw.2 c7
          refine lv_iload hx hb dd_P_firstToLeast_42 (lv_at hl 0 rfl) ?_
          refine lv_iload hx hb dd_P_firstToLeast_44 (lv_at hl 5 rfl) ?_
          refine x_icmp_ge hC rz3 rx4_17 (tgt := 64) dd_P_firstToLeast_46 (by decide) (fun c8 => ?_) (fun c8 => ?_)
          · have hw := hw.1 c8
            exact hw _ _ _ rx4_17 hS (lv_sub hl [1, 2, 3, 4, 5, 6] rfl)
          · have hw := hw.2 c8
            exact hw _ _ _  hS (lv_sub hl [1, 2, 3, 4, 5, 6, 0] rfl)
  exact lp_I17 n0 (-6) 0 _ _ _ hI (rk rfl) (rk rfl) hS (lv_sub hl [3, 4, 5, 2, 1, 0] rfl)
def wp_P_amountOfWeight (u2 : Nat) (a1 : Int) (M : Mm) (post : Int → Prop) : Prop :=
  ∃ I5 : Nat → Int → Int → Prop, (∃ n, I5 n 0 0) ∧ ∀ (n5 : Nat) (x3_5 : Int) (x4_5 : Int), I5 n5 x3_5 x4_5 →
    (((M 7 7) ≤ x4_5 → post x3_5) ∧
      (¬ (M 7 7) ≤ x4_5 → wp_P_leastOf x4_5 M (fun (r18 : Int) => wp_S_weightOf u2 r18 M (fun (r21 : Int) => ∀ K31 : Int → Prop, (∀ (y3_31 : Int), (inR (x4_5 + 1) ∧ ∀ v4_31 : Int, v4_31 = x4_5 + 1 → ∃ k_2, k_2 < n5 ∧ I5 k_2 y3_31 v4_31) →
          K31 y3_31) →
        ((¬ r21 = a1 → K31 x3_5) ∧
        (r21 = a1 → inR (x3_5 + 1) ∧ ∀ v3_28 : Int, v3_28 = x3_5 + 1 → K31 v3_28))))))
set_option maxHeartbeats 4000000 in
set_option maxRecDepth 100000 in
theorem mt_P_amountOfWeight (l : Launch) (X : Xw) (hlc : lcl X) (u2 : Nat) (hP0 : IsP X) (hu2 : IsS X u2) (a1 : Int) (ra1 : inR a1) (M : Mm) (hm_M : mr M) (post : Int → Prop) (sz : Nat) (hw : wp_P_amountOfWeight u2 a1 M post) : Met l yy_P_amountOfWeight (Cond.code yy_P_amountOfWeight bc_P_amountOfWeight 5 (some .int) :: tg) ({ frames := 3, cells := 0, slots := 0, locals := 67 } : Room) (Pw X [.ref (xA X 7), .int (iI a1), .ref (xA X u2)] M sz) (Qi X sz (fun r M1 => M1 = M ∧ post r)) 0 0 (xF X sz) := by
  unfold wp_P_amountOfWeight at hw
  refine x_enter (by decide) hlc hm_M (Nat.le_of_ble_eq_true rfl) ?_
  intro p e s m below meth c ls hC hsz hr hlocks hS hl
  have hx := hC.1.1
  have hb := hC.1.2.1
  have hl : lv_has ls 5 [(0, .ref (xA X 7)), (1, .int (iI a1)), (2, .ref (xA X u2))] := hl
  refine x_iconst hC dd_P_amountOfWeight_0 ?_
  refine lv_istore_n (lv' := [(3, .int (iI 0)), (0, .ref (xA X 7)), (1, .int (iI a1)), (2, .ref (xA X u2))]) hx hb dd_P_amountOfWeight_1 rfl hl (by decide) rfl (fun ls hl => ?_)
  refine x_iconst hC dd_P_amountOfWeight_2 ?_
  refine lv_istore (lv' := [(4, .int (iI 0)), (3, .int (iI 0)), (0, .ref (xA X 7)), (1, .int (iI a1)), (2, .ref (xA X u2))]) hx hb dd_P_amountOfWeight_3 hl (by decide) rfl (fun ls hl => ?_)
  obtain ⟨I5, ⟨n0, hI⟩, hstep_I5⟩ := hw
  have lp_I5 : ∀ (n5 : Nat) (x3_5 : Int) (x4_5 : Int) (H : Heap) (locs : List Loc) (ls : Array Slot), I5 n5 x3_5 x4_5 → inR x3_5 → inR x4_5 → St X (xF X sz) s M H locs → lv_has ls 5 [(0, .ref (xA X 7)), (1, .int (iI a1)), (2, .ref (xA X u2)), (3, .int (iI x3_5)), (4, .int (iI x4_5))] → W p l e ({ frames := 3, cells := 0, slots := 0, locals := 67 } : Room) s m ([.ref (xA X 7), .int (iI a1), .ref (xA X u2)] : List Value).toArray below meth c H locs 0 0 (MQ below (Qi X sz (fun r M1 => M1 = M ∧ post r)) ([.ref (xA X 7), .int (iI a1), .ref (xA X u2)] : List Value).toArray s 0 0 (xF X sz)) (F0 m 5 ls []) := by
    intro n5
    induction n5 using Nat.strongRecOn with
    | _ n5 ih_I5 =>
      intro x3_5 x4_5 H locs ls hI rx3_5 rx4_5 hS hl
      have hw := hstep_I5 n5 x3_5 x4_5 hI
      refine lv_iload hx hb dd_P_amountOfWeight_5 (lv_at hl 4 rfl) ?_
      refine lv_aload_n hx hb dd_P_amountOfWeight_7 rfl (lv_at hl 0 rfl) ?_
      refine x_get hC hS hP0.1 rfl iw_P 7 (by decide) tb_157 rfl rfl dd_P_amountOfWeight_8 ?_
      refine x_icmp_ge hC rx4_5 (hm_M 7 7) (tgt := 37) dd_P_amountOfWeight_11 (by decide) (fun c1 => ?_) (fun c1 => ?_)
      · have hw := hw.1 c1
        refine lv_iload_n hx hb dd_P_amountOfWeight_37 rfl (lv_at hl 3 rfl) ?_
        exact x_iret hC hS hlocks hr rx3_5 ⟨rfl, hw⟩ dd_P_amountOfWeight_38
      · have hw := hw.2 c1
        refine lv_aload_n hx hb dd_P_amountOfWeight_14 rfl (lv_at hl 2 rfl) ?_
        refine lv_aload_n hx hb dd_P_amountOfWeight_15 rfl (lv_at hl 0 rfl) ?_
        refine lv_iload hx hb dd_P_amountOfWeight_16 (lv_at hl 4 rfl) ?_
        refine x_callVi hC hS (As := [.int (iI x4_5)]) (rest := [.ref (xA X u2)]) hP0.1 rfl cv_P_leastOf (mt_P_leastOf l X hC.2.2.1 hP0 x4_5 rx4_5 M hm_M _ _ hw) tb_362 rfl rfl ⟨Nat.le_of_ble_eq_true rfl, Nat.le_of_ble_eq_true rfl⟩ rfl hl.1 (Nat.le_of_ble_eq_true rfl) dd_P_amountOfWeight_18 ⟨Nat.le_refl _, Nat.le_refl _⟩ rfl (fun r18 Mx H locs rr18 hp hS => ?_)
        obtain ⟨hq, hw⟩ := hp
        rw [hq] at hS
        refine x_callVi hC hS (As := [.int (iI r18)]) (rest := []) hu2.1 rfl cv_S_weightOf (mt_S_weightOf l X hC.2.2.1 u2 hu2 r18 rr18 M hm_M _ _ hw) tb_366 rfl rfl ⟨Nat.le_of_ble_eq_true rfl, Nat.le_of_ble_eq_true rfl⟩ rfl hl.1 (Nat.le_of_ble_eq_true rfl) dd_P_amountOfWeight_21 ⟨Nat.le_refl _, Nat.le_refl _⟩ rfl (fun r21 Mx H locs rr21 hp hS => ?_)
        obtain ⟨hq, hw⟩ := hp
        rw [hq] at hS
        refine lv_iload_n hx hb dd_P_amountOfWeight_24 rfl (lv_at hl 1 rfl) ?_
        have hw := hw (fun (y3_31 : Int) => ∀ (H : Heap) (locs : List Loc) (ls : Array Slot), inR y3_31 → St X (xF X sz) s M H locs → lv_has ls 5 [(0, .ref (xA X 7)), (1, .int (iI a1)), (2, .ref (xA X u2)), (3, .int (iI y3_31)), (4, .int (iI x4_5))] → W p l e ({ frames := 3, cells := 0, slots := 0, locals := 67 } : Room) s m ([.ref (xA X 7), .int (iI a1), .ref (xA X u2)] : List Value).toArray below meth c H locs 0 0 (MQ below (Qi X sz (fun r M1 => M1 = M ∧ post r)) ([.ref (xA X 7), .int (iI a1), .ref (xA X u2)] : List Value).toArray s 0 0 (xF X sz)) (F0 m 31 ls [])) (by
            intro y3_31 hw H locs ls ry3_31 hS hl
            obtain ⟨hr_, hw⟩ := hw
            obtain ⟨v4_31, rv4_31, ev4_31⟩ : ∃ z : Int, inR z ∧ z = x4_5 + 1 := ⟨_, hr_, rfl⟩
            have hw := hw v4_31 ev4_31
            refine lv_iinc (v := iI v4_31) (lv' := [(4, .int (iI v4_31)), (0, .ref (xA X 7)), (1, .int (iI a1)), (2, .ref (xA X u2)), (3, .int (iI y3_31))]) hx hb dd_P_amountOfWeight_31 hl (k := 4) rfl (by rw [ev4_31]; exact iI_add _ _) (by decide) rfl (fun ls hl => ?_)
            refine lv_goto (tgt := 5) hx hb dd_P_amountOfWeight_34 (by decide) ?_
            obtain ⟨k_2, h3, hI⟩ := hw
            exact ih_I5 k_2 h3 y3_31 v4_31 _ _ _ hI ry3_31 rv4_31 hS (lv_sub hl [1, 2, 3, 4, 0] rfl))
        refine x_icmp_ne hC rr21 ra1 (tgt := 31) dd_P_amountOfWeight_25 (by decide) (fun c4 => ?_) (fun c4 => ?_)
        · have hw := hw.1 c4
          exact hw _ _ _ rx3_5 hS (lv_sub hl [0, 1, 2, 3, 4] rfl)
        · have hw := hw.2 c4
          obtain ⟨hr_, hw⟩ := hw
          obtain ⟨v3_28, rv3_28, ev3_28⟩ : ∃ z : Int, inR z ∧ z = x3_5 + 1 := ⟨_, hr_, rfl⟩
          have hw := hw v3_28 ev3_28
          refine lv_iinc (v := iI v3_28) (lv' := [(3, .int (iI v3_28)), (0, .ref (xA X 7)), (1, .int (iI a1)), (2, .ref (xA X u2)), (4, .int (iI x4_5))]) hx hb dd_P_amountOfWeight_28 hl (k := 3) rfl (by rw [ev3_28]; exact iI_add _ _) (by decide) rfl (fun ls hl => ?_)
          exact hw _ _ _ rv3_28 hS (lv_sub hl [1, 2, 3, 0, 4] rfl)
  exact lp_I5 n0 0 0 _ _ _ hI (rk rfl) (rk rfl) hS (lv_sub hl [2, 3, 4, 1, 0] rfl)
def wp_P_amountHanded (u1 : Nat) (M : Mm) (post : Int → Prop) : Prop :=
  ∃ I4 : Nat → Int → Int → Prop, (∃ n, I4 n 0 0) ∧ ∀ (n4 : Nat) (x2_4 : Int) (x3_4 : Int), I4 n4 x2_4 x3_4 →
    (((M 7 7) ≤ x3_4 → post x2_4) ∧
      (¬ (M 7 7) ≤ x3_4 → wp_P_twinOf u1 x3_4 M (fun (r15 : Int) => ∀ K25 : Int → Prop, (∀ (y2_25 : Int), (inR (x3_4 + 1) ∧ ∀ v3_25 : Int, v3_25 = x3_4 + 1 → ∃ k_2, k_2 < n4 ∧ I4 k_2 y2_25 v3_25) →
          K25 y2_25) →
        ((r15 = x3_4 → K25 x2_4) ∧
        (¬ r15 = x3_4 → inR (x2_4 + 1) ∧ ∀ v2_22 : Int, v2_22 = x2_4 + 1 → K25 v2_22)))))
set_option maxHeartbeats 4000000 in
set_option maxRecDepth 100000 in
theorem mt_P_amountHanded (l : Launch) (X : Xw) (hlc : lcl X) (u1 : Nat) (hP0 : IsP X) (hu1 : IsS X u1) (M : Mm) (hm_M : mr M) (post : Int → Prop) (sz : Nat) (hw : wp_P_amountHanded u1 M post) : Met l yy_P_amountHanded (Cond.code yy_P_amountHanded bc_P_amountHanded 4 (some .int) :: tg) ({ frames := 4, cells := 0, slots := 0, locals := 89 } : Room) (Pw X [.ref (xA X 7), .ref (xA X u1)] M sz) (Qi X sz (fun r M1 => M1 = M ∧ post r)) 0 0 (xF X sz) := by
  unfold wp_P_amountHanded at hw
  refine x_enter (by decide) hlc hm_M (Nat.le_of_ble_eq_true rfl) ?_
  intro p e s m below meth c ls hC hsz hr hlocks hS hl
  have hx := hC.1.1
  have hb := hC.1.2.1
  have hl : lv_has ls 4 [(0, .ref (xA X 7)), (1, .ref (xA X u1))] := hl
  refine x_iconst hC dd_P_amountHanded_0 ?_
  refine lv_istore_n (lv' := [(2, .int (iI 0)), (0, .ref (xA X 7)), (1, .ref (xA X u1))]) hx hb dd_P_amountHanded_1 rfl hl (by decide) rfl (fun ls hl => ?_)
  refine x_iconst hC dd_P_amountHanded_2 ?_
  refine lv_istore_n (lv' := [(3, .int (iI 0)), (2, .int (iI 0)), (0, .ref (xA X 7)), (1, .ref (xA X u1))]) hx hb dd_P_amountHanded_3 rfl hl (by decide) rfl (fun ls hl => ?_)
  obtain ⟨I4, ⟨n0, hI⟩, hstep_I4⟩ := hw
  have lp_I4 : ∀ (n4 : Nat) (x2_4 : Int) (x3_4 : Int) (H : Heap) (locs : List Loc) (ls : Array Slot), I4 n4 x2_4 x3_4 → inR x2_4 → inR x3_4 → St X (xF X sz) s M H locs → lv_has ls 4 [(0, .ref (xA X 7)), (1, .ref (xA X u1)), (2, .int (iI x2_4)), (3, .int (iI x3_4))] → W p l e ({ frames := 4, cells := 0, slots := 0, locals := 89 } : Room) s m ([.ref (xA X 7), .ref (xA X u1)] : List Value).toArray below meth c H locs 0 0 (MQ below (Qi X sz (fun r M1 => M1 = M ∧ post r)) ([.ref (xA X 7), .ref (xA X u1)] : List Value).toArray s 0 0 (xF X sz)) (F0 m 4 ls []) := by
    intro n4
    induction n4 using Nat.strongRecOn with
    | _ n4 ih_I4 =>
      intro x2_4 x3_4 H locs ls hI rx2_4 rx3_4 hS hl
      have hw := hstep_I4 n4 x2_4 x3_4 hI
      refine lv_iload_n hx hb dd_P_amountHanded_4 rfl (lv_at hl 3 rfl) ?_
      refine lv_aload_n hx hb dd_P_amountHanded_5 rfl (lv_at hl 0 rfl) ?_
      refine x_get hC hS hP0.1 rfl iw_P 7 (by decide) tb_157 rfl rfl dd_P_amountHanded_6 ?_
      refine x_icmp_ge hC rx3_4 (hm_M 7 7) (tgt := 31) dd_P_amountHanded_9 (by decide) (fun c1 => ?_) (fun c1 => ?_)
      · have hw := hw.1 c1
        refine lv_iload_n hx hb dd_P_amountHanded_31 rfl (lv_at hl 2 rfl) ?_
        exact x_iret hC hS hlocks hr rx2_4 ⟨rfl, hw⟩ dd_P_amountHanded_32
      · have hw := hw.2 c1
        refine lv_aload_n hx hb dd_P_amountHanded_12 rfl (lv_at hl 0 rfl) ?_
        refine lv_iload_n hx hb dd_P_amountHanded_13 rfl (lv_at hl 3 rfl) ?_
        refine lv_aload_n hx hb dd_P_amountHanded_14 rfl (lv_at hl 1 rfl) ?_
        refine x_callVi hC hS (As := [.int (iI x3_4), .ref (xA X u1)]) (rest := []) hP0.1 rfl cv_P_twinOf (mt_P_twinOf l X hC.2.2.1 u1 hP0 hu1 x3_4 rx3_4 M hm_M _ _ hw) tb_426 rfl rfl ⟨Nat.le_of_ble_eq_true rfl, Nat.le_of_ble_eq_true rfl⟩ rfl hl.1 (Nat.le_of_ble_eq_true rfl) dd_P_amountHanded_15 ⟨Nat.le_refl _, Nat.le_refl _⟩ rfl (fun r15 Mx H locs rr15 hp hS => ?_)
        obtain ⟨hq, hw⟩ := hp
        rw [hq] at hS
        refine lv_iload_n hx hb dd_P_amountHanded_18 rfl (lv_at hl 3 rfl) ?_
        have hw := hw (fun (y2_25 : Int) => ∀ (H : Heap) (locs : List Loc) (ls : Array Slot), inR y2_25 → St X (xF X sz) s M H locs → lv_has ls 4 [(0, .ref (xA X 7)), (1, .ref (xA X u1)), (2, .int (iI y2_25)), (3, .int (iI x3_4))] → W p l e ({ frames := 4, cells := 0, slots := 0, locals := 89 } : Room) s m ([.ref (xA X 7), .ref (xA X u1)] : List Value).toArray below meth c H locs 0 0 (MQ below (Qi X sz (fun r M1 => M1 = M ∧ post r)) ([.ref (xA X 7), .ref (xA X u1)] : List Value).toArray s 0 0 (xF X sz)) (F0 m 25 ls [])) (by
            intro y2_25 hw H locs ls ry2_25 hS hl
            obtain ⟨hr_, hw⟩ := hw
            obtain ⟨v3_25, rv3_25, ev3_25⟩ : ∃ z : Int, inR z ∧ z = x3_4 + 1 := ⟨_, hr_, rfl⟩
            have hw := hw v3_25 ev3_25
            refine lv_iinc (v := iI v3_25) (lv' := [(3, .int (iI v3_25)), (0, .ref (xA X 7)), (1, .ref (xA X u1)), (2, .int (iI y2_25))]) hx hb dd_P_amountHanded_25 hl (k := 3) rfl (by rw [ev3_25]; exact iI_add _ _) (by decide) rfl (fun ls hl => ?_)
            refine lv_goto (tgt := 4) hx hb dd_P_amountHanded_28 (by decide) ?_
            obtain ⟨k_2, h3, hI⟩ := hw
            exact ih_I4 k_2 h3 y2_25 v3_25 _ _ _ hI ry2_25 rv3_25 hS (lv_sub hl [1, 2, 3, 0] rfl))
        refine x_icmp_eq hC rr15 rx3_4 (tgt := 25) dd_P_amountHanded_19 (by decide) (fun c4 => ?_) (fun c4 => ?_)
        · have hw := hw.1 c4
          exact hw _ _ _ rx2_4 hS (lv_sub hl [0, 1, 2, 3] rfl)
        · have hw := hw.2 c4
          obtain ⟨hr_, hw⟩ := hw
          obtain ⟨v2_22, rv2_22, ev2_22⟩ : ∃ z : Int, inR z ∧ z = x2_4 + 1 := ⟨_, hr_, rfl⟩
          have hw := hw v2_22 ev2_22
          refine lv_iinc (v := iI v2_22) (lv' := [(2, .int (iI v2_22)), (0, .ref (xA X 7)), (1, .ref (xA X u1)), (3, .int (iI x3_4))]) hx hb dd_P_amountHanded_22 hl (k := 2) rfl (by rw [ev2_22]; exact iI_add _ _) (by decide) rfl (fun ls hl => ?_)
          exact hw _ _ _ rv2_22 hS (lv_sub hl [1, 2, 0, 3] rfl)
  exact lp_I4 n0 0 0 _ _ _ hI (rk rfl) (rk rfl) hS (lv_sub hl [2, 3, 1, 0] rfl)
def wp_P_amountOfAllColours (u1 : Nat) (M : Mm) (post : Int → Prop) : Prop :=
  ∃ I4 : Nat → Int → Int → Prop, (∃ n, I4 n 0 0) ∧ ∀ (n4 : Nat) (x2_4 : Int) (x3_4 : Int), I4 n4 x2_4 x3_4 →
    (((M 7 7) ≤ x3_4 → post x2_4) ∧
      (¬ (M 7 7) ≤ x3_4 → wp_P_leastOf x3_4 M (fun (r15 : Int) => wp_S_coloursOf u1 r15 M (fun (r18 : Int) => ∀ K31 : Int → Prop, (∀ (y2_31 : Int), (inR (x3_4 + 1) ∧ ∀ v3_31 : Int, v3_31 = x3_4 + 1 → ∃ k_2, k_2 < n4 ∧ I4 k_2 y2_31 v3_31) →
          K31 y2_31) →
        ((¬ r18 = (M u1 1) → K31 x2_4) ∧
        (r18 = (M u1 1) → inR (x2_4 + 1) ∧ ∀ v2_28 : Int, v2_28 = x2_4 + 1 → K31 v2_28))))))
set_option maxHeartbeats 4000000 in
set_option maxRecDepth 100000 in
theorem mt_P_amountOfAllColours (l : Launch) (X : Xw) (hlc : lcl X) (u1 : Nat) (hP0 : IsP X) (hu1 : IsS X u1) (M : Mm) (hm_M : mr M) (post : Int → Prop) (sz : Nat) (hw : wp_P_amountOfAllColours u1 M post) : Met l yy_P_amountOfAllColours (Cond.code yy_P_amountOfAllColours bc_P_amountOfAllColours 4 (some .int) :: tg) ({ frames := 3, cells := 0, slots := 0, locals := 67 } : Room) (Pw X [.ref (xA X 7), .ref (xA X u1)] M sz) (Qi X sz (fun r M1 => M1 = M ∧ post r)) 0 0 (xF X sz) := by
  unfold wp_P_amountOfAllColours at hw
  refine x_enter (by decide) hlc hm_M (Nat.le_of_ble_eq_true rfl) ?_
  intro p e s m below meth c ls hC hsz hr hlocks hS hl
  have hx := hC.1.1
  have hb := hC.1.2.1
  have hl : lv_has ls 4 [(0, .ref (xA X 7)), (1, .ref (xA X u1))] := hl
  refine x_iconst hC dd_P_amountOfAllColours_0 ?_
  refine lv_istore_n (lv' := [(2, .int (iI 0)), (0, .ref (xA X 7)), (1, .ref (xA X u1))]) hx hb dd_P_amountOfAllColours_1 rfl hl (by decide) rfl (fun ls hl => ?_)
  refine x_iconst hC dd_P_amountOfAllColours_2 ?_
  refine lv_istore_n (lv' := [(3, .int (iI 0)), (2, .int (iI 0)), (0, .ref (xA X 7)), (1, .ref (xA X u1))]) hx hb dd_P_amountOfAllColours_3 rfl hl (by decide) rfl (fun ls hl => ?_)
  obtain ⟨I4, ⟨n0, hI⟩, hstep_I4⟩ := hw
  have lp_I4 : ∀ (n4 : Nat) (x2_4 : Int) (x3_4 : Int) (H : Heap) (locs : List Loc) (ls : Array Slot), I4 n4 x2_4 x3_4 → inR x2_4 → inR x3_4 → St X (xF X sz) s M H locs → lv_has ls 4 [(0, .ref (xA X 7)), (1, .ref (xA X u1)), (2, .int (iI x2_4)), (3, .int (iI x3_4))] → W p l e ({ frames := 3, cells := 0, slots := 0, locals := 67 } : Room) s m ([.ref (xA X 7), .ref (xA X u1)] : List Value).toArray below meth c H locs 0 0 (MQ below (Qi X sz (fun r M1 => M1 = M ∧ post r)) ([.ref (xA X 7), .ref (xA X u1)] : List Value).toArray s 0 0 (xF X sz)) (F0 m 4 ls []) := by
    intro n4
    induction n4 using Nat.strongRecOn with
    | _ n4 ih_I4 =>
      intro x2_4 x3_4 H locs ls hI rx2_4 rx3_4 hS hl
      have hw := hstep_I4 n4 x2_4 x3_4 hI
      refine lv_iload_n hx hb dd_P_amountOfAllColours_4 rfl (lv_at hl 3 rfl) ?_
      refine lv_aload_n hx hb dd_P_amountOfAllColours_5 rfl (lv_at hl 0 rfl) ?_
      refine x_get hC hS hP0.1 rfl iw_P 7 (by decide) tb_157 rfl rfl dd_P_amountOfAllColours_6 ?_
      refine x_icmp_ge hC rx3_4 (hm_M 7 7) (tgt := 37) dd_P_amountOfAllColours_9 (by decide) (fun c1 => ?_) (fun c1 => ?_)
      · have hw := hw.1 c1
        refine lv_iload_n hx hb dd_P_amountOfAllColours_37 rfl (lv_at hl 2 rfl) ?_
        exact x_iret hC hS hlocks hr rx2_4 ⟨rfl, hw⟩ dd_P_amountOfAllColours_38
      · have hw := hw.2 c1
        refine lv_aload_n hx hb dd_P_amountOfAllColours_12 rfl (lv_at hl 1 rfl) ?_
        refine lv_aload_n hx hb dd_P_amountOfAllColours_13 rfl (lv_at hl 0 rfl) ?_
        refine lv_iload_n hx hb dd_P_amountOfAllColours_14 rfl (lv_at hl 3 rfl) ?_
        refine x_callVi hC hS (As := [.int (iI x3_4)]) (rest := [.ref (xA X u1)]) hP0.1 rfl cv_P_leastOf (mt_P_leastOf l X hC.2.2.1 hP0 x3_4 rx3_4 M hm_M _ _ hw) tb_362 rfl rfl ⟨Nat.le_of_ble_eq_true rfl, Nat.le_of_ble_eq_true rfl⟩ rfl hl.1 (Nat.le_of_ble_eq_true rfl) dd_P_amountOfAllColours_15 ⟨Nat.le_refl _, Nat.le_refl _⟩ rfl (fun r15 Mx H locs rr15 hp hS => ?_)
        obtain ⟨hq, hw⟩ := hp
        rw [hq] at hS
        refine x_callVi hC hS (As := [.int (iI r15)]) (rest := []) hu1.1 rfl cv_S_coloursOf (mt_S_coloursOf l X hC.2.2.1 u1 hu1 r15 rr15 M hm_M _ _ hw) tb_431 rfl rfl ⟨Nat.le_of_ble_eq_true rfl, Nat.le_of_ble_eq_true rfl⟩ rfl hl.1 (Nat.le_of_ble_eq_true rfl) dd_P_amountOfAllColours_18 ⟨Nat.le_refl _, Nat.le_refl _⟩ rfl (fun r18 Mx H locs rr18 hp hS => ?_)
        obtain ⟨hq, hw⟩ := hp
        rw [hq] at hS
        refine lv_aload_n hx hb dd_P_amountOfAllColours_21 rfl (lv_at hl 1 rfl) ?_
        refine x_get hC hS hu1.1 rfl iw_S 1 (by decide) tb_88 rfl rfl dd_P_amountOfAllColours_22 ?_
        have hw := hw (fun (y2_31 : Int) => ∀ (H : Heap) (locs : List Loc) (ls : Array Slot), inR y2_31 → St X (xF X sz) s M H locs → lv_has ls 4 [(0, .ref (xA X 7)), (1, .ref (xA X u1)), (2, .int (iI y2_31)), (3, .int (iI x3_4))] → W p l e ({ frames := 3, cells := 0, slots := 0, locals := 67 } : Room) s m ([.ref (xA X 7), .ref (xA X u1)] : List Value).toArray below meth c H locs 0 0 (MQ below (Qi X sz (fun r M1 => M1 = M ∧ post r)) ([.ref (xA X 7), .ref (xA X u1)] : List Value).toArray s 0 0 (xF X sz)) (F0 m 31 ls [])) (by
            intro y2_31 hw H locs ls ry2_31 hS hl
            obtain ⟨hr_, hw⟩ := hw
            obtain ⟨v3_31, rv3_31, ev3_31⟩ : ∃ z : Int, inR z ∧ z = x3_4 + 1 := ⟨_, hr_, rfl⟩
            have hw := hw v3_31 ev3_31
            refine lv_iinc (v := iI v3_31) (lv' := [(3, .int (iI v3_31)), (0, .ref (xA X 7)), (1, .ref (xA X u1)), (2, .int (iI y2_31))]) hx hb dd_P_amountOfAllColours_31 hl (k := 3) rfl (by rw [ev3_31]; exact iI_add _ _) (by decide) rfl (fun ls hl => ?_)
            refine lv_goto (tgt := 4) hx hb dd_P_amountOfAllColours_34 (by decide) ?_
            obtain ⟨k_2, h3, hI⟩ := hw
            exact ih_I4 k_2 h3 y2_31 v3_31 _ _ _ hI ry2_31 rv3_31 hS (lv_sub hl [1, 2, 3, 0] rfl))
        refine x_icmp_ne hC rr18 (hm_M u1 1) (tgt := 31) dd_P_amountOfAllColours_25 (by decide) (fun c4 => ?_) (fun c4 => ?_)
        · have hw := hw.1 c4
          exact hw _ _ _ rx2_4 hS (lv_sub hl [0, 1, 2, 3] rfl)
        · have hw := hw.2 c4
          obtain ⟨hr_, hw⟩ := hw
          obtain ⟨v2_28, rv2_28, ev2_28⟩ : ∃ z : Int, inR z ∧ z = x2_4 + 1 := ⟨_, hr_, rfl⟩
          have hw := hw v2_28 ev2_28
          refine lv_iinc (v := iI v2_28) (lv' := [(2, .int (iI v2_28)), (0, .ref (xA X 7)), (1, .ref (xA X u1)), (3, .int (iI x3_4))]) hx hb dd_P_amountOfAllColours_28 hl (k := 2) rfl (by rw [ev2_28]; exact iI_add _ _) (by decide) rfl (fun ls hl => ?_)
          exact hw _ _ _ rv2_28 hS (lv_sub hl [1, 2, 0, 3] rfl)
  exact lp_I4 n0 0 0 _ _ _ hI (rk rfl) (rk rfl) hS (lv_sub hl [2, 3, 1, 0] rfl)
def wp_P_amountAlone (M : Mm) (post : Int → Prop) : Prop :=
  ∃ I4 : Nat → Int → Int → Prop, (∃ n, I4 n 0 0) ∧ ∀ (n4 : Nat) (x1_4 : Int) (x2_4 : Int), I4 n4 x1_4 x2_4 →
    (((M 7 7) ≤ x2_4 → post x1_4) ∧
      (¬ (M 7 7) ≤ x2_4 → wp_P_sizeOf x2_4 M (fun (r14 : Int) => ∀ K24 : Int → Prop, (∀ (y1_24 : Int), (inR (x2_4 + 1) ∧ ∀ v2_24 : Int, v2_24 = x2_4 + 1 → ∃ k_2, k_2 < n4 ∧ I4 k_2 y1_24 v2_24) →
          K24 y1_24) →
        ((¬ r14 = 1 → K24 x1_4) ∧
        (r14 = 1 → inR (x1_4 + 1) ∧ ∀ v1_21 : Int, v1_21 = x1_4 + 1 → K24 v1_21)))))
set_option maxHeartbeats 4000000 in
set_option maxRecDepth 100000 in
theorem mt_P_amountAlone (l : Launch) (X : Xw) (hlc : lcl X)(hP0 : IsP X) (M : Mm) (hm_M : mr M) (post : Int → Prop) (sz : Nat) (hw : wp_P_amountAlone M post) : Met l yy_P_amountAlone (Cond.code yy_P_amountAlone bc_P_amountAlone 3 (some .int) :: tg) ({ frames := 2, cells := 0, slots := 0, locals := 43 } : Room) (Pw X [.ref (xA X 7)] M sz) (Qi X sz (fun r M1 => M1 = M ∧ post r)) 0 0 (xF X sz) := by
  unfold wp_P_amountAlone at hw
  refine x_enter (by decide) hlc hm_M (Nat.le_of_ble_eq_true rfl) ?_
  intro p e s m below meth c ls hC hsz hr hlocks hS hl
  have hx := hC.1.1
  have hb := hC.1.2.1
  have hl : lv_has ls 3 [(0, .ref (xA X 7))] := hl
  refine x_iconst hC dd_P_amountAlone_0 ?_
  refine lv_istore_n (lv' := [(1, .int (iI 0)), (0, .ref (xA X 7))]) hx hb dd_P_amountAlone_1 rfl hl (by decide) rfl (fun ls hl => ?_)
  refine x_iconst hC dd_P_amountAlone_2 ?_
  refine lv_istore_n (lv' := [(2, .int (iI 0)), (1, .int (iI 0)), (0, .ref (xA X 7))]) hx hb dd_P_amountAlone_3 rfl hl (by decide) rfl (fun ls hl => ?_)
  obtain ⟨I4, ⟨n0, hI⟩, hstep_I4⟩ := hw
  have lp_I4 : ∀ (n4 : Nat) (x1_4 : Int) (x2_4 : Int) (H : Heap) (locs : List Loc) (ls : Array Slot), I4 n4 x1_4 x2_4 → inR x1_4 → inR x2_4 → St X (xF X sz) s M H locs → lv_has ls 3 [(0, .ref (xA X 7)), (1, .int (iI x1_4)), (2, .int (iI x2_4))] → W p l e ({ frames := 2, cells := 0, slots := 0, locals := 43 } : Room) s m ([.ref (xA X 7)] : List Value).toArray below meth c H locs 0 0 (MQ below (Qi X sz (fun r M1 => M1 = M ∧ post r)) ([.ref (xA X 7)] : List Value).toArray s 0 0 (xF X sz)) (F0 m 4 ls []) := by
    intro n4
    induction n4 using Nat.strongRecOn with
    | _ n4 ih_I4 =>
      intro x1_4 x2_4 H locs ls hI rx1_4 rx2_4 hS hl
      have hw := hstep_I4 n4 x1_4 x2_4 hI
      refine lv_iload_n hx hb dd_P_amountAlone_4 rfl (lv_at hl 2 rfl) ?_
      refine lv_aload_n hx hb dd_P_amountAlone_5 rfl (lv_at hl 0 rfl) ?_
      refine x_get hC hS hP0.1 rfl iw_P 7 (by decide) tb_157 rfl rfl dd_P_amountAlone_6 ?_
      refine x_icmp_ge hC rx2_4 (hm_M 7 7) (tgt := 30) dd_P_amountAlone_9 (by decide) (fun c1 => ?_) (fun c1 => ?_)
      · have hw := hw.1 c1
        refine lv_iload_n hx hb dd_P_amountAlone_30 rfl (lv_at hl 1 rfl) ?_
        exact x_iret hC hS hlocks hr rx1_4 ⟨rfl, hw⟩ dd_P_amountAlone_31
      · have hw := hw.2 c1
        refine lv_aload_n hx hb dd_P_amountAlone_12 rfl (lv_at hl 0 rfl) ?_
        refine lv_iload_n hx hb dd_P_amountAlone_13 rfl (lv_at hl 2 rfl) ?_
        refine x_callVi hC hS (As := [.int (iI x2_4)]) (rest := []) hP0.1 rfl cv_P_sizeOf (mt_P_sizeOf l X hC.2.2.1 hP0 x2_4 rx2_4 M hm_M _ _ hw) tb_417 rfl rfl ⟨Nat.le_of_ble_eq_true rfl, Nat.le_of_ble_eq_true rfl⟩ rfl hl.1 (Nat.le_of_ble_eq_true rfl) dd_P_amountAlone_14 ⟨Nat.le_refl _, Nat.le_refl _⟩ rfl (fun r14 Mx H locs rr14 hp hS => ?_)
        obtain ⟨hq, hw⟩ := hp
        rw [hq] at hS
        refine x_iconst hC dd_P_amountAlone_17 ?_
        have hw := hw (fun (y1_24 : Int) => ∀ (H : Heap) (locs : List Loc) (ls : Array Slot), inR y1_24 → St X (xF X sz) s M H locs → lv_has ls 3 [(0, .ref (xA X 7)), (1, .int (iI y1_24)), (2, .int (iI x2_4))] → W p l e ({ frames := 2, cells := 0, slots := 0, locals := 43 } : Room) s m ([.ref (xA X 7)] : List Value).toArray below meth c H locs 0 0 (MQ below (Qi X sz (fun r M1 => M1 = M ∧ post r)) ([.ref (xA X 7)] : List Value).toArray s 0 0 (xF X sz)) (F0 m 24 ls [])) (by
            intro y1_24 hw H locs ls ry1_24 hS hl
            obtain ⟨hr_, hw⟩ := hw
            obtain ⟨v2_24, rv2_24, ev2_24⟩ : ∃ z : Int, inR z ∧ z = x2_4 + 1 := ⟨_, hr_, rfl⟩
            have hw := hw v2_24 ev2_24
            refine lv_iinc (v := iI v2_24) (lv' := [(2, .int (iI v2_24)), (0, .ref (xA X 7)), (1, .int (iI y1_24))]) hx hb dd_P_amountAlone_24 hl (k := 2) rfl (by rw [ev2_24]; exact iI_add _ _) (by decide) rfl (fun ls hl => ?_)
            refine lv_goto (tgt := 4) hx hb dd_P_amountAlone_27 (by decide) ?_
            obtain ⟨k_2, h3, hI⟩ := hw
            exact ih_I4 k_2 h3 y1_24 v2_24 _ _ _ hI ry1_24 rv2_24 hS (lv_sub hl [1, 2, 0] rfl))
        refine x_icmp_ne hC rr14 (rk rfl) (tgt := 24) dd_P_amountAlone_18 (by decide) (fun c4 => ?_) (fun c4 => ?_)
        · have hw := hw.1 c4
          exact hw _ _ _ rx1_4 hS (lv_sub hl [0, 1, 2] rfl)
        · have hw := hw.2 c4
          obtain ⟨hr_, hw⟩ := hw
          obtain ⟨v1_21, rv1_21, ev1_21⟩ : ∃ z : Int, inR z ∧ z = x1_4 + 1 := ⟨_, hr_, rfl⟩
          have hw := hw v1_21 ev1_21
          refine lv_iinc (v := iI v1_21) (lv' := [(1, .int (iI v1_21)), (0, .ref (xA X 7)), (2, .int (iI x2_4))]) hx hb dd_P_amountAlone_21 hl (k := 1) rfl (by rw [ev1_21]; exact iI_add _ _) (by decide) rfl (fun ls hl => ?_)
          exact hw _ _ _ rv1_21 hS (lv_sub hl [1, 0, 2] rfl)
  exact lp_I4 n0 0 0 _ _ _ hI (rk rfl) (rk rfl) hS (lv_sub hl [2, 1, 0] rfl)
def wp_P_greatestSize (M : Mm) (post : Int → Prop) : Prop :=
  ∃ I4 : Nat → Int → Int → Prop, (∃ n, I4 n 0 0) ∧ ∀ (n4 : Nat) (x1_4 : Int) (x2_4 : Int), I4 n4 x1_4 x2_4 →
    (((M 7 7) ≤ x2_4 → post x1_4) ∧
      (¬ (M 7 7) ≤ x2_4 → wp_P_sizeOf x2_4 M (fun (r15 : Int) => ∀ z2 : Int, z2 = (if x1_4 < r15 then r15 else x1_4) → inR (x2_4 + 1) ∧ ∀ v2_22 : Int, v2_22 = x2_4 + 1 → ∃ k_3, k_3 < n4 ∧ I4 k_3 z2 v2_22)))
set_option maxHeartbeats 4000000 in
set_option maxRecDepth 100000 in
theorem mt_P_greatestSize (l : Launch) (X : Xw) (hlc : lcl X)(hP0 : IsP X) (M : Mm) (hm_M : mr M) (post : Int → Prop) (sz : Nat) (hw : wp_P_greatestSize M post) : Met l yy_P_greatestSize (Cond.code yy_P_greatestSize bc_P_greatestSize 3 (some .int) :: tg) ({ frames := 2, cells := 0, slots := 0, locals := 43 } : Room) (Pw X [.ref (xA X 7)] M sz) (Qi X sz (fun r M1 => M1 = M ∧ post r)) 0 0 (xF X sz) := by
  unfold wp_P_greatestSize at hw
  refine x_enter (by decide) hlc hm_M (Nat.le_of_ble_eq_true rfl) ?_
  intro p e s m below meth c ls hC hsz hr hlocks hS hl
  have hx := hC.1.1
  have hb := hC.1.2.1
  have hl : lv_has ls 3 [(0, .ref (xA X 7))] := hl
  refine x_iconst hC dd_P_greatestSize_0 ?_
  refine lv_istore_n (lv' := [(1, .int (iI 0)), (0, .ref (xA X 7))]) hx hb dd_P_greatestSize_1 rfl hl (by decide) rfl (fun ls hl => ?_)
  refine x_iconst hC dd_P_greatestSize_2 ?_
  refine lv_istore_n (lv' := [(2, .int (iI 0)), (1, .int (iI 0)), (0, .ref (xA X 7))]) hx hb dd_P_greatestSize_3 rfl hl (by decide) rfl (fun ls hl => ?_)
  obtain ⟨I4, ⟨n0, hI⟩, hstep_I4⟩ := hw
  have lp_I4 : ∀ (n4 : Nat) (x1_4 : Int) (x2_4 : Int) (H : Heap) (locs : List Loc) (ls : Array Slot), I4 n4 x1_4 x2_4 → inR x1_4 → inR x2_4 → St X (xF X sz) s M H locs → lv_has ls 3 [(0, .ref (xA X 7)), (1, .int (iI x1_4)), (2, .int (iI x2_4))] → W p l e ({ frames := 2, cells := 0, slots := 0, locals := 43 } : Room) s m ([.ref (xA X 7)] : List Value).toArray below meth c H locs 0 0 (MQ below (Qi X sz (fun r M1 => M1 = M ∧ post r)) ([.ref (xA X 7)] : List Value).toArray s 0 0 (xF X sz)) (F0 m 4 ls []) := by
    intro n4
    induction n4 using Nat.strongRecOn with
    | _ n4 ih_I4 =>
      intro x1_4 x2_4 H locs ls hI rx1_4 rx2_4 hS hl
      have hw := hstep_I4 n4 x1_4 x2_4 hI
      refine lv_iload_n hx hb dd_P_greatestSize_4 rfl (lv_at hl 2 rfl) ?_
      refine lv_aload_n hx hb dd_P_greatestSize_5 rfl (lv_at hl 0 rfl) ?_
      refine x_get hC hS hP0.1 rfl iw_P 7 (by decide) tb_157 rfl rfl dd_P_greatestSize_6 ?_
      refine x_icmp_ge hC rx2_4 (hm_M 7 7) (tgt := 28) dd_P_greatestSize_9 (by decide) (fun c1 => ?_) (fun c1 => ?_)
      · have hw := hw.1 c1
        refine lv_iload_n hx hb dd_P_greatestSize_28 rfl (lv_at hl 1 rfl) ?_
        exact x_iret hC hS hlocks hr rx1_4 ⟨rfl, hw⟩ dd_P_greatestSize_29
      · have hw := hw.2 c1
        refine lv_iload_n hx hb dd_P_greatestSize_12 rfl (lv_at hl 1 rfl) ?_
        refine lv_aload_n hx hb dd_P_greatestSize_13 rfl (lv_at hl 0 rfl) ?_
        refine lv_iload_n hx hb dd_P_greatestSize_14 rfl (lv_at hl 2 rfl) ?_
        refine x_callVi hC hS (As := [.int (iI x2_4)]) (rest := [.int (iI x1_4)]) hP0.1 rfl cv_P_sizeOf (mt_P_sizeOf l X hC.2.2.1 hP0 x2_4 rx2_4 M hm_M _ _ hw) tb_417 rfl rfl ⟨Nat.le_of_ble_eq_true rfl, Nat.le_of_ble_eq_true rfl⟩ rfl hl.1 (Nat.le_of_ble_eq_true rfl) dd_P_greatestSize_15 ⟨Nat.le_refl _, Nat.le_refl _⟩ rfl (fun r15 Mx H locs rr15 hp hS => ?_)
        obtain ⟨hq, hw⟩ := hp
        rw [hq] at hS
        refine x_max hC rx1_4 rr15 hl.1 tb_440 (Nat.le_of_ble_eq_true rfl) (Nat.le_of_ble_eq_true rfl) ⟨Nat.le_refl _, Nat.le_refl _⟩ dd_P_greatestSize_18 (fun z2 rz2 ez2 => ?_)
        have hw := hw z2 ez2
        refine lv_istore_n (lv' := [(1, .int (iI z2)), (0, .ref (xA X 7)), (2, .int (iI x2_4))]) hx hb dd_P_greatestSize_21 rfl hl (by decide) rfl (fun ls hl => ?_)
        obtain ⟨hr_, hw⟩ := hw
        obtain ⟨v2_22, rv2_22, ev2_22⟩ : ∃ z : Int, inR z ∧ z = x2_4 + 1 := ⟨_, hr_, rfl⟩
        have hw := hw v2_22 ev2_22
        refine lv_iinc (v := iI v2_22) (lv' := [(2, .int (iI v2_22)), (1, .int (iI z2)), (0, .ref (xA X 7))]) hx hb dd_P_greatestSize_22 hl (k := 2) rfl (by rw [ev2_22]; exact iI_add _ _) (by decide) rfl (fun ls hl => ?_)
        refine lv_goto (tgt := 4) hx hb dd_P_greatestSize_25 (by decide) ?_
        obtain ⟨k_3, h4, hI⟩ := hw
        exact ih_I4 k_3 h4 z2 v2_22 _ _ _ hI rz2 rv2_22 hS (lv_sub hl [2, 1, 0] rfl)
  exact lp_I4 n0 0 0 _ _ _ hI (rk rfl) (rk rfl) hS (lv_sub hl [2, 1, 0] rfl)
