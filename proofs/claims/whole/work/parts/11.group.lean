def wp_G_isRank (a0 : Int) (post : Int → Prop) : Prop :=
  wp_T_isWithin a0 0 5039 (fun (r5 : Int) => (r5 = 0 ∨ r5 = 1) ∧ post r5)
set_option maxHeartbeats 4000000 in
set_option maxRecDepth 100000 in
theorem mt_G_isRank (l : Launch) (X : Xw) (hlc : lcl X) (a0 : Int) (ra0 : inR a0) (M : Mm) (hm_M : mr M) (post : Int → Prop) (sz : Nat) (hw : wp_G_isRank a0 post) : Met l yy_G_isRank (Cond.code yy_G_isRank bc_G_isRank 1 (some .boolean) :: tg) ({ frames := 1, cells := 0, slots := 0, locals := 22 } : Room) (Pw X [.int (iI a0)] M sz) (Qi X sz (fun r M1 => M1 = M ∧ post r)) 0 0 (xF X sz) := by
  unfold wp_G_isRank at hw
  refine x_enter (by decide) hlc hm_M (Nat.le_of_ble_eq_true rfl) ?_
  intro p e s m below meth c ls hC hsz hr hlocks hS hl
  have hx := hC.1.1
  have hb := hC.1.2.1
  have hl : lv_has ls 1 [(0, .int (iI a0))] := hl
  refine lv_iload_n hx hb dd_G_isRank_0 rfl (lv_at hl 0 rfl) ?_
  refine x_iconst hC dd_G_isRank_1 ?_
  refine x_sipush hC dd_G_isRank_2 (by decide) ?_
  refine x_callSiN hC hS (As := [.int (iI a0), .int (iI 0), .int (iI 5039)]) (rest := []) cs_T_isWithin (mt_T_isWithin l X hC.2.2.1  a0 ra0 0 (rk rfl) 5039 (rk rfl) M hm_M _ _ hw) (nW_0 hC.2.2.2.2) rfl rfl ⟨Nat.le_of_ble_eq_true rfl, Nat.le_of_ble_eq_true rfl⟩ rfl hl.1 (Nat.le_of_ble_eq_true rfl) dd_G_isRank_5 ⟨Nat.le_refl _, Nat.le_refl _⟩ rfl (fun r5 Mx H locs rr5 hp hS => ?_)
  obtain ⟨hq, hw⟩ := hp
  rw [hq] at hS
  exact x_zret hC hS hlocks hr hw.1 ⟨rfl, hw.2⟩ dd_G_isRank_8
def wp_G_add (g : Nat) (a1 : Int) (M : Mm) (post : Mm → Prop) : Prop :=
  wp_U_rank a1 (fun (r1 : Int) => (5040 ≤ (M g 1) → post M) ∧
  (¬ 5040 ≤ (M g 1) → wp_G_isRank r1 (fun (r18 : Int) => (r18 = 0 → post M) ∧
    (¬ r18 = 0 → (0 ≤ (bShr r1 5) ∧ (bShr r1 5) < 158) ∧ ∀ z4 : Int, z4 = M (g + 3) ((bShr r1 5)).toNat → (0 ≤ (bShr r1 5) ∧ (bShr r1 5) < 158) ∧ ∀ M_6 : Mm, M_6 = ms M (g + 3) ((bShr r1 5)).toNat (bOr z4 (bShl 1 (bAnd r1 31))) → (0 ≤ (M_6 g 1) ∧ (M_6 g 1) < 5040) ∧ ∀ M_8 : Mm, M_8 = ms M_6 (g + 1) ((M_6 g 1)).toNat a1 → inR ((M_8 g 1) + 1) ∧ ∀ M_10 : Mm, M_10 = ms M_8 g 1 ((M_8 g 1) + 1) → post M_10))))
set_option maxHeartbeats 4000000 in
set_option maxRecDepth 100000 in
theorem mt_G_add (l : Launch) (X : Xw) (hlc : lcl X) (g : Nat) (hG0 : IsG X g) (a1 : Int) (ra1 : inR a1) (M : Mm) (hm_M : mr M) (post : Mm → Prop) (sz : Nat) (hw : wp_G_add g a1 M post) : Met l yy_G_add (Cond.code yy_G_add bc_G_add 3 none :: tg) ({ frames := 2, cells := 0, slots := 0, locals := 46 } : Room) (Pw X [.ref (xA X g), .int (iI a1)] M sz) (Qv X sz post) 0 0 (xF X sz) := by
  unfold wp_G_add at hw
  refine x_enter (by decide) hlc hm_M (Nat.le_of_ble_eq_true rfl) ?_
  intro p e s m below meth c ls hC hsz hr hlocks hS hl
  have hx := hC.1.1
  have hb := hC.1.2.1
  have hl : lv_has ls 3 [(0, .ref (xA X g)), (1, .int (iI a1))] := hl
  refine lv_iload_n hx hb dd_G_add_0 rfl (lv_at hl 1 rfl) ?_
  refine x_callSi hC hS (As := [.int (iI a1)]) (rest := []) cs_U_rank (mt_U_rank l X hC.2.2.1  a1 ra1 M hm_M _ _ hw) tb_41 rfl rfl ⟨Nat.le_of_ble_eq_true rfl, Nat.le_of_ble_eq_true rfl⟩ rfl hl.1 (Nat.le_of_ble_eq_true rfl) dd_G_add_1 ⟨Nat.le_refl _, Nat.le_refl _⟩ rfl (fun r1 Mx H locs rr1 hp hS => ?_)
  obtain ⟨hq, hw⟩ := hp
  rw [hq] at hS
  refine lv_istore_n (lv' := [(2, .int (iI r1)), (0, .ref (xA X g)), (1, .int (iI a1))]) hx hb dd_G_add_4 rfl hl (by decide) rfl (fun ls hl => ?_)
  refine lv_aload_n hx hb dd_G_add_5 rfl (lv_at hl 1 rfl) ?_
  refine x_get hC hS hG0.1 rfl iw_G 1 (by decide) tb_63 rfl rfl dd_G_add_6 ?_
  refine lv_aload_n hx hb dd_G_add_9 rfl (lv_at hl 1 rfl) ?_
  refine x_get hC hS hG0.1 rfl iw_G 0 (by decide) tb_59 rfl rfl dd_G_add_10 ?_
  refine x_alen hC hS (z := 5040) hG0.2.1 rfl dd_G_add_13 ?_
  refine x_icmp_ge hC (hm_M g 1) (rk rfl) (tgt := 61) dd_G_add_14 (by decide) (fun c1 => ?_) (fun c1 => ?_)
  · have hw := hw.1 c1
    exact x_vret hC hS hlocks hr hw dd_G_add_61
  · have hw := hw.2 c1
    refine lv_iload_n hx hb dd_G_add_17 rfl (lv_at hl 0 rfl) ?_
    refine x_callSi hC hS (As := [.int (iI r1)]) (rest := []) cs_G_isRank (mt_G_isRank l X hC.2.2.1  r1 rr1 M hm_M _ _ hw) tb_53 rfl rfl ⟨Nat.le_of_ble_eq_true rfl, Nat.le_of_ble_eq_true rfl⟩ rfl hl.1 (Nat.le_of_ble_eq_true rfl) dd_G_add_18 ⟨Nat.le_refl _, Nat.le_refl _⟩ rfl (fun r18 Mx H locs rr18 hp hS => ?_)
    obtain ⟨hq, hw⟩ := hp
    rw [hq] at hS
    refine x_if_eq hC rr18 (tgt := 61) dd_G_add_21 (by decide) (fun c2 => ?_) (fun c2 => ?_)
    · have hw := hw.1 c2
      exact x_vret hC hS hlocks hr hw dd_G_add_61
    · have hw := hw.2 c2
      refine lv_aload_n hx hb dd_G_add_24 rfl (lv_at hl 1 rfl) ?_
      refine x_get hC hS hG0.1 rfl iw_G 4 (by decide) tb_70 rfl rfl dd_G_add_25 ?_
      refine lv_iload_n hx hb dd_G_add_28 rfl (lv_at hl 0 rfl) ?_
      refine x_iconst hC dd_G_add_29 ?_
      refine x_shr hC dd_G_add_30 ?_
      refine lv_dup2_11 hx hb dd_G_add_31 rfl rfl ?_
      obtain ⟨q3, hw⟩ := hw
      refine x_iald hC hS hG0.2.2.2 q3 dd_G_add_32 ?_
      refine x_nm (hm_M (g + 3) _) (fun z4 rz4 ez4 => ?_)
      have hw := hw z4 ez4
      refine x_iconst hC dd_G_add_33 ?_
      refine lv_iload_n hx hb dd_G_add_34 rfl (lv_at hl 0 rfl) ?_
      refine x_bipush hC dd_G_add_35 (by decide) ?_
      refine x_and hC dd_G_add_37 ?_
      refine x_shl hC dd_G_add_38 ?_
      refine x_or hC dd_G_add_39 ?_
      obtain ⟨q5, hw⟩ := hw
      refine x_iast hC hS hG0.2.2.2 q5 (rng _) dd_G_add_40 (fun H locs hS => ?_)
      obtain ⟨M_6, eM_6⟩ : ∃ Z : Mm, Z = ms M (g + 3) ((bShr r1 5)).toNat (bOr z4 (bShl 1 (bAnd r1 31))) := ⟨_, rfl⟩
      rw [← eM_6] at hS
      have hw := hw M_6 eM_6
      have hm_M_6 := hS.2.2.2
      refine lv_aload_n hx hb dd_G_add_41 rfl (lv_at hl 1 rfl) ?_
      refine x_get hC hS hG0.1 rfl iw_G 0 (by decide) tb_59 rfl rfl dd_G_add_42 ?_
      refine lv_aload_n hx hb dd_G_add_45 rfl (lv_at hl 1 rfl) ?_
      refine x_get hC hS hG0.1 rfl iw_G 1 (by decide) tb_63 rfl rfl dd_G_add_46 ?_
      refine lv_iload_n hx hb dd_G_add_49 rfl (lv_at hl 2 rfl) ?_
      obtain ⟨q7, hw⟩ := hw
      refine x_iast hC hS hG0.2.1 q7 ra1 dd_G_add_50 (fun H locs hS => ?_)
      obtain ⟨M_8, eM_8⟩ : ∃ Z : Mm, Z = ms M_6 (g + 1) ((M_6 g 1)).toNat a1 := ⟨_, rfl⟩
      rw [← eM_8] at hS
      have hw := hw M_8 eM_8
      have hm_M_8 := hS.2.2.2
      refine lv_aload_n hx hb dd_G_add_51 rfl (lv_at hl 1 rfl) ?_
      refine lv_dup hx hb dd_G_add_52 rfl ?_
      refine x_get hC hS hG0.1 rfl iw_G 1 (by decide) tb_63 rfl rfl dd_G_add_53 ?_
      refine x_iconst hC dd_G_add_56 ?_
      obtain ⟨q9, hw⟩ := hw
      refine x_add hC dd_G_add_57 ?_
      refine x_put hC hS hG0.1 rfl iw_G fy_G fk_G fn_G 1 (by decide) tb_63 rfl q9 rfl rfl (ps_G_1 _ _ _ _) (Nat.le_of_ble_eq_true rfl) dd_G_add_58 (fun H locs hS => ?_)
      obtain ⟨M_10, eM_10⟩ : ∃ Z : Mm, Z = ms M_8 g 1 ((M_8 g 1) + 1) := ⟨_, rfl⟩
      rw [← eM_10] at hS
      have hw := hw M_10 eM_10
      have hm_M_10 := hS.2.2.2
      exact x_vret hC hS hlocks hr hw dd_G_add_61
def wp_G_makeStill (g : Nat) (M : Mm) (post : Mm → Prop) : Prop :=
  ∃ I2 : Nat → Int → Mm → Prop, (∃ n, I2 n 0 M) ∧ ∀ (n2 : Nat) (x1_2 : Int) (M2 : Mm), I2 n2 x1_2 M2 →
    ((158 ≤ x1_2 → ∀ M_2 : Mm, M_2 = ms M2 g 3 0 → ∀ M_3 : Mm, M_3 = ms M_2 g 1 0 → wp_G_add g 42798 M_3 (fun (M_4 : Mm) => post M_4)) ∧
      (¬ 158 ≤ x1_2 → (0 ≤ x1_2 ∧ x1_2 < 158) ∧ ∀ M_6 : Mm, M_6 = ms M2 (g + 3) (x1_2).toNat 0 → inR (x1_2 + 1) ∧ ∀ v1_18 : Int, v1_18 = x1_2 + 1 → ∃ k_7, k_7 < n2 ∧ I2 k_7 v1_18 M_6))
set_option maxHeartbeats 4000000 in
set_option maxRecDepth 100000 in
theorem mt_G_makeStill (l : Launch) (X : Xw) (hlc : lcl X) (g : Nat) (hG0 : IsG X g) (M : Mm) (hm_M : mr M) (post : Mm → Prop) (sz : Nat) (hw : wp_G_makeStill g M post) : Met l yy_G_makeStill (Cond.code yy_G_makeStill bc_G_makeStill 2 none :: tg) ({ frames := 3, cells := 0, slots := 0, locals := 68 } : Room) (Pw X [.ref (xA X g)] M sz) (Qv X sz post) 0 0 (xF X sz) := by
  unfold wp_G_makeStill at hw
  refine x_enter (by decide) hlc hm_M (Nat.le_of_ble_eq_true rfl) ?_
  intro p e s m below meth c ls hC hsz hr hlocks hS hl
  have hx := hC.1.1
  have hb := hC.1.2.1
  have hl : lv_has ls 2 [(0, .ref (xA X g))] := hl
  refine x_iconst hC dd_G_makeStill_0 ?_
  refine lv_istore_n (lv' := [(1, .int (iI 0)), (0, .ref (xA X g))]) hx hb dd_G_makeStill_1 rfl hl (by decide) rfl (fun ls hl => ?_)
  obtain ⟨I2, ⟨n0, hI⟩, hstep_I2⟩ := hw
  have lp_I2 : ∀ (n2 : Nat) (x1_2 : Int) (M2 : Mm) (H : Heap) (locs : List Loc) (ls : Array Slot), I2 n2 x1_2 M2 → inR x1_2 → St X (xF X sz) s M2 H locs → lv_has ls 2 [(0, .ref (xA X g)), (1, .int (iI x1_2))] → W p l e ({ frames := 3, cells := 0, slots := 0, locals := 68 } : Room) s m ([.ref (xA X g)] : List Value).toArray below meth c H locs 0 0 (MQ below (Qv X sz post) ([.ref (xA X g)] : List Value).toArray s 0 0 (xF X sz)) (F0 m 2 ls []) := by
    intro n2
    induction n2 using Nat.strongRecOn with
    | _ n2 ih_I2 =>
      intro x1_2 M2 H locs ls hI rx1_2 hS hl
      have hw := hstep_I2 n2 x1_2 M2 hI
      have hm_M2 := hS.2.2.2
      refine lv_iload_n hx hb dd_G_makeStill_2 rfl (lv_at hl 1 rfl) ?_
      refine lv_aload_n hx hb dd_G_makeStill_3 rfl (lv_at hl 0 rfl) ?_
      refine x_get hC hS hG0.1 rfl iw_G 4 (by decide) tb_70 rfl rfl dd_G_makeStill_4 ?_
      refine x_alen hC hS (z := 158) hG0.2.2.2 rfl dd_G_makeStill_7 ?_
      refine x_icmp_ge hC rx1_2 (rk rfl) (tgt := 24) dd_G_makeStill_8 (by decide) (fun c1 => ?_) (fun c1 => ?_)
      · have hw := hw.1 c1
        refine lv_aload_n hx hb dd_G_makeStill_24 rfl (lv_at hl 0 rfl) ?_
        refine x_iconst hC dd_G_makeStill_25 ?_
        refine x_put hC hS hG0.1 rfl iw_G fy_G fk_G fn_G 3 (by decide) tb_68 rfl (rk rfl) rfl rfl (ps_G_3 _ _ _ _) (Nat.le_of_ble_eq_true rfl) dd_G_makeStill_26 (fun H locs hS => ?_)
        obtain ⟨M_2, eM_2⟩ : ∃ Z : Mm, Z = ms M2 g 3 0 := ⟨_, rfl⟩
        rw [← eM_2] at hS
        have hw := hw M_2 eM_2
        have hm_M_2 := hS.2.2.2
        refine lv_aload_n hx hb dd_G_makeStill_29 rfl (lv_at hl 0 rfl) ?_
        refine x_iconst hC dd_G_makeStill_30 ?_
        refine x_put hC hS hG0.1 rfl iw_G fy_G fk_G fn_G 1 (by decide) tb_63 rfl (rk rfl) rfl rfl (ps_G_1 _ _ _ _) (Nat.le_of_ble_eq_true rfl) dd_G_makeStill_31 (fun H locs hS => ?_)
        obtain ⟨M_3, eM_3⟩ : ∃ Z : Mm, Z = ms M_2 g 1 0 := ⟨_, rfl⟩
        rw [← eM_3] at hS
        have hw := hw M_3 eM_3
        have hm_M_3 := hS.2.2.2
        refine lv_aload_n hx hb dd_G_makeStill_34 rfl (lv_at hl 0 rfl) ?_
        refine x_ldc hC (n := 42798) tb_36 (by decide) dd_G_makeStill_35 ?_
        refine x_callVv hC hS (As := [.int (iI 42798)]) (rest := []) hG0.1 rfl cv_G_add (mt_G_add l X hC.2.2.1 g hG0 42798 (rk rfl) M_3 hm_M_3 _ _ hw) tb_37 rfl rfl ⟨Nat.le_of_ble_eq_true rfl, Nat.le_of_ble_eq_true rfl⟩ rfl hl.1 (Nat.le_of_ble_eq_true rfl) dd_G_makeStill_37 ⟨Nat.le_refl _, Nat.le_refl _⟩ rfl (fun M_4 H locs hw hS => ?_)
        have hm_M_4 := hS.2.2.2
        exact x_vret hC hS hlocks hr hw dd_G_makeStill_40
      · have hw := hw.2 c1
        refine lv_aload_n hx hb dd_G_makeStill_11 rfl (lv_at hl 0 rfl) ?_
        refine x_get hC hS hG0.1 rfl iw_G 4 (by decide) tb_70 rfl rfl dd_G_makeStill_12 ?_
        refine lv_iload_n hx hb dd_G_makeStill_15 rfl (lv_at hl 1 rfl) ?_
        refine x_iconst hC dd_G_makeStill_16 ?_
        obtain ⟨q5, hw⟩ := hw
        refine x_iast hC hS hG0.2.2.2 q5 (rk rfl) dd_G_makeStill_17 (fun H locs hS => ?_)
        obtain ⟨M_6, eM_6⟩ : ∃ Z : Mm, Z = ms M2 (g + 3) (x1_2).toNat 0 := ⟨_, rfl⟩
        rw [← eM_6] at hS
        have hw := hw M_6 eM_6
        have hm_M_6 := hS.2.2.2
        obtain ⟨hr_, hw⟩ := hw
        obtain ⟨v1_18, rv1_18, ev1_18⟩ : ∃ z : Int, inR z ∧ z = x1_2 + 1 := ⟨_, hr_, rfl⟩
        have hw := hw v1_18 ev1_18
        refine lv_iinc (v := iI v1_18) (lv' := [(1, .int (iI v1_18)), (0, .ref (xA X g))]) hx hb dd_G_makeStill_18 hl (k := 1) rfl (by rw [ev1_18]; exact iI_add _ _) (by decide) rfl (fun ls hl => ?_)
        refine lv_goto (tgt := 2) hx hb dd_G_makeStill_21 (by decide) ?_
        obtain ⟨k_7, h8, hI⟩ := hw
        exact ih_I2 k_7 h8 v1_18 M_6 _ _ _ hI rv1_18 hS (lv_sub hl [1, 0] rfl)
  exact lp_I2 n0 0 M _ _ _ hI (rk rfl) hS (lv_sub hl [1, 0] rfl)
def wp_G_copyFrom (g : Nat) (g1 : Nat) (M : Mm) (post : Mm → Prop) : Prop :=
  (0 ≤ (0 : Int) ∧ 0 ≤ (0 : Int) ∧ 0 ≤ (5040 : Int) ∧ (0 : Int) + (5040 : Int) ≤ 5040 ∧ (0 : Int) + (5040 : Int) ≤ 5040) ∧ ∀ M_1 : Mm, M_1 = mc M (g1 + 1) ((0 : Int)).toNat (g + 1) ((0 : Int)).toNat ((5040 : Int)).toNat → ∀ M_3 : Mm, M_3 = ms M_1 g 1 (M_1 g1 1) → (0 ≤ (0 : Int) ∧ 0 ≤ (0 : Int) ∧ 0 ≤ (12 : Int) ∧ (0 : Int) + (12 : Int) ≤ 12 ∧ (0 : Int) + (12 : Int) ≤ 12) ∧ ∀ M_4 : Mm, M_4 = mc M_3 (g1 + 2) ((0 : Int)).toNat (g + 2) ((0 : Int)).toNat ((12 : Int)).toNat → ∀ M_6 : Mm, M_6 = ms M_4 g 3 (M_4 g1 3) → (0 ≤ (0 : Int) ∧ 0 ≤ (0 : Int) ∧ 0 ≤ (158 : Int) ∧ (0 : Int) + (158 : Int) ≤ 158 ∧ (0 : Int) + (158 : Int) ≤ 158) ∧ ∀ M_7 : Mm, M_7 = mc M_6 (g1 + 3) ((0 : Int)).toNat (g + 3) ((0 : Int)).toNat ((158 : Int)).toNat → post M_7
set_option maxHeartbeats 4000000 in
set_option maxRecDepth 100000 in
theorem mt_G_copyFrom (l : Launch) (X : Xw) (hlc : lcl X) (g : Nat)  (g1 : Nat) (hG0 : IsG X g) (hg1 : IsG X g1) (M : Mm) (hm_M : mr M) (post : Mm → Prop) (sz : Nat) (hw : wp_G_copyFrom g g1 M post) : Met l yy_G_copyFrom (Cond.code yy_G_copyFrom bc_G_copyFrom 2 none :: tg) ({ frames := 1, cells := 0, slots := 0, locals := 26 } : Room) (Pw X [.ref (xA X g), .ref (xA X g1)] M sz) (Qv X sz post) 0 0 (xF X sz) := by
  unfold wp_G_copyFrom at hw
  refine x_enter (by decide) hlc hm_M (Nat.le_of_ble_eq_true rfl) ?_
  intro p e s m below meth c ls hC hsz hr hlocks hS hl
  have hx := hC.1.1
  have hb := hC.1.2.1
  have hl : lv_has ls 2 [(0, .ref (xA X g)), (1, .ref (xA X g1))] := hl
  refine lv_aload_n hx hb dd_G_copyFrom_0 rfl (lv_at hl 1 rfl) ?_
  refine x_get hC hS hg1.1 rfl iw_G 0 (by decide) tb_59 rfl rfl dd_G_copyFrom_1 ?_
  refine x_iconst hC dd_G_copyFrom_4 ?_
  refine lv_aload_n hx hb dd_G_copyFrom_5 rfl (lv_at hl 0 rfl) ?_
  refine x_get hC hS hG0.1 rfl iw_G 0 (by decide) tb_59 rfl rfl dd_G_copyFrom_6 ?_
  refine x_iconst hC dd_G_copyFrom_9 ?_
  refine lv_aload_n hx hb dd_G_copyFrom_10 rfl (lv_at hl 0 rfl) ?_
  refine x_get hC hS hG0.1 rfl iw_G 0 (by decide) tb_59 rfl rfl dd_G_copyFrom_11 ?_
  refine x_alen hC hS (z := 5040) hG0.2.1 rfl dd_G_copyFrom_14 ?_
  obtain ⟨q2, hw⟩ := hw
  refine x_copy hC hS hg1.2.1 hG0.2.1 q2.1 q2.2.1 q2.2.2.1 q2.2.2.2.1 q2.2.2.2.2 hl.1 tb_467 tb_462 tb_461 tb_11 (Nat.le_of_ble_eq_true rfl) (Nat.le_of_ble_eq_true rfl) dd_G_copyFrom_15 (fun H locs hS => ?_)
  obtain ⟨M_1, eM_1⟩ : ∃ Z : Mm, Z = mc M (g1 + 1) ((0 : Int)).toNat (g + 1) ((0 : Int)).toNat ((5040 : Int)).toNat := ⟨_, rfl⟩
  rw [← eM_1] at hS
  have hw := hw M_1 eM_1
  have hm_M_1 := hS.2.2.2
  refine lv_aload_n hx hb dd_G_copyFrom_18 rfl (lv_at hl 0 rfl) ?_
  refine lv_aload_n hx hb dd_G_copyFrom_19 rfl (lv_at hl 1 rfl) ?_
  refine x_get hC hS hg1.1 rfl iw_G 1 (by decide) tb_63 rfl rfl dd_G_copyFrom_20 ?_
  refine x_put hC hS hG0.1 rfl iw_G fy_G fk_G fn_G 1 (by decide) tb_63 rfl (hm_M_1 g1 1) rfl rfl (ps_G_1 _ _ _ _) (Nat.le_of_ble_eq_true rfl) dd_G_copyFrom_23 (fun H locs hS => ?_)
  obtain ⟨M_3, eM_3⟩ : ∃ Z : Mm, Z = ms M_1 g 1 (M_1 g1 1) := ⟨_, rfl⟩
  rw [← eM_3] at hS
  have hw := hw M_3 eM_3
  have hm_M_3 := hS.2.2.2
  refine lv_aload_n hx hb dd_G_copyFrom_26 rfl (lv_at hl 1 rfl) ?_
  refine x_get hC hS hg1.1 rfl iw_G 2 (by decide) tb_66 rfl rfl dd_G_copyFrom_27 ?_
  refine x_iconst hC dd_G_copyFrom_30 ?_
  refine lv_aload_n hx hb dd_G_copyFrom_31 rfl (lv_at hl 0 rfl) ?_
  refine x_get hC hS hG0.1 rfl iw_G 2 (by decide) tb_66 rfl rfl dd_G_copyFrom_32 ?_
  refine x_iconst hC dd_G_copyFrom_35 ?_
  refine lv_aload_n hx hb dd_G_copyFrom_36 rfl (lv_at hl 0 rfl) ?_
  refine x_get hC hS hG0.1 rfl iw_G 2 (by decide) tb_66 rfl rfl dd_G_copyFrom_37 ?_
  refine x_alen hC hS (z := 12) hG0.2.2.1 rfl dd_G_copyFrom_40 ?_
  obtain ⟨q5, hw⟩ := hw
  refine x_copy hC hS hg1.2.2.1 hG0.2.2.1 q5.1 q5.2.1 q5.2.2.1 q5.2.2.2.1 q5.2.2.2.2 hl.1 tb_467 tb_462 tb_461 tb_11 (Nat.le_of_ble_eq_true rfl) (Nat.le_of_ble_eq_true rfl) dd_G_copyFrom_41 (fun H locs hS => ?_)
  obtain ⟨M_4, eM_4⟩ : ∃ Z : Mm, Z = mc M_3 (g1 + 2) ((0 : Int)).toNat (g + 2) ((0 : Int)).toNat ((12 : Int)).toNat := ⟨_, rfl⟩
  rw [← eM_4] at hS
  have hw := hw M_4 eM_4
  have hm_M_4 := hS.2.2.2
  refine lv_aload_n hx hb dd_G_copyFrom_44 rfl (lv_at hl 0 rfl) ?_
  refine lv_aload_n hx hb dd_G_copyFrom_45 rfl (lv_at hl 1 rfl) ?_
  refine x_get hC hS hg1.1 rfl iw_G 3 (by decide) tb_68 rfl rfl dd_G_copyFrom_46 ?_
  refine x_put hC hS hG0.1 rfl iw_G fy_G fk_G fn_G 3 (by decide) tb_68 rfl (hm_M_4 g1 3) rfl rfl (ps_G_3 _ _ _ _) (Nat.le_of_ble_eq_true rfl) dd_G_copyFrom_49 (fun H locs hS => ?_)
  obtain ⟨M_6, eM_6⟩ : ∃ Z : Mm, Z = ms M_4 g 3 (M_4 g1 3) := ⟨_, rfl⟩
  rw [← eM_6] at hS
  have hw := hw M_6 eM_6
  have hm_M_6 := hS.2.2.2
  refine lv_aload_n hx hb dd_G_copyFrom_52 rfl (lv_at hl 1 rfl) ?_
  refine x_get hC hS hg1.1 rfl iw_G 4 (by decide) tb_70 rfl rfl dd_G_copyFrom_53 ?_
  refine x_iconst hC dd_G_copyFrom_56 ?_
  refine lv_aload_n hx hb dd_G_copyFrom_57 rfl (lv_at hl 0 rfl) ?_
  refine x_get hC hS hG0.1 rfl iw_G 4 (by decide) tb_70 rfl rfl dd_G_copyFrom_58 ?_
  refine x_iconst hC dd_G_copyFrom_61 ?_
  refine lv_aload_n hx hb dd_G_copyFrom_62 rfl (lv_at hl 0 rfl) ?_
  refine x_get hC hS hG0.1 rfl iw_G 4 (by decide) tb_70 rfl rfl dd_G_copyFrom_63 ?_
  refine x_alen hC hS (z := 158) hG0.2.2.2 rfl dd_G_copyFrom_66 ?_
  obtain ⟨q8, hw⟩ := hw
  refine x_copy hC hS hg1.2.2.2 hG0.2.2.2 q8.1 q8.2.1 q8.2.2.1 q8.2.2.2.1 q8.2.2.2.2 hl.1 tb_467 tb_462 tb_461 tb_11 (Nat.le_of_ble_eq_true rfl) (Nat.le_of_ble_eq_true rfl) dd_G_copyFrom_67 (fun H locs hS => ?_)
  obtain ⟨M_7, eM_7⟩ : ∃ Z : Mm, Z = mc M_6 (g1 + 3) ((0 : Int)).toNat (g + 3) ((0 : Int)).toNat ((158 : Int)).toNat := ⟨_, rfl⟩
  rw [← eM_7] at hS
  have hw := hw M_7 eM_7
  have hm_M_7 := hS.2.2.2
  exact x_vret hC hS hlocks hr hw dd_G_copyFrom_70
def wp_G_has (g : Nat) (a1 : Int) (M : Mm) (post : Int → Prop) : Prop :=
  wp_U_rank a1 (fun (r1 : Int) => wp_G_isRank r1 (fun (r6 : Int) => (r6 = 0 → post 0) ∧
  (¬ r6 = 0 → (0 ≤ (bShr r1 5) ∧ (bShr r1 5) < 158) ∧ ∀ z3 : Int, z3 = M (g + 3) ((bShr r1 5)).toNat → (¬ (bAnd (bShr z3 (bAnd r1 31)) 1) = 1 → post 0) ∧
    ((bAnd (bShr z3 (bAnd r1 31)) 1) = 1 → post 1))))
set_option maxHeartbeats 4000000 in
set_option maxRecDepth 100000 in
theorem mt_G_has (l : Launch) (X : Xw) (hlc : lcl X) (g : Nat) (hG0 : IsG X g) (a1 : Int) (ra1 : inR a1) (M : Mm) (hm_M : mr M) (post : Int → Prop) (sz : Nat) (hw : wp_G_has g a1 M post) : Met l yy_G_has (Cond.code yy_G_has bc_G_has 3 (some .boolean) :: tg) ({ frames := 2, cells := 0, slots := 0, locals := 46 } : Room) (Pw X [.ref (xA X g), .int (iI a1)] M sz) (Qi X sz (fun r M1 => M1 = M ∧ post r)) 0 0 (xF X sz) := by
  unfold wp_G_has at hw
  refine x_enter (by decide) hlc hm_M (Nat.le_of_ble_eq_true rfl) ?_
  intro p e s m below meth c ls hC hsz hr hlocks hS hl
  have hx := hC.1.1
  have hb := hC.1.2.1
  have hl : lv_has ls 3 [(0, .ref (xA X g)), (1, .int (iI a1))] := hl
  refine lv_iload_n hx hb dd_G_has_0 rfl (lv_at hl 1 rfl) ?_
  refine x_callSi hC hS (As := [.int (iI a1)]) (rest := []) cs_U_rank (mt_U_rank l X hC.2.2.1  a1 ra1 M hm_M _ _ hw) tb_41 rfl rfl ⟨Nat.le_of_ble_eq_true rfl, Nat.le_of_ble_eq_true rfl⟩ rfl hl.1 (Nat.le_of_ble_eq_true rfl) dd_G_has_1 ⟨Nat.le_refl _, Nat.le_refl _⟩ rfl (fun r1 Mx H locs rr1 hp hS => ?_)
  obtain ⟨hq, hw⟩ := hp
  rw [hq] at hS
  refine lv_istore_n (lv' := [(2, .int (iI r1)), (0, .ref (xA X g)), (1, .int (iI a1))]) hx hb dd_G_has_4 rfl hl (by decide) rfl (fun ls hl => ?_)
  refine lv_iload_n hx hb dd_G_has_5 rfl (lv_at hl 0 rfl) ?_
  refine x_callSi hC hS (As := [.int (iI r1)]) (rest := []) cs_G_isRank (mt_G_isRank l X hC.2.2.1  r1 rr1 M hm_M _ _ hw) tb_53 rfl rfl ⟨Nat.le_of_ble_eq_true rfl, Nat.le_of_ble_eq_true rfl⟩ rfl hl.1 (Nat.le_of_ble_eq_true rfl) dd_G_has_6 ⟨Nat.le_refl _, Nat.le_refl _⟩ rfl (fun r6 Mx H locs rr6 hp hS => ?_)
  obtain ⟨hq, hw⟩ := hp
  rw [hq] at hS
  refine x_if_eq hC rr6 (tgt := 35) dd_G_has_9 (by decide) (fun c1 => ?_) (fun c1 => ?_)
  · have hw := hw.1 c1
    refine x_iconst hC dd_G_has_35 ?_
    exact x_zret hC hS hlocks hr (Or.inl rfl) ⟨rfl, hw⟩ dd_G_has_36
  · have hw := hw.2 c1
    refine lv_aload_n hx hb dd_G_has_12 rfl (lv_at hl 1 rfl) ?_
    refine x_get hC hS hG0.1 rfl iw_G 4 (by decide) tb_70 rfl rfl dd_G_has_13 ?_
    refine lv_iload_n hx hb dd_G_has_16 rfl (lv_at hl 0 rfl) ?_
    refine x_iconst hC dd_G_has_17 ?_
    refine x_shr hC dd_G_has_18 ?_
    obtain ⟨q2, hw⟩ := hw
    refine x_iald hC hS hG0.2.2.2 q2 dd_G_has_19 ?_
    refine x_nm (hm_M (g + 3) _) (fun z3 rz3 ez3 => ?_)
    have hw := hw z3 ez3
    refine lv_iload_n hx hb dd_G_has_20 rfl (lv_at hl 0 rfl) ?_
    refine x_bipush hC dd_G_has_21 (by decide) ?_
    refine x_and hC dd_G_has_23 ?_
    refine x_shr hC dd_G_has_24 ?_
    refine x_iconst hC dd_G_has_25 ?_
    refine x_and hC dd_G_has_26 ?_
    refine x_iconst hC dd_G_has_27 ?_
    refine x_icmp_ne hC (rng _) (rk rfl) (tgt := 35) dd_G_has_28 (by decide) (fun c4 => ?_) (fun c4 => ?_)
    · have hw := hw.1 c4
      refine x_iconst hC dd_G_has_35 ?_
      exact x_zret hC hS hlocks hr (Or.inl rfl) ⟨rfl, hw⟩ dd_G_has_36
    · have hw := hw.2 c4
      refine x_iconst hC dd_G_has_31 ?_
      refine lv_goto (tgt := 36) hx hb dd_G_has_32 (by decide) ?_
      exact x_zret hC hS hlocks hr (Or.inr rfl) ⟨rfl, hw⟩ dd_G_has_36
def wp_G_addCopy (g : Nat) (a1 : Int) (a2 : Int) (M : Mm) (post : Mm → Prop) : Prop :=
  ∃ I2 : Nat → Int → Mm → Prop, (∃ n, I2 n 0 M) ∧ ∀ (n2 : Nat) (x3_2 : Int) (M2 : Mm), I2 n2 x3_2 M2 →
    ((a1 ≤ x3_2 → post M2) ∧
      (¬ a1 ≤ x3_2 → (0 ≤ x3_2 ∧ x3_2 < 5040) ∧ ∀ z3 : Int, z3 = M2 (g + 1) (x3_2).toNat → wp_U_oneThenOther z3 a2 (fun (r15 : Int) => wp_G_add g r15 M2 (fun (M_4 : Mm) => inR (x3_2 + 1) ∧ ∀ v3_21 : Int, v3_21 = x3_2 + 1 → ∃ k_5, k_5 < n2 ∧ I2 k_5 v3_21 M_4))))
set_option maxHeartbeats 4000000 in
set_option maxRecDepth 100000 in
theorem mt_G_addCopy (l : Launch) (X : Xw) (hlc : lcl X) (g : Nat) (hG0 : IsG X g) (a1 : Int) (ra1 : inR a1) (a2 : Int) (ra2 : inR a2) (M : Mm) (hm_M : mr M) (post : Mm → Prop) (sz : Nat) (hw : wp_G_addCopy g a1 a2 M post) : Met l yy_G_addCopy (Cond.code yy_G_addCopy bc_G_addCopy 4 none :: tg) ({ frames := 3, cells := 0, slots := 0, locals := 68 } : Room) (Pw X [.ref (xA X g), .int (iI a1), .int (iI a2)] M sz) (Qv X sz post) 0 0 (xF X sz) := by
  unfold wp_G_addCopy at hw
  refine x_enter (by decide) hlc hm_M (Nat.le_of_ble_eq_true rfl) ?_
  intro p e s m below meth c ls hC hsz hr hlocks hS hl
  have hx := hC.1.1
  have hb := hC.1.2.1
  have hl : lv_has ls 4 [(0, .ref (xA X g)), (1, .int (iI a1)), (2, .int (iI a2))] := hl
  refine x_iconst hC dd_G_addCopy_0 ?_
  refine lv_istore_n (lv' := [(3, .int (iI 0)), (0, .ref (xA X g)), (1, .int (iI a1)), (2, .int (iI a2))]) hx hb dd_G_addCopy_1 rfl hl (by decide) rfl (fun ls hl => ?_)
  obtain ⟨I2, ⟨n0, hI⟩, hstep_I2⟩ := hw
  have lp_I2 : ∀ (n2 : Nat) (x3_2 : Int) (M2 : Mm) (H : Heap) (locs : List Loc) (ls : Array Slot), I2 n2 x3_2 M2 → inR x3_2 → St X (xF X sz) s M2 H locs → lv_has ls 4 [(0, .ref (xA X g)), (1, .int (iI a1)), (2, .int (iI a2)), (3, .int (iI x3_2))] → W p l e ({ frames := 3, cells := 0, slots := 0, locals := 68 } : Room) s m ([.ref (xA X g), .int (iI a1), .int (iI a2)] : List Value).toArray below meth c H locs 0 0 (MQ below (Qv X sz post) ([.ref (xA X g), .int (iI a1), .int (iI a2)] : List Value).toArray s 0 0 (xF X sz)) (F0 m 2 ls []) := by
    intro n2
    induction n2 using Nat.strongRecOn with
    | _ n2 ih_I2 =>
      intro x3_2 M2 H locs ls hI rx3_2 hS hl
      have hw := hstep_I2 n2 x3_2 M2 hI
      have hm_M2 := hS.2.2.2
      refine lv_iload_n hx hb dd_G_addCopy_2 rfl (lv_at hl 3 rfl) ?_
      refine lv_iload_n hx hb dd_G_addCopy_3 rfl (lv_at hl 1 rfl) ?_
      refine x_icmp_ge hC rx3_2 ra1 (tgt := 27) dd_G_addCopy_4 (by decide) (fun c1 => ?_) (fun c1 => ?_)
      · have hw := hw.1 c1
        exact x_vret hC hS hlocks hr hw dd_G_addCopy_27
      · have hw := hw.2 c1
        refine lv_aload_n hx hb dd_G_addCopy_7 rfl (lv_at hl 0 rfl) ?_
        refine lv_aload_n hx hb dd_G_addCopy_8 rfl (lv_at hl 0 rfl) ?_
        refine x_get hC hS hG0.1 rfl iw_G 0 (by decide) tb_59 rfl rfl dd_G_addCopy_9 ?_
        refine lv_iload_n hx hb dd_G_addCopy_12 rfl (lv_at hl 3 rfl) ?_
        obtain ⟨q2, hw⟩ := hw
        refine x_iald hC hS hG0.2.1 q2 dd_G_addCopy_13 ?_
        refine x_nm (hm_M2 (g + 1) _) (fun z3 rz3 ez3 => ?_)
        have hw := hw z3 ez3
        refine lv_iload_n hx hb dd_G_addCopy_14 rfl (lv_at hl 2 rfl) ?_
        refine x_callSi hC hS (As := [.int (iI z3), .int (iI a2)]) (rest := [.ref (xA X g)]) cs_U_oneThenOther (mt_U_oneThenOther l X hC.2.2.1  z3 rz3 a2 ra2 M2 hm_M2 _ _ hw) tb_242 rfl rfl ⟨Nat.le_of_ble_eq_true rfl, Nat.le_of_ble_eq_true rfl⟩ rfl hl.1 (Nat.le_of_ble_eq_true rfl) dd_G_addCopy_15 ⟨Nat.le_refl _, Nat.le_refl _⟩ rfl (fun r15 Mx H locs rr15 hp hS => ?_)
        obtain ⟨hq, hw⟩ := hp
        rw [hq] at hS
        refine x_callVv hC hS (As := [.int (iI r15)]) (rest := []) hG0.1 rfl cv_G_add (mt_G_add l X hC.2.2.1 g hG0 r15 rr15 M2 hm_M2 _ _ hw) tb_37 rfl rfl ⟨Nat.le_of_ble_eq_true rfl, Nat.le_of_ble_eq_true rfl⟩ rfl hl.1 (Nat.le_of_ble_eq_true rfl) dd_G_addCopy_18 ⟨Nat.le_refl _, Nat.le_refl _⟩ rfl (fun M_4 H locs hw hS => ?_)
        have hm_M_4 := hS.2.2.2
        obtain ⟨hr_, hw⟩ := hw
        obtain ⟨v3_21, rv3_21, ev3_21⟩ : ∃ z : Int, inR z ∧ z = x3_2 + 1 := ⟨_, hr_, rfl⟩
        have hw := hw v3_21 ev3_21
        refine lv_iinc (v := iI v3_21) (lv' := [(3, .int (iI v3_21)), (0, .ref (xA X g)), (1, .int (iI a1)), (2, .int (iI a2))]) hx hb dd_G_addCopy_21 hl (k := 3) rfl (by rw [ev3_21]; exact iI_add _ _) (by decide) rfl (fun ls hl => ?_)
        refine lv_goto (tgt := 2) hx hb dd_G_addCopy_24 (by decide) ?_
        obtain ⟨k_5, h6, hI⟩ := hw
        exact ih_I2 k_5 h6 v3_21 M_4 _ _ _ hI rv3_21 hS (lv_sub hl [1, 2, 3, 0] rfl)
  exact lp_I2 n0 0 M _ _ _ hI (rk rfl) hS (lv_sub hl [1, 2, 3, 0] rfl)
def wp_G_widen (g : Nat) (a1 : Int) (M : Mm) (post : Mm → Prop) : Prop :=
  wp_G_has g a1 M (fun (r2 : Int) => (¬ r2 = 0 → post M) ∧
  (r2 = 0 → ((M g 3) < 12 → (0 ≤ (M g 3) ∧ (M g 3) < 12) ∧ ∀ M_4 : Mm, M_4 = ms M (g + 2) ((M g 3)).toNat a1 → inR ((M_4 g 3) + 1) ∧ ∀ M_6 : Mm, M_6 = ms M_4 g 3 ((M_4 g 3) + 1) → ∀ v2_45 : Int, v2_45 = (M_6 g 1) → wp_G_addCopy g v2_45 a1 M_6 (fun (M_7 : Mm) => ∃ I54 : Nat → Int → Mm → Prop, (∃ n, I54 n 1 M_7) ∧ ∀ (n54 : Nat) (x3_54 : Int) (M54 : Mm), I54 n54 x3_54 M54 →
        ((5040 ≤ x3_54 → post M54) ∧
          (¬ 5040 ≤ x3_54 → inR (x3_54 * v2_45) ∧ ((M54 g 1) ≤ (x3_54 * v2_45) → post M54) ∧
            (¬ (M54 g 1) ≤ (x3_54 * v2_45) → ∃ I74 : Nat → Int → Mm → Prop, (∃ n, I74 n 0 M54) ∧ ∀ (n74 : Nat) (x4_74 : Int) (M74 : Mm), I74 n74 x4_74 M74 →
                (((M74 g 3) ≤ x4_74 → inR (x3_54 + 1) ∧ ∀ v3_125 : Int, v3_125 = x3_54 + 1 → ∃ k_12, k_12 < n54 ∧ I54 k_12 v3_125 M74) ∧
                  (¬ (M74 g 3) ≤ x4_74 → inR (x3_54 * v2_45) ∧ (0 ≤ (x3_54 * v2_45) ∧ (x3_54 * v2_45) < 5040) ∧ ∀ z16 : Int, z16 = M74 (g + 1) ((x3_54 * v2_45)).toNat → (0 ≤ x4_74 ∧ x4_74 < 12) ∧ ∀ z18 : Int, z18 = M74 (g + 2) (x4_74).toNat → wp_U_oneThenOther z16 z18 (fun (r98 : Int) => wp_G_has g r98 M74 (fun (r106 : Int) => ∀ K119 : Mm → Prop, (∀ (M119 : Mm), (inR (x4_74 + 1) ∧ ∀ v4_119 : Int, v4_119 = x4_74 + 1 → ∃ k_19, k_19 < n74 ∧ I74 k_19 v4_119 M119) →
                      K119 M119) →
                    ((¬ r106 = 0 → K119 M74) ∧
                    (r106 = 0 → wp_G_addCopy g v2_45 r98 M74 (fun (M_22 : Mm) => K119 M_22)))))))))))) ∧
    (¬ (M g 3) < 12 → post M)))
set_option maxHeartbeats 4000000 in
set_option maxRecDepth 100000 in
theorem mt_G_widen (l : Launch) (X : Xw) (hlc : lcl X) (g : Nat) (hG0 : IsG X g) (a1 : Int) (ra1 : inR a1) (M : Mm) (hm_M : mr M) (post : Mm → Prop) (sz : Nat) (hw : wp_G_widen g a1 M post) : Met l yy_G_widen (Cond.code yy_G_widen bc_G_widen 6 none :: tg) ({ frames := 4, cells := 0, slots := 0, locals := 91 } : Room) (Pw X [.ref (xA X g), .int (iI a1)] M sz) (Qv X sz post) 0 0 (xF X sz) := by
  unfold wp_G_widen at hw
  refine x_enter (by decide) hlc hm_M (Nat.le_of_ble_eq_true rfl) ?_
  intro p e s m below meth c ls hC hsz hr hlocks hS hl
  have hx := hC.1.1
  have hb := hC.1.2.1
  have hl : lv_has ls 6 [(0, .ref (xA X g)), (1, .int (iI a1))] := hl
  refine lv_aload_n hx hb dd_G_widen_0 rfl (lv_at hl 0 rfl) ?_
  refine lv_iload_n hx hb dd_G_widen_1 rfl (lv_at hl 1 rfl) ?_
  refine x_callVi hC hS (As := [.int (iI a1)]) (rest := []) hG0.1 rfl cv_G_has (mt_G_has l X hC.2.2.1 g hG0 a1 ra1 M hm_M _ _ hw) tb_234 rfl rfl ⟨Nat.le_of_ble_eq_true rfl, Nat.le_of_ble_eq_true rfl⟩ rfl hl.1 (Nat.le_of_ble_eq_true rfl) dd_G_widen_2 ⟨Nat.le_refl _, Nat.le_refl _⟩ rfl (fun r2 Mx H locs rr2 hp hS => ?_)
  obtain ⟨hq, hw⟩ := hp
  rw [hq] at hS
  refine x_if_ne hC rr2 (tgt := 20) dd_G_widen_5 (by decide) (fun c1 => ?_) (fun c1 => ?_)
  · have hw := hw.1 c1
    exact x_vret hC hS hlocks hr hw dd_G_widen_20
  · have hw := hw.2 c1
    refine lv_aload_n hx hb dd_G_widen_8 rfl (lv_at hl 0 rfl) ?_
    refine x_get hC hS hG0.1 rfl iw_G 3 (by decide) tb_68 rfl rfl dd_G_widen_9 ?_
    refine lv_aload_n hx hb dd_G_widen_12 rfl (lv_at hl 0 rfl) ?_
    refine x_get hC hS hG0.1 rfl iw_G 2 (by decide) tb_66 rfl rfl dd_G_widen_13 ?_
    refine x_alen hC hS (z := 12) hG0.2.2.1 rfl dd_G_widen_16 ?_
    refine x_icmp_lt hC (hm_M g 3) (rk rfl) (tgt := 21) dd_G_widen_17 (by decide) (fun c2 => ?_) (fun c2 => ?_)
    · have hw := hw.1 c2
      refine lv_aload_n hx hb dd_G_widen_21 rfl (lv_at hl 0 rfl) ?_
      refine x_get hC hS hG0.1 rfl iw_G 2 (by decide) tb_66 rfl rfl dd_G_widen_22 ?_
      refine lv_aload_n hx hb dd_G_widen_25 rfl (lv_at hl 0 rfl) ?_
      refine x_get hC hS hG0.1 rfl iw_G 3 (by decide) tb_68 rfl rfl dd_G_widen_26 ?_
      refine lv_iload_n hx hb dd_G_widen_29 rfl (lv_at hl 1 rfl) ?_
      obtain ⟨q3, hw⟩ := hw
      refine x_iast hC hS hG0.2.2.1 q3 ra1 dd_G_widen_30 (fun H locs hS => ?_)
      obtain ⟨M_4, eM_4⟩ : ∃ Z : Mm, Z = ms M (g + 2) ((M g 3)).toNat a1 := ⟨_, rfl⟩
      rw [← eM_4] at hS
      have hw := hw M_4 eM_4
      have hm_M_4 := hS.2.2.2
      refine lv_aload_n hx hb dd_G_widen_31 rfl (lv_at hl 0 rfl) ?_
      refine lv_dup hx hb dd_G_widen_32 rfl ?_
      refine x_get hC hS hG0.1 rfl iw_G 3 (by decide) tb_68 rfl rfl dd_G_widen_33 ?_
      refine x_iconst hC dd_G_widen_36 ?_
      obtain ⟨q5, hw⟩ := hw
      refine x_add hC dd_G_widen_37 ?_
      refine x_put hC hS hG0.1 rfl iw_G fy_G fk_G fn_G 3 (by decide) tb_68 rfl q5 rfl rfl (ps_G_3 _ _ _ _) (Nat.le_of_ble_eq_true rfl) dd_G_widen_38 (fun H locs hS => ?_)
      obtain ⟨M_6, eM_6⟩ : ∃ Z : Mm, Z = ms M_4 g 3 ((M_4 g 3) + 1) := ⟨_, rfl⟩
      rw [← eM_6] at hS
      have hw := hw M_6 eM_6
      have hm_M_6 := hS.2.2.2
      refine lv_aload_n hx hb dd_G_widen_41 rfl (lv_at hl 0 rfl) ?_
      refine x_get hC hS hG0.1 rfl iw_G 1 (by decide) tb_63 rfl rfl dd_G_widen_42 ?_
      refine x_nm (hm_M_6 g 1) (fun v2_45 rv2_45 ev2_45 => ?_)
      have hw := hw v2_45 ev2_45
      refine lv_istore_n (lv' := [(2, .int (iI v2_45)), (0, .ref (xA X g)), (1, .int (iI a1))]) hx hb dd_G_widen_45 rfl hl (by decide) rfl (fun ls hl => ?_)
      refine lv_aload_n hx hb dd_G_widen_46 rfl (lv_at hl 1 rfl) ?_
      refine lv_iload_n hx hb dd_G_widen_47 rfl (lv_at hl 0 rfl) ?_
      refine lv_iload_n hx hb dd_G_widen_48 rfl (lv_at hl 2 rfl) ?_
      refine x_callVv hC hS (As := [.int (iI v2_45), .int (iI a1)]) (rest := []) hG0.1 rfl cv_G_addCopy (mt_G_addCopy l X hC.2.2.1 g hG0 v2_45 rv2_45 a1 ra1 M_6 hm_M_6 _ _ hw) tb_238 rfl rfl ⟨Nat.le_of_ble_eq_true rfl, Nat.le_of_ble_eq_true rfl⟩ rfl hl.1 (Nat.le_of_ble_eq_true rfl) dd_G_widen_49 ⟨Nat.le_refl _, Nat.le_refl _⟩ rfl (fun M_7 H locs hw hS => ?_)
      have hm_M_7 := hS.2.2.2
      refine x_iconst hC dd_G_widen_52 ?_
      refine lv_istore_n (lv' := [(3, .int (iI 1)), (2, .int (iI v2_45)), (0, .ref (xA X g)), (1, .int (iI a1))]) hx hb dd_G_widen_53 rfl hl (by decide) rfl (fun ls hl => ?_)
      obtain ⟨I54, ⟨n0, hI⟩, hstep_I54⟩ := hw
      have lp_I54 : ∀ (n54 : Nat) (x3_54 : Int) (M54 : Mm) (H : Heap) (locs : List Loc) (ls : Array Slot), I54 n54 x3_54 M54 → inR x3_54 → St X (xF X sz) s M54 H locs → lv_has ls 6 [(0, .ref (xA X g)), (2, .int (iI v2_45)), (3, .int (iI x3_54))] → W p l e ({ frames := 4, cells := 0, slots := 0, locals := 91 } : Room) s m ([.ref (xA X g), .int (iI a1)] : List Value).toArray below meth c H locs 0 0 (MQ below (Qv X sz post) ([.ref (xA X g), .int (iI a1)] : List Value).toArray s 0 0 (xF X sz)) (F0 m 54 ls []) := by
        intro n54
        induction n54 using Nat.strongRecOn with
        | _ n54 ih_I54 =>
          intro x3_54 M54 H locs ls hI rx3_54 hS hl
          have hw := hstep_I54 n54 x3_54 M54 hI
          have hm_M54 := hS.2.2.2
          refine lv_iload_n hx hb dd_G_widen_54 rfl (lv_at hl 2 rfl) ?_
          refine x_sipush hC dd_G_widen_55 (by decide) ?_
          refine x_icmp_ge hC rx3_54 (rk rfl) (tgt := 131) dd_G_widen_58 (by decide) (fun c8 => ?_) (fun c8 => ?_)
          · have hw := hw.1 c8
            exact x_vret hC hS hlocks hr hw dd_G_widen_131
          · have hw := hw.2 c8
            refine lv_iload_n hx hb dd_G_widen_61 rfl (lv_at hl 2 rfl) ?_
            refine lv_iload_n hx hb dd_G_widen_62 rfl (lv_at hl 1 rfl) ?_
            obtain ⟨q9, hw⟩ := hw
            refine x_mul hC dd_G_widen_63 ?_
            refine lv_aload_n hx hb dd_G_widen_64 rfl (lv_at hl 0 rfl) ?_
            refine x_get hC hS hG0.1 rfl iw_G 1 (by decide) tb_63 rfl rfl dd_G_widen_65 ?_
            refine x_icmp_ge hC q9 (hm_M54 g 1) (tgt := 131) dd_G_widen_68 (by decide) (fun c10 => ?_) (fun c10 => ?_)
            · have hw := hw.1 c10
              exact x_vret hC hS hlocks hr hw dd_G_widen_131
            · have hw := hw.2 c10
              refine x_iconst hC dd_G_widen_71 ?_
              refine lv_istore (lv' := [(4, .int (iI 0)), (0, .ref (xA X g)), (2, .int (iI v2_45)), (3, .int (iI x3_54))]) hx hb dd_G_widen_72 hl (by decide) rfl (fun ls hl => ?_)
              obtain ⟨I74, ⟨n0, hI⟩, hstep_I74⟩ := hw
              have lp_I74 : ∀ (n74 : Nat) (x4_74 : Int) (M74 : Mm) (H : Heap) (locs : List Loc) (ls : Array Slot), I74 n74 x4_74 M74 → inR x4_74 → St X (xF X sz) s M74 H locs → lv_has ls 6 [(0, .ref (xA X g)), (2, .int (iI v2_45)), (3, .int (iI x3_54)), (4, .int (iI x4_74))] → W p l e ({ frames := 4, cells := 0, slots := 0, locals := 91 } : Room) s m ([.ref (xA X g), .int (iI a1)] : List Value).toArray below meth c H locs 0 0 (MQ below (Qv X sz post) ([.ref (xA X g), .int (iI a1)] : List Value).toArray s 0 0 (xF X sz)) (F0 m 74 ls []) := by
                intro n74
                induction n74 using Nat.strongRecOn with
                | _ n74 ih_I74 =>
                  intro x4_74 M74 H locs ls hI rx4_74 hS hl
                  have hw := hstep_I74 n74 x4_74 M74 hI
                  have hm_M74 := hS.2.2.2
                  refine lv_iload hx hb dd_G_widen_74 (lv_at hl 3 rfl) ?_
                  refine lv_aload_n hx hb dd_G_widen_76 rfl (lv_at hl 0 rfl) ?_
                  refine x_get hC hS hG0.1 rfl iw_G 3 (by decide) tb_68 rfl rfl dd_G_widen_77 ?_
                  refine x_icmp_ge hC rx4_74 (hm_M74 g 3) (tgt := 125) dd_G_widen_80 (by decide) (fun c11 => ?_) (fun c11 => ?_)
                  · have hw := hw.1 c11
                    obtain ⟨hr_, hw⟩ := hw
                    obtain ⟨v3_125, rv3_125, ev3_125⟩ : ∃ z : Int, inR z ∧ z = x3_54 + 1 := ⟨_, hr_, rfl⟩
                    have hw := hw v3_125 ev3_125
                    refine lv_iinc (v := iI v3_125) (lv' := [(3, .int (iI v3_125)), (0, .ref (xA X g)), (2, .int (iI v2_45)), (4, .int (iI x4_74))]) hx hb dd_G_widen_125 hl (k := 2) rfl (by rw [ev3_125]; exact iI_add _ _) (by decide) rfl (fun ls hl => ?_)
                    refine lv_goto (tgt := 54) hx hb dd_G_widen_128 (by decide) ?_
                    obtain ⟨k_12, h13, hI⟩ := hw
                    exact ih_I54 k_12 h13 v3_125 M74 _ _ _ hI rv3_125 hS (lv_sub hl [1, 2, 0] rfl)
                  · have hw := hw.2 c11
                    refine lv_aload_n hx hb dd_G_widen_83 rfl (lv_at hl 0 rfl) ?_
                    refine x_get hC hS hG0.1 rfl iw_G 0 (by decide) tb_59 rfl rfl dd_G_widen_84 ?_
                    refine lv_iload_n hx hb dd_G_widen_87 rfl (lv_at hl 2 rfl) ?_
                    refine lv_iload_n hx hb dd_G_widen_88 rfl (lv_at hl 1 rfl) ?_
                    obtain ⟨q14, hw⟩ := hw
                    refine x_mul hC dd_G_widen_89 ?_
                    obtain ⟨q15, hw⟩ := hw
                    refine x_iald hC hS hG0.2.1 q15 dd_G_widen_90 ?_
                    refine x_nm (hm_M74 (g + 1) _) (fun z16 rz16 ez16 => ?_)
                    have hw := hw z16 ez16
                    refine lv_aload_n hx hb dd_G_widen_91 rfl (lv_at hl 0 rfl) ?_
                    refine x_get hC hS hG0.1 rfl iw_G 2 (by decide) tb_66 rfl rfl dd_G_widen_92 ?_
                    refine lv_iload hx hb dd_G_widen_95 (lv_at hl 3 rfl) ?_
                    obtain ⟨q17, hw⟩ := hw
                    refine x_iald hC hS hG0.2.2.1 q17 dd_G_widen_97 ?_
                    refine x_nm (hm_M74 (g + 2) _) (fun z18 rz18 ez18 => ?_)
                    have hw := hw z18 ez18
                    refine x_callSi hC hS (As := [.int (iI z16), .int (iI z18)]) (rest := []) cs_U_oneThenOther (mt_U_oneThenOther l X hC.2.2.1  z16 rz16 z18 rz18 M74 hm_M74 _ _ hw) tb_242 rfl rfl ⟨Nat.le_of_ble_eq_true rfl, Nat.le_of_ble_eq_true rfl⟩ rfl hl.1 (Nat.le_of_ble_eq_true rfl) dd_G_widen_98 ⟨Nat.le_refl _, Nat.le_refl _⟩ rfl (fun r98 Mx H locs rr98 hp hS => ?_)
                    obtain ⟨hq, hw⟩ := hp
                    rw [hq] at hS
                    refine lv_istore (lv' := [(5, .int (iI r98)), (0, .ref (xA X g)), (2, .int (iI v2_45)), (3, .int (iI x3_54)), (4, .int (iI x4_74))]) hx hb dd_G_widen_101 hl (by decide) rfl (fun ls hl => ?_)
                    refine lv_aload_n hx hb dd_G_widen_103 rfl (lv_at hl 1 rfl) ?_
                    refine lv_iload hx hb dd_G_widen_104 (lv_at hl 0 rfl) ?_
                    refine x_callVi hC hS (As := [.int (iI r98)]) (rest := []) hG0.1 rfl cv_G_has (mt_G_has l X hC.2.2.1 g hG0 r98 rr98 M74 hm_M74 _ _ hw) tb_234 rfl rfl ⟨Nat.le_of_ble_eq_true rfl, Nat.le_of_ble_eq_true rfl⟩ rfl hl.1 (Nat.le_of_ble_eq_true rfl) dd_G_widen_106 ⟨Nat.le_refl _, Nat.le_refl _⟩ rfl (fun r106 Mx H locs rr106 hp hS => ?_)
                    obtain ⟨hq, hw⟩ := hp
                    rw [hq] at hS
                    have hw := hw (fun (M119 : Mm) => ∀ (H : Heap) (locs : List Loc) (ls : Array Slot), St X (xF X sz) s M119 H locs → lv_has ls 6 [(0, .ref (xA X g)), (2, .int (iI v2_45)), (3, .int (iI x3_54)), (4, .int (iI x4_74))] → W p l e ({ frames := 4, cells := 0, slots := 0, locals := 91 } : Room) s m ([.ref (xA X g), .int (iI a1)] : List Value).toArray below meth c H locs 0 0 (MQ below (Qv X sz post) ([.ref (xA X g), .int (iI a1)] : List Value).toArray s 0 0 (xF X sz)) (F0 m 119 ls [])) (by
                        intro M119 hw H locs ls  hS hl
                        have hm_M119 := hS.2.2.2
                        obtain ⟨hr_, hw⟩ := hw
                        obtain ⟨v4_119, rv4_119, ev4_119⟩ : ∃ z : Int, inR z ∧ z = x4_74 + 1 := ⟨_, hr_, rfl⟩
                        have hw := hw v4_119 ev4_119
                        refine lv_iinc (v := iI v4_119) (lv' := [(4, .int (iI v4_119)), (0, .ref (xA X g)), (2, .int (iI v2_45)), (3, .int (iI x3_54))]) hx hb dd_G_widen_119 hl (k := 3) rfl (by rw [ev4_119]; exact iI_add _ _) (by decide) rfl (fun ls hl => ?_)
                        refine lv_goto (tgt := 74) hx hb dd_G_widen_122 (by decide) ?_
                        obtain ⟨k_19, h20, hI⟩ := hw
                        exact ih_I74 k_19 h20 v4_119 M119 _ _ _ hI rv4_119 hS (lv_sub hl [1, 2, 3, 0] rfl))
                    refine x_if_ne hC rr106 (tgt := 119) dd_G_widen_109 (by decide) (fun c21 => ?_) (fun c21 => ?_)
                    · have hw := hw.1 c21
                      exact hw _ _ _  hS (lv_sub hl [1, 2, 3, 4] rfl)
                    · have hw := hw.2 c21
                      refine lv_aload_n hx hb dd_G_widen_112 rfl (lv_at hl 1 rfl) ?_
                      refine lv_iload_n hx hb dd_G_widen_113 rfl (lv_at hl 2 rfl) ?_
                      refine lv_iload hx hb dd_G_widen_114 (lv_at hl 0 rfl) ?_
                      refine x_callVv hC hS (As := [.int (iI v2_45), .int (iI r98)]) (rest := []) hG0.1 rfl cv_G_addCopy (mt_G_addCopy l X hC.2.2.1 g hG0 v2_45 rv2_45 r98 rr98 M74 hm_M74 _ _ hw) tb_238 rfl rfl ⟨Nat.le_of_ble_eq_true rfl, Nat.le_of_ble_eq_true rfl⟩ rfl hl.1 (Nat.le_of_ble_eq_true rfl) dd_G_widen_116 ⟨Nat.le_refl _, Nat.le_refl _⟩ rfl (fun M_22 H locs hw hS => ?_)
                      have hm_M_22 := hS.2.2.2
                      exact hw _ _ _  hS (lv_sub hl [1, 2, 3, 4] rfl)
              exact lp_I74 n0 0 M54 _ _ _ hI (rk rfl) hS (lv_sub hl [1, 2, 3, 0] rfl)
      exact lp_I54 n0 1 M_7 _ _ _ hI (rk rfl) hS (lv_sub hl [2, 1, 0] rfl)
    · have hw := hw.2 c2
      exact x_vret hC hS hlocks hr hw dd_G_widen_20
def wp_G_widenByKind (g : Nat) (a1 : Int) (a2 : Int) (a3 : Int) (a4 : Int) (M : Mm) (post : Mm → Prop) : Prop :=
  ∀ K26 : Mm → Prop, (∀ (M26 : Mm), (∀ K42 : Mm → Prop, (∀ (M42 : Mm), (∀ K63 : Mm → Prop, (∀ (M63 : Mm), ((¬ a1 = 3 → post M63) ∧
              (a1 = 3 → (a3 < 3 → post M63) ∧
                (¬ a3 < 3 → (0 ≤ a3 ∧ 0 < (2 : Int)) ∧ ∀ K84 : Int → Prop, (∀ (s0_84 : Int), (inR (s0_84 * a4) ∧ inR (a2 + (s0_84 * a4)) ∧ inR (a3 - s0_84) ∧ wp_U_roundTurn (a2 + (s0_84 * a4)) (a3 - s0_84) a4 (fun (r100 : Int) => wp_G_widen g r100 M63 (fun (M_7 : Mm) => wp_U_roundTurn a2 3 a4 (fun (r111 : Int) => wp_G_widen g r111 M_7 (fun (M_8 : Mm) => post M_8))))) →
                    K84 s0_84) →
                  ((¬ (a3 % 2) = 0 → K84 0) ∧
                  ((a3 % 2) = 0 → K84 1))))) →
            K63 M63) →
          ((¬ a1 = 4 → K63 M42) ∧
          (a1 = 4 → (a3 < 2 → K63 M42) ∧
            (¬ a3 < 2 → wp_U_roundTurn a2 2 a4 (fun (r57 : Int) => wp_G_widen g r57 M42 (fun (M_12 : Mm) => K63 M_12)))))) →
        K42 M42) →
      ((¬ a1 = 2 → K42 M26) ∧
      (a1 = 2 → wp_U_flipTurn a2 a3 a4 (fun (r36 : Int) => wp_G_widen g r36 M26 (fun (M_14 : Mm) => K42 M_14))))) →
    K26 M26) →
  (∀ K15 : Prop, ((wp_U_roundTurn a2 a3 a4 (fun (r20 : Int) => wp_G_widen g r20 M (fun (M_15 : Mm) => K26 M_15))) →
    K15) →
  ((a1 = 1 → K15) ∧
  (¬ a1 = 1 → (a1 = 2 → K15) ∧
    (¬ a1 = 2 → (¬ a1 = 4 → K26 M) ∧
      (a1 = 4 → K15)))))
set_option maxHeartbeats 4000000 in
set_option maxRecDepth 100000 in
theorem mt_G_widenByKind (l : Launch) (X : Xw) (hlc : lcl X) (g : Nat) (hG0 : IsG X g) (a1 : Int) (ra1 : inR a1) (a2 : Int) (ra2 : inR a2) (a3 : Int) (ra3 : inR a3) (a4 : Int) (ra4 : inR a4) (M : Mm) (hm_M : mr M) (post : Mm → Prop) (sz : Nat) (hw : wp_G_widenByKind g a1 a2 a3 a4 M post) : Met l yy_G_widenByKind (Cond.code yy_G_widenByKind bc_G_widenByKind 6 none :: tg) ({ frames := 5, cells := 0, slots := 0, locals := 116 } : Room) (Pw X [.ref (xA X g), .int (iI a1), .int (iI a2), .int (iI a3), .int (iI a4)] M sz) (Qv X sz post) 0 0 (xF X sz) := by
  unfold wp_G_widenByKind at hw
  refine x_enter (by decide) hlc hm_M (Nat.le_of_ble_eq_true rfl) ?_
  intro p e s m below meth c ls hC hsz hr hlocks hS hl
  have hx := hC.1.1
  have hb := hC.1.2.1
  have hl : lv_has ls 6 [(0, .ref (xA X g)), (1, .int (iI a1)), (2, .int (iI a2)), (3, .int (iI a3)), (4, .int (iI a4))] := hl
  refine lv_iload_n hx hb dd_G_widenByKind_0 rfl (lv_at hl 1 rfl) ?_
  refine x_iconst hC dd_G_widenByKind_1 ?_
  have hw := hw (fun (M26 : Mm) => ∀ (H : Heap) (locs : List Loc) (ls : Array Slot), St X (xF X sz) s M26 H locs → lv_has ls 6 [(0, .ref (xA X g)), (1, .int (iI a1)), (2, .int (iI a2)), (3, .int (iI a3)), (4, .int (iI a4))] → W p l e ({ frames := 5, cells := 0, slots := 0, locals := 116 } : Room) s m ([.ref (xA X g), .int (iI a1), .int (iI a2), .int (iI a3), .int (iI a4)] : List Value).toArray below meth c H locs 0 0 (MQ below (Qv X sz post) ([.ref (xA X g), .int (iI a1), .int (iI a2), .int (iI a3), .int (iI a4)] : List Value).toArray s 0 0 (xF X sz)) (F0 m 26 ls [])) (by
      intro M26 hw H locs ls  hS hl
      have hm_M26 := hS.2.2.2
      refine lv_iload_n hx hb dd_G_widenByKind_26 rfl (lv_at hl 1 rfl) ?_
      refine x_iconst hC dd_G_widenByKind_27 ?_
      have hw := hw (fun (M42 : Mm) => ∀ (H : Heap) (locs : List Loc) (ls : Array Slot), St X (xF X sz) s M42 H locs → lv_has ls 6 [(0, .ref (xA X g)), (1, .int (iI a1)), (2, .int (iI a2)), (3, .int (iI a3)), (4, .int (iI a4))] → W p l e ({ frames := 5, cells := 0, slots := 0, locals := 116 } : Room) s m ([.ref (xA X g), .int (iI a1), .int (iI a2), .int (iI a3), .int (iI a4)] : List Value).toArray below meth c H locs 0 0 (MQ below (Qv X sz post) ([.ref (xA X g), .int (iI a1), .int (iI a2), .int (iI a3), .int (iI a4)] : List Value).toArray s 0 0 (xF X sz)) (F0 m 42 ls [])) (by
          intro M42 hw H locs ls  hS hl
          have hm_M42 := hS.2.2.2
          refine lv_iload_n hx hb dd_G_widenByKind_42 rfl (lv_at hl 1 rfl) ?_
          refine x_iconst hC dd_G_widenByKind_43 ?_
          have hw := hw (fun (M63 : Mm) => ∀ (H : Heap) (locs : List Loc) (ls : Array Slot), St X (xF X sz) s M63 H locs → lv_has ls 6 [(0, .ref (xA X g)), (1, .int (iI a1)), (2, .int (iI a2)), (3, .int (iI a3)), (4, .int (iI a4))] → W p l e ({ frames := 5, cells := 0, slots := 0, locals := 116 } : Room) s m ([.ref (xA X g), .int (iI a1), .int (iI a2), .int (iI a3), .int (iI a4)] : List Value).toArray below meth c H locs 0 0 (MQ below (Qv X sz post) ([.ref (xA X g), .int (iI a1), .int (iI a2), .int (iI a3), .int (iI a4)] : List Value).toArray s 0 0 (xF X sz)) (F0 m 63 ls [])) (by
              intro M63 hw H locs ls  hS hl
              have hm_M63 := hS.2.2.2
              refine lv_iload_n hx hb dd_G_widenByKind_63 rfl (lv_at hl 1 rfl) ?_
              refine x_iconst hC dd_G_widenByKind_64 ?_
              refine x_icmp_ne hC ra1 (rk rfl) (tgt := 117) dd_G_widenByKind_65 (by decide) (fun c1 => ?_) (fun c1 => ?_)
              · have hw := hw.1 c1
                exact x_vret hC hS hlocks hr hw dd_G_widenByKind_117
              · have hw := hw.2 c1
                refine lv_iload_n hx hb dd_G_widenByKind_68 rfl (lv_at hl 3 rfl) ?_
                refine x_iconst hC dd_G_widenByKind_69 ?_
                refine x_icmp_lt hC ra3 (rk rfl) (tgt := 117) dd_G_widenByKind_70 (by decide) (fun c2 => ?_) (fun c2 => ?_)
                · have hw := hw.1 c2
                  exact x_vret hC hS hlocks hr hw dd_G_widenByKind_117
                · have hw := hw.2 c2
                  refine lv_iload_n hx hb dd_G_widenByKind_73 rfl (lv_at hl 3 rfl) ?_
                  refine x_iconst hC dd_G_widenByKind_74 ?_
                  obtain ⟨q3, hw⟩ := hw
                  refine x_rem hC ra3 (rk rfl) q3 dd_G_widenByKind_75 ?_
                  have hw := hw (fun (s0_84 : Int) => ∀ (H : Heap) (locs : List Loc) (ls : Array Slot), inR s0_84 → St X (xF X sz) s M63 H locs → lv_has ls 6 [(0, .ref (xA X g)), (2, .int (iI a2)), (3, .int (iI a3)), (4, .int (iI a4))] → W p l e ({ frames := 5, cells := 0, slots := 0, locals := 116 } : Room) s m ([.ref (xA X g), .int (iI a1), .int (iI a2), .int (iI a3), .int (iI a4)] : List Value).toArray below meth c H locs 0 0 (MQ below (Qv X sz post) ([.ref (xA X g), .int (iI a1), .int (iI a2), .int (iI a3), .int (iI a4)] : List Value).toArray s 0 0 (xF X sz)) (F0 m 84 ls [.int (iI s0_84)])) (by
                      intro s0_84 hw H locs ls rs0_84 hS hl
                      refine lv_istore (lv' := [(5, .int (iI s0_84)), (0, .ref (xA X g)), (2, .int (iI a2)), (3, .int (iI a3)), (4, .int (iI a4))]) hx hb dd_G_widenByKind_84 hl (by decide) rfl (fun ls hl => ?_)
                      refine lv_aload_n hx hb dd_G_widenByKind_86 rfl (lv_at hl 1 rfl) ?_
                      refine lv_iload_n hx hb dd_G_widenByKind_87 rfl (lv_at hl 2 rfl) ?_
                      refine lv_iload hx hb dd_G_widenByKind_88 (lv_at hl 0 rfl) ?_
                      refine lv_iload hx hb dd_G_widenByKind_90 (lv_at hl 4 rfl) ?_
                      obtain ⟨q4, hw⟩ := hw
                      refine x_mul hC dd_G_widenByKind_92 ?_
                      obtain ⟨q5, hw⟩ := hw
                      refine x_add hC dd_G_widenByKind_93 ?_
                      refine lv_iload_n hx hb dd_G_widenByKind_94 rfl (lv_at hl 3 rfl) ?_
                      refine lv_iload hx hb dd_G_widenByKind_95 (lv_at hl 0 rfl) ?_
                      obtain ⟨q6, hw⟩ := hw
                      refine x_sub hC dd_G_widenByKind_97 ?_
                      refine lv_iload hx hb dd_G_widenByKind_98 (lv_at hl 4 rfl) ?_
                      refine x_callSi hC hS (As := [.int (iI (a2 + (s0_84 * a4))), .int (iI (a3 - s0_84)), .int (iI a4)]) (rest := [.ref (xA X g)]) cs_U_roundTurn (mt_U_roundTurn l X hC.2.2.1  (a2 + (s0_84 * a4)) q5 (a3 - s0_84) q6 a4 ra4 M63 hm_M63 _ _ hw) tb_220 rfl rfl ⟨Nat.le_of_ble_eq_true rfl, Nat.le_of_ble_eq_true rfl⟩ rfl hl.1 (Nat.le_of_ble_eq_true rfl) dd_G_widenByKind_100 ⟨Nat.le_refl _, Nat.le_refl _⟩ rfl (fun r100 Mx H locs rr100 hp hS => ?_)
                      obtain ⟨hq, hw⟩ := hp
                      rw [hq] at hS
                      refine x_callVv hC hS (As := [.int (iI r100)]) (rest := []) hG0.1 rfl cv_G_widen (mt_G_widen l X hC.2.2.1 g hG0 r100 rr100 M63 hm_M63 _ _ hw) tb_230 rfl rfl ⟨Nat.le_of_ble_eq_true rfl, Nat.le_of_ble_eq_true rfl⟩ rfl hl.1 (Nat.le_of_ble_eq_true rfl) dd_G_widenByKind_103 ⟨Nat.le_refl _, Nat.le_refl _⟩ rfl (fun M_7 H locs hw hS => ?_)
                      have hm_M_7 := hS.2.2.2
                      refine lv_aload_n hx hb dd_G_widenByKind_106 rfl (lv_at hl 1 rfl) ?_
                      refine lv_iload_n hx hb dd_G_widenByKind_107 rfl (lv_at hl 2 rfl) ?_
                      refine x_iconst hC dd_G_widenByKind_108 ?_
                      refine lv_iload hx hb dd_G_widenByKind_109 (lv_at hl 4 rfl) ?_
                      refine x_callSi hC hS (As := [.int (iI a2), .int (iI 3), .int (iI a4)]) (rest := [.ref (xA X g)]) cs_U_roundTurn (mt_U_roundTurn l X hC.2.2.1  a2 ra2 3 (rk rfl) a4 ra4 M_7 hm_M_7 _ _ hw) tb_220 rfl rfl ⟨Nat.le_of_ble_eq_true rfl, Nat.le_of_ble_eq_true rfl⟩ rfl hl.1 (Nat.le_of_ble_eq_true rfl) dd_G_widenByKind_111 ⟨Nat.le_refl _, Nat.le_refl _⟩ rfl (fun r111 Mx H locs rr111 hp hS => ?_)
                      obtain ⟨hq, hw⟩ := hp
                      rw [hq] at hS
                      refine x_callVv hC hS (As := [.int (iI r111)]) (rest := []) hG0.1 rfl cv_G_widen (mt_G_widen l X hC.2.2.1 g hG0 r111 rr111 M_7 hm_M_7 _ _ hw) tb_230 rfl rfl ⟨Nat.le_of_ble_eq_true rfl, Nat.le_of_ble_eq_true rfl⟩ rfl hl.1 (Nat.le_of_ble_eq_true rfl) dd_G_widenByKind_114 ⟨Nat.le_refl _, Nat.le_refl _⟩ rfl (fun M_8 H locs hw hS => ?_)
                      have hm_M_8 := hS.2.2.2
                      exact x_vret hC hS hlocks hr hw dd_G_widenByKind_117)
                  refine x_if_ne hC (rMod (rk rfl) q3.2) (tgt := 83) dd_G_widenByKind_76 (by decide) (fun c9 => ?_) (fun c9 => ?_)
                  · have hw := hw.1 c9
                    refine x_iconst hC dd_G_widenByKind_83 ?_
                    exact hw _ _ _ (rk rfl) hS (lv_sub hl [0, 2, 3, 4] rfl)
                  · have hw := hw.2 c9
                    refine x_iconst hC dd_G_widenByKind_79 ?_
                    refine lv_goto (tgt := 84) hx hb dd_G_widenByKind_80 (by decide) ?_
                    exact hw _ _ _ (rk rfl) hS (lv_sub hl [0, 2, 3, 4] rfl))
          refine x_icmp_ne hC ra1 (rk rfl) (tgt := 63) dd_G_widenByKind_44 (by decide) (fun c10 => ?_) (fun c10 => ?_)
          · have hw := hw.1 c10
            exact hw _ _ _  hS (lv_sub hl [0, 1, 2, 3, 4] rfl)
          · have hw := hw.2 c10
            refine lv_iload_n hx hb dd_G_widenByKind_47 rfl (lv_at hl 3 rfl) ?_
            refine x_iconst hC dd_G_widenByKind_48 ?_
            refine x_icmp_lt hC ra3 (rk rfl) (tgt := 63) dd_G_widenByKind_49 (by decide) (fun c11 => ?_) (fun c11 => ?_)
            · have hw := hw.1 c11
              exact hw _ _ _  hS (lv_sub hl [0, 1, 2, 3, 4] rfl)
            · have hw := hw.2 c11
              refine lv_aload_n hx hb dd_G_widenByKind_52 rfl (lv_at hl 0 rfl) ?_
              refine lv_iload_n hx hb dd_G_widenByKind_53 rfl (lv_at hl 2 rfl) ?_
              refine x_iconst hC dd_G_widenByKind_54 ?_
              refine lv_iload hx hb dd_G_widenByKind_55 (lv_at hl 4 rfl) ?_
              refine x_callSi hC hS (As := [.int (iI a2), .int (iI 2), .int (iI a4)]) (rest := [.ref (xA X g)]) cs_U_roundTurn (mt_U_roundTurn l X hC.2.2.1  a2 ra2 2 (rk rfl) a4 ra4 M42 hm_M42 _ _ hw) tb_220 rfl rfl ⟨Nat.le_of_ble_eq_true rfl, Nat.le_of_ble_eq_true rfl⟩ rfl hl.1 (Nat.le_of_ble_eq_true rfl) dd_G_widenByKind_57 ⟨Nat.le_refl _, Nat.le_refl _⟩ rfl (fun r57 Mx H locs rr57 hp hS => ?_)
              obtain ⟨hq, hw⟩ := hp
              rw [hq] at hS
              refine x_callVv hC hS (As := [.int (iI r57)]) (rest := []) hG0.1 rfl cv_G_widen (mt_G_widen l X hC.2.2.1 g hG0 r57 rr57 M42 hm_M42 _ _ hw) tb_230 rfl rfl ⟨Nat.le_of_ble_eq_true rfl, Nat.le_of_ble_eq_true rfl⟩ rfl hl.1 (Nat.le_of_ble_eq_true rfl) dd_G_widenByKind_60 ⟨Nat.le_refl _, Nat.le_refl _⟩ rfl (fun M_12 H locs hw hS => ?_)
              have hm_M_12 := hS.2.2.2
              exact hw _ _ _  hS (lv_sub hl [0, 1, 2, 3, 4] rfl))
      refine x_icmp_ne hC ra1 (rk rfl) (tgt := 42) dd_G_widenByKind_28 (by decide) (fun c13 => ?_) (fun c13 => ?_)
      · have hw := hw.1 c13
        exact hw _ _ _  hS (lv_sub hl [0, 1, 2, 3, 4] rfl)
      · have hw := hw.2 c13
        refine lv_aload_n hx hb dd_G_widenByKind_31 rfl (lv_at hl 0 rfl) ?_
        refine lv_iload_n hx hb dd_G_widenByKind_32 rfl (lv_at hl 2 rfl) ?_
        refine lv_iload_n hx hb dd_G_widenByKind_33 rfl (lv_at hl 3 rfl) ?_
        refine lv_iload hx hb dd_G_widenByKind_34 (lv_at hl 4 rfl) ?_
        refine x_callSi hC hS (As := [.int (iI a2), .int (iI a3), .int (iI a4)]) (rest := [.ref (xA X g)]) cs_U_flipTurn (mt_U_flipTurn l X hC.2.2.1  a2 ra2 a3 ra3 a4 ra4 M26 hm_M26 _ _ hw) tb_245 rfl rfl ⟨Nat.le_of_ble_eq_true rfl, Nat.le_of_ble_eq_true rfl⟩ rfl hl.1 (Nat.le_of_ble_eq_true rfl) dd_G_widenByKind_36 ⟨Nat.le_refl _, Nat.le_refl _⟩ rfl (fun r36 Mx H locs rr36 hp hS => ?_)
        obtain ⟨hq, hw⟩ := hp
        rw [hq] at hS
        refine x_callVv hC hS (As := [.int (iI r36)]) (rest := []) hG0.1 rfl cv_G_widen (mt_G_widen l X hC.2.2.1 g hG0 r36 rr36 M26 hm_M26 _ _ hw) tb_230 rfl rfl ⟨Nat.le_of_ble_eq_true rfl, Nat.le_of_ble_eq_true rfl⟩ rfl hl.1 (Nat.le_of_ble_eq_true rfl) dd_G_widenByKind_39 ⟨Nat.le_refl _, Nat.le_refl _⟩ rfl (fun M_14 H locs hw hS => ?_)
        have hm_M_14 := hS.2.2.2
        exact hw _ _ _  hS (lv_sub hl [0, 1, 2, 3, 4] rfl))
  have hw := hw (∀ (H : Heap) (locs : List Loc) (ls : Array Slot), St X (xF X sz) s M H locs → lv_has ls 6 [(0, .ref (xA X g)), (1, .int (iI a1)), (2, .int (iI a2)), (3, .int (iI a3)), (4, .int (iI a4))] → W p l e ({ frames := 5, cells := 0, slots := 0, locals := 116 } : Room) s m ([.ref (xA X g), .int (iI a1), .int (iI a2), .int (iI a3), .int (iI a4)] : List Value).toArray below meth c H locs 0 0 (MQ below (Qv X sz post) ([.ref (xA X g), .int (iI a1), .int (iI a2), .int (iI a3), .int (iI a4)] : List Value).toArray s 0 0 (xF X sz)) (F0 m 15 ls [])) (by
      intro  hw H locs ls  hS hl
      refine lv_aload_n hx hb dd_G_widenByKind_15 rfl (lv_at hl 0 rfl) ?_
      refine lv_iload_n hx hb dd_G_widenByKind_16 rfl (lv_at hl 2 rfl) ?_
      refine lv_iload_n hx hb dd_G_widenByKind_17 rfl (lv_at hl 3 rfl) ?_
      refine lv_iload hx hb dd_G_widenByKind_18 (lv_at hl 4 rfl) ?_
      refine x_callSi hC hS (As := [.int (iI a2), .int (iI a3), .int (iI a4)]) (rest := [.ref (xA X g)]) cs_U_roundTurn (mt_U_roundTurn l X hC.2.2.1  a2 ra2 a3 ra3 a4 ra4 M hm_M _ _ hw) tb_220 rfl rfl ⟨Nat.le_of_ble_eq_true rfl, Nat.le_of_ble_eq_true rfl⟩ rfl hl.1 (Nat.le_of_ble_eq_true rfl) dd_G_widenByKind_20 ⟨Nat.le_refl _, Nat.le_refl _⟩ rfl (fun r20 Mx H locs rr20 hp hS => ?_)
      obtain ⟨hq, hw⟩ := hp
      rw [hq] at hS
      refine x_callVv hC hS (As := [.int (iI r20)]) (rest := []) hG0.1 rfl cv_G_widen (mt_G_widen l X hC.2.2.1 g hG0 r20 rr20 M hm_M _ _ hw) tb_230 rfl rfl ⟨Nat.le_of_ble_eq_true rfl, Nat.le_of_ble_eq_true rfl⟩ rfl hl.1 (Nat.le_of_ble_eq_true rfl) dd_G_widenByKind_23 ⟨Nat.le_refl _, Nat.le_refl _⟩ rfl (fun M_15 H locs hw hS => ?_)
      have hm_M_15 := hS.2.2.2
      exact hw _ _ _  hS (lv_sub hl [0, 1, 2, 3, 4] rfl))
  refine x_icmp_eq hC ra1 (rk rfl) (tgt := 15) dd_G_widenByKind_2 (by decide) (fun c16 => ?_) (fun c16 => ?_)
  · have hw := hw.1 c16
    exact hw _ _ _  hS (lv_sub hl [0, 1, 2, 3, 4] rfl)
  · have hw := hw.2 c16
    refine lv_iload_n hx hb dd_G_widenByKind_5 rfl (lv_at hl 1 rfl) ?_
    refine x_iconst hC dd_G_widenByKind_6 ?_
    refine x_icmp_eq hC ra1 (rk rfl) (tgt := 15) dd_G_widenByKind_7 (by decide) (fun c17 => ?_) (fun c17 => ?_)
    · have hw := hw.1 c17
      exact hw _ _ _  hS (lv_sub hl [0, 1, 2, 3, 4] rfl)
    · have hw := hw.2 c17
      refine lv_iload_n hx hb dd_G_widenByKind_10 rfl (lv_at hl 1 rfl) ?_
      refine x_iconst hC dd_G_widenByKind_11 ?_
      refine x_icmp_ne hC ra1 (rk rfl) (tgt := 26) dd_G_widenByKind_12 (by decide) (fun c18 => ?_) (fun c18 => ?_)
      · have hw := hw.1 c18
        exact hw _ _ _  hS (lv_sub hl [0, 1, 2, 3, 4] rfl)
      · have hw := hw.2 c18
        exact hw _ _ _  hS (lv_sub hl [0, 1, 2, 3, 4] rfl)
def wp_G_reachFrom (g : Nat) (a1 : Int) (M : Mm) (post : Int → Prop) : Prop :=
  ∃ I4 : Nat → Int → Int → Prop, (∃ n, I4 n 0 0) ∧ ∀ (n4 : Nat) (x2_4 : Int) (x3_4 : Int), I4 n4 x2_4 x3_4 →
    (((M g 1) ≤ x3_4 → wp_J_bitCount x2_4 (fun (r34 : Int) => post r34)) ∧
      (¬ (M g 1) ≤ x3_4 → (0 ≤ x3_4 ∧ x3_4 < 5040) ∧ ∀ z3 : Int, z3 = M (g + 1) (x3_4).toNat → wp_U_goal z3 a1 (fun (r21 : Int) => ∀ v2_26 : Int, v2_26 = (bOr x2_4 (bShl 1 r21)) → inR (x3_4 + 1) ∧ ∀ v3_27 : Int, v3_27 = x3_4 + 1 → ∃ k_4, k_4 < n4 ∧ I4 k_4 v2_26 v3_27)))
set_option maxHeartbeats 4000000 in
set_option maxRecDepth 100000 in
theorem mt_G_reachFrom (l : Launch) (X : Xw) (hlc : lcl X) (g : Nat) (hG0 : IsG X g) (a1 : Int) (ra1 : inR a1) (M : Mm) (hm_M : mr M) (post : Int → Prop) (sz : Nat) (hw : wp_G_reachFrom g a1 M post) : Met l yy_G_reachFrom (Cond.code yy_G_reachFrom bc_G_reachFrom 4 (some .int) :: tg) ({ frames := 1, cells := 0, slots := 0, locals := 21 } : Room) (Pw X [.ref (xA X g), .int (iI a1)] M sz) (Qi X sz (fun r M1 => M1 = M ∧ post r)) 0 0 (xF X sz) := by
  unfold wp_G_reachFrom at hw
  refine x_enter (by decide) hlc hm_M (Nat.le_of_ble_eq_true rfl) ?_
  intro p e s m below meth c ls hC hsz hr hlocks hS hl
  have hx := hC.1.1
  have hb := hC.1.2.1
  have hl : lv_has ls 4 [(0, .ref (xA X g)), (1, .int (iI a1))] := hl
  refine x_iconst hC dd_G_reachFrom_0 ?_
  refine lv_istore_n (lv' := [(2, .int (iI 0)), (0, .ref (xA X g)), (1, .int (iI a1))]) hx hb dd_G_reachFrom_1 rfl hl (by decide) rfl (fun ls hl => ?_)
  refine x_iconst hC dd_G_reachFrom_2 ?_
  refine lv_istore_n (lv' := [(3, .int (iI 0)), (2, .int (iI 0)), (0, .ref (xA X g)), (1, .int (iI a1))]) hx hb dd_G_reachFrom_3 rfl hl (by decide) rfl (fun ls hl => ?_)
  obtain ⟨I4, ⟨n0, hI⟩, hstep_I4⟩ := hw
  have lp_I4 : ∀ (n4 : Nat) (x2_4 : Int) (x3_4 : Int) (H : Heap) (locs : List Loc) (ls : Array Slot), I4 n4 x2_4 x3_4 → inR x2_4 → inR x3_4 → St X (xF X sz) s M H locs → lv_has ls 4 [(0, .ref (xA X g)), (1, .int (iI a1)), (2, .int (iI x2_4)), (3, .int (iI x3_4))] → W p l e ({ frames := 1, cells := 0, slots := 0, locals := 21 } : Room) s m ([.ref (xA X g), .int (iI a1)] : List Value).toArray below meth c H locs 0 0 (MQ below (Qi X sz (fun r M1 => M1 = M ∧ post r)) ([.ref (xA X g), .int (iI a1)] : List Value).toArray s 0 0 (xF X sz)) (F0 m 4 ls []) := by
    intro n4
    induction n4 using Nat.strongRecOn with
    | _ n4 ih_I4 =>
      intro x2_4 x3_4 H locs ls hI rx2_4 rx3_4 hS hl
      have hw := hstep_I4 n4 x2_4 x3_4 hI
      refine lv_iload_n hx hb dd_G_reachFrom_4 rfl (lv_at hl 3 rfl) ?_
      refine lv_aload_n hx hb dd_G_reachFrom_5 rfl (lv_at hl 0 rfl) ?_
      refine x_get hC hS hG0.1 rfl iw_G 1 (by decide) tb_63 rfl rfl dd_G_reachFrom_6 ?_
      refine x_icmp_ge hC rx3_4 (hm_M g 1) (tgt := 33) dd_G_reachFrom_9 (by decide) (fun c1 => ?_) (fun c1 => ?_)
      · have hw := hw.1 c1
        refine lv_iload_n hx hb dd_G_reachFrom_33 rfl (lv_at hl 2 rfl) ?_
        refine x_callSi hC hS (As := [.int (iI x2_4)]) (rest := []) cs_J_bitCount (mt_J_bitCount l X hC.2.2.1  x2_4 rx2_4 M hm_M _ _ hw) tb_312 rfl rfl ⟨Nat.le_of_ble_eq_true rfl, Nat.le_of_ble_eq_true rfl⟩ rfl hl.1 (Nat.le_of_ble_eq_true rfl) dd_G_reachFrom_34 ⟨Nat.le_refl _, Nat.le_refl _⟩ rfl (fun r34 Mx H locs rr34 hp hS => ?_)
        obtain ⟨hq, hw⟩ := hp
        rw [hq] at hS
        exact x_iret hC hS hlocks hr rr34 ⟨rfl, hw⟩ dd_G_reachFrom_37
      · have hw := hw.2 c1
        refine lv_iload_n hx hb dd_G_reachFrom_12 rfl (lv_at hl 2 rfl) ?_
        refine x_iconst hC dd_G_reachFrom_13 ?_
        refine lv_aload_n hx hb dd_G_reachFrom_14 rfl (lv_at hl 0 rfl) ?_
        refine x_get hC hS hG0.1 rfl iw_G 0 (by decide) tb_59 rfl rfl dd_G_reachFrom_15 ?_
        refine lv_iload_n hx hb dd_G_reachFrom_18 rfl (lv_at hl 3 rfl) ?_
        obtain ⟨q2, hw⟩ := hw
        refine x_iald hC hS hG0.2.1 q2 dd_G_reachFrom_19 ?_
        refine x_nm (hm_M (g + 1) _) (fun z3 rz3 ez3 => ?_)
        have hw := hw z3 ez3
        refine lv_iload_n hx hb dd_G_reachFrom_20 rfl (lv_at hl 1 rfl) ?_
        refine x_callSi hC hS (As := [.int (iI z3), .int (iI a1)]) (rest := [.int (iI 1), .int (iI x2_4)]) cs_U_goal (mt_U_goal l X hC.2.2.1  z3 rz3 a1 ra1 M hm_M _ _ hw) tb_311 rfl rfl ⟨Nat.le_of_ble_eq_true rfl, Nat.le_of_ble_eq_true rfl⟩ rfl hl.1 (Nat.le_of_ble_eq_true rfl) dd_G_reachFrom_21 ⟨Nat.le_refl _, Nat.le_refl _⟩ rfl (fun r21 Mx H locs rr21 hp hS => ?_)
        obtain ⟨hq, hw⟩ := hp
        rw [hq] at hS
        refine x_shl hC dd_G_reachFrom_24 ?_
        refine x_or hC dd_G_reachFrom_25 ?_
        refine x_nm (rng _) (fun v2_26 rv2_26 ev2_26 => ?_)
        have hw := hw v2_26 ev2_26
        refine lv_istore_n (lv' := [(2, .int (iI v2_26)), (0, .ref (xA X g)), (1, .int (iI a1)), (3, .int (iI x3_4))]) hx hb dd_G_reachFrom_26 rfl hl (by decide) rfl (fun ls hl => ?_)
        obtain ⟨hr_, hw⟩ := hw
        obtain ⟨v3_27, rv3_27, ev3_27⟩ : ∃ z : Int, inR z ∧ z = x3_4 + 1 := ⟨_, hr_, rfl⟩
        have hw := hw v3_27 ev3_27
        refine lv_iinc (v := iI v3_27) (lv' := [(3, .int (iI v3_27)), (2, .int (iI v2_26)), (0, .ref (xA X g)), (1, .int (iI a1))]) hx hb dd_G_reachFrom_27 hl (k := 3) rfl (by rw [ev3_27]; exact iI_add _ _) (by decide) rfl (fun ls hl => ?_)
        refine lv_goto (tgt := 4) hx hb dd_G_reachFrom_30 (by decide) ?_
        obtain ⟨k_4, h5, hI⟩ := hw
        exact ih_I4 k_4 h5 v2_26 v3_27 _ _ _ hI rv2_26 rv3_27 hS (lv_sub hl [2, 3, 1, 0] rfl)
  exact lp_I4 n0 0 0 _ _ _ hI (rk rfl) (rk rfl) hS (lv_sub hl [2, 3, 1, 0] rfl)
def wp_G_holding (g : Nat) (a1 : Int) (M : Mm) (post : Int → Prop) : Prop :=
  ∃ I4 : Nat → Int → Int → Prop, (∃ n, I4 n 0 0) ∧ ∀ (n4 : Nat) (x2_4 : Int) (x3_4 : Int), I4 n4 x2_4 x3_4 →
    (((M g 1) ≤ x3_4 → post x2_4) ∧
      (¬ (M g 1) ≤ x3_4 → (0 ≤ x3_4 ∧ x3_4 < 5040) ∧ ∀ z3 : Int, z3 = M (g + 1) (x3_4).toNat → wp_U_goal z3 a1 (fun (r19 : Int) => ∀ K29 : Int → Prop, (∀ (y2_29 : Int), (inR (x3_4 + 1) ∧ ∀ v3_29 : Int, v3_29 = x3_4 + 1 → ∃ k_4, k_4 < n4 ∧ I4 k_4 y2_29 v3_29) →
          K29 y2_29) →
        ((¬ r19 = a1 → K29 x2_4) ∧
        (r19 = a1 → inR (x2_4 + 1) ∧ ∀ v2_26 : Int, v2_26 = x2_4 + 1 → K29 v2_26)))))
set_option maxHeartbeats 4000000 in
set_option maxRecDepth 100000 in
theorem mt_G_holding (l : Launch) (X : Xw) (hlc : lcl X) (g : Nat) (hG0 : IsG X g) (a1 : Int) (ra1 : inR a1) (M : Mm) (hm_M : mr M) (post : Int → Prop) (sz : Nat) (hw : wp_G_holding g a1 M post) : Met l yy_G_holding (Cond.code yy_G_holding bc_G_holding 4 (some .int) :: tg) ({ frames := 1, cells := 0, slots := 0, locals := 21 } : Room) (Pw X [.ref (xA X g), .int (iI a1)] M sz) (Qi X sz (fun r M1 => M1 = M ∧ post r)) 0 0 (xF X sz) := by
  unfold wp_G_holding at hw
  refine x_enter (by decide) hlc hm_M (Nat.le_of_ble_eq_true rfl) ?_
  intro p e s m below meth c ls hC hsz hr hlocks hS hl
  have hx := hC.1.1
  have hb := hC.1.2.1
  have hl : lv_has ls 4 [(0, .ref (xA X g)), (1, .int (iI a1))] := hl
  refine x_iconst hC dd_G_holding_0 ?_
  refine lv_istore_n (lv' := [(2, .int (iI 0)), (0, .ref (xA X g)), (1, .int (iI a1))]) hx hb dd_G_holding_1 rfl hl (by decide) rfl (fun ls hl => ?_)
  refine x_iconst hC dd_G_holding_2 ?_
  refine lv_istore_n (lv' := [(3, .int (iI 0)), (2, .int (iI 0)), (0, .ref (xA X g)), (1, .int (iI a1))]) hx hb dd_G_holding_3 rfl hl (by decide) rfl (fun ls hl => ?_)
  obtain ⟨I4, ⟨n0, hI⟩, hstep_I4⟩ := hw
  have lp_I4 : ∀ (n4 : Nat) (x2_4 : Int) (x3_4 : Int) (H : Heap) (locs : List Loc) (ls : Array Slot), I4 n4 x2_4 x3_4 → inR x2_4 → inR x3_4 → St X (xF X sz) s M H locs → lv_has ls 4 [(0, .ref (xA X g)), (1, .int (iI a1)), (2, .int (iI x2_4)), (3, .int (iI x3_4))] → W p l e ({ frames := 1, cells := 0, slots := 0, locals := 21 } : Room) s m ([.ref (xA X g), .int (iI a1)] : List Value).toArray below meth c H locs 0 0 (MQ below (Qi X sz (fun r M1 => M1 = M ∧ post r)) ([.ref (xA X g), .int (iI a1)] : List Value).toArray s 0 0 (xF X sz)) (F0 m 4 ls []) := by
    intro n4
    induction n4 using Nat.strongRecOn with
    | _ n4 ih_I4 =>
      intro x2_4 x3_4 H locs ls hI rx2_4 rx3_4 hS hl
      have hw := hstep_I4 n4 x2_4 x3_4 hI
      refine lv_iload_n hx hb dd_G_holding_4 rfl (lv_at hl 3 rfl) ?_
      refine lv_aload_n hx hb dd_G_holding_5 rfl (lv_at hl 0 rfl) ?_
      refine x_get hC hS hG0.1 rfl iw_G 1 (by decide) tb_63 rfl rfl dd_G_holding_6 ?_
      refine x_icmp_ge hC rx3_4 (hm_M g 1) (tgt := 35) dd_G_holding_9 (by decide) (fun c1 => ?_) (fun c1 => ?_)
      · have hw := hw.1 c1
        refine lv_iload_n hx hb dd_G_holding_35 rfl (lv_at hl 2 rfl) ?_
        exact x_iret hC hS hlocks hr rx2_4 ⟨rfl, hw⟩ dd_G_holding_36
      · have hw := hw.2 c1
        refine lv_aload_n hx hb dd_G_holding_12 rfl (lv_at hl 0 rfl) ?_
        refine x_get hC hS hG0.1 rfl iw_G 0 (by decide) tb_59 rfl rfl dd_G_holding_13 ?_
        refine lv_iload_n hx hb dd_G_holding_16 rfl (lv_at hl 3 rfl) ?_
        obtain ⟨q2, hw⟩ := hw
        refine x_iald hC hS hG0.2.1 q2 dd_G_holding_17 ?_
        refine x_nm (hm_M (g + 1) _) (fun z3 rz3 ez3 => ?_)
        have hw := hw z3 ez3
        refine lv_iload_n hx hb dd_G_holding_18 rfl (lv_at hl 1 rfl) ?_
        refine x_callSi hC hS (As := [.int (iI z3), .int (iI a1)]) (rest := []) cs_U_goal (mt_U_goal l X hC.2.2.1  z3 rz3 a1 ra1 M hm_M _ _ hw) tb_311 rfl rfl ⟨Nat.le_of_ble_eq_true rfl, Nat.le_of_ble_eq_true rfl⟩ rfl hl.1 (Nat.le_of_ble_eq_true rfl) dd_G_holding_19 ⟨Nat.le_refl _, Nat.le_refl _⟩ rfl (fun r19 Mx H locs rr19 hp hS => ?_)
        obtain ⟨hq, hw⟩ := hp
        rw [hq] at hS
        refine lv_iload_n hx hb dd_G_holding_22 rfl (lv_at hl 1 rfl) ?_
        have hw := hw (fun (y2_29 : Int) => ∀ (H : Heap) (locs : List Loc) (ls : Array Slot), inR y2_29 → St X (xF X sz) s M H locs → lv_has ls 4 [(0, .ref (xA X g)), (1, .int (iI a1)), (2, .int (iI y2_29)), (3, .int (iI x3_4))] → W p l e ({ frames := 1, cells := 0, slots := 0, locals := 21 } : Room) s m ([.ref (xA X g), .int (iI a1)] : List Value).toArray below meth c H locs 0 0 (MQ below (Qi X sz (fun r M1 => M1 = M ∧ post r)) ([.ref (xA X g), .int (iI a1)] : List Value).toArray s 0 0 (xF X sz)) (F0 m 29 ls [])) (by
            intro y2_29 hw H locs ls ry2_29 hS hl
            obtain ⟨hr_, hw⟩ := hw
            obtain ⟨v3_29, rv3_29, ev3_29⟩ : ∃ z : Int, inR z ∧ z = x3_4 + 1 := ⟨_, hr_, rfl⟩
            have hw := hw v3_29 ev3_29
            refine lv_iinc (v := iI v3_29) (lv' := [(3, .int (iI v3_29)), (0, .ref (xA X g)), (1, .int (iI a1)), (2, .int (iI y2_29))]) hx hb dd_G_holding_29 hl (k := 3) rfl (by rw [ev3_29]; exact iI_add _ _) (by decide) rfl (fun ls hl => ?_)
            refine lv_goto (tgt := 4) hx hb dd_G_holding_32 (by decide) ?_
            obtain ⟨k_4, h5, hI⟩ := hw
            exact ih_I4 k_4 h5 y2_29 v3_29 _ _ _ hI ry2_29 rv3_29 hS (lv_sub hl [1, 2, 3, 0] rfl))
        refine x_icmp_ne hC rr19 ra1 (tgt := 29) dd_G_holding_23 (by decide) (fun c6 => ?_) (fun c6 => ?_)
        · have hw := hw.1 c6
          exact hw _ _ _ rx2_4 hS (lv_sub hl [0, 1, 2, 3] rfl)
        · have hw := hw.2 c6
          obtain ⟨hr_, hw⟩ := hw
          obtain ⟨v2_26, rv2_26, ev2_26⟩ : ∃ z : Int, inR z ∧ z = x2_4 + 1 := ⟨_, hr_, rfl⟩
          have hw := hw v2_26 ev2_26
          refine lv_iinc (v := iI v2_26) (lv' := [(2, .int (iI v2_26)), (0, .ref (xA X g)), (1, .int (iI a1)), (3, .int (iI x3_4))]) hx hb dd_G_holding_26 hl (k := 2) rfl (by rw [ev2_26]; exact iI_add _ _) (by decide) rfl (fun ls hl => ?_)
          exact hw _ _ _ rv2_26 hS (lv_sub hl [1, 2, 0, 3] rfl)
  exact lp_I4 n0 0 0 _ _ _ hI (rk rfl) (rk rfl) hS (lv_sub hl [2, 3, 1, 0] rfl)
