def wp_U_goal (a0 : Int) (a1 : Int) (post : Int → Prop) : Prop :=
  inR (6 - a1) ∧ inR (3 * (6 - a1)) ∧ post (bAnd (bShr a0 (3 * (6 - a1))) 7)
set_option maxHeartbeats 4000000 in
set_option maxRecDepth 100000 in
theorem mt_U_goal (l : Launch) (X : Xw) (hlc : lcl X) (a0 : Int) (ra0 : inR a0) (a1 : Int) (ra1 : inR a1) (M : Mm) (hm_M : mr M) (post : Int → Prop) (sz : Nat) (hw : wp_U_goal a0 a1 post) : Met l yy_U_goal (Cond.code yy_U_goal bc_U_goal 2 (some .int) :: tg) ({ frames := 0, cells := 0, slots := 0, locals := 0 } : Room) (Pw X [.int (iI a0), .int (iI a1)] M sz) (Qi X sz (fun r M1 => M1 = M ∧ post r)) 0 0 (xF X sz) := by
  unfold wp_U_goal at hw
  refine x_enter (by decide) hlc hm_M (Nat.le_of_ble_eq_true rfl) ?_
  intro p e s m below meth c ls hC hsz hr hlocks hS hl
  have hx := hC.1.1
  have hb := hC.1.2.1
  have hl : lv_has ls 2 [(0, .int (iI a0)), (1, .int (iI a1))] := hl
  refine lv_iload_n hx hb dd_U_goal_0 rfl (lv_at hl 0 rfl) ?_
  refine x_iconst hC dd_U_goal_1 ?_
  refine x_bipush hC dd_U_goal_2 (by decide) ?_
  refine lv_iload_n hx hb dd_U_goal_4 rfl (lv_at hl 1 rfl) ?_
  obtain ⟨q1, hw⟩ := hw
  refine x_sub hC dd_U_goal_5 ?_
  obtain ⟨q2, hw⟩ := hw
  refine x_mul hC dd_U_goal_6 ?_
  refine x_shr hC dd_U_goal_7 ?_
  refine x_bipush hC dd_U_goal_8 (by decide) ?_
  refine x_and hC dd_U_goal_10 ?_
  exact x_iret hC hS hlocks hr (rng _) ⟨rfl, hw⟩ dd_U_goal_11
def wp_J_bitCount (a0 : Int) (post : Int → Prop) : Prop :=
  inR (a0 - (bAnd (bUshr a0 1) 1431655765)) ∧ ∀ v0_9 : Int, v0_9 = (a0 - (bAnd (bUshr a0 1) 1431655765)) → inR ((bAnd v0_9 858993459) + (bAnd (bUshr v0_9 2) 858993459)) ∧ ∀ v0_23 : Int, v0_23 = ((bAnd v0_9 858993459) + (bAnd (bUshr v0_9 2) 858993459)) → inR (v0_23 + (bUshr v0_23 4)) ∧ ∀ v0_33 : Int, v0_33 = (bAnd (v0_23 + (bUshr v0_23 4)) 252645135) → inR (v0_33 + (bUshr v0_33 8)) ∧ ∀ v0_40 : Int, v0_40 = (v0_33 + (bUshr v0_33 8)) → inR (v0_40 + (bUshr v0_40 16)) ∧ ∀ v0_47 : Int, v0_47 = (v0_40 + (bUshr v0_40 16)) → post (bAnd v0_47 63)
set_option maxHeartbeats 4000000 in
set_option maxRecDepth 100000 in
theorem mt_J_bitCount (l : Launch) (X : Xw) (hlc : lcl X) (a0 : Int) (ra0 : inR a0) (M : Mm) (hm_M : mr M) (post : Int → Prop) (sz : Nat) (hw : wp_J_bitCount a0 post) : Met l yy_J_bitCount (Cond.code yy_J_bitCount bc_J_bitCount 1 (some .int) :: tg) ({ frames := 0, cells := 0, slots := 0, locals := 0 } : Room) (Pw X [.int (iI a0)] M sz) (Qi X sz (fun r M1 => M1 = M ∧ post r)) 0 0 (xF X sz) := by
  unfold wp_J_bitCount at hw
  refine x_enter (by decide) hlc hm_M (Nat.le_of_ble_eq_true rfl) ?_
  intro p e s m below meth c ls hC hsz hr hlocks hS hl
  have hx := hC.1.1
  have hb := hC.1.2.1
  have hl : lv_has ls 1 [(0, .int (iI a0))] := hl
  refine lv_iload_n hx hb dd_J_bitCount_0 rfl (lv_at hl 0 rfl) ?_
  refine lv_iload_n hx hb dd_J_bitCount_1 rfl (lv_at hl 0 rfl) ?_
  refine x_iconst hC dd_J_bitCount_2 ?_
  refine x_ushr hC dd_J_bitCount_3 ?_
  refine x_ldcw hC (n := 1431655765) tb_50 (by decide) dd_J_bitCount_4 ?_
  refine x_and hC dd_J_bitCount_7 ?_
  obtain ⟨q1, hw⟩ := hw
  refine x_sub hC dd_J_bitCount_8 ?_
  refine x_nm q1 (fun v0_9 rv0_9 ev0_9 => ?_)
  have hw := hw v0_9 ev0_9
  refine lv_istore_n (lv' := [(0, .int (iI v0_9))]) hx hb dd_J_bitCount_9 rfl hl (by decide) rfl (fun ls hl => ?_)
  refine lv_iload_n hx hb dd_J_bitCount_10 rfl (lv_at hl 0 rfl) ?_
  refine x_ldcw hC (n := 858993459) tb_51 (by decide) dd_J_bitCount_11 ?_
  refine x_and hC dd_J_bitCount_14 ?_
  refine lv_iload_n hx hb dd_J_bitCount_15 rfl (lv_at hl 0 rfl) ?_
  refine x_iconst hC dd_J_bitCount_16 ?_
  refine x_ushr hC dd_J_bitCount_17 ?_
  refine x_ldcw hC (n := 858993459) tb_51 (by decide) dd_J_bitCount_18 ?_
  refine x_and hC dd_J_bitCount_21 ?_
  obtain ⟨q2, hw⟩ := hw
  refine x_add hC dd_J_bitCount_22 ?_
  refine x_nm q2 (fun v0_23 rv0_23 ev0_23 => ?_)
  have hw := hw v0_23 ev0_23
  refine lv_istore_n (lv' := [(0, .int (iI v0_23))]) hx hb dd_J_bitCount_23 rfl hl (by decide) rfl (fun ls hl => ?_)
  refine lv_iload_n hx hb dd_J_bitCount_24 rfl (lv_at hl 0 rfl) ?_
  refine lv_iload_n hx hb dd_J_bitCount_25 rfl (lv_at hl 0 rfl) ?_
  refine x_iconst hC dd_J_bitCount_26 ?_
  refine x_ushr hC dd_J_bitCount_27 ?_
  obtain ⟨q3, hw⟩ := hw
  refine x_add hC dd_J_bitCount_28 ?_
  refine x_ldcw hC (n := 252645135) tb_52 (by decide) dd_J_bitCount_29 ?_
  refine x_and hC dd_J_bitCount_32 ?_
  refine x_nm (rng _) (fun v0_33 rv0_33 ev0_33 => ?_)
  have hw := hw v0_33 ev0_33
  refine lv_istore_n (lv' := [(0, .int (iI v0_33))]) hx hb dd_J_bitCount_33 rfl hl (by decide) rfl (fun ls hl => ?_)
  refine lv_iload_n hx hb dd_J_bitCount_34 rfl (lv_at hl 0 rfl) ?_
  refine lv_iload_n hx hb dd_J_bitCount_35 rfl (lv_at hl 0 rfl) ?_
  refine x_bipush hC dd_J_bitCount_36 (by decide) ?_
  refine x_ushr hC dd_J_bitCount_38 ?_
  obtain ⟨q4, hw⟩ := hw
  refine x_add hC dd_J_bitCount_39 ?_
  refine x_nm q4 (fun v0_40 rv0_40 ev0_40 => ?_)
  have hw := hw v0_40 ev0_40
  refine lv_istore_n (lv' := [(0, .int (iI v0_40))]) hx hb dd_J_bitCount_40 rfl hl (by decide) rfl (fun ls hl => ?_)
  refine lv_iload_n hx hb dd_J_bitCount_41 rfl (lv_at hl 0 rfl) ?_
  refine lv_iload_n hx hb dd_J_bitCount_42 rfl (lv_at hl 0 rfl) ?_
  refine x_bipush hC dd_J_bitCount_43 (by decide) ?_
  refine x_ushr hC dd_J_bitCount_45 ?_
  obtain ⟨q5, hw⟩ := hw
  refine x_add hC dd_J_bitCount_46 ?_
  refine x_nm q5 (fun v0_47 rv0_47 ev0_47 => ?_)
  have hw := hw v0_47 ev0_47
  refine lv_istore_n (lv' := [(0, .int (iI v0_47))]) hx hb dd_J_bitCount_47 rfl hl (by decide) rfl (fun ls hl => ?_)
  refine lv_iload_n hx hb dd_J_bitCount_48 rfl (lv_at hl 0 rfl) ?_
  refine x_bipush hC dd_J_bitCount_49 (by decide) ?_
  refine x_and hC dd_J_bitCount_51 ?_
  exact x_iret hC hS hlocks hr (rng _) ⟨rfl, hw⟩ dd_J_bitCount_52
def wp_U_rank (a0 : Int) (post : Int → Prop) : Prop :=
  ∃ I6 : Nat → Int → Int → Int → Prop, (∃ n, I6 n 0 0 0) ∧ ∀ (n6 : Nat) (x1_6 : Int) (x2_6 : Int) (x3_6 : Int), I6 n6 x1_6 x2_6 x3_6 →
    ((7 ≤ x3_6 → post x1_6) ∧
      (¬ 7 ≤ x3_6 → wp_U_goal a0 x3_6 (fun (r14 : Int) => inR ((bShl 1 r14) - 1) ∧ wp_J_bitCount (bAnd x2_6 ((bShl 1 r14) - 1)) (fun (r29 : Int) => inR (r14 - r29) ∧ ∀ v5_33 : Int, v5_33 = (r14 - r29) → inR (7 - x3_6) ∧ inR (x1_6 * (7 - x3_6)) ∧ inR ((x1_6 * (7 - x3_6)) + v5_33) ∧ ∀ v1_44 : Int, v1_44 = ((x1_6 * (7 - x3_6)) + v5_33) → ∀ v2_51 : Int, v2_51 = (bOr x2_6 (bShl 1 r14)) → inR (x3_6 + 1) ∧ ∀ v3_52 : Int, v3_52 = x3_6 + 1 → ∃ k_7, k_7 < n6 ∧ I6 k_7 v1_44 v2_51 v3_52))))
set_option maxHeartbeats 4000000 in
set_option maxRecDepth 100000 in
theorem mt_U_rank (l : Launch) (X : Xw) (hlc : lcl X) (a0 : Int) (ra0 : inR a0) (M : Mm) (hm_M : mr M) (post : Int → Prop) (sz : Nat) (hw : wp_U_rank a0 post) : Met l yy_U_rank (Cond.code yy_U_rank bc_U_rank 6 (some .int) :: tg) ({ frames := 1, cells := 0, slots := 0, locals := 21 } : Room) (Pw X [.int (iI a0)] M sz) (Qi X sz (fun r M1 => M1 = M ∧ post r)) 0 0 (xF X sz) := by
  unfold wp_U_rank at hw
  refine x_enter (by decide) hlc hm_M (Nat.le_of_ble_eq_true rfl) ?_
  intro p e s m below meth c ls hC hsz hr hlocks hS hl
  have hx := hC.1.1
  have hb := hC.1.2.1
  have hl : lv_has ls 6 [(0, .int (iI a0))] := hl
  refine x_iconst hC dd_U_rank_0 ?_
  refine lv_istore_n (lv' := [(1, .int (iI 0)), (0, .int (iI a0))]) hx hb dd_U_rank_1 rfl hl (by decide) rfl (fun ls hl => ?_)
  refine x_iconst hC dd_U_rank_2 ?_
  refine lv_istore_n (lv' := [(2, .int (iI 0)), (1, .int (iI 0)), (0, .int (iI a0))]) hx hb dd_U_rank_3 rfl hl (by decide) rfl (fun ls hl => ?_)
  refine x_iconst hC dd_U_rank_4 ?_
  refine lv_istore_n (lv' := [(3, .int (iI 0)), (2, .int (iI 0)), (1, .int (iI 0)), (0, .int (iI a0))]) hx hb dd_U_rank_5 rfl hl (by decide) rfl (fun ls hl => ?_)
  obtain ⟨I6, ⟨n0, hI⟩, hstep_I6⟩ := hw
  have lp_I6 : ∀ (n6 : Nat) (x1_6 : Int) (x2_6 : Int) (x3_6 : Int) (H : Heap) (locs : List Loc) (ls : Array Slot), I6 n6 x1_6 x2_6 x3_6 → inR x1_6 → inR x2_6 → inR x3_6 → St X (xF X sz) s M H locs → lv_has ls 6 [(0, .int (iI a0)), (1, .int (iI x1_6)), (2, .int (iI x2_6)), (3, .int (iI x3_6))] → W p l e ({ frames := 1, cells := 0, slots := 0, locals := 21 } : Room) s m ([.int (iI a0)] : List Value).toArray below meth c H locs 0 0 (MQ below (Qi X sz (fun r M1 => M1 = M ∧ post r)) ([.int (iI a0)] : List Value).toArray s 0 0 (xF X sz)) (F0 m 6 ls []) := by
    intro n6
    induction n6 using Nat.strongRecOn with
    | _ n6 ih_I6 =>
      intro x1_6 x2_6 x3_6 H locs ls hI rx1_6 rx2_6 rx3_6 hS hl
      have hw := hstep_I6 n6 x1_6 x2_6 x3_6 hI
      refine lv_iload_n hx hb dd_U_rank_6 rfl (lv_at hl 3 rfl) ?_
      refine x_bipush hC dd_U_rank_7 (by decide) ?_
      refine x_icmp_ge hC rx3_6 (rk rfl) (tgt := 58) dd_U_rank_9 (by decide) (fun c1 => ?_) (fun c1 => ?_)
      · have hw := hw.1 c1
        refine lv_iload_n hx hb dd_U_rank_58 rfl (lv_at hl 1 rfl) ?_
        exact x_iret hC hS hlocks hr rx1_6 ⟨rfl, hw⟩ dd_U_rank_59
      · have hw := hw.2 c1
        refine lv_iload_n hx hb dd_U_rank_12 rfl (lv_at hl 0 rfl) ?_
        refine lv_iload_n hx hb dd_U_rank_13 rfl (lv_at hl 3 rfl) ?_
        refine x_callSi hC hS (As := [.int (iI a0), .int (iI x3_6)]) (rest := []) cs_U_goal (mt_U_goal l X hC.2.2.1  a0 ra0 x3_6 rx3_6 M hm_M _ _ hw) tb_44 rfl rfl ⟨Nat.le_of_ble_eq_true rfl, Nat.le_of_ble_eq_true rfl⟩ rfl hl.1 (Nat.le_of_ble_eq_true rfl) dd_U_rank_14 ⟨Nat.le_refl _, Nat.le_refl _⟩ rfl (fun r14 Mx H locs rr14 hp hS => ?_)
        obtain ⟨hq, hw⟩ := hp
        rw [hq] at hS
        refine lv_istore (lv' := [(4, .int (iI r14)), (0, .int (iI a0)), (1, .int (iI x1_6)), (2, .int (iI x2_6)), (3, .int (iI x3_6))]) hx hb dd_U_rank_17 hl (by decide) rfl (fun ls hl => ?_)
        refine lv_iload hx hb dd_U_rank_19 (lv_at hl 0 rfl) ?_
        refine lv_iload_n hx hb dd_U_rank_21 rfl (lv_at hl 3 rfl) ?_
        refine x_iconst hC dd_U_rank_22 ?_
        refine lv_iload hx hb dd_U_rank_23 (lv_at hl 0 rfl) ?_
        refine x_shl hC dd_U_rank_25 ?_
        refine x_iconst hC dd_U_rank_26 ?_
        obtain ⟨q2, hw⟩ := hw
        refine x_sub hC dd_U_rank_27 ?_
        refine x_and hC dd_U_rank_28 ?_
        refine x_callSi hC hS (As := [.int (iI (bAnd x2_6 ((bShl 1 r14) - 1)))]) (rest := [.int (iI r14)]) cs_J_bitCount (mt_J_bitCount l X hC.2.2.1  (bAnd x2_6 ((bShl 1 r14) - 1)) (rng _) M hm_M _ _ hw) tb_47 rfl rfl ⟨Nat.le_of_ble_eq_true rfl, Nat.le_of_ble_eq_true rfl⟩ rfl hl.1 (Nat.le_of_ble_eq_true rfl) dd_U_rank_29 ⟨Nat.le_refl _, Nat.le_refl _⟩ rfl (fun r29 Mx H locs rr29 hp hS => ?_)
        obtain ⟨hq, hw⟩ := hp
        rw [hq] at hS
        obtain ⟨q3, hw⟩ := hw
        refine x_sub hC dd_U_rank_32 ?_
        refine x_nm q3 (fun v5_33 rv5_33 ev5_33 => ?_)
        have hw := hw v5_33 ev5_33
        refine lv_istore (lv' := [(5, .int (iI v5_33)), (4, .int (iI r14)), (0, .int (iI a0)), (1, .int (iI x1_6)), (2, .int (iI x2_6)), (3, .int (iI x3_6))]) hx hb dd_U_rank_33 hl (by decide) rfl (fun ls hl => ?_)
        refine lv_iload_n hx hb dd_U_rank_35 rfl (lv_at hl 3 rfl) ?_
        refine x_bipush hC dd_U_rank_36 (by decide) ?_
        refine lv_iload_n hx hb dd_U_rank_38 rfl (lv_at hl 5 rfl) ?_
        obtain ⟨q4, hw⟩ := hw
        refine x_sub hC dd_U_rank_39 ?_
        obtain ⟨q5, hw⟩ := hw
        refine x_mul hC dd_U_rank_40 ?_
        refine lv_iload hx hb dd_U_rank_41 (lv_at hl 0 rfl) ?_
        obtain ⟨q6, hw⟩ := hw
        refine x_add hC dd_U_rank_43 ?_
        refine x_nm q6 (fun v1_44 rv1_44 ev1_44 => ?_)
        have hw := hw v1_44 ev1_44
        refine lv_istore_n (lv' := [(1, .int (iI v1_44)), (5, .int (iI v5_33)), (4, .int (iI r14)), (0, .int (iI a0)), (2, .int (iI x2_6)), (3, .int (iI x3_6))]) hx hb dd_U_rank_44 rfl hl (by decide) rfl (fun ls hl => ?_)
        refine lv_iload_n hx hb dd_U_rank_45 rfl (lv_at hl 4 rfl) ?_
        refine x_iconst hC dd_U_rank_46 ?_
        refine lv_iload hx hb dd_U_rank_47 (lv_at hl 2 rfl) ?_
        refine x_shl hC dd_U_rank_49 ?_
        refine x_or hC dd_U_rank_50 ?_
        refine x_nm (rng _) (fun v2_51 rv2_51 ev2_51 => ?_)
        have hw := hw v2_51 ev2_51
        refine lv_istore_n (lv' := [(2, .int (iI v2_51)), (1, .int (iI v1_44)), (5, .int (iI v5_33)), (4, .int (iI r14)), (0, .int (iI a0)), (3, .int (iI x3_6))]) hx hb dd_U_rank_51 rfl hl (by decide) rfl (fun ls hl => ?_)
        obtain ⟨hr_, hw⟩ := hw
        obtain ⟨v3_52, rv3_52, ev3_52⟩ : ∃ z : Int, inR z ∧ z = x3_6 + 1 := ⟨_, hr_, rfl⟩
        have hw := hw v3_52 ev3_52
        refine lv_iinc (v := iI v3_52) (lv' := [(3, .int (iI v3_52)), (2, .int (iI v2_51)), (1, .int (iI v1_44)), (5, .int (iI v5_33)), (4, .int (iI r14)), (0, .int (iI a0))]) hx hb dd_U_rank_52 hl (k := 5) rfl (by rw [ev3_52]; exact iI_add _ _) (by decide) rfl (fun ls hl => ?_)
        refine lv_goto (tgt := 6) hx hb dd_U_rank_55 (by decide) ?_
        obtain ⟨k_7, h8, hI⟩ := hw
        exact ih_I6 k_7 h8 v1_44 v2_51 v3_52 _ _ _ hI rv1_44 rv2_51 rv3_52 hS (lv_sub hl [5, 2, 1, 0] rfl)
  exact lp_I6 n0 0 0 0 _ _ _ hI (rk rfl) (rk rfl) (rk rfl) hS (lv_sub hl [3, 2, 1, 0] rfl)
def wp_T_isWithin (a0 : Int) (a1 : Int) (a2 : Int) (post : Int → Prop) : Prop :=
  (a0 < a1 → post 0) ∧
  (¬ a0 < a1 → (a2 < a0 → post 0) ∧
    (¬ a2 < a0 → post 1))
set_option maxHeartbeats 4000000 in
set_option maxRecDepth 100000 in
theorem mt_T_isWithin (l : Launch) (X : Xw) (hlc : lcl X) (a0 : Int) (ra0 : inR a0) (a1 : Int) (ra1 : inR a1) (a2 : Int) (ra2 : inR a2) (M : Mm) (hm_M : mr M) (post : Int → Prop) (sz : Nat) (hw : wp_T_isWithin a0 a1 a2 post) : Met l yy_T_isWithin (Cond.code yy_T_isWithin bc_T_isWithin 3 (some .boolean) :: tg) ({ frames := 0, cells := 0, slots := 0, locals := 0 } : Room) (Pw X [.int (iI a0), .int (iI a1), .int (iI a2)] M sz) (Qi X sz (fun r M1 => M1 = M ∧ post r)) 0 0 (xF X sz) := by
  unfold wp_T_isWithin at hw
  refine x_enter (by decide) hlc hm_M (Nat.le_of_ble_eq_true rfl) ?_
  intro p e s m below meth c ls hC hsz hr hlocks hS hl
  have hx := hC.1.1
  have hb := hC.1.2.1
  have hl : lv_has ls 3 [(0, .int (iI a0)), (1, .int (iI a1)), (2, .int (iI a2))] := hl
  refine lv_iload_n hx hb dd_T_isWithin_0 rfl (lv_at hl 0 rfl) ?_
  refine lv_iload_n hx hb dd_T_isWithin_1 rfl (lv_at hl 1 rfl) ?_
  refine x_icmp_lt hC ra0 ra1 (tgt := 14) dd_T_isWithin_2 (by decide) (fun c1 => ?_) (fun c1 => ?_)
  · have hw := hw.1 c1
    refine x_iconst hC dd_T_isWithin_14 ?_
    exact x_zret hC hS hlocks hr (Or.inl rfl) ⟨rfl, hw⟩ dd_T_isWithin_15
  · have hw := hw.2 c1
    refine lv_iload_n hx hb dd_T_isWithin_5 rfl (lv_at hl 0 rfl) ?_
    refine lv_iload_n hx hb dd_T_isWithin_6 rfl (lv_at hl 2 rfl) ?_
    refine x_icmp_gt hC ra0 ra2 (tgt := 14) dd_T_isWithin_7 (by decide) (fun c2 => ?_) (fun c2 => ?_)
    · have hw := hw.1 c2
      refine x_iconst hC dd_T_isWithin_14 ?_
      exact x_zret hC hS hlocks hr (Or.inl rfl) ⟨rfl, hw⟩ dd_T_isWithin_15
    · have hw := hw.2 c2
      refine x_iconst hC dd_T_isWithin_10 ?_
      refine lv_goto (tgt := 15) hx hb dd_T_isWithin_11 (by decide) ?_
      exact x_zret hC hS hlocks hr (Or.inr rfl) ⟨rfl, hw⟩ dd_T_isWithin_15
def wp_U_withGoal (a0 : Int) (a1 : Int) (a2 : Int) (post : Int → Prop) : Prop :=
  inR (6 - a1) ∧ inR (3 * (6 - a1)) ∧ ∀ v3_6 : Int, v3_6 = (3 * (6 - a1)) → post (bOr (bAnd a0 (bXor (bShl 7 v3_6) (-1))) (bShl a2 v3_6))
set_option maxHeartbeats 4000000 in
set_option maxRecDepth 100000 in
theorem mt_U_withGoal (l : Launch) (X : Xw) (hlc : lcl X) (a0 : Int) (ra0 : inR a0) (a1 : Int) (ra1 : inR a1) (a2 : Int) (ra2 : inR a2) (M : Mm) (hm_M : mr M) (post : Int → Prop) (sz : Nat) (hw : wp_U_withGoal a0 a1 a2 post) : Met l yy_U_withGoal (Cond.code yy_U_withGoal bc_U_withGoal 4 (some .int) :: tg) ({ frames := 0, cells := 0, slots := 0, locals := 0 } : Room) (Pw X [.int (iI a0), .int (iI a1), .int (iI a2)] M sz) (Qi X sz (fun r M1 => M1 = M ∧ post r)) 0 0 (xF X sz) := by
  unfold wp_U_withGoal at hw
  refine x_enter (by decide) hlc hm_M (Nat.le_of_ble_eq_true rfl) ?_
  intro p e s m below meth c ls hC hsz hr hlocks hS hl
  have hx := hC.1.1
  have hb := hC.1.2.1
  have hl : lv_has ls 4 [(0, .int (iI a0)), (1, .int (iI a1)), (2, .int (iI a2))] := hl
  refine x_iconst hC dd_U_withGoal_0 ?_
  refine x_bipush hC dd_U_withGoal_1 (by decide) ?_
  refine lv_iload_n hx hb dd_U_withGoal_3 rfl (lv_at hl 1 rfl) ?_
  obtain ⟨q1, hw⟩ := hw
  refine x_sub hC dd_U_withGoal_4 ?_
  obtain ⟨q2, hw⟩ := hw
  refine x_mul hC dd_U_withGoal_5 ?_
  refine x_nm q2 (fun v3_6 rv3_6 ev3_6 => ?_)
  have hw := hw v3_6 ev3_6
  refine lv_istore_n (lv' := [(3, .int (iI v3_6)), (0, .int (iI a0)), (1, .int (iI a1)), (2, .int (iI a2))]) hx hb dd_U_withGoal_6 rfl hl (by decide) rfl (fun ls hl => ?_)
  refine lv_iload_n hx hb dd_U_withGoal_7 rfl (lv_at hl 1 rfl) ?_
  refine x_bipush hC dd_U_withGoal_8 (by decide) ?_
  refine lv_iload_n hx hb dd_U_withGoal_10 rfl (lv_at hl 0 rfl) ?_
  refine x_shl hC dd_U_withGoal_11 ?_
  refine x_iconst hC dd_U_withGoal_12 ?_
  refine x_xor hC dd_U_withGoal_13 ?_
  refine x_and hC dd_U_withGoal_14 ?_
  refine lv_iload_n hx hb dd_U_withGoal_15 rfl (lv_at hl 3 rfl) ?_
  refine lv_iload_n hx hb dd_U_withGoal_16 rfl (lv_at hl 0 rfl) ?_
  refine x_shl hC dd_U_withGoal_17 ?_
  refine x_or hC dd_U_withGoal_18 ?_
  exact x_iret hC hS hlocks hr (rng _) ⟨rfl, hw⟩ dd_U_withGoal_19
def wp_U_withThing (a0 : Int) (a1 : Int) (a2 : Int) (a3 : Int) (post : Int → Prop) : Prop :=
  ∃ I6 : Nat → Int → Int → Prop, (∃ n, I6 n a0 0) ∧ ∀ (n6 : Nat) (x4_6 : Int) (x5_6 : Int), I6 n6 x4_6 x5_6 →
    ((a3 ≤ x5_6 → post x4_6) ∧
      (¬ a3 ≤ x5_6 → inR (a1 + x5_6) ∧ inR (a2 + x5_6) ∧ wp_U_withGoal x4_6 (a1 + x5_6) (a2 + x5_6) (fun (r22 : Int) => inR (x5_6 + 1) ∧ ∀ v5_27 : Int, v5_27 = x5_6 + 1 → ∃ k_4, k_4 < n6 ∧ I6 k_4 r22 v5_27)))
set_option maxHeartbeats 4000000 in
set_option maxRecDepth 100000 in
theorem mt_U_withThing (l : Launch) (X : Xw) (hlc : lcl X) (a0 : Int) (ra0 : inR a0) (a1 : Int) (ra1 : inR a1) (a2 : Int) (ra2 : inR a2) (a3 : Int) (ra3 : inR a3) (M : Mm) (hm_M : mr M) (post : Int → Prop) (sz : Nat) (hw : wp_U_withThing a0 a1 a2 a3 post) : Met l yy_U_withThing (Cond.code yy_U_withThing bc_U_withThing 6 (some .int) :: tg) ({ frames := 1, cells := 0, slots := 0, locals := 23 } : Room) (Pw X [.int (iI a0), .int (iI a1), .int (iI a2), .int (iI a3)] M sz) (Qi X sz (fun r M1 => M1 = M ∧ post r)) 0 0 (xF X sz) := by
  unfold wp_U_withThing at hw
  refine x_enter (by decide) hlc hm_M (Nat.le_of_ble_eq_true rfl) ?_
  intro p e s m below meth c ls hC hsz hr hlocks hS hl
  have hx := hC.1.1
  have hb := hC.1.2.1
  have hl : lv_has ls 6 [(0, .int (iI a0)), (1, .int (iI a1)), (2, .int (iI a2)), (3, .int (iI a3))] := hl
  refine lv_iload_n hx hb dd_U_withThing_0 rfl (lv_at hl 0 rfl) ?_
  refine lv_istore (lv' := [(4, .int (iI a0)), (0, .int (iI a0)), (1, .int (iI a1)), (2, .int (iI a2)), (3, .int (iI a3))]) hx hb dd_U_withThing_1 hl (by decide) rfl (fun ls hl => ?_)
  refine x_iconst hC dd_U_withThing_3 ?_
  refine lv_istore (lv' := [(5, .int (iI 0)), (4, .int (iI a0)), (0, .int (iI a0)), (1, .int (iI a1)), (2, .int (iI a2)), (3, .int (iI a3))]) hx hb dd_U_withThing_4 hl (by decide) rfl (fun ls hl => ?_)
  obtain ⟨I6, ⟨n0, hI⟩, hstep_I6⟩ := hw
  have lp_I6 : ∀ (n6 : Nat) (x4_6 : Int) (x5_6 : Int) (H : Heap) (locs : List Loc) (ls : Array Slot), I6 n6 x4_6 x5_6 → inR x4_6 → inR x5_6 → St X (xF X sz) s M H locs → lv_has ls 6 [(1, .int (iI a1)), (2, .int (iI a2)), (3, .int (iI a3)), (4, .int (iI x4_6)), (5, .int (iI x5_6))] → W p l e ({ frames := 1, cells := 0, slots := 0, locals := 23 } : Room) s m ([.int (iI a0), .int (iI a1), .int (iI a2), .int (iI a3)] : List Value).toArray below meth c H locs 0 0 (MQ below (Qi X sz (fun r M1 => M1 = M ∧ post r)) ([.int (iI a0), .int (iI a1), .int (iI a2), .int (iI a3)] : List Value).toArray s 0 0 (xF X sz)) (F0 m 6 ls []) := by
    intro n6
    induction n6 using Nat.strongRecOn with
    | _ n6 ih_I6 =>
      intro x4_6 x5_6 H locs ls hI rx4_6 rx5_6 hS hl
      have hw := hstep_I6 n6 x4_6 x5_6 hI
      refine lv_iload hx hb dd_U_withThing_6 (lv_at hl 4 rfl) ?_
      refine lv_iload_n hx hb dd_U_withThing_8 rfl (lv_at hl 2 rfl) ?_
      refine x_icmp_ge hC rx5_6 ra3 (tgt := 33) dd_U_withThing_9 (by decide) (fun c1 => ?_) (fun c1 => ?_)
      · have hw := hw.1 c1
        refine lv_iload hx hb dd_U_withThing_33 (lv_at hl 3 rfl) ?_
        exact x_iret hC hS hlocks hr rx4_6 ⟨rfl, hw⟩ dd_U_withThing_35
      · have hw := hw.2 c1
        refine lv_iload hx hb dd_U_withThing_12 (lv_at hl 3 rfl) ?_
        refine lv_iload_n hx hb dd_U_withThing_14 rfl (lv_at hl 0 rfl) ?_
        refine lv_iload hx hb dd_U_withThing_15 (lv_at hl 4 rfl) ?_
        obtain ⟨q2, hw⟩ := hw
        refine x_add hC dd_U_withThing_17 ?_
        refine lv_iload_n hx hb dd_U_withThing_18 rfl (lv_at hl 1 rfl) ?_
        refine lv_iload hx hb dd_U_withThing_19 (lv_at hl 4 rfl) ?_
        obtain ⟨q3, hw⟩ := hw
        refine x_add hC dd_U_withThing_21 ?_
        refine x_callSi hC hS (As := [.int (iI x4_6), .int (iI (a1 + x5_6)), .int (iI (a2 + x5_6))]) (rest := []) cs_U_withGoal (mt_U_withGoal l X hC.2.2.1  x4_6 rx4_6 (a1 + x5_6) q2 (a2 + x5_6) q3 M hm_M _ _ hw) tb_227 rfl rfl ⟨Nat.le_of_ble_eq_true rfl, Nat.le_of_ble_eq_true rfl⟩ rfl hl.1 (Nat.le_of_ble_eq_true rfl) dd_U_withThing_22 ⟨Nat.le_refl _, Nat.le_refl _⟩ rfl (fun r22 Mx H locs rr22 hp hS => ?_)
        obtain ⟨hq, hw⟩ := hp
        rw [hq] at hS
        refine lv_istore (lv' := [(4, .int (iI r22)), (1, .int (iI a1)), (2, .int (iI a2)), (3, .int (iI a3)), (5, .int (iI x5_6))]) hx hb dd_U_withThing_25 hl (by decide) rfl (fun ls hl => ?_)
        obtain ⟨hr_, hw⟩ := hw
        obtain ⟨v5_27, rv5_27, ev5_27⟩ : ∃ z : Int, inR z ∧ z = x5_6 + 1 := ⟨_, hr_, rfl⟩
        have hw := hw v5_27 ev5_27
        refine lv_iinc (v := iI v5_27) (lv' := [(5, .int (iI v5_27)), (4, .int (iI r22)), (1, .int (iI a1)), (2, .int (iI a2)), (3, .int (iI a3))]) hx hb dd_U_withThing_27 hl (k := 4) rfl (by rw [ev5_27]; exact iI_add _ _) (by decide) rfl (fun ls hl => ?_)
        refine lv_goto (tgt := 6) hx hb dd_U_withThing_30 (by decide) ?_
        obtain ⟨k_4, h5, hI⟩ := hw
        exact ih_I6 k_4 h5 r22 v5_27 _ _ _ hI rr22 rv5_27 hS (lv_sub hl [2, 3, 4, 1, 0] rfl)
  exact lp_I6 n0 a0 0 _ _ _ hI ra0 (rk rfl) hS (lv_sub hl [3, 4, 5, 1, 0] rfl)
def wp_U_roundTurn (a0 : Int) (a1 : Int) (a2 : Int) (post : Int → Prop) : Prop :=
  ∃ I6 : Nat → Int → Int → Prop, (∃ n, I6 n 42798 0) ∧ ∀ (n6 : Nat) (x3_6 : Int) (x4_6 : Int), I6 n6 x3_6 x4_6 →
    ((a1 ≤ x4_6 → post x3_6) ∧
      (¬ a1 ≤ x4_6 → inR (x4_6 + 1) ∧ ∀ K28 : Int → Prop, (∀ (s0_28 : Int), (inR (x4_6 * a2) ∧ inR (a0 + (x4_6 * a2)) ∧ inR (s0_28 * a2) ∧ inR (a0 + (s0_28 * a2)) ∧ wp_U_withThing x3_6 (a0 + (x4_6 * a2)) (a0 + (s0_28 * a2)) a2 (fun (r44 : Int) => inR (x4_6 + 1) ∧ ∀ v4_48 : Int, v4_48 = x4_6 + 1 → ∃ k_7, k_7 < n6 ∧ I6 k_7 r44 v4_48)) →
          K28 s0_28) →
        ((a1 ≤ (x4_6 + 1) → K28 0) ∧
        (¬ a1 ≤ (x4_6 + 1) → inR (x4_6 + 1) ∧ K28 (x4_6 + 1)))))
set_option maxHeartbeats 4000000 in
set_option maxRecDepth 100000 in
theorem mt_U_roundTurn (l : Launch) (X : Xw) (hlc : lcl X) (a0 : Int) (ra0 : inR a0) (a1 : Int) (ra1 : inR a1) (a2 : Int) (ra2 : inR a2) (M : Mm) (hm_M : mr M) (post : Int → Prop) (sz : Nat) (hw : wp_U_roundTurn a0 a1 a2 post) : Met l yy_U_roundTurn (Cond.code yy_U_roundTurn bc_U_roundTurn 6 (some .int) :: tg) ({ frames := 2, cells := 0, slots := 0, locals := 48 } : Room) (Pw X [.int (iI a0), .int (iI a1), .int (iI a2)] M sz) (Qi X sz (fun r M1 => M1 = M ∧ post r)) 0 0 (xF X sz) := by
  unfold wp_U_roundTurn at hw
  refine x_enter (by decide) hlc hm_M (Nat.le_of_ble_eq_true rfl) ?_
  intro p e s m below meth c ls hC hsz hr hlocks hS hl
  have hx := hC.1.1
  have hb := hC.1.2.1
  have hl : lv_has ls 6 [(0, .int (iI a0)), (1, .int (iI a1)), (2, .int (iI a2))] := hl
  refine x_ldc hC (n := 42798) tb_223 (by decide) dd_U_roundTurn_0 ?_
  refine lv_istore_n (lv' := [(3, .int (iI 42798)), (0, .int (iI a0)), (1, .int (iI a1)), (2, .int (iI a2))]) hx hb dd_U_roundTurn_2 rfl hl (by decide) rfl (fun ls hl => ?_)
  refine x_iconst hC dd_U_roundTurn_3 ?_
  refine lv_istore (lv' := [(4, .int (iI 0)), (3, .int (iI 42798)), (0, .int (iI a0)), (1, .int (iI a1)), (2, .int (iI a2))]) hx hb dd_U_roundTurn_4 hl (by decide) rfl (fun ls hl => ?_)
  obtain ⟨I6, ⟨n0, hI⟩, hstep_I6⟩ := hw
  have lp_I6 : ∀ (n6 : Nat) (x3_6 : Int) (x4_6 : Int) (H : Heap) (locs : List Loc) (ls : Array Slot), I6 n6 x3_6 x4_6 → inR x3_6 → inR x4_6 → St X (xF X sz) s M H locs → lv_has ls 6 [(0, .int (iI a0)), (1, .int (iI a1)), (2, .int (iI a2)), (3, .int (iI x3_6)), (4, .int (iI x4_6))] → W p l e ({ frames := 2, cells := 0, slots := 0, locals := 48 } : Room) s m ([.int (iI a0), .int (iI a1), .int (iI a2)] : List Value).toArray below meth c H locs 0 0 (MQ below (Qi X sz (fun r M1 => M1 = M ∧ post r)) ([.int (iI a0), .int (iI a1), .int (iI a2)] : List Value).toArray s 0 0 (xF X sz)) (F0 m 6 ls []) := by
    intro n6
    induction n6 using Nat.strongRecOn with
    | _ n6 ih_I6 =>
      intro x3_6 x4_6 H locs ls hI rx3_6 rx4_6 hS hl
      have hw := hstep_I6 n6 x3_6 x4_6 hI
      refine lv_iload hx hb dd_U_roundTurn_6 (lv_at hl 4 rfl) ?_
      refine lv_iload_n hx hb dd_U_roundTurn_8 rfl (lv_at hl 1 rfl) ?_
      refine x_icmp_ge hC rx4_6 ra1 (tgt := 54) dd_U_roundTurn_9 (by decide) (fun c1 => ?_) (fun c1 => ?_)
      · have hw := hw.1 c1
        refine lv_iload_n hx hb dd_U_roundTurn_54 rfl (lv_at hl 3 rfl) ?_
        exact x_iret hC hS hlocks hr rx3_6 ⟨rfl, hw⟩ dd_U_roundTurn_55
      · have hw := hw.2 c1
        refine lv_iload hx hb dd_U_roundTurn_12 (lv_at hl 4 rfl) ?_
        refine x_iconst hC dd_U_roundTurn_14 ?_
        obtain ⟨q2, hw⟩ := hw
        refine x_add hC dd_U_roundTurn_15 ?_
        refine lv_iload_n hx hb dd_U_roundTurn_16 rfl (lv_at hl 1 rfl) ?_
        have hw := hw (fun (s0_28 : Int) => ∀ (H : Heap) (locs : List Loc) (ls : Array Slot), inR s0_28 → St X (xF X sz) s M H locs → lv_has ls 6 [(0, .int (iI a0)), (1, .int (iI a1)), (2, .int (iI a2)), (3, .int (iI x3_6)), (4, .int (iI x4_6))] → W p l e ({ frames := 2, cells := 0, slots := 0, locals := 48 } : Room) s m ([.int (iI a0), .int (iI a1), .int (iI a2)] : List Value).toArray below meth c H locs 0 0 (MQ below (Qi X sz (fun r M1 => M1 = M ∧ post r)) ([.int (iI a0), .int (iI a1), .int (iI a2)] : List Value).toArray s 0 0 (xF X sz)) (F0 m 28 ls [.int (iI s0_28)])) (by
            intro s0_28 hw H locs ls rs0_28 hS hl
            refine lv_istore (lv' := [(5, .int (iI s0_28)), (0, .int (iI a0)), (1, .int (iI a1)), (2, .int (iI a2)), (3, .int (iI x3_6)), (4, .int (iI x4_6))]) hx hb dd_U_roundTurn_28 hl (by decide) rfl (fun ls hl => ?_)
            refine lv_iload_n hx hb dd_U_roundTurn_30 rfl (lv_at hl 4 rfl) ?_
            refine lv_iload_n hx hb dd_U_roundTurn_31 rfl (lv_at hl 1 rfl) ?_
            refine lv_iload hx hb dd_U_roundTurn_32 (lv_at hl 5 rfl) ?_
            refine lv_iload_n hx hb dd_U_roundTurn_34 rfl (lv_at hl 3 rfl) ?_
            obtain ⟨q3, hw⟩ := hw
            refine x_mul hC dd_U_roundTurn_35 ?_
            obtain ⟨q4, hw⟩ := hw
            refine x_add hC dd_U_roundTurn_36 ?_
            refine lv_iload_n hx hb dd_U_roundTurn_37 rfl (lv_at hl 1 rfl) ?_
            refine lv_iload hx hb dd_U_roundTurn_38 (lv_at hl 0 rfl) ?_
            refine lv_iload_n hx hb dd_U_roundTurn_40 rfl (lv_at hl 3 rfl) ?_
            obtain ⟨q5, hw⟩ := hw
            refine x_mul hC dd_U_roundTurn_41 ?_
            obtain ⟨q6, hw⟩ := hw
            refine x_add hC dd_U_roundTurn_42 ?_
            refine lv_iload_n hx hb dd_U_roundTurn_43 rfl (lv_at hl 3 rfl) ?_
            refine x_callSi hC hS (As := [.int (iI x3_6), .int (iI (a0 + (x4_6 * a2))), .int (iI (a0 + (s0_28 * a2))), .int (iI a2)]) (rest := []) cs_U_withThing (mt_U_withThing l X hC.2.2.1  x3_6 rx3_6 (a0 + (x4_6 * a2)) q4 (a0 + (s0_28 * a2)) q6 a2 ra2 M hm_M _ _ hw) tb_224 rfl rfl ⟨Nat.le_of_ble_eq_true rfl, Nat.le_of_ble_eq_true rfl⟩ rfl hl.1 (Nat.le_of_ble_eq_true rfl) dd_U_roundTurn_44 ⟨Nat.le_refl _, Nat.le_refl _⟩ rfl (fun r44 Mx H locs rr44 hp hS => ?_)
            obtain ⟨hq, hw⟩ := hp
            rw [hq] at hS
            refine lv_istore_n (lv' := [(3, .int (iI r44)), (5, .int (iI s0_28)), (0, .int (iI a0)), (1, .int (iI a1)), (2, .int (iI a2)), (4, .int (iI x4_6))]) hx hb dd_U_roundTurn_47 rfl hl (by decide) rfl (fun ls hl => ?_)
            obtain ⟨hr_, hw⟩ := hw
            obtain ⟨v4_48, rv4_48, ev4_48⟩ : ∃ z : Int, inR z ∧ z = x4_6 + 1 := ⟨_, hr_, rfl⟩
            have hw := hw v4_48 ev4_48
            refine lv_iinc (v := iI v4_48) (lv' := [(4, .int (iI v4_48)), (3, .int (iI r44)), (5, .int (iI s0_28)), (0, .int (iI a0)), (1, .int (iI a1)), (2, .int (iI a2))]) hx hb dd_U_roundTurn_48 hl (k := 5) rfl (by rw [ev4_48]; exact iI_add _ _) (by decide) rfl (fun ls hl => ?_)
            refine lv_goto (tgt := 6) hx hb dd_U_roundTurn_51 (by decide) ?_
            obtain ⟨k_7, h8, hI⟩ := hw
            exact ih_I6 k_7 h8 r44 v4_48 _ _ _ hI rr44 rv4_48 hS (lv_sub hl [3, 4, 5, 1, 0] rfl))
        refine x_icmp_ge hC q2 ra1 (tgt := 27) dd_U_roundTurn_17 (by decide) (fun c9 => ?_) (fun c9 => ?_)
        · have hw := hw.1 c9
          refine x_iconst hC dd_U_roundTurn_27 ?_
          exact hw _ _ _ (rk rfl) hS (lv_sub hl [0, 1, 2, 3, 4] rfl)
        · have hw := hw.2 c9
          refine lv_iload hx hb dd_U_roundTurn_20 (lv_at hl 4 rfl) ?_
          refine x_iconst hC dd_U_roundTurn_22 ?_
          obtain ⟨q10, hw⟩ := hw
          refine x_add hC dd_U_roundTurn_23 ?_
          refine lv_goto (tgt := 28) hx hb dd_U_roundTurn_24 (by decide) ?_
          exact hw _ _ _ q10 hS (lv_sub hl [0, 1, 2, 3, 4] rfl)
  exact lp_I6 n0 42798 0 _ _ _ hI (rk rfl) (rk rfl) hS (lv_sub hl [2, 3, 4, 1, 0] rfl)
def wp_U_oneThenOther (a0 : Int) (a1 : Int) (post : Int → Prop) : Prop :=
  ∃ I4 : Nat → Int → Int → Prop, (∃ n, I4 n 0 0) ∧ ∀ (n4 : Nat) (x2_4 : Int) (x3_4 : Int), I4 n4 x2_4 x3_4 →
    ((7 ≤ x3_4 → post x2_4) ∧
      (¬ 7 ≤ x3_4 → wp_U_goal a0 x3_4 (fun (r16 : Int) => wp_U_goal a1 r16 (fun (r19 : Int) => ∀ v2_23 : Int, v2_23 = (bOr (bShl x2_4 3) r19) → inR (x3_4 + 1) ∧ ∀ v3_24 : Int, v3_24 = x3_4 + 1 → ∃ k_2, k_2 < n4 ∧ I4 k_2 v2_23 v3_24))))
set_option maxHeartbeats 4000000 in
set_option maxRecDepth 100000 in
theorem mt_U_oneThenOther (l : Launch) (X : Xw) (hlc : lcl X) (a0 : Int) (ra0 : inR a0) (a1 : Int) (ra1 : inR a1) (M : Mm) (hm_M : mr M) (post : Int → Prop) (sz : Nat) (hw : wp_U_oneThenOther a0 a1 post) : Met l yy_U_oneThenOther (Cond.code yy_U_oneThenOther bc_U_oneThenOther 4 (some .int) :: tg) ({ frames := 1, cells := 0, slots := 0, locals := 21 } : Room) (Pw X [.int (iI a0), .int (iI a1)] M sz) (Qi X sz (fun r M1 => M1 = M ∧ post r)) 0 0 (xF X sz) := by
  unfold wp_U_oneThenOther at hw
  refine x_enter (by decide) hlc hm_M (Nat.le_of_ble_eq_true rfl) ?_
  intro p e s m below meth c ls hC hsz hr hlocks hS hl
  have hx := hC.1.1
  have hb := hC.1.2.1
  have hl : lv_has ls 4 [(0, .int (iI a0)), (1, .int (iI a1))] := hl
  refine x_iconst hC dd_U_oneThenOther_0 ?_
  refine lv_istore_n (lv' := [(2, .int (iI 0)), (0, .int (iI a0)), (1, .int (iI a1))]) hx hb dd_U_oneThenOther_1 rfl hl (by decide) rfl (fun ls hl => ?_)
  refine x_iconst hC dd_U_oneThenOther_2 ?_
  refine lv_istore_n (lv' := [(3, .int (iI 0)), (2, .int (iI 0)), (0, .int (iI a0)), (1, .int (iI a1))]) hx hb dd_U_oneThenOther_3 rfl hl (by decide) rfl (fun ls hl => ?_)
  obtain ⟨I4, ⟨n0, hI⟩, hstep_I4⟩ := hw
  have lp_I4 : ∀ (n4 : Nat) (x2_4 : Int) (x3_4 : Int) (H : Heap) (locs : List Loc) (ls : Array Slot), I4 n4 x2_4 x3_4 → inR x2_4 → inR x3_4 → St X (xF X sz) s M H locs → lv_has ls 4 [(0, .int (iI a0)), (1, .int (iI a1)), (2, .int (iI x2_4)), (3, .int (iI x3_4))] → W p l e ({ frames := 1, cells := 0, slots := 0, locals := 21 } : Room) s m ([.int (iI a0), .int (iI a1)] : List Value).toArray below meth c H locs 0 0 (MQ below (Qi X sz (fun r M1 => M1 = M ∧ post r)) ([.int (iI a0), .int (iI a1)] : List Value).toArray s 0 0 (xF X sz)) (F0 m 4 ls []) := by
    intro n4
    induction n4 using Nat.strongRecOn with
    | _ n4 ih_I4 =>
      intro x2_4 x3_4 H locs ls hI rx2_4 rx3_4 hS hl
      have hw := hstep_I4 n4 x2_4 x3_4 hI
      refine lv_iload_n hx hb dd_U_oneThenOther_4 rfl (lv_at hl 3 rfl) ?_
      refine x_bipush hC dd_U_oneThenOther_5 (by decide) ?_
      refine x_icmp_ge hC rx3_4 (rk rfl) (tgt := 30) dd_U_oneThenOther_7 (by decide) (fun c1 => ?_) (fun c1 => ?_)
      · have hw := hw.1 c1
        refine lv_iload_n hx hb dd_U_oneThenOther_30 rfl (lv_at hl 2 rfl) ?_
        exact x_iret hC hS hlocks hr rx2_4 ⟨rfl, hw⟩ dd_U_oneThenOther_31
      · have hw := hw.2 c1
        refine lv_iload_n hx hb dd_U_oneThenOther_10 rfl (lv_at hl 2 rfl) ?_
        refine x_iconst hC dd_U_oneThenOther_11 ?_
        refine x_shl hC dd_U_oneThenOther_12 ?_
        refine lv_iload_n hx hb dd_U_oneThenOther_13 rfl (lv_at hl 1 rfl) ?_
        refine lv_iload_n hx hb dd_U_oneThenOther_14 rfl (lv_at hl 0 rfl) ?_
        refine lv_iload_n hx hb dd_U_oneThenOther_15 rfl (lv_at hl 3 rfl) ?_
        refine x_callSi hC hS (As := [.int (iI a0), .int (iI x3_4)]) (rest := [.int (iI a1), .int (iI (bShl x2_4 3))]) cs_U_goal (mt_U_goal l X hC.2.2.1  a0 ra0 x3_4 rx3_4 M hm_M _ _ hw) tb_44 rfl rfl ⟨Nat.le_of_ble_eq_true rfl, Nat.le_of_ble_eq_true rfl⟩ rfl hl.1 (Nat.le_of_ble_eq_true rfl) dd_U_oneThenOther_16 ⟨Nat.le_refl _, Nat.le_refl _⟩ rfl (fun r16 Mx H locs rr16 hp hS => ?_)
        obtain ⟨hq, hw⟩ := hp
        rw [hq] at hS
        refine x_callSi hC hS (As := [.int (iI a1), .int (iI r16)]) (rest := [.int (iI (bShl x2_4 3))]) cs_U_goal (mt_U_goal l X hC.2.2.1  a1 ra1 r16 rr16 M hm_M _ _ hw) tb_44 rfl rfl ⟨Nat.le_of_ble_eq_true rfl, Nat.le_of_ble_eq_true rfl⟩ rfl hl.1 (Nat.le_of_ble_eq_true rfl) dd_U_oneThenOther_19 ⟨Nat.le_refl _, Nat.le_refl _⟩ rfl (fun r19 Mx H locs rr19 hp hS => ?_)
        obtain ⟨hq, hw⟩ := hp
        rw [hq] at hS
        refine x_or hC dd_U_oneThenOther_22 ?_
        refine x_nm (rng _) (fun v2_23 rv2_23 ev2_23 => ?_)
        have hw := hw v2_23 ev2_23
        refine lv_istore_n (lv' := [(2, .int (iI v2_23)), (0, .int (iI a0)), (1, .int (iI a1)), (3, .int (iI x3_4))]) hx hb dd_U_oneThenOther_23 rfl hl (by decide) rfl (fun ls hl => ?_)
        obtain ⟨hr_, hw⟩ := hw
        obtain ⟨v3_24, rv3_24, ev3_24⟩ : ∃ z : Int, inR z ∧ z = x3_4 + 1 := ⟨_, hr_, rfl⟩
        have hw := hw v3_24 ev3_24
        refine lv_iinc (v := iI v3_24) (lv' := [(3, .int (iI v3_24)), (2, .int (iI v2_23)), (0, .int (iI a0)), (1, .int (iI a1))]) hx hb dd_U_oneThenOther_24 hl (k := 3) rfl (by rw [ev3_24]; exact iI_add _ _) (by decide) rfl (fun ls hl => ?_)
        refine lv_goto (tgt := 4) hx hb dd_U_oneThenOther_27 (by decide) ?_
        obtain ⟨k_2, h3, hI⟩ := hw
        exact ih_I4 k_2 h3 v2_23 v3_24 _ _ _ hI rv2_23 rv3_24 hS (lv_sub hl [2, 3, 1, 0] rfl)
  exact lp_I4 n0 0 0 _ _ _ hI (rk rfl) (rk rfl) hS (lv_sub hl [2, 3, 1, 0] rfl)
def wp_U_flipTurn (a0 : Int) (a1 : Int) (a2 : Int) (post : Int → Prop) : Prop :=
  ∃ I6 : Nat → Int → Int → Prop, (∃ n, I6 n 42798 0) ∧ ∀ (n6 : Nat) (x3_6 : Int) (x4_6 : Int), I6 n6 x3_6 x4_6 →
    ((a1 ≤ x4_6 → post x3_6) ∧
      (¬ a1 ≤ x4_6 → inR (x4_6 * a2) ∧ inR (a0 + (x4_6 * a2)) ∧ inR (a1 - 1) ∧ inR ((a1 - 1) - x4_6) ∧ inR (((a1 - 1) - x4_6) * a2) ∧ inR (a0 + (((a1 - 1) - x4_6) * a2)) ∧ wp_U_withThing x3_6 (a0 + (x4_6 * a2)) (a0 + (((a1 - 1) - x4_6) * a2)) a2 (fun (r30 : Int) => inR (x4_6 + 1) ∧ ∀ v4_34 : Int, v4_34 = x4_6 + 1 → ∃ k_8, k_8 < n6 ∧ I6 k_8 r30 v4_34)))
set_option maxHeartbeats 4000000 in
set_option maxRecDepth 100000 in
theorem mt_U_flipTurn (l : Launch) (X : Xw) (hlc : lcl X) (a0 : Int) (ra0 : inR a0) (a1 : Int) (ra1 : inR a1) (a2 : Int) (ra2 : inR a2) (M : Mm) (hm_M : mr M) (post : Int → Prop) (sz : Nat) (hw : wp_U_flipTurn a0 a1 a2 post) : Met l yy_U_flipTurn (Cond.code yy_U_flipTurn bc_U_flipTurn 5 (some .int) :: tg) ({ frames := 2, cells := 0, slots := 0, locals := 48 } : Room) (Pw X [.int (iI a0), .int (iI a1), .int (iI a2)] M sz) (Qi X sz (fun r M1 => M1 = M ∧ post r)) 0 0 (xF X sz) := by
  unfold wp_U_flipTurn at hw
  refine x_enter (by decide) hlc hm_M (Nat.le_of_ble_eq_true rfl) ?_
  intro p e s m below meth c ls hC hsz hr hlocks hS hl
  have hx := hC.1.1
  have hb := hC.1.2.1
  have hl : lv_has ls 5 [(0, .int (iI a0)), (1, .int (iI a1)), (2, .int (iI a2))] := hl
  refine x_ldc hC (n := 42798) tb_223 (by decide) dd_U_flipTurn_0 ?_
  refine lv_istore_n (lv' := [(3, .int (iI 42798)), (0, .int (iI a0)), (1, .int (iI a1)), (2, .int (iI a2))]) hx hb dd_U_flipTurn_2 rfl hl (by decide) rfl (fun ls hl => ?_)
  refine x_iconst hC dd_U_flipTurn_3 ?_
  refine lv_istore (lv' := [(4, .int (iI 0)), (3, .int (iI 42798)), (0, .int (iI a0)), (1, .int (iI a1)), (2, .int (iI a2))]) hx hb dd_U_flipTurn_4 hl (by decide) rfl (fun ls hl => ?_)
  obtain ⟨I6, ⟨n0, hI⟩, hstep_I6⟩ := hw
  have lp_I6 : ∀ (n6 : Nat) (x3_6 : Int) (x4_6 : Int) (H : Heap) (locs : List Loc) (ls : Array Slot), I6 n6 x3_6 x4_6 → inR x3_6 → inR x4_6 → St X (xF X sz) s M H locs → lv_has ls 5 [(0, .int (iI a0)), (1, .int (iI a1)), (2, .int (iI a2)), (3, .int (iI x3_6)), (4, .int (iI x4_6))] → W p l e ({ frames := 2, cells := 0, slots := 0, locals := 48 } : Room) s m ([.int (iI a0), .int (iI a1), .int (iI a2)] : List Value).toArray below meth c H locs 0 0 (MQ below (Qi X sz (fun r M1 => M1 = M ∧ post r)) ([.int (iI a0), .int (iI a1), .int (iI a2)] : List Value).toArray s 0 0 (xF X sz)) (F0 m 6 ls []) := by
    intro n6
    induction n6 using Nat.strongRecOn with
    | _ n6 ih_I6 =>
      intro x3_6 x4_6 H locs ls hI rx3_6 rx4_6 hS hl
      have hw := hstep_I6 n6 x3_6 x4_6 hI
      refine lv_iload hx hb dd_U_flipTurn_6 (lv_at hl 4 rfl) ?_
      refine lv_iload_n hx hb dd_U_flipTurn_8 rfl (lv_at hl 1 rfl) ?_
      refine x_icmp_ge hC rx4_6 ra1 (tgt := 40) dd_U_flipTurn_9 (by decide) (fun c1 => ?_) (fun c1 => ?_)
      · have hw := hw.1 c1
        refine lv_iload_n hx hb dd_U_flipTurn_40 rfl (lv_at hl 3 rfl) ?_
        exact x_iret hC hS hlocks hr rx3_6 ⟨rfl, hw⟩ dd_U_flipTurn_41
      · have hw := hw.2 c1
        refine lv_iload_n hx hb dd_U_flipTurn_12 rfl (lv_at hl 3 rfl) ?_
        refine lv_iload_n hx hb dd_U_flipTurn_13 rfl (lv_at hl 0 rfl) ?_
        refine lv_iload hx hb dd_U_flipTurn_14 (lv_at hl 4 rfl) ?_
        refine lv_iload_n hx hb dd_U_flipTurn_16 rfl (lv_at hl 2 rfl) ?_
        obtain ⟨q2, hw⟩ := hw
        refine x_mul hC dd_U_flipTurn_17 ?_
        obtain ⟨q3, hw⟩ := hw
        refine x_add hC dd_U_flipTurn_18 ?_
        refine lv_iload_n hx hb dd_U_flipTurn_19 rfl (lv_at hl 0 rfl) ?_
        refine lv_iload_n hx hb dd_U_flipTurn_20 rfl (lv_at hl 1 rfl) ?_
        refine x_iconst hC dd_U_flipTurn_21 ?_
        obtain ⟨q4, hw⟩ := hw
        refine x_sub hC dd_U_flipTurn_22 ?_
        refine lv_iload hx hb dd_U_flipTurn_23 (lv_at hl 4 rfl) ?_
        obtain ⟨q5, hw⟩ := hw
        refine x_sub hC dd_U_flipTurn_25 ?_
        refine lv_iload_n hx hb dd_U_flipTurn_26 rfl (lv_at hl 2 rfl) ?_
        obtain ⟨q6, hw⟩ := hw
        refine x_mul hC dd_U_flipTurn_27 ?_
        obtain ⟨q7, hw⟩ := hw
        refine x_add hC dd_U_flipTurn_28 ?_
        refine lv_iload_n hx hb dd_U_flipTurn_29 rfl (lv_at hl 2 rfl) ?_
        refine x_callSi hC hS (As := [.int (iI x3_6), .int (iI (a0 + (x4_6 * a2))), .int (iI (a0 + (((a1 - 1) - x4_6) * a2))), .int (iI a2)]) (rest := []) cs_U_withThing (mt_U_withThing l X hC.2.2.1  x3_6 rx3_6 (a0 + (x4_6 * a2)) q3 (a0 + (((a1 - 1) - x4_6) * a2)) q7 a2 ra2 M hm_M _ _ hw) tb_224 rfl rfl ⟨Nat.le_of_ble_eq_true rfl, Nat.le_of_ble_eq_true rfl⟩ rfl hl.1 (Nat.le_of_ble_eq_true rfl) dd_U_flipTurn_30 ⟨Nat.le_refl _, Nat.le_refl _⟩ rfl (fun r30 Mx H locs rr30 hp hS => ?_)
        obtain ⟨hq, hw⟩ := hp
        rw [hq] at hS
        refine lv_istore_n (lv' := [(3, .int (iI r30)), (0, .int (iI a0)), (1, .int (iI a1)), (2, .int (iI a2)), (4, .int (iI x4_6))]) hx hb dd_U_flipTurn_33 rfl hl (by decide) rfl (fun ls hl => ?_)
        obtain ⟨hr_, hw⟩ := hw
        obtain ⟨v4_34, rv4_34, ev4_34⟩ : ∃ z : Int, inR z ∧ z = x4_6 + 1 := ⟨_, hr_, rfl⟩
        have hw := hw v4_34 ev4_34
        refine lv_iinc (v := iI v4_34) (lv' := [(4, .int (iI v4_34)), (3, .int (iI r30)), (0, .int (iI a0)), (1, .int (iI a1)), (2, .int (iI a2))]) hx hb dd_U_flipTurn_34 hl (k := 4) rfl (by rw [ev4_34]; exact iI_add _ _) (by decide) rfl (fun ls hl => ?_)
        refine lv_goto (tgt := 6) hx hb dd_U_flipTurn_37 (by decide) ?_
        obtain ⟨k_8, h9, hI⟩ := hw
        exact ih_I6 k_8 h9 r30 v4_34 _ _ _ hI rr30 rv4_34 hS (lv_sub hl [2, 3, 4, 1, 0] rfl)
  exact lp_I6 n0 42798 0 _ _ _ hI (rk rfl) (rk rfl) hS (lv_sub hl [2, 3, 4, 1, 0] rfl)
def wp_U_tallyCycles (a0 : Int) (a1 : Int) (post : Int → Prop) : Prop :=
  ∃ I7 : Nat → Int → Int → Int → Prop, (∃ n, I7 n 0 0 0) ∧ ∀ (n7 : Nat) (x2_7 : Int) (x3_7 : Int) (x4_7 : Int), I7 n7 x2_7 x3_7 x4_7 →
    ((a1 ≤ x4_7 → post x2_7) ∧
      (¬ a1 ≤ x4_7 → ∃ I20 : Nat → Int → Int → Int → Prop, (∃ n, I20 n x3_7 0 x4_7) ∧ ∀ (n20 : Nat) (x3_20 : Int) (x5_20 : Int) (x6_20 : Int), I20 n20 x3_20 x5_20 x6_20 →
          (∀ K57 : Prop, ((∀ K71 : Int → Prop, (∀ (y2_71 : Int), (inR (x4_7 + 1) ∧ ∀ v4_71 : Int, v4_71 = x4_7 + 1 → ∃ k_2, k_2 < n7 ∧ I7 k_2 y2_71 x3_20 v4_71) →
                  K71 y2_71) →
                ((x5_20 ≤ 0 → K71 x2_7) ∧
                (¬ x5_20 ≤ 0 → inR (4 * x5_20) ∧ inR (x2_7 + (bShl 1 (4 * x5_20))) ∧ ∀ v2_70 : Int, v2_70 = (x2_7 + (bShl 1 (4 * x5_20))) → K71 v2_70))) →
              K57) →
            ((¬ (bAnd (bShr x3_20 x6_20) 1) = 0 → K57) ∧
            ((bAnd (bShr x3_20 x6_20) 1) = 0 → (7 ≤ x5_20 → K57) ∧
              (¬ 7 ≤ x5_20 → ∀ v3_42 : Int, v3_42 = (bOr x3_20 (bShl 1 x6_20)) → wp_U_goal a0 x6_20 (fun (r46 : Int) => inR (x5_20 + 1) ∧ ∀ v5_51 : Int, v5_51 = x5_20 + 1 → ∃ k_9, k_9 < n20 ∧ I20 k_9 v3_42 v5_51 r46)))))))
set_option maxHeartbeats 4000000 in
set_option maxRecDepth 100000 in
theorem mt_U_tallyCycles (l : Launch) (X : Xw) (hlc : lcl X) (a0 : Int) (ra0 : inR a0) (a1 : Int) (ra1 : inR a1) (M : Mm) (hm_M : mr M) (post : Int → Prop) (sz : Nat) (hw : wp_U_tallyCycles a0 a1 post) : Met l yy_U_tallyCycles (Cond.code yy_U_tallyCycles bc_U_tallyCycles 7 (some .int) :: tg) ({ frames := 1, cells := 0, slots := 0, locals := 21 } : Room) (Pw X [.int (iI a0), .int (iI a1)] M sz) (Qi X sz (fun r M1 => M1 = M ∧ post r)) 0 0 (xF X sz) := by
  unfold wp_U_tallyCycles at hw
  refine x_enter (by decide) hlc hm_M (Nat.le_of_ble_eq_true rfl) ?_
  intro p e s m below meth c ls hC hsz hr hlocks hS hl
  have hx := hC.1.1
  have hb := hC.1.2.1
  have hl : lv_has ls 7 [(0, .int (iI a0)), (1, .int (iI a1))] := hl
  refine x_iconst hC dd_U_tallyCycles_0 ?_
  refine lv_istore_n (lv' := [(2, .int (iI 0)), (0, .int (iI a0)), (1, .int (iI a1))]) hx hb dd_U_tallyCycles_1 rfl hl (by decide) rfl (fun ls hl => ?_)
  refine x_iconst hC dd_U_tallyCycles_2 ?_
  refine lv_istore_n (lv' := [(3, .int (iI 0)), (2, .int (iI 0)), (0, .int (iI a0)), (1, .int (iI a1))]) hx hb dd_U_tallyCycles_3 rfl hl (by decide) rfl (fun ls hl => ?_)
  refine x_iconst hC dd_U_tallyCycles_4 ?_
  refine lv_istore (lv' := [(4, .int (iI 0)), (3, .int (iI 0)), (2, .int (iI 0)), (0, .int (iI a0)), (1, .int (iI a1))]) hx hb dd_U_tallyCycles_5 hl (by decide) rfl (fun ls hl => ?_)
  obtain ⟨I7, ⟨n0, hI⟩, hstep_I7⟩ := hw
  have lp_I7 : ∀ (n7 : Nat) (x2_7 : Int) (x3_7 : Int) (x4_7 : Int) (H : Heap) (locs : List Loc) (ls : Array Slot), I7 n7 x2_7 x3_7 x4_7 → inR x2_7 → inR x3_7 → inR x4_7 → St X (xF X sz) s M H locs → lv_has ls 7 [(0, .int (iI a0)), (1, .int (iI a1)), (2, .int (iI x2_7)), (3, .int (iI x3_7)), (4, .int (iI x4_7))] → W p l e ({ frames := 1, cells := 0, slots := 0, locals := 21 } : Room) s m ([.int (iI a0), .int (iI a1)] : List Value).toArray below meth c H locs 0 0 (MQ below (Qi X sz (fun r M1 => M1 = M ∧ post r)) ([.int (iI a0), .int (iI a1)] : List Value).toArray s 0 0 (xF X sz)) (F0 m 7 ls []) := by
    intro n7
    induction n7 using Nat.strongRecOn with
    | _ n7 ih_I7 =>
      intro x2_7 x3_7 x4_7 H locs ls hI rx2_7 rx3_7 rx4_7 hS hl
      have hw := hstep_I7 n7 x2_7 x3_7 x4_7 hI
      refine lv_iload hx hb dd_U_tallyCycles_7 (lv_at hl 4 rfl) ?_
      refine lv_iload_n hx hb dd_U_tallyCycles_9 rfl (lv_at hl 1 rfl) ?_
      refine x_icmp_ge hC rx4_7 ra1 (tgt := 77) dd_U_tallyCycles_10 (by decide) (fun c1 => ?_) (fun c1 => ?_)
      · have hw := hw.1 c1
        refine lv_iload_n hx hb dd_U_tallyCycles_77 rfl (lv_at hl 2 rfl) ?_
        exact x_iret hC hS hlocks hr rx2_7 ⟨rfl, hw⟩ dd_U_tallyCycles_78
      · have hw := hw.2 c1
        refine x_iconst hC dd_U_tallyCycles_13 ?_
        refine lv_istore (lv' := [(5, .int (iI 0)), (0, .int (iI a0)), (1, .int (iI a1)), (2, .int (iI x2_7)), (3, .int (iI x3_7)), (4, .int (iI x4_7))]) hx hb dd_U_tallyCycles_14 hl (by decide) rfl (fun ls hl => ?_)
        refine lv_iload hx hb dd_U_tallyCycles_16 (lv_at hl 5 rfl) ?_
        refine lv_istore (lv' := [(6, .int (iI x4_7)), (5, .int (iI 0)), (0, .int (iI a0)), (1, .int (iI a1)), (2, .int (iI x2_7)), (3, .int (iI x3_7)), (4, .int (iI x4_7))]) hx hb dd_U_tallyCycles_18 hl (by decide) rfl (fun ls hl => ?_)
        obtain ⟨I20, ⟨n0, hI⟩, hstep_I20⟩ := hw
        have lp_I20 : ∀ (n20 : Nat) (x3_20 : Int) (x5_20 : Int) (x6_20 : Int) (H : Heap) (locs : List Loc) (ls : Array Slot), I20 n20 x3_20 x5_20 x6_20 → inR x3_20 → inR x5_20 → inR x6_20 → St X (xF X sz) s M H locs → lv_has ls 7 [(0, .int (iI a0)), (1, .int (iI a1)), (2, .int (iI x2_7)), (3, .int (iI x3_20)), (4, .int (iI x4_7)), (5, .int (iI x5_20)), (6, .int (iI x6_20))] → W p l e ({ frames := 1, cells := 0, slots := 0, locals := 21 } : Room) s m ([.int (iI a0), .int (iI a1)] : List Value).toArray below meth c H locs 0 0 (MQ below (Qi X sz (fun r M1 => M1 = M ∧ post r)) ([.int (iI a0), .int (iI a1)] : List Value).toArray s 0 0 (xF X sz)) (F0 m 20 ls []) := by
          intro n20
          induction n20 using Nat.strongRecOn with
          | _ n20 ih_I20 =>
            intro x3_20 x5_20 x6_20 H locs ls hI rx3_20 rx5_20 rx6_20 hS hl
            have hw := hstep_I20 n20 x3_20 x5_20 x6_20 hI
            refine lv_iload_n hx hb dd_U_tallyCycles_20 rfl (lv_at hl 3 rfl) ?_
            refine lv_iload hx hb dd_U_tallyCycles_21 (lv_at hl 6 rfl) ?_
            refine x_shr hC dd_U_tallyCycles_23 ?_
            refine x_iconst hC dd_U_tallyCycles_24 ?_
            refine x_and hC dd_U_tallyCycles_25 ?_
            have hw := hw (∀ (H : Heap) (locs : List Loc) (ls : Array Slot), St X (xF X sz) s M H locs → lv_has ls 7 [(0, .int (iI a0)), (1, .int (iI a1)), (2, .int (iI x2_7)), (3, .int (iI x3_20)), (4, .int (iI x4_7)), (5, .int (iI x5_20))] → W p l e ({ frames := 1, cells := 0, slots := 0, locals := 21 } : Room) s m ([.int (iI a0), .int (iI a1)] : List Value).toArray below meth c H locs 0 0 (MQ below (Qi X sz (fun r M1 => M1 = M ∧ post r)) ([.int (iI a0), .int (iI a1)] : List Value).toArray s 0 0 (xF X sz)) (F0 m 57 ls [])) (by
                intro  hw H locs ls  hS hl
                refine lv_iload hx hb dd_U_tallyCycles_57 (lv_at hl 5 rfl) ?_
                have hw := hw (fun (y2_71 : Int) => ∀ (H : Heap) (locs : List Loc) (ls : Array Slot), inR y2_71 → St X (xF X sz) s M H locs → lv_has ls 7 [(0, .int (iI a0)), (1, .int (iI a1)), (2, .int (iI y2_71)), (3, .int (iI x3_20)), (4, .int (iI x4_7))] → W p l e ({ frames := 1, cells := 0, slots := 0, locals := 21 } : Room) s m ([.int (iI a0), .int (iI a1)] : List Value).toArray below meth c H locs 0 0 (MQ below (Qi X sz (fun r M1 => M1 = M ∧ post r)) ([.int (iI a0), .int (iI a1)] : List Value).toArray s 0 0 (xF X sz)) (F0 m 71 ls [])) (by
                    intro y2_71 hw H locs ls ry2_71 hS hl
                    obtain ⟨hr_, hw⟩ := hw
                    obtain ⟨v4_71, rv4_71, ev4_71⟩ : ∃ z : Int, inR z ∧ z = x4_7 + 1 := ⟨_, hr_, rfl⟩
                    have hw := hw v4_71 ev4_71
                    refine lv_iinc (v := iI v4_71) (lv' := [(4, .int (iI v4_71)), (0, .int (iI a0)), (1, .int (iI a1)), (2, .int (iI y2_71)), (3, .int (iI x3_20))]) hx hb dd_U_tallyCycles_71 hl (k := 4) rfl (by rw [ev4_71]; exact iI_add _ _) (by decide) rfl (fun ls hl => ?_)
                    refine lv_goto (tgt := 7) hx hb dd_U_tallyCycles_74 (by decide) ?_
                    obtain ⟨k_2, h3, hI⟩ := hw
                    exact ih_I7 k_2 h3 y2_71 x3_20 v4_71 _ _ _ hI ry2_71 rx3_20 rv4_71 hS (lv_sub hl [1, 2, 3, 4, 0] rfl))
                refine x_if_le hC rx5_20 (tgt := 71) dd_U_tallyCycles_59 (by decide) (fun c4 => ?_) (fun c4 => ?_)
                · have hw := hw.1 c4
                  exact hw _ _ _ rx2_7 hS (lv_sub hl [0, 1, 2, 3, 4] rfl)
                · have hw := hw.2 c4
                  refine lv_iload_n hx hb dd_U_tallyCycles_62 rfl (lv_at hl 2 rfl) ?_
                  refine x_iconst hC dd_U_tallyCycles_63 ?_
                  refine x_iconst hC dd_U_tallyCycles_64 ?_
                  refine lv_iload hx hb dd_U_tallyCycles_65 (lv_at hl 5 rfl) ?_
                  obtain ⟨q5, hw⟩ := hw
                  refine x_mul hC dd_U_tallyCycles_67 ?_
                  refine x_shl hC dd_U_tallyCycles_68 ?_
                  obtain ⟨q6, hw⟩ := hw
                  refine x_add hC dd_U_tallyCycles_69 ?_
                  refine x_nm q6 (fun v2_70 rv2_70 ev2_70 => ?_)
                  have hw := hw v2_70 ev2_70
                  refine lv_istore_n (lv' := [(2, .int (iI v2_70)), (0, .int (iI a0)), (1, .int (iI a1)), (3, .int (iI x3_20)), (4, .int (iI x4_7)), (5, .int (iI x5_20))]) hx hb dd_U_tallyCycles_70 rfl hl (by decide) rfl (fun ls hl => ?_)
                  exact hw _ _ _ rv2_70 hS (lv_sub hl [1, 2, 0, 3, 4] rfl))
            refine x_if_ne hC (rng _) (tgt := 57) dd_U_tallyCycles_26 (by decide) (fun c7 => ?_) (fun c7 => ?_)
            · have hw := hw.1 c7
              exact hw _ _ _  hS (lv_sub hl [0, 1, 2, 3, 4, 5] rfl)
            · have hw := hw.2 c7
              refine lv_iload hx hb dd_U_tallyCycles_29 (lv_at hl 5 rfl) ?_
              refine x_bipush hC dd_U_tallyCycles_31 (by decide) ?_
              refine x_icmp_ge hC rx5_20 (rk rfl) (tgt := 57) dd_U_tallyCycles_33 (by decide) (fun c8 => ?_) (fun c8 => ?_)
              · have hw := hw.1 c8
                exact hw _ _ _  hS (lv_sub hl [0, 1, 2, 3, 4, 5] rfl)
              · have hw := hw.2 c8
                refine lv_iload_n hx hb dd_U_tallyCycles_36 rfl (lv_at hl 3 rfl) ?_
                refine x_iconst hC dd_U_tallyCycles_37 ?_
                refine lv_iload hx hb dd_U_tallyCycles_38 (lv_at hl 6 rfl) ?_
                refine x_shl hC dd_U_tallyCycles_40 ?_
                refine x_or hC dd_U_tallyCycles_41 ?_
                refine x_nm (rng _) (fun v3_42 rv3_42 ev3_42 => ?_)
                have hw := hw v3_42 ev3_42
                refine lv_istore_n (lv' := [(3, .int (iI v3_42)), (0, .int (iI a0)), (1, .int (iI a1)), (2, .int (iI x2_7)), (4, .int (iI x4_7)), (5, .int (iI x5_20)), (6, .int (iI x6_20))]) hx hb dd_U_tallyCycles_42 rfl hl (by decide) rfl (fun ls hl => ?_)
                refine lv_iload_n hx hb dd_U_tallyCycles_43 rfl (lv_at hl 1 rfl) ?_
                refine lv_iload hx hb dd_U_tallyCycles_44 (lv_at hl 6 rfl) ?_
                refine x_callSi hC hS (As := [.int (iI a0), .int (iI x6_20)]) (rest := []) cs_U_goal (mt_U_goal l X hC.2.2.1  a0 ra0 x6_20 rx6_20 M hm_M _ _ hw) tb_44 rfl rfl ⟨Nat.le_of_ble_eq_true rfl, Nat.le_of_ble_eq_true rfl⟩ rfl hl.1 (Nat.le_of_ble_eq_true rfl) dd_U_tallyCycles_46 ⟨Nat.le_refl _, Nat.le_refl _⟩ rfl (fun r46 Mx H locs rr46 hp hS => ?_)
                obtain ⟨hq, hw⟩ := hp
                rw [hq] at hS
                refine lv_istore (lv' := [(6, .int (iI r46)), (3, .int (iI v3_42)), (0, .int (iI a0)), (1, .int (iI a1)), (2, .int (iI x2_7)), (4, .int (iI x4_7)), (5, .int (iI x5_20))]) hx hb dd_U_tallyCycles_49 hl (by decide) rfl (fun ls hl => ?_)
                obtain ⟨hr_, hw⟩ := hw
                obtain ⟨v5_51, rv5_51, ev5_51⟩ : ∃ z : Int, inR z ∧ z = x5_20 + 1 := ⟨_, hr_, rfl⟩
                have hw := hw v5_51 ev5_51
                refine lv_iinc (v := iI v5_51) (lv' := [(5, .int (iI v5_51)), (6, .int (iI r46)), (3, .int (iI v3_42)), (0, .int (iI a0)), (1, .int (iI a1)), (2, .int (iI x2_7)), (4, .int (iI x4_7))]) hx hb dd_U_tallyCycles_51 hl (k := 6) rfl (by rw [ev5_51]; exact iI_add _ _) (by decide) rfl (fun ls hl => ?_)
                refine lv_goto (tgt := 20) hx hb dd_U_tallyCycles_54 (by decide) ?_
                obtain ⟨k_9, h10, hI⟩ := hw
                exact ih_I20 k_9 h10 v3_42 v5_51 r46 _ _ _ hI rv3_42 rv5_51 rr46 hS (lv_sub hl [3, 4, 5, 2, 6, 0, 1] rfl)
        exact lp_I20 n0 x3_7 0 x4_7 _ _ _ hI rx3_7 (rk rfl) rx4_7 hS (lv_sub hl [2, 3, 4, 5, 6, 1, 0] rfl)
  exact lp_I7 n0 0 0 0 _ _ _ hI (rk rfl) (rk rfl) (rk rfl) hS (lv_sub hl [3, 4, 2, 1, 0] rfl)
def wp_U_typeOf (a0 : Int) (a1 : Int) (post : Int → Prop) : Prop :=
  wp_U_tallyCycles a0 a1 (fun (r2 : Int) => ∃ I11 : Nat → Int → Int → Prop, (∃ n, I11 n 0 a1) ∧ ∀ (n11 : Nat) (x3_11 : Int) (x4_11 : Int), I11 n11 x3_11 x4_11 →
    ((x4_11 < 1 → post x3_11) ∧
      (¬ x4_11 < 1 → inR (4 * x4_11) ∧ ∀ v5_26 : Int, v5_26 = (bAnd (bShr r2 (4 * x4_11)) 15) → ∃ I31 : Nat → Int → Int → Prop, (∃ n, I31 n x3_11 0) ∧ ∀ (n31 : Nat) (x3_31 : Int) (x6_31 : Int), I31 n31 x3_31 x6_31 →
          ((v5_26 ≤ x6_31 → inR (x4_11 + (-1)) ∧ ∀ v4_52 : Int, v4_52 = x4_11 + (-1) → ∃ k_4, k_4 < n11 ∧ I11 k_4 x3_31 v4_52) ∧
            (¬ v5_26 ≤ x6_31 → inR (x3_31 * 10) ∧ inR ((x3_31 * 10) + x4_11) ∧ ∀ v3_45 : Int, v3_45 = ((x3_31 * 10) + x4_11) → inR (x6_31 + 1) ∧ ∀ v6_46 : Int, v6_46 = x6_31 + 1 → ∃ k_8, k_8 < n31 ∧ I31 k_8 v3_45 v6_46)))))
set_option maxHeartbeats 4000000 in
set_option maxRecDepth 100000 in
theorem mt_U_typeOf (l : Launch) (X : Xw) (hlc : lcl X) (a0 : Int) (ra0 : inR a0) (a1 : Int) (ra1 : inR a1) (M : Mm) (hm_M : mr M) (post : Int → Prop) (sz : Nat) (hw : wp_U_typeOf a0 a1 post) : Met l yy_U_typeOf (Cond.code yy_U_typeOf bc_U_typeOf 7 (some .int) :: tg) ({ frames := 2, cells := 0, slots := 0, locals := 47 } : Room) (Pw X [.int (iI a0), .int (iI a1)] M sz) (Qi X sz (fun r M1 => M1 = M ∧ post r)) 0 0 (xF X sz) := by
  unfold wp_U_typeOf at hw
  refine x_enter (by decide) hlc hm_M (Nat.le_of_ble_eq_true rfl) ?_
  intro p e s m below meth c ls hC hsz hr hlocks hS hl
  have hx := hC.1.1
  have hb := hC.1.2.1
  have hl : lv_has ls 7 [(0, .int (iI a0)), (1, .int (iI a1))] := hl
  refine lv_iload_n hx hb dd_U_typeOf_0 rfl (lv_at hl 0 rfl) ?_
  refine lv_iload_n hx hb dd_U_typeOf_1 rfl (lv_at hl 1 rfl) ?_
  refine x_callSi hC hS (As := [.int (iI a0), .int (iI a1)]) (rest := []) cs_U_tallyCycles (mt_U_tallyCycles l X hC.2.2.1  a0 ra0 a1 ra1 M hm_M _ _ hw) tb_279 rfl rfl ⟨Nat.le_of_ble_eq_true rfl, Nat.le_of_ble_eq_true rfl⟩ rfl hl.1 (Nat.le_of_ble_eq_true rfl) dd_U_typeOf_2 ⟨Nat.le_refl _, Nat.le_refl _⟩ rfl (fun r2 Mx H locs rr2 hp hS => ?_)
  obtain ⟨hq, hw⟩ := hp
  rw [hq] at hS
  refine lv_istore_n (lv' := [(2, .int (iI r2)), (0, .int (iI a0)), (1, .int (iI a1))]) hx hb dd_U_typeOf_5 rfl hl (by decide) rfl (fun ls hl => ?_)
  refine x_iconst hC dd_U_typeOf_6 ?_
  refine lv_istore_n (lv' := [(3, .int (iI 0)), (2, .int (iI r2)), (0, .int (iI a0)), (1, .int (iI a1))]) hx hb dd_U_typeOf_7 rfl hl (by decide) rfl (fun ls hl => ?_)
  refine lv_iload_n hx hb dd_U_typeOf_8 rfl (lv_at hl 3 rfl) ?_
  refine lv_istore (lv' := [(4, .int (iI a1)), (3, .int (iI 0)), (2, .int (iI r2)), (0, .int (iI a0)), (1, .int (iI a1))]) hx hb dd_U_typeOf_9 hl (by decide) rfl (fun ls hl => ?_)
  obtain ⟨I11, ⟨n0, hI⟩, hstep_I11⟩ := hw
  have lp_I11 : ∀ (n11 : Nat) (x3_11 : Int) (x4_11 : Int) (H : Heap) (locs : List Loc) (ls : Array Slot), I11 n11 x3_11 x4_11 → inR x3_11 → inR x4_11 → St X (xF X sz) s M H locs → lv_has ls 7 [(2, .int (iI r2)), (3, .int (iI x3_11)), (4, .int (iI x4_11))] → W p l e ({ frames := 2, cells := 0, slots := 0, locals := 47 } : Room) s m ([.int (iI a0), .int (iI a1)] : List Value).toArray below meth c H locs 0 0 (MQ below (Qi X sz (fun r M1 => M1 = M ∧ post r)) ([.int (iI a0), .int (iI a1)] : List Value).toArray s 0 0 (xF X sz)) (F0 m 11 ls []) := by
    intro n11
    induction n11 using Nat.strongRecOn with
    | _ n11 ih_I11 =>
      intro x3_11 x4_11 H locs ls hI rx3_11 rx4_11 hS hl
      have hw := hstep_I11 n11 x3_11 x4_11 hI
      refine lv_iload hx hb dd_U_typeOf_11 (lv_at hl 2 rfl) ?_
      refine x_iconst hC dd_U_typeOf_13 ?_
      refine x_icmp_lt hC rx4_11 (rk rfl) (tgt := 58) dd_U_typeOf_14 (by decide) (fun c1 => ?_) (fun c1 => ?_)
      · have hw := hw.1 c1
        refine lv_iload_n hx hb dd_U_typeOf_58 rfl (lv_at hl 1 rfl) ?_
        exact x_iret hC hS hlocks hr rx3_11 ⟨rfl, hw⟩ dd_U_typeOf_59
      · have hw := hw.2 c1
        refine lv_iload_n hx hb dd_U_typeOf_17 rfl (lv_at hl 0 rfl) ?_
        refine x_iconst hC dd_U_typeOf_18 ?_
        refine lv_iload hx hb dd_U_typeOf_19 (lv_at hl 2 rfl) ?_
        obtain ⟨q2, hw⟩ := hw
        refine x_mul hC dd_U_typeOf_21 ?_
        refine x_shr hC dd_U_typeOf_22 ?_
        refine x_bipush hC dd_U_typeOf_23 (by decide) ?_
        refine x_and hC dd_U_typeOf_25 ?_
        refine x_nm (rng _) (fun v5_26 rv5_26 ev5_26 => ?_)
        have hw := hw v5_26 ev5_26
        refine lv_istore (lv' := [(5, .int (iI v5_26)), (2, .int (iI r2)), (3, .int (iI x3_11)), (4, .int (iI x4_11))]) hx hb dd_U_typeOf_26 hl (by decide) rfl (fun ls hl => ?_)
        refine x_iconst hC dd_U_typeOf_28 ?_
        refine lv_istore (lv' := [(6, .int (iI 0)), (5, .int (iI v5_26)), (2, .int (iI r2)), (3, .int (iI x3_11)), (4, .int (iI x4_11))]) hx hb dd_U_typeOf_29 hl (by decide) rfl (fun ls hl => ?_)
        obtain ⟨I31, ⟨n0, hI⟩, hstep_I31⟩ := hw
        have lp_I31 : ∀ (n31 : Nat) (x3_31 : Int) (x6_31 : Int) (H : Heap) (locs : List Loc) (ls : Array Slot), I31 n31 x3_31 x6_31 → inR x3_31 → inR x6_31 → St X (xF X sz) s M H locs → lv_has ls 7 [(2, .int (iI r2)), (3, .int (iI x3_31)), (4, .int (iI x4_11)), (5, .int (iI v5_26)), (6, .int (iI x6_31))] → W p l e ({ frames := 2, cells := 0, slots := 0, locals := 47 } : Room) s m ([.int (iI a0), .int (iI a1)] : List Value).toArray below meth c H locs 0 0 (MQ below (Qi X sz (fun r M1 => M1 = M ∧ post r)) ([.int (iI a0), .int (iI a1)] : List Value).toArray s 0 0 (xF X sz)) (F0 m 31 ls []) := by
          intro n31
          induction n31 using Nat.strongRecOn with
          | _ n31 ih_I31 =>
            intro x3_31 x6_31 H locs ls hI rx3_31 rx6_31 hS hl
            have hw := hstep_I31 n31 x3_31 x6_31 hI
            refine lv_iload hx hb dd_U_typeOf_31 (lv_at hl 4 rfl) ?_
            refine lv_iload hx hb dd_U_typeOf_33 (lv_at hl 3 rfl) ?_
            refine x_icmp_ge hC rx6_31 rv5_26 (tgt := 52) dd_U_typeOf_35 (by decide) (fun c3 => ?_) (fun c3 => ?_)
            · have hw := hw.1 c3
              obtain ⟨hr_, hw⟩ := hw
              obtain ⟨v4_52, rv4_52, ev4_52⟩ : ∃ z : Int, inR z ∧ z = x4_11 + (-1) := ⟨_, hr_, rfl⟩
              have hw := hw v4_52 ev4_52
              refine lv_iinc (v := iI v4_52) (lv' := [(4, .int (iI v4_52)), (2, .int (iI r2)), (3, .int (iI x3_31)), (5, .int (iI v5_26)), (6, .int (iI x6_31))]) hx hb dd_U_typeOf_52 hl (k := 2) rfl (by rw [ev4_52]; exact iI_add _ _) (by decide) rfl (fun ls hl => ?_)
              refine lv_goto (tgt := 11) hx hb dd_U_typeOf_55 (by decide) ?_
              obtain ⟨k_4, h5, hI⟩ := hw
              exact ih_I11 k_4 h5 x3_31 v4_52 _ _ _ hI rx3_31 rv4_52 hS (lv_sub hl [1, 2, 0] rfl)
            · have hw := hw.2 c3
              refine lv_iload_n hx hb dd_U_typeOf_38 rfl (lv_at hl 1 rfl) ?_
              refine x_bipush hC dd_U_typeOf_39 (by decide) ?_
              obtain ⟨q6, hw⟩ := hw
              refine x_mul hC dd_U_typeOf_41 ?_
              refine lv_iload hx hb dd_U_typeOf_42 (lv_at hl 2 rfl) ?_
              obtain ⟨q7, hw⟩ := hw
              refine x_add hC dd_U_typeOf_44 ?_
              refine x_nm q7 (fun v3_45 rv3_45 ev3_45 => ?_)
              have hw := hw v3_45 ev3_45
              refine lv_istore_n (lv' := [(3, .int (iI v3_45)), (2, .int (iI r2)), (4, .int (iI x4_11)), (5, .int (iI v5_26)), (6, .int (iI x6_31))]) hx hb dd_U_typeOf_45 rfl hl (by decide) rfl (fun ls hl => ?_)
              obtain ⟨hr_, hw⟩ := hw
              obtain ⟨v6_46, rv6_46, ev6_46⟩ : ∃ z : Int, inR z ∧ z = x6_31 + 1 := ⟨_, hr_, rfl⟩
              have hw := hw v6_46 ev6_46
              refine lv_iinc (v := iI v6_46) (lv' := [(6, .int (iI v6_46)), (3, .int (iI v3_45)), (2, .int (iI r2)), (4, .int (iI x4_11)), (5, .int (iI v5_26))]) hx hb dd_U_typeOf_46 hl (k := 4) rfl (by rw [ev6_46]; exact iI_add _ _) (by decide) rfl (fun ls hl => ?_)
              refine lv_goto (tgt := 31) hx hb dd_U_typeOf_49 (by decide) ?_
              obtain ⟨k_8, h9, hI⟩ := hw
              exact ih_I31 k_8 h9 v3_45 v6_46 _ _ _ hI rv3_45 rv6_46 hS (lv_sub hl [2, 1, 3, 4, 0] rfl)
        exact lp_I31 n0 x3_11 0 _ _ _ hI rx3_11 (rk rfl) hS (lv_sub hl [2, 3, 4, 1, 0] rfl)
  exact lp_I11 n0 0 a1 _ _ _ hI (rk rfl) ra1 hS (lv_sub hl [2, 1, 0] rfl)
def wp_U_timesTillStill (a0 : Int) (post : Int → Prop) : Prop :=
  ∃ I4 : Nat → Int → Int → Prop, (∃ n, I4 n a0 1) ∧ ∀ (n4 : Nat) (x1_4 : Int) (x2_4 : Int), I4 n4 x1_4 x2_4 →
    ((x1_4 = 42798 → post x2_4) ∧
      (¬ x1_4 = 42798 → (12 ≤ x2_4 → post x2_4) ∧
        (¬ 12 ≤ x2_4 → wp_U_oneThenOther x1_4 a0 (fun (r18 : Int) => inR (x2_4 + 1) ∧ ∀ v2_22 : Int, v2_22 = x2_4 + 1 → ∃ k_3, k_3 < n4 ∧ I4 k_3 r18 v2_22))))
set_option maxHeartbeats 4000000 in
set_option maxRecDepth 100000 in
theorem mt_U_timesTillStill (l : Launch) (X : Xw) (hlc : lcl X) (a0 : Int) (ra0 : inR a0) (M : Mm) (hm_M : mr M) (post : Int → Prop) (sz : Nat) (hw : wp_U_timesTillStill a0 post) : Met l yy_U_timesTillStill (Cond.code yy_U_timesTillStill bc_U_timesTillStill 3 (some .int) :: tg) ({ frames := 2, cells := 0, slots := 0, locals := 44 } : Room) (Pw X [.int (iI a0)] M sz) (Qi X sz (fun r M1 => M1 = M ∧ post r)) 0 0 (xF X sz) := by
  unfold wp_U_timesTillStill at hw
  refine x_enter (by decide) hlc hm_M (Nat.le_of_ble_eq_true rfl) ?_
  intro p e s m below meth c ls hC hsz hr hlocks hS hl
  have hx := hC.1.1
  have hb := hC.1.2.1
  have hl : lv_has ls 3 [(0, .int (iI a0))] := hl
  refine lv_iload_n hx hb dd_U_timesTillStill_0 rfl (lv_at hl 0 rfl) ?_
  refine lv_istore_n (lv' := [(1, .int (iI a0)), (0, .int (iI a0))]) hx hb dd_U_timesTillStill_1 rfl hl (by decide) rfl (fun ls hl => ?_)
  refine x_iconst hC dd_U_timesTillStill_2 ?_
  refine lv_istore_n (lv' := [(2, .int (iI 1)), (1, .int (iI a0)), (0, .int (iI a0))]) hx hb dd_U_timesTillStill_3 rfl hl (by decide) rfl (fun ls hl => ?_)
  obtain ⟨I4, ⟨n0, hI⟩, hstep_I4⟩ := hw
  have lp_I4 : ∀ (n4 : Nat) (x1_4 : Int) (x2_4 : Int) (H : Heap) (locs : List Loc) (ls : Array Slot), I4 n4 x1_4 x2_4 → inR x1_4 → inR x2_4 → St X (xF X sz) s M H locs → lv_has ls 3 [(0, .int (iI a0)), (1, .int (iI x1_4)), (2, .int (iI x2_4))] → W p l e ({ frames := 2, cells := 0, slots := 0, locals := 44 } : Room) s m ([.int (iI a0)] : List Value).toArray below meth c H locs 0 0 (MQ below (Qi X sz (fun r M1 => M1 = M ∧ post r)) ([.int (iI a0)] : List Value).toArray s 0 0 (xF X sz)) (F0 m 4 ls []) := by
    intro n4
    induction n4 using Nat.strongRecOn with
    | _ n4 ih_I4 =>
      intro x1_4 x2_4 H locs ls hI rx1_4 rx2_4 hS hl
      have hw := hstep_I4 n4 x1_4 x2_4 hI
      refine lv_iload_n hx hb dd_U_timesTillStill_4 rfl (lv_at hl 1 rfl) ?_
      refine x_ldc hC (n := 42798) tb_223 (by decide) dd_U_timesTillStill_5 ?_
      refine x_icmp_eq hC rx1_4 (rk rfl) (tgt := 28) dd_U_timesTillStill_7 (by decide) (fun c1 => ?_) (fun c1 => ?_)
      · have hw := hw.1 c1
        refine lv_iload_n hx hb dd_U_timesTillStill_28 rfl (lv_at hl 2 rfl) ?_
        exact x_iret hC hS hlocks hr rx2_4 ⟨rfl, hw⟩ dd_U_timesTillStill_29
      · have hw := hw.2 c1
        refine lv_iload_n hx hb dd_U_timesTillStill_10 rfl (lv_at hl 2 rfl) ?_
        refine x_bipush hC dd_U_timesTillStill_11 (by decide) ?_
        refine x_icmp_ge hC rx2_4 (rk rfl) (tgt := 28) dd_U_timesTillStill_13 (by decide) (fun c2 => ?_) (fun c2 => ?_)
        · have hw := hw.1 c2
          refine lv_iload_n hx hb dd_U_timesTillStill_28 rfl (lv_at hl 2 rfl) ?_
          exact x_iret hC hS hlocks hr rx2_4 ⟨rfl, hw⟩ dd_U_timesTillStill_29
        · have hw := hw.2 c2
          refine lv_iload_n hx hb dd_U_timesTillStill_16 rfl (lv_at hl 1 rfl) ?_
          refine lv_iload_n hx hb dd_U_timesTillStill_17 rfl (lv_at hl 0 rfl) ?_
          refine x_callSi hC hS (As := [.int (iI x1_4), .int (iI a0)]) (rest := []) cs_U_oneThenOther (mt_U_oneThenOther l X hC.2.2.1  x1_4 rx1_4 a0 ra0 M hm_M _ _ hw) tb_285 rfl rfl ⟨Nat.le_of_ble_eq_true rfl, Nat.le_of_ble_eq_true rfl⟩ rfl hl.1 (Nat.le_of_ble_eq_true rfl) dd_U_timesTillStill_18 ⟨Nat.le_refl _, Nat.le_refl _⟩ rfl (fun r18 Mx H locs rr18 hp hS => ?_)
          obtain ⟨hq, hw⟩ := hp
          rw [hq] at hS
          refine lv_istore_n (lv' := [(1, .int (iI r18)), (0, .int (iI a0)), (2, .int (iI x2_4))]) hx hb dd_U_timesTillStill_21 rfl hl (by decide) rfl (fun ls hl => ?_)
          obtain ⟨hr_, hw⟩ := hw
          obtain ⟨v2_22, rv2_22, ev2_22⟩ : ∃ z : Int, inR z ∧ z = x2_4 + 1 := ⟨_, hr_, rfl⟩
          have hw := hw v2_22 ev2_22
          refine lv_iinc (v := iI v2_22) (lv' := [(2, .int (iI v2_22)), (1, .int (iI r18)), (0, .int (iI a0))]) hx hb dd_U_timesTillStill_22 hl (k := 2) rfl (by rw [ev2_22]; exact iI_add _ _) (by decide) rfl (fun ls hl => ?_)
          refine lv_goto (tgt := 4) hx hb dd_U_timesTillStill_25 (by decide) ?_
          obtain ⟨k_3, h4, hI⟩ := hw
          exact ih_I4 k_3 h4 r18 v2_22 _ _ _ hI rr18 rv2_22 hS (lv_sub hl [2, 1, 0] rfl)
  exact lp_I4 n0 a0 1 _ _ _ hI ra0 (rk rfl) hS (lv_sub hl [2, 1, 0] rfl)
