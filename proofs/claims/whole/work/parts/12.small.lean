def wp_D_toldTurn (a1 : Int) (M : Mm) (post : Int → Prop) : Prop :=
  ((M 2 1) = a1 → ∃ I19 : Nat → Int → Int → Int → Prop, (∃ n, I19 n 42798 0 0) ∧ ∀ (n19 : Nat) (x2_19 : Int) (x3_19 : Int) (x4_19 : Int), I19 n19 x2_19 x3_19 x4_19 →
      ((a1 ≤ x4_19 → post x2_19) ∧
        (¬ a1 ≤ x4_19 → (0 ≤ x4_19 ∧ x4_19 < 7) ∧ ∀ z4 : Int, z4 = M 3 (x4_19).toNat → inR (z4 - 48) ∧ ∀ v5_35 : Int, v5_35 = (z4 - 48) → (v5_35 < 0 → post (-7)) ∧
          (¬ v5_35 < 0 → (a1 ≤ v5_35 → post (-7)) ∧
            (¬ a1 ≤ v5_35 → (¬ (bAnd (bShr x3_19 v5_35) 1) = 1 → ∀ v3_67 : Int, v3_67 = (bOr x3_19 (bShl 1 v5_35)) → wp_U_withGoal x2_19 x4_19 v5_35 (fun (r73 : Int) => inR (x4_19 + 1) ∧ ∀ v4_77 : Int, v4_77 = x4_19 + 1 → ∃ k_9, k_9 < n19 ∧ I19 k_9 r73 v3_67 v4_77)) ∧
              ((bAnd (bShr x3_19 v5_35) 1) = 1 → post (-7))))))) ∧
  (¬ (M 2 1) = a1 → post (-7))
set_option maxHeartbeats 4000000 in
set_option maxRecDepth 100000 in
theorem mt_D_toldTurn (l : Launch) (X : Xw) (hlc : lcl X)(hD0 : IsD X) (a1 : Int) (ra1 : inR a1) (M : Mm) (hm_M : mr M) (post : Int → Prop) (sz : Nat) (hw : wp_D_toldTurn a1 M post) : Met l yy_D_toldTurn (Cond.code yy_D_toldTurn bc_D_toldTurn 6 (some .int) :: tg) ({ frames := 1, cells := 0, slots := 0, locals := 23 } : Room) (Pw X [.ref (xA X 2), .int (iI a1)] M sz) (Qi X sz (fun r M1 => M1 = M ∧ post r)) 0 0 (xF X sz) := by
  unfold wp_D_toldTurn at hw
  refine x_enter (by decide) hlc hm_M (Nat.le_of_ble_eq_true rfl) ?_
  intro p e s m below meth c ls hC hsz hr hlocks hS hl
  have hx := hC.1.1
  have hb := hC.1.2.1
  have hl : lv_has ls 6 [(0, .ref (xA X 2)), (1, .int (iI a1))] := hl
  refine lv_aload_n hx hb dd_D_toldTurn_0 rfl (lv_at hl 0 rfl) ?_
  refine x_get hC hS hD0.1 rfl iw_D 1 (by decide) tb_114 rfl rfl dd_D_toldTurn_1 ?_
  refine lv_iload_n hx hb dd_D_toldTurn_4 rfl (lv_at hl 1 rfl) ?_
  refine x_icmp_eq hC (hm_M 2 1) ra1 (tgt := 11) dd_D_toldTurn_5 (by decide) (fun c1 => ?_) (fun c1 => ?_)
  · have hw := hw.1 c1
    refine x_ldc hC (n := 42798) tb_260 (by decide) dd_D_toldTurn_11 ?_
    refine lv_istore_n (lv' := [(2, .int (iI 42798)), (0, .ref (xA X 2)), (1, .int (iI a1))]) hx hb dd_D_toldTurn_13 rfl hl (by decide) rfl (fun ls hl => ?_)
    refine x_iconst hC dd_D_toldTurn_14 ?_
    refine lv_istore_n (lv' := [(3, .int (iI 0)), (2, .int (iI 42798)), (0, .ref (xA X 2)), (1, .int (iI a1))]) hx hb dd_D_toldTurn_15 rfl hl (by decide) rfl (fun ls hl => ?_)
    refine x_iconst hC dd_D_toldTurn_16 ?_
    refine lv_istore (lv' := [(4, .int (iI 0)), (3, .int (iI 0)), (2, .int (iI 42798)), (0, .ref (xA X 2)), (1, .int (iI a1))]) hx hb dd_D_toldTurn_17 hl (by decide) rfl (fun ls hl => ?_)
    obtain ⟨I19, ⟨n0, hI⟩, hstep_I19⟩ := hw
    have lp_I19 : ∀ (n19 : Nat) (x2_19 : Int) (x3_19 : Int) (x4_19 : Int) (H : Heap) (locs : List Loc) (ls : Array Slot), I19 n19 x2_19 x3_19 x4_19 → inR x2_19 → inR x3_19 → inR x4_19 → St X (xF X sz) s M H locs → lv_has ls 6 [(0, .ref (xA X 2)), (1, .int (iI a1)), (2, .int (iI x2_19)), (3, .int (iI x3_19)), (4, .int (iI x4_19))] → W p l e ({ frames := 1, cells := 0, slots := 0, locals := 23 } : Room) s m ([.ref (xA X 2), .int (iI a1)] : List Value).toArray below meth c H locs 0 0 (MQ below (Qi X sz (fun r M1 => M1 = M ∧ post r)) ([.ref (xA X 2), .int (iI a1)] : List Value).toArray s 0 0 (xF X sz)) (F0 m 19 ls []) := by
      intro n19
      induction n19 using Nat.strongRecOn with
      | _ n19 ih_I19 =>
        intro x2_19 x3_19 x4_19 H locs ls hI rx2_19 rx3_19 rx4_19 hS hl
        have hw := hstep_I19 n19 x2_19 x3_19 x4_19 hI
        refine lv_iload hx hb dd_D_toldTurn_19 (lv_at hl 4 rfl) ?_
        refine lv_iload_n hx hb dd_D_toldTurn_21 rfl (lv_at hl 1 rfl) ?_
        refine x_icmp_ge hC rx4_19 ra1 (tgt := 83) dd_D_toldTurn_22 (by decide) (fun c2 => ?_) (fun c2 => ?_)
        · have hw := hw.1 c2
          refine lv_iload_n hx hb dd_D_toldTurn_83 rfl (lv_at hl 2 rfl) ?_
          exact x_iret hC hS hlocks hr rx2_19 ⟨rfl, hw⟩ dd_D_toldTurn_84
        · have hw := hw.2 c2
          refine lv_aload_n hx hb dd_D_toldTurn_25 rfl (lv_at hl 0 rfl) ?_
          refine x_get hC hS hD0.1 rfl iw_D 0 (by decide) tb_112 rfl rfl dd_D_toldTurn_26 ?_
          refine lv_iload hx hb dd_D_toldTurn_29 (lv_at hl 4 rfl) ?_
          obtain ⟨q3, hw⟩ := hw
          refine x_iald hC hS hD0.2 q3 dd_D_toldTurn_31 ?_
          refine x_nm (hm_M 3 _) (fun z4 rz4 ez4 => ?_)
          have hw := hw z4 ez4
          refine x_bipush hC dd_D_toldTurn_32 (by decide) ?_
          obtain ⟨q5, hw⟩ := hw
          refine x_sub hC dd_D_toldTurn_34 ?_
          refine x_nm q5 (fun v5_35 rv5_35 ev5_35 => ?_)
          have hw := hw v5_35 ev5_35
          refine lv_istore (lv' := [(5, .int (iI v5_35)), (0, .ref (xA X 2)), (1, .int (iI a1)), (2, .int (iI x2_19)), (3, .int (iI x3_19)), (4, .int (iI x4_19))]) hx hb dd_D_toldTurn_35 hl (by decide) rfl (fun ls hl => ?_)
          refine lv_iload hx hb dd_D_toldTurn_37 (lv_at hl 0 rfl) ?_
          refine x_if_lt hC rv5_35 (tgt := 58) dd_D_toldTurn_39 (by decide) (fun c6 => ?_) (fun c6 => ?_)
          · have hw := hw.1 c6
            refine x_bipush hC dd_D_toldTurn_58 (by decide) ?_
            exact x_iret hC hS hlocks hr (rk rfl) ⟨rfl, hw⟩ dd_D_toldTurn_60
          · have hw := hw.2 c6
            refine lv_iload hx hb dd_D_toldTurn_42 (lv_at hl 0 rfl) ?_
            refine lv_iload_n hx hb dd_D_toldTurn_44 rfl (lv_at hl 2 rfl) ?_
            refine x_icmp_ge hC rv5_35 ra1 (tgt := 58) dd_D_toldTurn_45 (by decide) (fun c7 => ?_) (fun c7 => ?_)
            · have hw := hw.1 c7
              refine x_bipush hC dd_D_toldTurn_58 (by decide) ?_
              exact x_iret hC hS hlocks hr (rk rfl) ⟨rfl, hw⟩ dd_D_toldTurn_60
            · have hw := hw.2 c7
              refine lv_iload_n hx hb dd_D_toldTurn_48 rfl (lv_at hl 4 rfl) ?_
              refine lv_iload hx hb dd_D_toldTurn_49 (lv_at hl 0 rfl) ?_
              refine x_shr hC dd_D_toldTurn_51 ?_
              refine x_iconst hC dd_D_toldTurn_52 ?_
              refine x_and hC dd_D_toldTurn_53 ?_
              refine x_iconst hC dd_D_toldTurn_54 ?_
              refine x_icmp_ne hC (rng _) (rk rfl) (tgt := 61) dd_D_toldTurn_55 (by decide) (fun c8 => ?_) (fun c8 => ?_)
              · have hw := hw.1 c8
                refine lv_iload_n hx hb dd_D_toldTurn_61 rfl (lv_at hl 4 rfl) ?_
                refine x_iconst hC dd_D_toldTurn_62 ?_
                refine lv_iload hx hb dd_D_toldTurn_63 (lv_at hl 0 rfl) ?_
                refine x_shl hC dd_D_toldTurn_65 ?_
                refine x_or hC dd_D_toldTurn_66 ?_
                refine x_nm (rng _) (fun v3_67 rv3_67 ev3_67 => ?_)
                have hw := hw v3_67 ev3_67
                refine lv_istore_n (lv' := [(3, .int (iI v3_67)), (5, .int (iI v5_35)), (0, .ref (xA X 2)), (1, .int (iI a1)), (2, .int (iI x2_19)), (4, .int (iI x4_19))]) hx hb dd_D_toldTurn_67 rfl hl (by decide) rfl (fun ls hl => ?_)
                refine lv_iload_n hx hb dd_D_toldTurn_68 rfl (lv_at hl 4 rfl) ?_
                refine lv_iload hx hb dd_D_toldTurn_69 (lv_at hl 5 rfl) ?_
                refine lv_iload hx hb dd_D_toldTurn_71 (lv_at hl 1 rfl) ?_
                refine x_callSi hC hS (As := [.int (iI x2_19), .int (iI x4_19), .int (iI v5_35)]) (rest := []) cs_U_withGoal (mt_U_withGoal l X hC.2.2.1  x2_19 rx2_19 x4_19 rx4_19 v5_35 rv5_35 M hm_M _ _ hw) tb_261 rfl rfl ⟨Nat.le_of_ble_eq_true rfl, Nat.le_of_ble_eq_true rfl⟩ rfl hl.1 (Nat.le_of_ble_eq_true rfl) dd_D_toldTurn_73 ⟨Nat.le_refl _, Nat.le_refl _⟩ rfl (fun r73 Mx H locs rr73 hp hS => ?_)
                obtain ⟨hq, hw⟩ := hp
                rw [hq] at hS
                refine lv_istore_n (lv' := [(2, .int (iI r73)), (3, .int (iI v3_67)), (5, .int (iI v5_35)), (0, .ref (xA X 2)), (1, .int (iI a1)), (4, .int (iI x4_19))]) hx hb dd_D_toldTurn_76 rfl hl (by decide) rfl (fun ls hl => ?_)
                obtain ⟨hr_, hw⟩ := hw
                obtain ⟨v4_77, rv4_77, ev4_77⟩ : ∃ z : Int, inR z ∧ z = x4_19 + 1 := ⟨_, hr_, rfl⟩
                have hw := hw v4_77 ev4_77
                refine lv_iinc (v := iI v4_77) (lv' := [(4, .int (iI v4_77)), (2, .int (iI r73)), (3, .int (iI v3_67)), (5, .int (iI v5_35)), (0, .ref (xA X 2)), (1, .int (iI a1))]) hx hb dd_D_toldTurn_77 hl (k := 5) rfl (by rw [ev4_77]; exact iI_add _ _) (by decide) rfl (fun ls hl => ?_)
                refine lv_goto (tgt := 19) hx hb dd_D_toldTurn_80 (by decide) ?_
                obtain ⟨k_9, h10, hI⟩ := hw
                exact ih_I19 k_9 h10 r73 v3_67 v4_77 _ _ _ hI rr73 rv3_67 rv4_77 hS (lv_sub hl [4, 5, 1, 2, 0] rfl)
              · have hw := hw.2 c8
                refine x_bipush hC dd_D_toldTurn_58 (by decide) ?_
                exact x_iret hC hS hlocks hr (rk rfl) ⟨rfl, hw⟩ dd_D_toldTurn_60
    exact lp_I19 n0 42798 0 0 _ _ _ hI (rk rfl) (rk rfl) (rk rfl) hS (lv_sub hl [3, 4, 2, 1, 0] rfl)
  · have hw := hw.2 c1
    refine x_bipush hC dd_D_toldTurn_8 (by decide) ?_
    exact x_iret hC hS hlocks hr (rk rfl) ⟨rfl, hw⟩ dd_D_toldTurn_10
def wp_S_colourings (u : Nat) (M : Mm) (post : Int → Prop) : Prop :=
  ∃ I4 : Nat → Int → Int → Prop, (∃ n, I4 n 1 0) ∧ ∀ (n4 : Nat) (x1_4 : Int) (x2_4 : Int), I4 n4 x1_4 x2_4 →
    (((M u 0) ≤ x2_4 → post x1_4) ∧
      (¬ (M u 0) ≤ x2_4 → inR (x1_4 * (M u 1)) ∧ ∀ v1_18 : Int, v1_18 = (x1_4 * (M u 1)) → inR (x2_4 + 1) ∧ ∀ v2_19 : Int, v2_19 = x2_4 + 1 → ∃ k_3, k_3 < n4 ∧ I4 k_3 v1_18 v2_19))
set_option maxHeartbeats 4000000 in
set_option maxRecDepth 100000 in
theorem mt_S_colourings (l : Launch) (X : Xw) (hlc : lcl X) (u : Nat) (hS0 : IsS X u) (M : Mm) (hm_M : mr M) (post : Int → Prop) (sz : Nat) (hw : wp_S_colourings u M post) : Met l yy_S_colourings (Cond.code yy_S_colourings bc_S_colourings 3 (some .int) :: tg) ({ frames := 0, cells := 0, slots := 0, locals := 0 } : Room) (Pw X [.ref (xA X u)] M sz) (Qi X sz (fun r M1 => M1 = M ∧ post r)) 0 0 (xF X sz) := by
  unfold wp_S_colourings at hw
  refine x_enter (by decide) hlc hm_M (Nat.le_of_ble_eq_true rfl) ?_
  intro p e s m below meth c ls hC hsz hr hlocks hS hl
  have hx := hC.1.1
  have hb := hC.1.2.1
  have hl : lv_has ls 3 [(0, .ref (xA X u))] := hl
  refine x_iconst hC dd_S_colourings_0 ?_
  refine lv_istore_n (lv' := [(1, .int (iI 1)), (0, .ref (xA X u))]) hx hb dd_S_colourings_1 rfl hl (by decide) rfl (fun ls hl => ?_)
  refine x_iconst hC dd_S_colourings_2 ?_
  refine lv_istore_n (lv' := [(2, .int (iI 0)), (1, .int (iI 1)), (0, .ref (xA X u))]) hx hb dd_S_colourings_3 rfl hl (by decide) rfl (fun ls hl => ?_)
  obtain ⟨I4, ⟨n0, hI⟩, hstep_I4⟩ := hw
  have lp_I4 : ∀ (n4 : Nat) (x1_4 : Int) (x2_4 : Int) (H : Heap) (locs : List Loc) (ls : Array Slot), I4 n4 x1_4 x2_4 → inR x1_4 → inR x2_4 → St X (xF X sz) s M H locs → lv_has ls 3 [(0, .ref (xA X u)), (1, .int (iI x1_4)), (2, .int (iI x2_4))] → W p l e ({ frames := 0, cells := 0, slots := 0, locals := 0 } : Room) s m ([.ref (xA X u)] : List Value).toArray below meth c H locs 0 0 (MQ below (Qi X sz (fun r M1 => M1 = M ∧ post r)) ([.ref (xA X u)] : List Value).toArray s 0 0 (xF X sz)) (F0 m 4 ls []) := by
    intro n4
    induction n4 using Nat.strongRecOn with
    | _ n4 ih_I4 =>
      intro x1_4 x2_4 H locs ls hI rx1_4 rx2_4 hS hl
      have hw := hstep_I4 n4 x1_4 x2_4 hI
      refine lv_iload_n hx hb dd_S_colourings_4 rfl (lv_at hl 2 rfl) ?_
      refine lv_aload_n hx hb dd_S_colourings_5 rfl (lv_at hl 0 rfl) ?_
      refine x_get hC hS hS0.1 rfl iw_S 0 (by decide) tb_83 rfl rfl dd_S_colourings_6 ?_
      refine x_icmp_ge hC rx2_4 (hm_M u 0) (tgt := 25) dd_S_colourings_9 (by decide) (fun c1 => ?_) (fun c1 => ?_)
      · have hw := hw.1 c1
        refine lv_iload_n hx hb dd_S_colourings_25 rfl (lv_at hl 1 rfl) ?_
        exact x_iret hC hS hlocks hr rx1_4 ⟨rfl, hw⟩ dd_S_colourings_26
      · have hw := hw.2 c1
        refine lv_iload_n hx hb dd_S_colourings_12 rfl (lv_at hl 1 rfl) ?_
        refine lv_aload_n hx hb dd_S_colourings_13 rfl (lv_at hl 0 rfl) ?_
        refine x_get hC hS hS0.1 rfl iw_S 1 (by decide) tb_87 rfl rfl dd_S_colourings_14 ?_
        obtain ⟨q2, hw⟩ := hw
        refine x_mul hC dd_S_colourings_17 ?_
        refine x_nm q2 (fun v1_18 rv1_18 ev1_18 => ?_)
        have hw := hw v1_18 ev1_18
        refine lv_istore_n (lv' := [(1, .int (iI v1_18)), (0, .ref (xA X u)), (2, .int (iI x2_4))]) hx hb dd_S_colourings_18 rfl hl (by decide) rfl (fun ls hl => ?_)
        obtain ⟨hr_, hw⟩ := hw
        obtain ⟨v2_19, rv2_19, ev2_19⟩ : ∃ z : Int, inR z ∧ z = x2_4 + 1 := ⟨_, hr_, rfl⟩
        have hw := hw v2_19 ev2_19
        refine lv_iinc (v := iI v2_19) (lv' := [(2, .int (iI v2_19)), (1, .int (iI v1_18)), (0, .ref (xA X u))]) hx hb dd_S_colourings_19 hl (k := 2) rfl (by rw [ev2_19]; exact iI_add _ _) (by decide) rfl (fun ls hl => ?_)
        refine lv_goto (tgt := 4) hx hb dd_S_colourings_22 (by decide) ?_
        obtain ⟨k_3, h4, hI⟩ := hw
        exact ih_I4 k_3 h4 v1_18 v2_19 _ _ _ hI rv1_18 rv2_19 hS (lv_sub hl [2, 1, 0] rfl)
  exact lp_I4 n0 1 0 _ _ _ hI (rk rfl) (rk rfl) hS (lv_sub hl [2, 1, 0] rfl)
def wp_S_isReadable (u : Nat) (a1 : Int) (M : Mm) (post : Int → Prop) : Prop :=
  (a1 < 0 → post 0) ∧
  (¬ a1 < 0 → wp_T_isWithin (M u 1) 1 4 (fun (r10 : Int) => (r10 = 0 → post 0) ∧
    (¬ r10 = 0 → post 1)))
set_option maxHeartbeats 4000000 in
set_option maxRecDepth 100000 in
theorem mt_S_isReadable (l : Launch) (X : Xw) (hlc : lcl X) (u : Nat) (hS0 : IsS X u) (a1 : Int) (ra1 : inR a1) (M : Mm) (hm_M : mr M) (post : Int → Prop) (sz : Nat) (hw : wp_S_isReadable u a1 M post) : Met l yy_S_isReadable (Cond.code yy_S_isReadable bc_S_isReadable 2 (some .boolean) :: tg) ({ frames := 1, cells := 0, slots := 0, locals := 22 } : Room) (Pw X [.ref (xA X u), .int (iI a1)] M sz) (Qi X sz (fun r M1 => M1 = M ∧ post r)) 0 0 (xF X sz) := by
  unfold wp_S_isReadable at hw
  refine x_enter (by decide) hlc hm_M (Nat.le_of_ble_eq_true rfl) ?_
  intro p e s m below meth c ls hC hsz hr hlocks hS hl
  have hx := hC.1.1
  have hb := hC.1.2.1
  have hl : lv_has ls 2 [(0, .ref (xA X u)), (1, .int (iI a1))] := hl
  refine lv_iload_n hx hb dd_S_isReadable_0 rfl (lv_at hl 1 rfl) ?_
  refine x_if_lt hC ra1 (tgt := 20) dd_S_isReadable_1 (by decide) (fun c1 => ?_) (fun c1 => ?_)
  · have hw := hw.1 c1
    refine x_iconst hC dd_S_isReadable_20 ?_
    exact x_zret hC hS hlocks hr (Or.inl rfl) ⟨rfl, hw⟩ dd_S_isReadable_21
  · have hw := hw.2 c1
    refine lv_aload_n hx hb dd_S_isReadable_4 rfl (lv_at hl 0 rfl) ?_
    refine x_get hC hS hS0.1 rfl iw_S 1 (by decide) tb_87 rfl rfl dd_S_isReadable_5 ?_
    refine x_iconst hC dd_S_isReadable_8 ?_
    refine x_iconst hC dd_S_isReadable_9 ?_
    refine x_callSiN hC hS (As := [.int (iI (M u 1)), .int (iI 1), .int (iI 4)]) (rest := []) cs_T_isWithin (mt_T_isWithin l X hC.2.2.1  (M u 1) (hm_M u 1) 1 (rk rfl) 4 (rk rfl) M hm_M _ _ hw) (nW_2 hC.2.2.2.2) rfl rfl ⟨Nat.le_of_ble_eq_true rfl, Nat.le_of_ble_eq_true rfl⟩ rfl hl.1 (Nat.le_of_ble_eq_true rfl) dd_S_isReadable_10 ⟨Nat.le_refl _, Nat.le_refl _⟩ rfl (fun r10 Mx H locs rr10 hp hS => ?_)
    obtain ⟨hq, hw⟩ := hp
    rw [hq] at hS
    refine x_if_eq hC rr10 (tgt := 20) dd_S_isReadable_13 (by decide) (fun c2 => ?_) (fun c2 => ?_)
    · have hw := hw.1 c2
      refine x_iconst hC dd_S_isReadable_20 ?_
      exact x_zret hC hS hlocks hr (Or.inl rfl) ⟨rfl, hw⟩ dd_S_isReadable_21
    · have hw := hw.2 c2
      refine x_iconst hC dd_S_isReadable_16 ?_
      refine lv_goto (tgt := 21) hx hb dd_S_isReadable_17 (by decide) ?_
      exact x_zret hC hS hlocks hr (Or.inr rfl) ⟨rfl, hw⟩ dd_S_isReadable_21
def wp_S_mirrored (u : Nat) (a1 : Int) (M : Mm) (post : Int → Prop) : Prop :=
  wp_S_isReadable u a1 M (fun (r2 : Int) => (¬ r2 = 0 → ∃ I17 : Nat → Int → Int → Int → Prop, (∃ n, I17 n a1 0 0) ∧ ∀ (n17 : Nat) (x2_17 : Int) (x3_17 : Int) (x4_17 : Int), I17 n17 x2_17 x3_17 x4_17 →
      (((M u 0) ≤ x4_17 → post x3_17) ∧
        (¬ (M u 0) ≤ x4_17 → inR (x3_17 * (M u 1)) ∧ (0 ≤ x2_17 ∧ 0 < (M u 1)) ∧ inR ((x3_17 * (M u 1)) + (x2_17 % (M u 1))) ∧ ∀ v3_39 : Int, v3_39 = ((x3_17 * (M u 1)) + (x2_17 % (M u 1))) → (0 ≤ x2_17 ∧ 0 < (M u 1)) ∧ ∀ v2_46 : Int, v2_46 = (x2_17 / (M u 1)) → inR (x4_17 + 1) ∧ ∀ v4_47 : Int, v4_47 = x4_17 + 1 → ∃ k_7, k_7 < n17 ∧ I17 k_7 v2_46 v3_39 v4_47))) ∧
  (r2 = 0 → post 0))
set_option maxHeartbeats 4000000 in
set_option maxRecDepth 100000 in
theorem mt_S_mirrored (l : Launch) (X : Xw) (hlc : lcl X) (u : Nat) (hS0 : IsS X u) (a1 : Int) (ra1 : inR a1) (M : Mm) (hm_M : mr M) (post : Int → Prop) (sz : Nat) (hw : wp_S_mirrored u a1 M post) : Met l yy_S_mirrored (Cond.code yy_S_mirrored bc_S_mirrored 5 (some .int) :: tg) ({ frames := 2, cells := 0, slots := 0, locals := 43 } : Room) (Pw X [.ref (xA X u), .int (iI a1)] M sz) (Qi X sz (fun r M1 => M1 = M ∧ post r)) 0 0 (xF X sz) := by
  unfold wp_S_mirrored at hw
  refine x_enter (by decide) hlc hm_M (Nat.le_of_ble_eq_true rfl) ?_
  intro p e s m below meth c ls hC hsz hr hlocks hS hl
  have hx := hC.1.1
  have hb := hC.1.2.1
  have hl : lv_has ls 5 [(0, .ref (xA X u)), (1, .int (iI a1))] := hl
  refine lv_aload_n hx hb dd_S_mirrored_0 rfl (lv_at hl 0 rfl) ?_
  refine lv_iload_n hx hb dd_S_mirrored_1 rfl (lv_at hl 1 rfl) ?_
  refine x_callVi hC hS (As := [.int (iI a1)]) (rest := []) hS0.1 rfl cv_S_isReadable (mt_S_isReadable l X hC.2.2.1 u hS0 a1 ra1 M hm_M _ _ hw) tb_370 rfl rfl ⟨Nat.le_of_ble_eq_true rfl, Nat.le_of_ble_eq_true rfl⟩ rfl hl.1 (Nat.le_of_ble_eq_true rfl) dd_S_mirrored_2 ⟨Nat.le_refl _, Nat.le_refl _⟩ rfl (fun r2 Mx H locs rr2 hp hS => ?_)
  obtain ⟨hq, hw⟩ := hp
  rw [hq] at hS
  refine x_if_ne hC rr2 (tgt := 10) dd_S_mirrored_5 (by decide) (fun c1 => ?_) (fun c1 => ?_)
  · have hw := hw.1 c1
    refine lv_iload_n hx hb dd_S_mirrored_10 rfl (lv_at hl 1 rfl) ?_
    refine lv_istore_n (lv' := [(2, .int (iI a1)), (0, .ref (xA X u)), (1, .int (iI a1))]) hx hb dd_S_mirrored_11 rfl hl (by decide) rfl (fun ls hl => ?_)
    refine x_iconst hC dd_S_mirrored_12 ?_
    refine lv_istore_n (lv' := [(3, .int (iI 0)), (2, .int (iI a1)), (0, .ref (xA X u)), (1, .int (iI a1))]) hx hb dd_S_mirrored_13 rfl hl (by decide) rfl (fun ls hl => ?_)
    refine x_iconst hC dd_S_mirrored_14 ?_
    refine lv_istore (lv' := [(4, .int (iI 0)), (3, .int (iI 0)), (2, .int (iI a1)), (0, .ref (xA X u)), (1, .int (iI a1))]) hx hb dd_S_mirrored_15 hl (by decide) rfl (fun ls hl => ?_)
    obtain ⟨I17, ⟨n0, hI⟩, hstep_I17⟩ := hw
    have lp_I17 : ∀ (n17 : Nat) (x2_17 : Int) (x3_17 : Int) (x4_17 : Int) (H : Heap) (locs : List Loc) (ls : Array Slot), I17 n17 x2_17 x3_17 x4_17 → inR x2_17 → inR x3_17 → inR x4_17 → St X (xF X sz) s M H locs → lv_has ls 5 [(0, .ref (xA X u)), (2, .int (iI x2_17)), (3, .int (iI x3_17)), (4, .int (iI x4_17))] → W p l e ({ frames := 2, cells := 0, slots := 0, locals := 43 } : Room) s m ([.ref (xA X u), .int (iI a1)] : List Value).toArray below meth c H locs 0 0 (MQ below (Qi X sz (fun r M1 => M1 = M ∧ post r)) ([.ref (xA X u), .int (iI a1)] : List Value).toArray s 0 0 (xF X sz)) (F0 m 17 ls []) := by
      intro n17
      induction n17 using Nat.strongRecOn with
      | _ n17 ih_I17 =>
        intro x2_17 x3_17 x4_17 H locs ls hI rx2_17 rx3_17 rx4_17 hS hl
        have hw := hstep_I17 n17 x2_17 x3_17 x4_17 hI
        refine lv_iload hx hb dd_S_mirrored_17 (lv_at hl 3 rfl) ?_
        refine lv_aload_n hx hb dd_S_mirrored_19 rfl (lv_at hl 0 rfl) ?_
        refine x_get hC hS hS0.1 rfl iw_S 0 (by decide) tb_83 rfl rfl dd_S_mirrored_20 ?_
        refine x_icmp_ge hC rx4_17 (hm_M u 0) (tgt := 53) dd_S_mirrored_23 (by decide) (fun c2 => ?_) (fun c2 => ?_)
        · have hw := hw.1 c2
          refine lv_iload_n hx hb dd_S_mirrored_53 rfl (lv_at hl 2 rfl) ?_
          exact x_iret hC hS hlocks hr rx3_17 ⟨rfl, hw⟩ dd_S_mirrored_54
        · have hw := hw.2 c2
          refine lv_iload_n hx hb dd_S_mirrored_26 rfl (lv_at hl 2 rfl) ?_
          refine lv_aload_n hx hb dd_S_mirrored_27 rfl (lv_at hl 0 rfl) ?_
          refine x_get hC hS hS0.1 rfl iw_S 1 (by decide) tb_87 rfl rfl dd_S_mirrored_28 ?_
          obtain ⟨q3, hw⟩ := hw
          refine x_mul hC dd_S_mirrored_31 ?_
          refine lv_iload_n hx hb dd_S_mirrored_32 rfl (lv_at hl 1 rfl) ?_
          refine lv_aload_n hx hb dd_S_mirrored_33 rfl (lv_at hl 0 rfl) ?_
          refine x_get hC hS hS0.1 rfl iw_S 1 (by decide) tb_87 rfl rfl dd_S_mirrored_34 ?_
          obtain ⟨q4, hw⟩ := hw
          refine x_rem hC rx2_17 (hm_M u 1) q4 dd_S_mirrored_37 ?_
          obtain ⟨q5, hw⟩ := hw
          refine x_add hC dd_S_mirrored_38 ?_
          refine x_nm q5 (fun v3_39 rv3_39 ev3_39 => ?_)
          have hw := hw v3_39 ev3_39
          refine lv_istore_n (lv' := [(3, .int (iI v3_39)), (0, .ref (xA X u)), (2, .int (iI x2_17)), (4, .int (iI x4_17))]) hx hb dd_S_mirrored_39 rfl hl (by decide) rfl (fun ls hl => ?_)
          refine lv_iload_n hx hb dd_S_mirrored_40 rfl (lv_at hl 2 rfl) ?_
          refine lv_aload_n hx hb dd_S_mirrored_41 rfl (lv_at hl 1 rfl) ?_
          refine x_get hC hS hS0.1 rfl iw_S 1 (by decide) tb_87 rfl rfl dd_S_mirrored_42 ?_
          obtain ⟨q6, hw⟩ := hw
          refine x_div hC rx2_17 (hm_M u 1) q6 dd_S_mirrored_45 ?_
          refine x_nm (rDiv rx2_17 q6.1 q6.2) (fun v2_46 rv2_46 ev2_46 => ?_)
          have hw := hw v2_46 ev2_46
          refine lv_istore_n (lv' := [(2, .int (iI v2_46)), (3, .int (iI v3_39)), (0, .ref (xA X u)), (4, .int (iI x4_17))]) hx hb dd_S_mirrored_46 rfl hl (by decide) rfl (fun ls hl => ?_)
          obtain ⟨hr_, hw⟩ := hw
          obtain ⟨v4_47, rv4_47, ev4_47⟩ : ∃ z : Int, inR z ∧ z = x4_17 + 1 := ⟨_, hr_, rfl⟩
          have hw := hw v4_47 ev4_47
          refine lv_iinc (v := iI v4_47) (lv' := [(4, .int (iI v4_47)), (2, .int (iI v2_46)), (3, .int (iI v3_39)), (0, .ref (xA X u))]) hx hb dd_S_mirrored_47 hl (k := 3) rfl (by rw [ev4_47]; exact iI_add _ _) (by decide) rfl (fun ls hl => ?_)
          refine lv_goto (tgt := 17) hx hb dd_S_mirrored_50 (by decide) ?_
          obtain ⟨k_7, h8, hI⟩ := hw
          exact ih_I17 k_7 h8 v2_46 v3_39 v4_47 _ _ _ hI rv2_46 rv3_39 rv4_47 hS (lv_sub hl [3, 1, 2, 0] rfl)
    exact lp_I17 n0 a1 0 0 _ _ _ hI ra1 (rk rfl) (rk rfl) hS (lv_sub hl [3, 2, 1, 0] rfl)
  · have hw := hw.2 c1
    refine x_iconst hC dd_S_mirrored_8 ?_
    exact x_iret hC hS hlocks hr (rk rfl) ⟨rfl, hw⟩ dd_S_mirrored_9
def wp_S_weightOf (u : Nat) (a1 : Int) (M : Mm) (post : Int → Prop) : Prop :=
  wp_S_isReadable u a1 M (fun (r2 : Int) => (¬ r2 = 0 → ∃ I17 : Nat → Int → Int → Int → Prop, (∃ n, I17 n a1 0 0) ∧ ∀ (n17 : Nat) (x2_17 : Int) (x3_17 : Int) (x4_17 : Int), I17 n17 x2_17 x3_17 x4_17 →
      (((M u 0) ≤ x4_17 → post x3_17) ∧
        (¬ (M u 0) ≤ x4_17 → (0 ≤ x2_17 ∧ 0 < (M u 1)) ∧ (0 ≤ (x2_17 % (M u 1)) ∧ (x2_17 % (M u 1)) < 4) ∧ ∀ z5 : Int, z5 = M (u + 1) ((x2_17 % (M u 1))).toNat → inR (x3_17 + z5) ∧ ∀ v3_39 : Int, v3_39 = (x3_17 + z5) → (0 ≤ x2_17 ∧ 0 < (M u 1)) ∧ ∀ v2_46 : Int, v2_46 = (x2_17 / (M u 1)) → inR (x4_17 + 1) ∧ ∀ v4_47 : Int, v4_47 = x4_17 + 1 → ∃ k_8, k_8 < n17 ∧ I17 k_8 v2_46 v3_39 v4_47))) ∧
  (r2 = 0 → post 0))
set_option maxHeartbeats 4000000 in
set_option maxRecDepth 100000 in
theorem mt_S_weightOf (l : Launch) (X : Xw) (hlc : lcl X) (u : Nat) (hS0 : IsS X u) (a1 : Int) (ra1 : inR a1) (M : Mm) (hm_M : mr M) (post : Int → Prop) (sz : Nat) (hw : wp_S_weightOf u a1 M post) : Met l yy_S_weightOf (Cond.code yy_S_weightOf bc_S_weightOf 5 (some .int) :: tg) ({ frames := 2, cells := 0, slots := 0, locals := 43 } : Room) (Pw X [.ref (xA X u), .int (iI a1)] M sz) (Qi X sz (fun r M1 => M1 = M ∧ post r)) 0 0 (xF X sz) := by
  unfold wp_S_weightOf at hw
  refine x_enter (by decide) hlc hm_M (Nat.le_of_ble_eq_true rfl) ?_
  intro p e s m below meth c ls hC hsz hr hlocks hS hl
  have hx := hC.1.1
  have hb := hC.1.2.1
  have hl : lv_has ls 5 [(0, .ref (xA X u)), (1, .int (iI a1))] := hl
  refine lv_aload_n hx hb dd_S_weightOf_0 rfl (lv_at hl 0 rfl) ?_
  refine lv_iload_n hx hb dd_S_weightOf_1 rfl (lv_at hl 1 rfl) ?_
  refine x_callVi hC hS (As := [.int (iI a1)]) (rest := []) hS0.1 rfl cv_S_isReadable (mt_S_isReadable l X hC.2.2.1 u hS0 a1 ra1 M hm_M _ _ hw) tb_370 rfl rfl ⟨Nat.le_of_ble_eq_true rfl, Nat.le_of_ble_eq_true rfl⟩ rfl hl.1 (Nat.le_of_ble_eq_true rfl) dd_S_weightOf_2 ⟨Nat.le_refl _, Nat.le_refl _⟩ rfl (fun r2 Mx H locs rr2 hp hS => ?_)
  obtain ⟨hq, hw⟩ := hp
  rw [hq] at hS
  refine x_if_ne hC rr2 (tgt := 10) dd_S_weightOf_5 (by decide) (fun c1 => ?_) (fun c1 => ?_)
  · have hw := hw.1 c1
    refine lv_iload_n hx hb dd_S_weightOf_10 rfl (lv_at hl 1 rfl) ?_
    refine lv_istore_n (lv' := [(2, .int (iI a1)), (0, .ref (xA X u)), (1, .int (iI a1))]) hx hb dd_S_weightOf_11 rfl hl (by decide) rfl (fun ls hl => ?_)
    refine x_iconst hC dd_S_weightOf_12 ?_
    refine lv_istore_n (lv' := [(3, .int (iI 0)), (2, .int (iI a1)), (0, .ref (xA X u)), (1, .int (iI a1))]) hx hb dd_S_weightOf_13 rfl hl (by decide) rfl (fun ls hl => ?_)
    refine x_iconst hC dd_S_weightOf_14 ?_
    refine lv_istore (lv' := [(4, .int (iI 0)), (3, .int (iI 0)), (2, .int (iI a1)), (0, .ref (xA X u)), (1, .int (iI a1))]) hx hb dd_S_weightOf_15 hl (by decide) rfl (fun ls hl => ?_)
    obtain ⟨I17, ⟨n0, hI⟩, hstep_I17⟩ := hw
    have lp_I17 : ∀ (n17 : Nat) (x2_17 : Int) (x3_17 : Int) (x4_17 : Int) (H : Heap) (locs : List Loc) (ls : Array Slot), I17 n17 x2_17 x3_17 x4_17 → inR x2_17 → inR x3_17 → inR x4_17 → St X (xF X sz) s M H locs → lv_has ls 5 [(0, .ref (xA X u)), (2, .int (iI x2_17)), (3, .int (iI x3_17)), (4, .int (iI x4_17))] → W p l e ({ frames := 2, cells := 0, slots := 0, locals := 43 } : Room) s m ([.ref (xA X u), .int (iI a1)] : List Value).toArray below meth c H locs 0 0 (MQ below (Qi X sz (fun r M1 => M1 = M ∧ post r)) ([.ref (xA X u), .int (iI a1)] : List Value).toArray s 0 0 (xF X sz)) (F0 m 17 ls []) := by
      intro n17
      induction n17 using Nat.strongRecOn with
      | _ n17 ih_I17 =>
        intro x2_17 x3_17 x4_17 H locs ls hI rx2_17 rx3_17 rx4_17 hS hl
        have hw := hstep_I17 n17 x2_17 x3_17 x4_17 hI
        refine lv_iload hx hb dd_S_weightOf_17 (lv_at hl 3 rfl) ?_
        refine lv_aload_n hx hb dd_S_weightOf_19 rfl (lv_at hl 0 rfl) ?_
        refine x_get hC hS hS0.1 rfl iw_S 0 (by decide) tb_83 rfl rfl dd_S_weightOf_20 ?_
        refine x_icmp_ge hC rx4_17 (hm_M u 0) (tgt := 53) dd_S_weightOf_23 (by decide) (fun c2 => ?_) (fun c2 => ?_)
        · have hw := hw.1 c2
          refine lv_iload_n hx hb dd_S_weightOf_53 rfl (lv_at hl 2 rfl) ?_
          exact x_iret hC hS hlocks hr rx3_17 ⟨rfl, hw⟩ dd_S_weightOf_54
        · have hw := hw.2 c2
          refine lv_iload_n hx hb dd_S_weightOf_26 rfl (lv_at hl 2 rfl) ?_
          refine lv_aload_n hx hb dd_S_weightOf_27 rfl (lv_at hl 0 rfl) ?_
          refine x_get hC hS hS0.1 rfl iw_S 2 (by decide) tb_90 rfl rfl dd_S_weightOf_28 ?_
          refine lv_iload_n hx hb dd_S_weightOf_31 rfl (lv_at hl 1 rfl) ?_
          refine lv_aload_n hx hb dd_S_weightOf_32 rfl (lv_at hl 0 rfl) ?_
          refine x_get hC hS hS0.1 rfl iw_S 1 (by decide) tb_87 rfl rfl dd_S_weightOf_33 ?_
          obtain ⟨q3, hw⟩ := hw
          refine x_rem hC rx2_17 (hm_M u 1) q3 dd_S_weightOf_36 ?_
          obtain ⟨q4, hw⟩ := hw
          refine x_iald hC hS hS0.2.1 q4 dd_S_weightOf_37 ?_
          refine x_nm (hm_M (u + 1) _) (fun z5 rz5 ez5 => ?_)
          have hw := hw z5 ez5
          obtain ⟨q6, hw⟩ := hw
          refine x_add hC dd_S_weightOf_38 ?_
          refine x_nm q6 (fun v3_39 rv3_39 ev3_39 => ?_)
          have hw := hw v3_39 ev3_39
          refine lv_istore_n (lv' := [(3, .int (iI v3_39)), (0, .ref (xA X u)), (2, .int (iI x2_17)), (4, .int (iI x4_17))]) hx hb dd_S_weightOf_39 rfl hl (by decide) rfl (fun ls hl => ?_)
          refine lv_iload_n hx hb dd_S_weightOf_40 rfl (lv_at hl 2 rfl) ?_
          refine lv_aload_n hx hb dd_S_weightOf_41 rfl (lv_at hl 1 rfl) ?_
          refine x_get hC hS hS0.1 rfl iw_S 1 (by decide) tb_87 rfl rfl dd_S_weightOf_42 ?_
          obtain ⟨q7, hw⟩ := hw
          refine x_div hC rx2_17 (hm_M u 1) q7 dd_S_weightOf_45 ?_
          refine x_nm (rDiv rx2_17 q7.1 q7.2) (fun v2_46 rv2_46 ev2_46 => ?_)
          have hw := hw v2_46 ev2_46
          refine lv_istore_n (lv' := [(2, .int (iI v2_46)), (3, .int (iI v3_39)), (0, .ref (xA X u)), (4, .int (iI x4_17))]) hx hb dd_S_weightOf_46 rfl hl (by decide) rfl (fun ls hl => ?_)
          obtain ⟨hr_, hw⟩ := hw
          obtain ⟨v4_47, rv4_47, ev4_47⟩ : ∃ z : Int, inR z ∧ z = x4_17 + 1 := ⟨_, hr_, rfl⟩
          have hw := hw v4_47 ev4_47
          refine lv_iinc (v := iI v4_47) (lv' := [(4, .int (iI v4_47)), (2, .int (iI v2_46)), (3, .int (iI v3_39)), (0, .ref (xA X u))]) hx hb dd_S_weightOf_47 hl (k := 3) rfl (by rw [ev4_47]; exact iI_add _ _) (by decide) rfl (fun ls hl => ?_)
          refine lv_goto (tgt := 17) hx hb dd_S_weightOf_50 (by decide) ?_
          obtain ⟨k_8, h9, hI⟩ := hw
          exact ih_I17 k_8 h9 v2_46 v3_39 v4_47 _ _ _ hI rv2_46 rv3_39 rv4_47 hS (lv_sub hl [3, 1, 2, 0] rfl)
    exact lp_I17 n0 a1 0 0 _ _ _ hI ra1 (rk rfl) (rk rfl) hS (lv_sub hl [3, 2, 1, 0] rfl)
  · have hw := hw.2 c1
    refine x_iconst hC dd_S_weightOf_8 ?_
    exact x_iret hC hS hlocks hr (rk rfl) ⟨rfl, hw⟩ dd_S_weightOf_9
def wp_S_coloursOf (u : Nat) (a1 : Int) (M : Mm) (post : Int → Prop) : Prop :=
  wp_S_isReadable u a1 M (fun (r2 : Int) => (¬ r2 = 0 → ∃ I17 : Nat → Int → Int → Int → Prop, (∃ n, I17 n a1 0 0) ∧ ∀ (n17 : Nat) (x2_17 : Int) (x3_17 : Int) (x4_17 : Int), I17 n17 x2_17 x3_17 x4_17 →
      (((M u 0) ≤ x4_17 → wp_J_bitCount x3_17 (fun (r51 : Int) => post r51)) ∧
        (¬ (M u 0) ≤ x4_17 → (0 ≤ x2_17 ∧ 0 < (M u 1)) ∧ ∀ v3_36 : Int, v3_36 = (bOr x3_17 (bShl 1 (x2_17 % (M u 1)))) → (0 ≤ x2_17 ∧ 0 < (M u 1)) ∧ ∀ v2_43 : Int, v2_43 = (x2_17 / (M u 1)) → inR (x4_17 + 1) ∧ ∀ v4_44 : Int, v4_44 = x4_17 + 1 → ∃ k_5, k_5 < n17 ∧ I17 k_5 v2_43 v3_36 v4_44))) ∧
  (r2 = 0 → post 0))
set_option maxHeartbeats 4000000 in
set_option maxRecDepth 100000 in
theorem mt_S_coloursOf (l : Launch) (X : Xw) (hlc : lcl X) (u : Nat) (hS0 : IsS X u) (a1 : Int) (ra1 : inR a1) (M : Mm) (hm_M : mr M) (post : Int → Prop) (sz : Nat) (hw : wp_S_coloursOf u a1 M post) : Met l yy_S_coloursOf (Cond.code yy_S_coloursOf bc_S_coloursOf 5 (some .int) :: tg) ({ frames := 2, cells := 0, slots := 0, locals := 43 } : Room) (Pw X [.ref (xA X u), .int (iI a1)] M sz) (Qi X sz (fun r M1 => M1 = M ∧ post r)) 0 0 (xF X sz) := by
  unfold wp_S_coloursOf at hw
  refine x_enter (by decide) hlc hm_M (Nat.le_of_ble_eq_true rfl) ?_
  intro p e s m below meth c ls hC hsz hr hlocks hS hl
  have hx := hC.1.1
  have hb := hC.1.2.1
  have hl : lv_has ls 5 [(0, .ref (xA X u)), (1, .int (iI a1))] := hl
  refine lv_aload_n hx hb dd_S_coloursOf_0 rfl (lv_at hl 0 rfl) ?_
  refine lv_iload_n hx hb dd_S_coloursOf_1 rfl (lv_at hl 1 rfl) ?_
  refine x_callVi hC hS (As := [.int (iI a1)]) (rest := []) hS0.1 rfl cv_S_isReadable (mt_S_isReadable l X hC.2.2.1 u hS0 a1 ra1 M hm_M _ _ hw) tb_370 rfl rfl ⟨Nat.le_of_ble_eq_true rfl, Nat.le_of_ble_eq_true rfl⟩ rfl hl.1 (Nat.le_of_ble_eq_true rfl) dd_S_coloursOf_2 ⟨Nat.le_refl _, Nat.le_refl _⟩ rfl (fun r2 Mx H locs rr2 hp hS => ?_)
  obtain ⟨hq, hw⟩ := hp
  rw [hq] at hS
  refine x_if_ne hC rr2 (tgt := 10) dd_S_coloursOf_5 (by decide) (fun c1 => ?_) (fun c1 => ?_)
  · have hw := hw.1 c1
    refine lv_iload_n hx hb dd_S_coloursOf_10 rfl (lv_at hl 1 rfl) ?_
    refine lv_istore_n (lv' := [(2, .int (iI a1)), (0, .ref (xA X u)), (1, .int (iI a1))]) hx hb dd_S_coloursOf_11 rfl hl (by decide) rfl (fun ls hl => ?_)
    refine x_iconst hC dd_S_coloursOf_12 ?_
    refine lv_istore_n (lv' := [(3, .int (iI 0)), (2, .int (iI a1)), (0, .ref (xA X u)), (1, .int (iI a1))]) hx hb dd_S_coloursOf_13 rfl hl (by decide) rfl (fun ls hl => ?_)
    refine x_iconst hC dd_S_coloursOf_14 ?_
    refine lv_istore (lv' := [(4, .int (iI 0)), (3, .int (iI 0)), (2, .int (iI a1)), (0, .ref (xA X u)), (1, .int (iI a1))]) hx hb dd_S_coloursOf_15 hl (by decide) rfl (fun ls hl => ?_)
    obtain ⟨I17, ⟨n0, hI⟩, hstep_I17⟩ := hw
    have lp_I17 : ∀ (n17 : Nat) (x2_17 : Int) (x3_17 : Int) (x4_17 : Int) (H : Heap) (locs : List Loc) (ls : Array Slot), I17 n17 x2_17 x3_17 x4_17 → inR x2_17 → inR x3_17 → inR x4_17 → St X (xF X sz) s M H locs → lv_has ls 5 [(0, .ref (xA X u)), (2, .int (iI x2_17)), (3, .int (iI x3_17)), (4, .int (iI x4_17))] → W p l e ({ frames := 2, cells := 0, slots := 0, locals := 43 } : Room) s m ([.ref (xA X u), .int (iI a1)] : List Value).toArray below meth c H locs 0 0 (MQ below (Qi X sz (fun r M1 => M1 = M ∧ post r)) ([.ref (xA X u), .int (iI a1)] : List Value).toArray s 0 0 (xF X sz)) (F0 m 17 ls []) := by
      intro n17
      induction n17 using Nat.strongRecOn with
      | _ n17 ih_I17 =>
        intro x2_17 x3_17 x4_17 H locs ls hI rx2_17 rx3_17 rx4_17 hS hl
        have hw := hstep_I17 n17 x2_17 x3_17 x4_17 hI
        refine lv_iload hx hb dd_S_coloursOf_17 (lv_at hl 3 rfl) ?_
        refine lv_aload_n hx hb dd_S_coloursOf_19 rfl (lv_at hl 0 rfl) ?_
        refine x_get hC hS hS0.1 rfl iw_S 0 (by decide) tb_83 rfl rfl dd_S_coloursOf_20 ?_
        refine x_icmp_ge hC rx4_17 (hm_M u 0) (tgt := 50) dd_S_coloursOf_23 (by decide) (fun c2 => ?_) (fun c2 => ?_)
        · have hw := hw.1 c2
          refine lv_iload_n hx hb dd_S_coloursOf_50 rfl (lv_at hl 2 rfl) ?_
          refine x_callSi hC hS (As := [.int (iI x3_17)]) (rest := []) cs_J_bitCount (mt_J_bitCount l X hC.2.2.1  x3_17 rx3_17 M hm_M _ _ hw) tb_401 rfl rfl ⟨Nat.le_of_ble_eq_true rfl, Nat.le_of_ble_eq_true rfl⟩ rfl hl.1 (Nat.le_of_ble_eq_true rfl) dd_S_coloursOf_51 ⟨Nat.le_refl _, Nat.le_refl _⟩ rfl (fun r51 Mx H locs rr51 hp hS => ?_)
          obtain ⟨hq, hw⟩ := hp
          rw [hq] at hS
          exact x_iret hC hS hlocks hr rr51 ⟨rfl, hw⟩ dd_S_coloursOf_54
        · have hw := hw.2 c2
          refine lv_iload_n hx hb dd_S_coloursOf_26 rfl (lv_at hl 2 rfl) ?_
          refine x_iconst hC dd_S_coloursOf_27 ?_
          refine lv_iload_n hx hb dd_S_coloursOf_28 rfl (lv_at hl 1 rfl) ?_
          refine lv_aload_n hx hb dd_S_coloursOf_29 rfl (lv_at hl 0 rfl) ?_
          refine x_get hC hS hS0.1 rfl iw_S 1 (by decide) tb_87 rfl rfl dd_S_coloursOf_30 ?_
          obtain ⟨q3, hw⟩ := hw
          refine x_rem hC rx2_17 (hm_M u 1) q3 dd_S_coloursOf_33 ?_
          refine x_shl hC dd_S_coloursOf_34 ?_
          refine x_or hC dd_S_coloursOf_35 ?_
          refine x_nm (rng _) (fun v3_36 rv3_36 ev3_36 => ?_)
          have hw := hw v3_36 ev3_36
          refine lv_istore_n (lv' := [(3, .int (iI v3_36)), (0, .ref (xA X u)), (2, .int (iI x2_17)), (4, .int (iI x4_17))]) hx hb dd_S_coloursOf_36 rfl hl (by decide) rfl (fun ls hl => ?_)
          refine lv_iload_n hx hb dd_S_coloursOf_37 rfl (lv_at hl 2 rfl) ?_
          refine lv_aload_n hx hb dd_S_coloursOf_38 rfl (lv_at hl 1 rfl) ?_
          refine x_get hC hS hS0.1 rfl iw_S 1 (by decide) tb_87 rfl rfl dd_S_coloursOf_39 ?_
          obtain ⟨q4, hw⟩ := hw
          refine x_div hC rx2_17 (hm_M u 1) q4 dd_S_coloursOf_42 ?_
          refine x_nm (rDiv rx2_17 q4.1 q4.2) (fun v2_43 rv2_43 ev2_43 => ?_)
          have hw := hw v2_43 ev2_43
          refine lv_istore_n (lv' := [(2, .int (iI v2_43)), (3, .int (iI v3_36)), (0, .ref (xA X u)), (4, .int (iI x4_17))]) hx hb dd_S_coloursOf_43 rfl hl (by decide) rfl (fun ls hl => ?_)
          obtain ⟨hr_, hw⟩ := hw
          obtain ⟨v4_44, rv4_44, ev4_44⟩ : ∃ z : Int, inR z ∧ z = x4_17 + 1 := ⟨_, hr_, rfl⟩
          have hw := hw v4_44 ev4_44
          refine lv_iinc (v := iI v4_44) (lv' := [(4, .int (iI v4_44)), (2, .int (iI v2_43)), (3, .int (iI v3_36)), (0, .ref (xA X u))]) hx hb dd_S_coloursOf_44 hl (k := 3) rfl (by rw [ev4_44]; exact iI_add _ _) (by decide) rfl (fun ls hl => ?_)
          refine lv_goto (tgt := 17) hx hb dd_S_coloursOf_47 (by decide) ?_
          obtain ⟨k_5, h6, hI⟩ := hw
          exact ih_I17 k_5 h6 v2_43 v3_36 v4_44 _ _ _ hI rv2_43 rv3_36 rv4_44 hS (lv_sub hl [3, 1, 2, 0] rfl)
    exact lp_I17 n0 a1 0 0 _ _ _ hI ra1 (rk rfl) (rk rfl) hS (lv_sub hl [3, 2, 1, 0] rfl)
  · have hw := hw.2 c1
    refine x_iconst hC dd_S_coloursOf_8 ?_
    exact x_iret hC hS hlocks hr (rk rfl) ⟨rfl, hw⟩ dd_S_coloursOf_9
def wp_S_copyFrom (u : Nat) (u1 : Nat) (M : Mm) (post : Mm → Prop) : Prop :=
  ∀ M_1 : Mm, M_1 = ms M u 0 (M u1 0) → ∀ M_2 : Mm, M_2 = ms M_1 u 1 (M_1 u1 1) → (0 ≤ (0 : Int) ∧ 0 ≤ (0 : Int) ∧ 0 ≤ (4 : Int) ∧ (0 : Int) + (4 : Int) ≤ 4 ∧ (0 : Int) + (4 : Int) ≤ 4) ∧ ∀ M_3 : Mm, M_3 = mc M_2 (u1 + 1) ((0 : Int)).toNat (u + 1) ((0 : Int)).toNat ((4 : Int)).toNat → wp_G_copyFrom (u + 2) (u1 + 2) M_3 (fun (M_5 : Mm) => post M_5)
set_option maxHeartbeats 4000000 in
set_option maxRecDepth 100000 in
theorem mt_S_copyFrom (l : Launch) (X : Xw) (hlc : lcl X) (u : Nat)  (u1 : Nat) (hS0 : IsS X u) (hu1 : IsS X u1) (M : Mm) (hm_M : mr M) (post : Mm → Prop) (sz : Nat) (hw : wp_S_copyFrom u u1 M post) : Met l yy_S_copyFrom (Cond.code yy_S_copyFrom bc_S_copyFrom 2 none :: tg) ({ frames := 2, cells := 0, slots := 0, locals := 47 } : Room) (Pw X [.ref (xA X u), .ref (xA X u1)] M sz) (Qv X sz post) 0 0 (xF X sz) := by
  unfold wp_S_copyFrom at hw
  refine x_enter (by decide) hlc hm_M (Nat.le_of_ble_eq_true rfl) ?_
  intro p e s m below meth c ls hC hsz hr hlocks hS hl
  have hx := hC.1.1
  have hb := hC.1.2.1
  have hl : lv_has ls 2 [(0, .ref (xA X u)), (1, .ref (xA X u1))] := hl
  refine lv_aload_n hx hb dd_S_copyFrom_0 rfl (lv_at hl 0 rfl) ?_
  refine lv_aload_n hx hb dd_S_copyFrom_1 rfl (lv_at hl 1 rfl) ?_
  refine x_get hC hS hu1.1 rfl iw_S 0 (by decide) tb_83 rfl rfl dd_S_copyFrom_2 ?_
  refine x_put hC hS hS0.1 rfl iw_S fy_S fk_S fn_S 0 (by decide) tb_83 rfl (hm_M u1 0) rfl rfl (ps_S_0 _ _ _ _) (Nat.le_of_ble_eq_true rfl) dd_S_copyFrom_5 (fun H locs hS => ?_)
  obtain ⟨M_1, eM_1⟩ : ∃ Z : Mm, Z = ms M u 0 (M u1 0) := ⟨_, rfl⟩
  rw [← eM_1] at hS
  have hw := hw M_1 eM_1
  have hm_M_1 := hS.2.2.2
  refine lv_aload_n hx hb dd_S_copyFrom_8 rfl (lv_at hl 0 rfl) ?_
  refine lv_aload_n hx hb dd_S_copyFrom_9 rfl (lv_at hl 1 rfl) ?_
  refine x_get hC hS hu1.1 rfl iw_S 1 (by decide) tb_87 rfl rfl dd_S_copyFrom_10 ?_
  refine x_put hC hS hS0.1 rfl iw_S fy_S fk_S fn_S 1 (by decide) tb_87 rfl (hm_M_1 u1 1) rfl rfl (ps_S_1 _ _ _ _) (Nat.le_of_ble_eq_true rfl) dd_S_copyFrom_13 (fun H locs hS => ?_)
  obtain ⟨M_2, eM_2⟩ : ∃ Z : Mm, Z = ms M_1 u 1 (M_1 u1 1) := ⟨_, rfl⟩
  rw [← eM_2] at hS
  have hw := hw M_2 eM_2
  have hm_M_2 := hS.2.2.2
  refine lv_aload_n hx hb dd_S_copyFrom_16 rfl (lv_at hl 1 rfl) ?_
  refine x_get hC hS hu1.1 rfl iw_S 2 (by decide) tb_90 rfl rfl dd_S_copyFrom_17 ?_
  refine x_iconst hC dd_S_copyFrom_20 ?_
  refine lv_aload_n hx hb dd_S_copyFrom_21 rfl (lv_at hl 0 rfl) ?_
  refine x_get hC hS hS0.1 rfl iw_S 2 (by decide) tb_90 rfl rfl dd_S_copyFrom_22 ?_
  refine x_iconst hC dd_S_copyFrom_25 ?_
  refine lv_aload_n hx hb dd_S_copyFrom_26 rfl (lv_at hl 0 rfl) ?_
  refine x_get hC hS hS0.1 rfl iw_S 2 (by decide) tb_90 rfl rfl dd_S_copyFrom_27 ?_
  refine x_alen hC hS (z := 4) hS0.2.1 rfl dd_S_copyFrom_30 ?_
  obtain ⟨q4, hw⟩ := hw
  refine x_copy hC hS hu1.2.1 hS0.2.1 q4.1 q4.2.1 q4.2.2.1 q4.2.2.2.1 q4.2.2.2.2 hl.1 tb_460 tb_462 tb_461 tb_11 (Nat.le_of_ble_eq_true rfl) (Nat.le_of_ble_eq_true rfl) dd_S_copyFrom_31 (fun H locs hS => ?_)
  obtain ⟨M_3, eM_3⟩ : ∃ Z : Mm, Z = mc M_2 (u1 + 1) ((0 : Int)).toNat (u + 1) ((0 : Int)).toNat ((4 : Int)).toNat := ⟨_, rfl⟩
  rw [← eM_3] at hS
  have hw := hw M_3 eM_3
  have hm_M_3 := hS.2.2.2
  refine lv_aload_n hx hb dd_S_copyFrom_34 rfl (lv_at hl 0 rfl) ?_
  refine x_get hC hS hS0.1 rfl iw_S 3 (by decide) tb_92 rfl rfl dd_S_copyFrom_35 ?_
  refine lv_aload_n hx hb dd_S_copyFrom_38 rfl (lv_at hl 1 rfl) ?_
  refine x_get hC hS hu1.1 rfl iw_S 3 (by decide) tb_92 rfl rfl dd_S_copyFrom_39 ?_
  refine x_callVv hC hS (As := [.ref (xA X (u1 + 2))]) (rest := []) hS0.2.2.1 rfl cv_G_copyFrom (mt_G_copyFrom l X hC.2.2.1 (u + 2) (u1 + 2) hS0.2.2 hu1.2.2  M_3 hm_M_3 _ _ hw) tb_463 rfl rfl ⟨Nat.le_of_ble_eq_true rfl, Nat.le_of_ble_eq_true rfl⟩ rfl hl.1 (Nat.le_of_ble_eq_true rfl) dd_S_copyFrom_42 ⟨Nat.le_refl _, Nat.le_refl _⟩ rfl (fun M_5 H locs hw hS => ?_)
  have hm_M_5 := hS.2.2.2
  exact x_vret hC hS hlocks hr hw dd_S_copyFrom_45
def wp_Y_insert (a1 : Int) (a2 : Int) (M : Mm) (post : Mm → Prop) : Prop :=
  ∀ v3_4 : Int, v3_4 = (M 4 2) → ∃ I5 : Nat → Int → Mm → Prop, (∃ n, I5 n v3_4 M) ∧ ∀ (n5 : Nat) (x3_5 : Int) (M5 : Mm), I5 n5 x3_5 M5 →
    ((x3_5 ≤ a1 → (0 ≤ a1 ∧ a1 < 15) ∧ ∀ M_3 : Mm, M_3 = ms M5 5 (a1).toNat a2 → (0 ≤ a1 ∧ a1 < 15) ∧ ∀ M_5 : Mm, M_5 = ms M_3 6 (a1).toNat 1 → inR ((M_5 4 2) + 1) ∧ ∀ M_7 : Mm, M_7 = ms M_5 4 2 ((M_5 4 2) + 1) → post M_7) ∧
      (¬ x3_5 ≤ a1 → inR (x3_5 - 1) ∧ (0 ≤ (x3_5 - 1) ∧ (x3_5 - 1) < 15) ∧ ∀ z10 : Int, z10 = M5 5 ((x3_5 - 1)).toNat → (0 ≤ x3_5 ∧ x3_5 < 15) ∧ ∀ M_12 : Mm, M_12 = ms M5 5 (x3_5).toNat z10 → inR (x3_5 - 1) ∧ (0 ≤ (x3_5 - 1) ∧ (x3_5 - 1) < 15) ∧ ∀ z15 : Int, z15 = M_12 6 ((x3_5 - 1)).toNat → (0 ≤ x3_5 ∧ x3_5 < 15) ∧ ∀ M_17 : Mm, M_17 = ms M_12 6 (x3_5).toNat z15 → inR (x3_5 + (-1)) ∧ ∀ v3_38 : Int, v3_38 = x3_5 + (-1) → ∃ k_18, k_18 < n5 ∧ I5 k_18 v3_38 M_17))
set_option maxHeartbeats 4000000 in
set_option maxRecDepth 100000 in
theorem mt_Y_insert (l : Launch) (X : Xw) (hlc : lcl X)(hY0 : IsY X) (a1 : Int) (ra1 : inR a1) (a2 : Int) (ra2 : inR a2) (M : Mm) (hm_M : mr M) (post : Mm → Prop) (sz : Nat) (hw : wp_Y_insert a1 a2 M post) : Met l yy_Y_insert (Cond.code yy_Y_insert bc_Y_insert 4 none :: tg) ({ frames := 0, cells := 0, slots := 0, locals := 0 } : Room) (Pw X [.ref (xA X 4), .int (iI a1), .int (iI a2)] M sz) (Qv X sz post) 0 0 (xF X sz) := by
  unfold wp_Y_insert at hw
  refine x_enter (by decide) hlc hm_M (Nat.le_of_ble_eq_true rfl) ?_
  intro p e s m below meth c ls hC hsz hr hlocks hS hl
  have hx := hC.1.1
  have hb := hC.1.2.1
  have hl : lv_has ls 4 [(0, .ref (xA X 4)), (1, .int (iI a1)), (2, .int (iI a2))] := hl
  refine lv_aload_n hx hb dd_Y_insert_0 rfl (lv_at hl 0 rfl) ?_
  refine x_get hC hS hY0.1 rfl iw_Y 2 (by decide) tb_131 rfl rfl dd_Y_insert_1 ?_
  refine x_nm (hm_M 4 2) (fun v3_4 rv3_4 ev3_4 => ?_)
  have hw := hw v3_4 ev3_4
  refine lv_istore_n (lv' := [(3, .int (iI v3_4)), (0, .ref (xA X 4)), (1, .int (iI a1)), (2, .int (iI a2))]) hx hb dd_Y_insert_4 rfl hl (by decide) rfl (fun ls hl => ?_)
  obtain ⟨I5, ⟨n0, hI⟩, hstep_I5⟩ := hw
  have lp_I5 : ∀ (n5 : Nat) (x3_5 : Int) (M5 : Mm) (H : Heap) (locs : List Loc) (ls : Array Slot), I5 n5 x3_5 M5 → inR x3_5 → St X (xF X sz) s M5 H locs → lv_has ls 4 [(0, .ref (xA X 4)), (1, .int (iI a1)), (2, .int (iI a2)), (3, .int (iI x3_5))] → W p l e ({ frames := 0, cells := 0, slots := 0, locals := 0 } : Room) s m ([.ref (xA X 4), .int (iI a1), .int (iI a2)] : List Value).toArray below meth c H locs 0 0 (MQ below (Qv X sz post) ([.ref (xA X 4), .int (iI a1), .int (iI a2)] : List Value).toArray s 0 0 (xF X sz)) (F0 m 5 ls []) := by
    intro n5
    induction n5 using Nat.strongRecOn with
    | _ n5 ih_I5 =>
      intro x3_5 M5 H locs ls hI rx3_5 hS hl
      have hw := hstep_I5 n5 x3_5 M5 hI
      have hm_M5 := hS.2.2.2
      refine lv_iload_n hx hb dd_Y_insert_5 rfl (lv_at hl 3 rfl) ?_
      refine lv_iload_n hx hb dd_Y_insert_6 rfl (lv_at hl 1 rfl) ?_
      refine x_icmp_le hC rx3_5 ra1 (tgt := 44) dd_Y_insert_7 (by decide) (fun c1 => ?_) (fun c1 => ?_)
      · have hw := hw.1 c1
        refine lv_aload_n hx hb dd_Y_insert_44 rfl (lv_at hl 0 rfl) ?_
        refine x_get hC hS hY0.1 rfl iw_Y 0 (by decide) tb_127 rfl rfl dd_Y_insert_45 ?_
        refine lv_iload_n hx hb dd_Y_insert_48 rfl (lv_at hl 1 rfl) ?_
        refine lv_iload_n hx hb dd_Y_insert_49 rfl (lv_at hl 2 rfl) ?_
        obtain ⟨q2, hw⟩ := hw
        refine x_iast hC hS hY0.2.1 q2 ra2 dd_Y_insert_50 (fun H locs hS => ?_)
        obtain ⟨M_3, eM_3⟩ : ∃ Z : Mm, Z = ms M5 5 (a1).toNat a2 := ⟨_, rfl⟩
        rw [← eM_3] at hS
        have hw := hw M_3 eM_3
        have hm_M_3 := hS.2.2.2
        refine lv_aload_n hx hb dd_Y_insert_51 rfl (lv_at hl 0 rfl) ?_
        refine x_get hC hS hY0.1 rfl iw_Y 1 (by decide) tb_129 rfl rfl dd_Y_insert_52 ?_
        refine lv_iload_n hx hb dd_Y_insert_55 rfl (lv_at hl 1 rfl) ?_
        refine x_iconst hC dd_Y_insert_56 ?_
        obtain ⟨q4, hw⟩ := hw
        refine x_iast hC hS hY0.2.2 q4 (rk rfl) dd_Y_insert_57 (fun H locs hS => ?_)
        obtain ⟨M_5, eM_5⟩ : ∃ Z : Mm, Z = ms M_3 6 (a1).toNat 1 := ⟨_, rfl⟩
        rw [← eM_5] at hS
        have hw := hw M_5 eM_5
        have hm_M_5 := hS.2.2.2
        refine lv_aload_n hx hb dd_Y_insert_58 rfl (lv_at hl 0 rfl) ?_
        refine lv_dup hx hb dd_Y_insert_59 rfl ?_
        refine x_get hC hS hY0.1 rfl iw_Y 2 (by decide) tb_131 rfl rfl dd_Y_insert_60 ?_
        refine x_iconst hC dd_Y_insert_63 ?_
        obtain ⟨q6, hw⟩ := hw
        refine x_add hC dd_Y_insert_64 ?_
        refine x_put hC hS hY0.1 rfl iw_Y fy_Y fk_Y fn_Y 2 (by decide) tb_131 rfl q6 rfl rfl (ps_Y_2 _ _ _) (Nat.le_of_ble_eq_true rfl) dd_Y_insert_65 (fun H locs hS => ?_)
        obtain ⟨M_7, eM_7⟩ : ∃ Z : Mm, Z = ms M_5 4 2 ((M_5 4 2) + 1) := ⟨_, rfl⟩
        rw [← eM_7] at hS
        have hw := hw M_7 eM_7
        have hm_M_7 := hS.2.2.2
        exact x_vret hC hS hlocks hr hw dd_Y_insert_68
      · have hw := hw.2 c1
        refine lv_aload_n hx hb dd_Y_insert_10 rfl (lv_at hl 0 rfl) ?_
        refine x_get hC hS hY0.1 rfl iw_Y 0 (by decide) tb_127 rfl rfl dd_Y_insert_11 ?_
        refine lv_iload_n hx hb dd_Y_insert_14 rfl (lv_at hl 3 rfl) ?_
        refine lv_aload_n hx hb dd_Y_insert_15 rfl (lv_at hl 0 rfl) ?_
        refine x_get hC hS hY0.1 rfl iw_Y 0 (by decide) tb_127 rfl rfl dd_Y_insert_16 ?_
        refine lv_iload_n hx hb dd_Y_insert_19 rfl (lv_at hl 3 rfl) ?_
        refine x_iconst hC dd_Y_insert_20 ?_
        obtain ⟨q8, hw⟩ := hw
        refine x_sub hC dd_Y_insert_21 ?_
        obtain ⟨q9, hw⟩ := hw
        refine x_iald hC hS hY0.2.1 q9 dd_Y_insert_22 ?_
        refine x_nm (hm_M5 5 _) (fun z10 rz10 ez10 => ?_)
        have hw := hw z10 ez10
        obtain ⟨q11, hw⟩ := hw
        refine x_iast hC hS hY0.2.1 q11 rz10 dd_Y_insert_23 (fun H locs hS => ?_)
        obtain ⟨M_12, eM_12⟩ : ∃ Z : Mm, Z = ms M5 5 (x3_5).toNat z10 := ⟨_, rfl⟩
        rw [← eM_12] at hS
        have hw := hw M_12 eM_12
        have hm_M_12 := hS.2.2.2
        refine lv_aload_n hx hb dd_Y_insert_24 rfl (lv_at hl 0 rfl) ?_
        refine x_get hC hS hY0.1 rfl iw_Y 1 (by decide) tb_129 rfl rfl dd_Y_insert_25 ?_
        refine lv_iload_n hx hb dd_Y_insert_28 rfl (lv_at hl 3 rfl) ?_
        refine lv_aload_n hx hb dd_Y_insert_29 rfl (lv_at hl 0 rfl) ?_
        refine x_get hC hS hY0.1 rfl iw_Y 1 (by decide) tb_129 rfl rfl dd_Y_insert_30 ?_
        refine lv_iload_n hx hb dd_Y_insert_33 rfl (lv_at hl 3 rfl) ?_
        refine x_iconst hC dd_Y_insert_34 ?_
        obtain ⟨q13, hw⟩ := hw
        refine x_sub hC dd_Y_insert_35 ?_
        obtain ⟨q14, hw⟩ := hw
        refine x_iald hC hS hY0.2.2 q14 dd_Y_insert_36 ?_
        refine x_nm (hm_M_12 6 _) (fun z15 rz15 ez15 => ?_)
        have hw := hw z15 ez15
        obtain ⟨q16, hw⟩ := hw
        refine x_iast hC hS hY0.2.2 q16 rz15 dd_Y_insert_37 (fun H locs hS => ?_)
        obtain ⟨M_17, eM_17⟩ : ∃ Z : Mm, Z = ms M_12 6 (x3_5).toNat z15 := ⟨_, rfl⟩
        rw [← eM_17] at hS
        have hw := hw M_17 eM_17
        have hm_M_17 := hS.2.2.2
        obtain ⟨hr_, hw⟩ := hw
        obtain ⟨v3_38, rv3_38, ev3_38⟩ : ∃ z : Int, inR z ∧ z = x3_5 + (-1) := ⟨_, hr_, rfl⟩
        have hw := hw v3_38 ev3_38
        refine lv_iinc (v := iI v3_38) (lv' := [(3, .int (iI v3_38)), (0, .ref (xA X 4)), (1, .int (iI a1)), (2, .int (iI a2))]) hx hb dd_Y_insert_38 hl (k := 3) rfl (by rw [ev3_38]; exact iI_add _ _) (by decide) rfl (fun ls hl => ?_)
        refine lv_goto (tgt := 5) hx hb dd_Y_insert_41 (by decide) ?_
        obtain ⟨k_18, h19, hI⟩ := hw
        exact ih_I5 k_18 h19 v3_38 M_17 _ _ _ hI rv3_38 hS (lv_sub hl [1, 2, 3, 0] rfl)
  exact lp_I5 n0 v3_4 M _ _ _ hI rv3_4 hS (lv_sub hl [1, 2, 3, 0] rfl)
def wp_Y_add (a1 : Int) (M : Mm) (post : Mm → Prop) : Prop :=
  ∃ I2 : Nat → Int → Prop, (∃ n, I2 n 0) ∧ ∀ (n2 : Nat) (x2_2 : Int), I2 n2 x2_2 →
    (∀ K26 : Prop, ((∀ K57 : Prop, (((15 ≤ (M 4 2) → post M) ∧
              (¬ 15 ≤ (M 4 2) → wp_Y_insert x2_2 a1 M (fun (M_2 : Mm) => post M_2))) →
            K57) →
          (((M 4 2) ≤ x2_2 → K57) ∧
          (¬ (M 4 2) ≤ x2_2 → (0 ≤ x2_2 ∧ x2_2 < 15) ∧ ∀ z5 : Int, z5 = M 5 (x2_2).toNat → (¬ z5 = a1 → K57) ∧
            (z5 = a1 → (0 ≤ x2_2 ∧ x2_2 < 15) ∧ ∀ z8 : Int, z8 = M 6 (x2_2).toNat → inR (z8 + 1) ∧ (0 ≤ x2_2 ∧ x2_2 < 15) ∧ ∀ M_11 : Mm, M_11 = ms M 6 (x2_2).toNat (z8 + 1) → post M_11)))) →
        K26) →
      (((M 4 2) ≤ x2_2 → K26) ∧
      (¬ (M 4 2) ≤ x2_2 → (0 ≤ x2_2 ∧ x2_2 < 15) ∧ ∀ z14 : Int, z14 = M 5 (x2_2).toNat → (z14 ≤ a1 → K26) ∧
        (¬ z14 ≤ a1 → inR (x2_2 + 1) ∧ ∀ v2_20 : Int, v2_20 = x2_2 + 1 → ∃ k_16, k_16 < n2 ∧ I2 k_16 v2_20))))
set_option maxHeartbeats 4000000 in
set_option maxRecDepth 100000 in
theorem mt_Y_add (l : Launch) (X : Xw) (hlc : lcl X)(hY0 : IsY X) (a1 : Int) (ra1 : inR a1) (M : Mm) (hm_M : mr M) (post : Mm → Prop) (sz : Nat) (hw : wp_Y_add a1 M post) : Met l yy_Y_add (Cond.code yy_Y_add bc_Y_add 3 none :: tg) ({ frames := 1, cells := 0, slots := 0, locals := 23 } : Room) (Pw X [.ref (xA X 4), .int (iI a1)] M sz) (Qv X sz post) 0 0 (xF X sz) := by
  unfold wp_Y_add at hw
  refine x_enter (by decide) hlc hm_M (Nat.le_of_ble_eq_true rfl) ?_
  intro p e s m below meth c ls hC hsz hr hlocks hS hl
  have hx := hC.1.1
  have hb := hC.1.2.1
  have hl : lv_has ls 3 [(0, .ref (xA X 4)), (1, .int (iI a1))] := hl
  refine x_iconst hC dd_Y_add_0 ?_
  refine lv_istore_n (lv' := [(2, .int (iI 0)), (0, .ref (xA X 4)), (1, .int (iI a1))]) hx hb dd_Y_add_1 rfl hl (by decide) rfl (fun ls hl => ?_)
  obtain ⟨I2, ⟨n0, hI⟩, hstep_I2⟩ := hw
  have lp_I2 : ∀ (n2 : Nat) (x2_2 : Int) (H : Heap) (locs : List Loc) (ls : Array Slot), I2 n2 x2_2 → inR x2_2 → St X (xF X sz) s M H locs → lv_has ls 3 [(0, .ref (xA X 4)), (1, .int (iI a1)), (2, .int (iI x2_2))] → W p l e ({ frames := 1, cells := 0, slots := 0, locals := 23 } : Room) s m ([.ref (xA X 4), .int (iI a1)] : List Value).toArray below meth c H locs 0 0 (MQ below (Qv X sz post) ([.ref (xA X 4), .int (iI a1)] : List Value).toArray s 0 0 (xF X sz)) (F0 m 2 ls []) := by
    intro n2
    induction n2 using Nat.strongRecOn with
    | _ n2 ih_I2 =>
      intro x2_2 H locs ls hI rx2_2 hS hl
      have hw := hstep_I2 n2 x2_2 hI
      refine lv_iload_n hx hb dd_Y_add_2 rfl (lv_at hl 2 rfl) ?_
      refine lv_aload_n hx hb dd_Y_add_3 rfl (lv_at hl 0 rfl) ?_
      refine x_get hC hS hY0.1 rfl iw_Y 2 (by decide) tb_131 rfl rfl dd_Y_add_4 ?_
      have hw := hw (∀ (H : Heap) (locs : List Loc) (ls : Array Slot), St X (xF X sz) s M H locs → lv_has ls 3 [(0, .ref (xA X 4)), (1, .int (iI a1)), (2, .int (iI x2_2))] → W p l e ({ frames := 1, cells := 0, slots := 0, locals := 23 } : Room) s m ([.ref (xA X 4), .int (iI a1)] : List Value).toArray below meth c H locs 0 0 (MQ below (Qv X sz post) ([.ref (xA X 4), .int (iI a1)] : List Value).toArray s 0 0 (xF X sz)) (F0 m 26 ls [])) (by
          intro  hw H locs ls  hS hl
          refine lv_iload_n hx hb dd_Y_add_26 rfl (lv_at hl 2 rfl) ?_
          refine lv_aload_n hx hb dd_Y_add_27 rfl (lv_at hl 0 rfl) ?_
          refine x_get hC hS hY0.1 rfl iw_Y 2 (by decide) tb_131 rfl rfl dd_Y_add_28 ?_
          have hw := hw (∀ (H : Heap) (locs : List Loc) (ls : Array Slot), St X (xF X sz) s M H locs → lv_has ls 3 [(0, .ref (xA X 4)), (1, .int (iI a1)), (2, .int (iI x2_2))] → W p l e ({ frames := 1, cells := 0, slots := 0, locals := 23 } : Room) s m ([.ref (xA X 4), .int (iI a1)] : List Value).toArray below meth c H locs 0 0 (MQ below (Qv X sz post) ([.ref (xA X 4), .int (iI a1)] : List Value).toArray s 0 0 (xF X sz)) (F0 m 57 ls [])) (by
              intro  hw H locs ls  hS hl
              refine lv_aload_n hx hb dd_Y_add_57 rfl (lv_at hl 0 rfl) ?_
              refine x_get hC hS hY0.1 rfl iw_Y 2 (by decide) tb_131 rfl rfl dd_Y_add_58 ?_
              refine x_bipush hC dd_Y_add_61 (by decide) ?_
              refine x_icmp_ge hC (hm_M 4 2) (rk rfl) (tgt := 72) dd_Y_add_63 (by decide) (fun c1 => ?_) (fun c1 => ?_)
              · have hw := hw.1 c1
                exact x_vret hC hS hlocks hr hw dd_Y_add_72
              · have hw := hw.2 c1
                refine lv_aload_n hx hb dd_Y_add_66 rfl (lv_at hl 0 rfl) ?_
                refine lv_iload_n hx hb dd_Y_add_67 rfl (lv_at hl 2 rfl) ?_
                refine lv_iload_n hx hb dd_Y_add_68 rfl (lv_at hl 1 rfl) ?_
                refine x_callVv hC hS (As := [.int (iI x2_2), .int (iI a1)]) (rest := []) hY0.1 rfl cv_Y_insert (mt_Y_insert l X hC.2.2.1 hY0 x2_2 rx2_2 a1 ra1 M hm_M _ _ hw) tb_299 rfl rfl ⟨Nat.le_of_ble_eq_true rfl, Nat.le_of_ble_eq_true rfl⟩ rfl hl.1 (Nat.le_of_ble_eq_true rfl) dd_Y_add_69 ⟨Nat.le_refl _, Nat.le_refl _⟩ rfl (fun M_2 H locs hw hS => ?_)
                have hm_M_2 := hS.2.2.2
                exact x_vret hC hS hlocks hr hw dd_Y_add_72)
          refine x_icmp_ge hC rx2_2 (hm_M 4 2) (tgt := 57) dd_Y_add_31 (by decide) (fun c3 => ?_) (fun c3 => ?_)
          · have hw := hw.1 c3
            exact hw _ _ _  hS (lv_sub hl [0, 1, 2] rfl)
          · have hw := hw.2 c3
            refine lv_aload_n hx hb dd_Y_add_34 rfl (lv_at hl 0 rfl) ?_
            refine x_get hC hS hY0.1 rfl iw_Y 0 (by decide) tb_127 rfl rfl dd_Y_add_35 ?_
            refine lv_iload_n hx hb dd_Y_add_38 rfl (lv_at hl 2 rfl) ?_
            obtain ⟨q4, hw⟩ := hw
            refine x_iald hC hS hY0.2.1 q4 dd_Y_add_39 ?_
            refine x_nm (hm_M 5 _) (fun z5 rz5 ez5 => ?_)
            have hw := hw z5 ez5
            refine lv_iload_n hx hb dd_Y_add_40 rfl (lv_at hl 1 rfl) ?_
            refine x_icmp_ne hC rz5 ra1 (tgt := 57) dd_Y_add_41 (by decide) (fun c6 => ?_) (fun c6 => ?_)
            · have hw := hw.1 c6
              exact hw _ _ _  hS (lv_sub hl [0, 1, 2] rfl)
            · have hw := hw.2 c6
              refine lv_aload_n hx hb dd_Y_add_44 rfl (lv_at hl 0 rfl) ?_
              refine x_get hC hS hY0.1 rfl iw_Y 1 (by decide) tb_129 rfl rfl dd_Y_add_45 ?_
              refine lv_iload_n hx hb dd_Y_add_48 rfl (lv_at hl 2 rfl) ?_
              refine lv_dup2_11 hx hb dd_Y_add_49 rfl rfl ?_
              obtain ⟨q7, hw⟩ := hw
              refine x_iald hC hS hY0.2.2 q7 dd_Y_add_50 ?_
              refine x_nm (hm_M 6 _) (fun z8 rz8 ez8 => ?_)
              have hw := hw z8 ez8
              refine x_iconst hC dd_Y_add_51 ?_
              obtain ⟨q9, hw⟩ := hw
              refine x_add hC dd_Y_add_52 ?_
              obtain ⟨q10, hw⟩ := hw
              refine x_iast hC hS hY0.2.2 q10 q9 dd_Y_add_53 (fun H locs hS => ?_)
              obtain ⟨M_11, eM_11⟩ : ∃ Z : Mm, Z = ms M 6 (x2_2).toNat (z8 + 1) := ⟨_, rfl⟩
              rw [← eM_11] at hS
              have hw := hw M_11 eM_11
              have hm_M_11 := hS.2.2.2
              refine lv_goto (tgt := 72) hx hb dd_Y_add_54 (by decide) ?_
              exact x_vret hC hS hlocks hr hw dd_Y_add_72)
      refine x_icmp_ge hC rx2_2 (hm_M 4 2) (tgt := 26) dd_Y_add_7 (by decide) (fun c12 => ?_) (fun c12 => ?_)
      · have hw := hw.1 c12
        exact hw _ _ _  hS (lv_sub hl [0, 1, 2] rfl)
      · have hw := hw.2 c12
        refine lv_aload_n hx hb dd_Y_add_10 rfl (lv_at hl 0 rfl) ?_
        refine x_get hC hS hY0.1 rfl iw_Y 0 (by decide) tb_127 rfl rfl dd_Y_add_11 ?_
        refine lv_iload_n hx hb dd_Y_add_14 rfl (lv_at hl 2 rfl) ?_
        obtain ⟨q13, hw⟩ := hw
        refine x_iald hC hS hY0.2.1 q13 dd_Y_add_15 ?_
        refine x_nm (hm_M 5 _) (fun z14 rz14 ez14 => ?_)
        have hw := hw z14 ez14
        refine lv_iload_n hx hb dd_Y_add_16 rfl (lv_at hl 1 rfl) ?_
        refine x_icmp_le hC rz14 ra1 (tgt := 26) dd_Y_add_17 (by decide) (fun c15 => ?_) (fun c15 => ?_)
        · have hw := hw.1 c15
          exact hw _ _ _  hS (lv_sub hl [0, 1, 2] rfl)
        · have hw := hw.2 c15
          obtain ⟨hr_, hw⟩ := hw
          obtain ⟨v2_20, rv2_20, ev2_20⟩ : ∃ z : Int, inR z ∧ z = x2_2 + 1 := ⟨_, hr_, rfl⟩
          have hw := hw v2_20 ev2_20
          refine lv_iinc (v := iI v2_20) (lv' := [(2, .int (iI v2_20)), (0, .ref (xA X 4)), (1, .int (iI a1))]) hx hb dd_Y_add_20 hl (k := 2) rfl (by rw [ev2_20]; exact iI_add _ _) (by decide) rfl (fun ls hl => ?_)
          refine lv_goto (tgt := 2) hx hb dd_Y_add_23 (by decide) ?_
          obtain ⟨k_16, h17, hI⟩ := hw
          exact ih_I2 k_16 h17 v2_20 _ _ _ hI rv2_20 hS (lv_sub hl [1, 2, 0] rfl)
  exact lp_I2 n0 0 _ _ _ hI (rk rfl) hS (lv_sub hl [1, 2, 0] rfl)
def wp_Y_bringUp (u1 : Nat) (M : Mm) (post : Mm → Prop) : Prop :=
  ((M 4 3) = 0 → ∀ M_2 : Mm, M_2 = ms M 4 2 0 → ∃ I15 : Nat → Int → Mm → Prop, (∃ n, I15 n 0 M_2) ∧ ∀ (n15 : Nat) (x2_15 : Int) (M15 : Mm), I15 n15 x2_15 M15 →
      (((M15 (u1 + 2) 1) ≤ x2_15 → ∀ M_4 : Mm, M_4 = ms M15 4 3 1 → post M_4) ∧
        (¬ (M15 (u1 + 2) 1) ≤ x2_15 → (0 ≤ x2_15 ∧ x2_15 < 5040) ∧ ∀ z6 : Int, z6 = M15 ((u1 + 2) + 1) (x2_15).toNat → wp_U_typeOf z6 (M15 u1 0) (fun (r40 : Int) => wp_Y_add r40 M15 (fun (M_7 : Mm) => inR (x2_15 + 1) ∧ ∀ v2_46 : Int, v2_46 = x2_15 + 1 → ∃ k_8, k_8 < n15 ∧ I15 k_8 v2_46 M_7))))) ∧
  (¬ (M 4 3) = 0 → post M)
set_option maxHeartbeats 4000000 in
set_option maxRecDepth 100000 in
theorem mt_Y_bringUp (l : Launch) (X : Xw) (hlc : lcl X) (u1 : Nat) (hY0 : IsY X) (hu1 : IsS X u1) (M : Mm) (hm_M : mr M) (post : Mm → Prop) (sz : Nat) (hw : wp_Y_bringUp u1 M post) : Met l yy_Y_bringUp (Cond.code yy_Y_bringUp bc_Y_bringUp 3 none :: tg) ({ frames := 3, cells := 0, slots := 0, locals := 73 } : Room) (Pw X [.ref (xA X 4), .ref (xA X u1)] M sz) (Qv X sz post) 0 0 (xF X sz) := by
  unfold wp_Y_bringUp at hw
  refine x_enter (by decide) hlc hm_M (Nat.le_of_ble_eq_true rfl) ?_
  intro p e s m below meth c ls hC hsz hr hlocks hS hl
  have hx := hC.1.1
  have hb := hC.1.2.1
  have hl : lv_has ls 3 [(0, .ref (xA X 4)), (1, .ref (xA X u1))] := hl
  refine lv_aload_n hx hb dd_Y_bringUp_0 rfl (lv_at hl 0 rfl) ?_
  refine x_get hC hS hY0.1 rfl iw_Y 3 (by decide) tb_133 rfl rfl dd_Y_bringUp_1 ?_
  refine x_if_eq hC (hm_M 4 3) (tgt := 8) dd_Y_bringUp_4 (by decide) (fun c1 => ?_) (fun c1 => ?_)
  · have hw := hw.1 c1
    refine lv_aload_n hx hb dd_Y_bringUp_8 rfl (lv_at hl 0 rfl) ?_
    refine x_iconst hC dd_Y_bringUp_9 ?_
    refine x_put hC hS hY0.1 rfl iw_Y fy_Y fk_Y fn_Y 2 (by decide) tb_131 rfl (rk rfl) rfl rfl (ps_Y_2 _ _ _) (Nat.le_of_ble_eq_true rfl) dd_Y_bringUp_10 (fun H locs hS => ?_)
    obtain ⟨M_2, eM_2⟩ : ∃ Z : Mm, Z = ms M 4 2 0 := ⟨_, rfl⟩
    rw [← eM_2] at hS
    have hw := hw M_2 eM_2
    have hm_M_2 := hS.2.2.2
    refine x_iconst hC dd_Y_bringUp_13 ?_
    refine lv_istore_n (lv' := [(2, .int (iI 0)), (0, .ref (xA X 4)), (1, .ref (xA X u1))]) hx hb dd_Y_bringUp_14 rfl hl (by decide) rfl (fun ls hl => ?_)
    obtain ⟨I15, ⟨n0, hI⟩, hstep_I15⟩ := hw
    have lp_I15 : ∀ (n15 : Nat) (x2_15 : Int) (M15 : Mm) (H : Heap) (locs : List Loc) (ls : Array Slot), I15 n15 x2_15 M15 → inR x2_15 → St X (xF X sz) s M15 H locs → lv_has ls 3 [(0, .ref (xA X 4)), (1, .ref (xA X u1)), (2, .int (iI x2_15))] → W p l e ({ frames := 3, cells := 0, slots := 0, locals := 73 } : Room) s m ([.ref (xA X 4), .ref (xA X u1)] : List Value).toArray below meth c H locs 0 0 (MQ below (Qv X sz post) ([.ref (xA X 4), .ref (xA X u1)] : List Value).toArray s 0 0 (xF X sz)) (F0 m 15 ls []) := by
      intro n15
      induction n15 using Nat.strongRecOn with
      | _ n15 ih_I15 =>
        intro x2_15 M15 H locs ls hI rx2_15 hS hl
        have hw := hstep_I15 n15 x2_15 M15 hI
        have hm_M15 := hS.2.2.2
        refine lv_iload_n hx hb dd_Y_bringUp_15 rfl (lv_at hl 2 rfl) ?_
        refine lv_aload_n hx hb dd_Y_bringUp_16 rfl (lv_at hl 1 rfl) ?_
        refine x_get hC hS hu1.1 rfl iw_S 3 (by decide) tb_93 rfl rfl dd_Y_bringUp_17 ?_
        refine x_get hC hS hu1.2.2.1 rfl iw_G 1 (by decide) tb_62 rfl rfl dd_Y_bringUp_20 ?_
        refine x_icmp_ge hC rx2_15 (hm_M15 (u1 + 2) 1) (tgt := 52) dd_Y_bringUp_23 (by decide) (fun c3 => ?_) (fun c3 => ?_)
        · have hw := hw.1 c3
          refine lv_aload_n hx hb dd_Y_bringUp_52 rfl (lv_at hl 0 rfl) ?_
          refine x_iconst hC dd_Y_bringUp_53 ?_
          refine x_put hC hS hY0.1 rfl iw_Y fy_Y fk_Y fn_Y 3 (by decide) tb_133 rfl (rk rfl) rfl rfl (ps_Y_3 _ _ _) (Nat.le_of_ble_eq_true rfl) dd_Y_bringUp_54 (fun H locs hS => ?_)
          obtain ⟨M_4, eM_4⟩ : ∃ Z : Mm, Z = ms M15 4 3 1 := ⟨_, rfl⟩
          rw [← eM_4] at hS
          have hw := hw M_4 eM_4
          have hm_M_4 := hS.2.2.2
          exact x_vret hC hS hlocks hr hw dd_Y_bringUp_57
        · have hw := hw.2 c3
          refine lv_aload_n hx hb dd_Y_bringUp_26 rfl (lv_at hl 0 rfl) ?_
          refine lv_aload_n hx hb dd_Y_bringUp_27 rfl (lv_at hl 1 rfl) ?_
          refine x_get hC hS hu1.1 rfl iw_S 3 (by decide) tb_93 rfl rfl dd_Y_bringUp_28 ?_
          refine x_get hC hS hu1.2.2.1 rfl iw_G 0 (by decide) tb_60 rfl rfl dd_Y_bringUp_31 ?_
          refine lv_iload_n hx hb dd_Y_bringUp_34 rfl (lv_at hl 2 rfl) ?_
          obtain ⟨q5, hw⟩ := hw
          refine x_iald hC hS hu1.2.2.2.1 q5 dd_Y_bringUp_35 ?_
          refine x_nm (hm_M15 ((u1 + 2) + 1) _) (fun z6 rz6 ez6 => ?_)
          have hw := hw z6 ez6
          refine lv_aload_n hx hb dd_Y_bringUp_36 rfl (lv_at hl 1 rfl) ?_
          refine x_get hC hS hu1.1 rfl iw_S 0 (by decide) tb_85 rfl rfl dd_Y_bringUp_37 ?_
          refine x_callSi hC hS (As := [.int (iI z6), .int (iI (M15 u1 0))]) (rest := [.ref (xA X 4)]) cs_U_typeOf (mt_U_typeOf l X hC.2.2.1  z6 rz6 (M15 u1 0) (hm_M15 u1 0) M15 hm_M15 _ _ hw) tb_294 rfl rfl ⟨Nat.le_of_ble_eq_true rfl, Nat.le_of_ble_eq_true rfl⟩ rfl hl.1 (Nat.le_of_ble_eq_true rfl) dd_Y_bringUp_40 ⟨Nat.le_refl _, Nat.le_refl _⟩ rfl (fun r40 Mx H locs rr40 hp hS => ?_)
          obtain ⟨hq, hw⟩ := hp
          rw [hq] at hS
          refine x_callVv hC hS (As := [.int (iI r40)]) (rest := []) hY0.1 rfl cv_Y_add (mt_Y_add l X hC.2.2.1 hY0 r40 rr40 M15 hm_M15 _ _ hw) tb_295 rfl rfl ⟨Nat.le_of_ble_eq_true rfl, Nat.le_of_ble_eq_true rfl⟩ rfl hl.1 (Nat.le_of_ble_eq_true rfl) dd_Y_bringUp_43 ⟨Nat.le_refl _, Nat.le_refl _⟩ rfl (fun M_7 H locs hw hS => ?_)
          have hm_M_7 := hS.2.2.2
          obtain ⟨hr_, hw⟩ := hw
          obtain ⟨v2_46, rv2_46, ev2_46⟩ : ∃ z : Int, inR z ∧ z = x2_15 + 1 := ⟨_, hr_, rfl⟩
          have hw := hw v2_46 ev2_46
          refine lv_iinc (v := iI v2_46) (lv' := [(2, .int (iI v2_46)), (0, .ref (xA X 4)), (1, .ref (xA X u1))]) hx hb dd_Y_bringUp_46 hl (k := 2) rfl (by rw [ev2_46]; exact iI_add _ _) (by decide) rfl (fun ls hl => ?_)
          refine lv_goto (tgt := 15) hx hb dd_Y_bringUp_49 (by decide) ?_
          obtain ⟨k_8, h9, hI⟩ := hw
          exact ih_I15 k_8 h9 v2_46 M_7 _ _ _ hI rv2_46 hS (lv_sub hl [1, 2, 0] rfl)
    exact lp_I15 n0 0 M_2 _ _ _ hI (rk rfl) hS (lv_sub hl [1, 2, 0] rfl)
  · have hw := hw.2 c1
    exact x_vret hC hS hlocks hr hw dd_Y_bringUp_7
