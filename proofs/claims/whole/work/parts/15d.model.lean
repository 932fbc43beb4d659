def wp_M_sorts (a1 : Int) (M : Mm) (post : Int → Mm → Prop) : Prop :=
  wp_M_in a1 1 4 (fun (r3 : Int) => (¬ r3 = 0 → (0 ≤ (1 : Int) ∧ (1 : Int) < 5046) ∧ ∀ z3 : Int, z3 = M 31 ((1 : Int)).toNat → (0 ≤ (1 : Int) ∧ (1 : Int) < 5046) ∧ ∀ M_5 : Mm, M_5 = ms M 31 ((1 : Int)).toNat a1 → post z3 M_5) ∧
  (r3 = 0 → post (-2) M))
set_option maxHeartbeats 4000000 in
set_option maxRecDepth 100000 in
theorem mt_M_sorts (l : Launch) (X : Xw) (hlc : lcl X)(hM0 : IsM X) (a1 : Int) (ra1 : inR a1) (M : Mm) (hm_M : mr M) (post : Int → Mm → Prop) (sz : Nat) (hw : wp_M_sorts a1 M post) : Met l yy_M_sorts (Cond.code yy_M_sorts bc_M_sorts 3 (some .int) :: tg) ({ frames := 1, cells := 0, slots := 0, locals := 22 } : Room) (Pw X [.ref (xA X 30), .int (iI a1)] M sz) (Qi X sz post) 0 0 (xF X sz) := by
  unfold wp_M_sorts at hw
  refine x_enter (by decide) hlc hm_M (Nat.le_of_ble_eq_true rfl) ?_
  intro p e s m below meth c ls hC hsz hr hlocks hS hl
  have hx := hC.1.1
  have hb := hC.1.2.1
  have hl : lv_has ls 3 [(0, .ref (xA X 30)), (1, .int (iI a1))] := hl
  refine lv_iload_n hx hb dd_M_sorts_0 rfl (lv_at hl 1 rfl) ?_
  refine x_iconst hC dd_M_sorts_1 ?_
  refine x_iconst hC dd_M_sorts_2 ?_
  refine x_callSi hC hS (As := [.int (iI a1), .int (iI 1), .int (iI 4)]) (rest := []) cs_M_in (mt_M_in l X hC.2.2.1  a1 ra1 1 (rk rfl) 4 (rk rfl) M hm_M _ _ hw) tb_596 rfl rfl ⟨Nat.le_of_ble_eq_true rfl, Nat.le_of_ble_eq_true rfl⟩ rfl hl.1 (Nat.le_of_ble_eq_true rfl) dd_M_sorts_3 ⟨Nat.le_refl _, Nat.le_refl _⟩ rfl (fun r3 Mx H locs rr3 hp hS => ?_)
  obtain ⟨hq, hw⟩ := hp
  rw [hq] at hS
  refine x_if_ne hC rr3 (tgt := 12) dd_M_sorts_6 (by decide) (fun c1 => ?_) (fun c1 => ?_)
  · have hw := hw.1 c1
    refine lv_aload_n hx hb dd_M_sorts_12 rfl (lv_at hl 0 rfl) ?_
    refine x_get hC hS hM0.1 rfl iw_M 0 (by decide) tb_515 rfl rfl dd_M_sorts_13 ?_
    refine x_iconst hC dd_M_sorts_16 ?_
    obtain ⟨q2, hw⟩ := hw
    refine x_iald hC hS hM0.2.1 q2 dd_M_sorts_17 ?_
    refine x_nm (hm_M 31 _) (fun z3 rz3 ez3 => ?_)
    have hw := hw z3 ez3
    refine lv_istore_n (lv' := [(2, .int (iI z3)), (0, .ref (xA X 30)), (1, .int (iI a1))]) hx hb dd_M_sorts_18 rfl hl (by decide) rfl (fun ls hl => ?_)
    refine lv_aload_n hx hb dd_M_sorts_19 rfl (lv_at hl 1 rfl) ?_
    refine x_get hC hS hM0.1 rfl iw_M 0 (by decide) tb_515 rfl rfl dd_M_sorts_20 ?_
    refine x_iconst hC dd_M_sorts_23 ?_
    refine lv_iload_n hx hb dd_M_sorts_24 rfl (lv_at hl 2 rfl) ?_
    obtain ⟨q4, hw⟩ := hw
    refine x_iast hC hS hM0.2.1 q4 ra1 dd_M_sorts_25 (fun H locs hS => ?_)
    obtain ⟨M_5, eM_5⟩ : ∃ Z : Mm, Z = ms M 31 ((1 : Int)).toNat a1 := ⟨_, rfl⟩
    rw [← eM_5] at hS
    have hw := hw M_5 eM_5
    have hm_M_5 := hS.2.2.2
    refine lv_iload_n hx hb dd_M_sorts_26 rfl (lv_at hl 0 rfl) ?_
    exact x_iret hC hS hlocks hr rz3 hw dd_M_sorts_27
  · have hw := hw.2 c1
    refine x_bipush hC dd_M_sorts_9 (by decide) ?_
    exact x_iret hC hS hlocks hr (rk rfl) hw dd_M_sorts_11
def wp_M_weight (a1 : Int) (a2 : Int) (M : Mm) (post : Int → Mm → Prop) : Prop :=
  wp_M_in a1 0 3 (fun (r3 : Int) => (¬ r3 = 0 → wp_M_in a2 0 9 (fun (r15 : Int) => (¬ r15 = 0 → inR (2 + a1) ∧ (0 ≤ (2 + a1) ∧ (2 + a1) < 5046) ∧ ∀ z5 : Int, z5 = M 31 ((2 + a1)).toNat → inR (2 + a1) ∧ (0 ≤ (2 + a1) ∧ (2 + a1) < 5046) ∧ ∀ M_8 : Mm, M_8 = ms M 31 ((2 + a1)).toNat a2 → post z5 M_8) ∧
    (r15 = 0 → post (-2) M))) ∧
  (r3 = 0 → post (-1) M))
set_option maxHeartbeats 4000000 in
set_option maxRecDepth 100000 in
theorem mt_M_weight (l : Launch) (X : Xw) (hlc : lcl X)(hM0 : IsM X) (a1 : Int) (ra1 : inR a1) (a2 : Int) (ra2 : inR a2) (M : Mm) (hm_M : mr M) (post : Int → Mm → Prop) (sz : Nat) (hw : wp_M_weight a1 a2 M post) : Met l yy_M_weight (Cond.code yy_M_weight bc_M_weight 4 (some .int) :: tg) ({ frames := 1, cells := 0, slots := 0, locals := 22 } : Room) (Pw X [.ref (xA X 30), .int (iI a1), .int (iI a2)] M sz) (Qi X sz post) 0 0 (xF X sz) := by
  unfold wp_M_weight at hw
  refine x_enter (by decide) hlc hm_M (Nat.le_of_ble_eq_true rfl) ?_
  intro p e s m below meth c ls hC hsz hr hlocks hS hl
  have hx := hC.1.1
  have hb := hC.1.2.1
  have hl : lv_has ls 4 [(0, .ref (xA X 30)), (1, .int (iI a1)), (2, .int (iI a2))] := hl
  refine lv_iload_n hx hb dd_M_weight_0 rfl (lv_at hl 1 rfl) ?_
  refine x_iconst hC dd_M_weight_1 ?_
  refine x_iconst hC dd_M_weight_2 ?_
  refine x_callSi hC hS (As := [.int (iI a1), .int (iI 0), .int (iI 3)]) (rest := []) cs_M_in (mt_M_in l X hC.2.2.1  a1 ra1 0 (rk rfl) 3 (rk rfl) M hm_M _ _ hw) tb_596 rfl rfl ⟨Nat.le_of_ble_eq_true rfl, Nat.le_of_ble_eq_true rfl⟩ rfl hl.1 (Nat.le_of_ble_eq_true rfl) dd_M_weight_3 ⟨Nat.le_refl _, Nat.le_refl _⟩ rfl (fun r3 Mx H locs rr3 hp hS => ?_)
  obtain ⟨hq, hw⟩ := hp
  rw [hq] at hS
  refine x_if_ne hC rr3 (tgt := 11) dd_M_weight_6 (by decide) (fun c1 => ?_) (fun c1 => ?_)
  · have hw := hw.1 c1
    refine lv_iload_n hx hb dd_M_weight_11 rfl (lv_at hl 2 rfl) ?_
    refine x_iconst hC dd_M_weight_12 ?_
    refine x_bipush hC dd_M_weight_13 (by decide) ?_
    refine x_callSi hC hS (As := [.int (iI a2), .int (iI 0), .int (iI 9)]) (rest := []) cs_M_in (mt_M_in l X hC.2.2.1  a2 ra2 0 (rk rfl) 9 (rk rfl) M hm_M _ _ hw) tb_596 rfl rfl ⟨Nat.le_of_ble_eq_true rfl, Nat.le_of_ble_eq_true rfl⟩ rfl hl.1 (Nat.le_of_ble_eq_true rfl) dd_M_weight_15 ⟨Nat.le_refl _, Nat.le_refl _⟩ rfl (fun r15 Mx H locs rr15 hp hS => ?_)
    obtain ⟨hq, hw⟩ := hp
    rw [hq] at hS
    refine x_if_ne hC rr15 (tgt := 24) dd_M_weight_18 (by decide) (fun c2 => ?_) (fun c2 => ?_)
    · have hw := hw.1 c2
      refine lv_aload_n hx hb dd_M_weight_24 rfl (lv_at hl 0 rfl) ?_
      refine x_get hC hS hM0.1 rfl iw_M 0 (by decide) tb_515 rfl rfl dd_M_weight_25 ?_
      refine x_iconst hC dd_M_weight_28 ?_
      refine lv_iload_n hx hb dd_M_weight_29 rfl (lv_at hl 1 rfl) ?_
      obtain ⟨q3, hw⟩ := hw
      refine x_add hC dd_M_weight_30 ?_
      obtain ⟨q4, hw⟩ := hw
      refine x_iald hC hS hM0.2.1 q4 dd_M_weight_31 ?_
      refine x_nm (hm_M 31 _) (fun z5 rz5 ez5 => ?_)
      have hw := hw z5 ez5
      refine lv_istore_n (lv' := [(3, .int (iI z5)), (0, .ref (xA X 30)), (1, .int (iI a1)), (2, .int (iI a2))]) hx hb dd_M_weight_32 rfl hl (by decide) rfl (fun ls hl => ?_)
      refine lv_aload_n hx hb dd_M_weight_33 rfl (lv_at hl 1 rfl) ?_
      refine x_get hC hS hM0.1 rfl iw_M 0 (by decide) tb_515 rfl rfl dd_M_weight_34 ?_
      refine x_iconst hC dd_M_weight_37 ?_
      refine lv_iload_n hx hb dd_M_weight_38 rfl (lv_at hl 2 rfl) ?_
      obtain ⟨q6, hw⟩ := hw
      refine x_add hC dd_M_weight_39 ?_
      refine lv_iload_n hx hb dd_M_weight_40 rfl (lv_at hl 3 rfl) ?_
      obtain ⟨q7, hw⟩ := hw
      refine x_iast hC hS hM0.2.1 q7 ra2 dd_M_weight_41 (fun H locs hS => ?_)
      obtain ⟨M_8, eM_8⟩ : ∃ Z : Mm, Z = ms M 31 ((2 + a1)).toNat a2 := ⟨_, rfl⟩
      rw [← eM_8] at hS
      have hw := hw M_8 eM_8
      have hm_M_8 := hS.2.2.2
      refine lv_iload_n hx hb dd_M_weight_42 rfl (lv_at hl 0 rfl) ?_
      exact x_iret hC hS hlocks hr rz5 hw dd_M_weight_43
    · have hw := hw.2 c2
      refine x_bipush hC dd_M_weight_21 (by decide) ?_
      exact x_iret hC hS hlocks hr (rk rfl) hw dd_M_weight_23
  · have hw := hw.2 c1
    refine x_iconst hC dd_M_weight_9 ?_
    exact x_iret hC hS hlocks hr (rk rfl) hw dd_M_weight_10
def wp_M_patterns (a1 : Int) (M : Mm) (post : Int → Mm → Prop) : Prop :=
  wp_M_in a1 (-1) 63 (fun (r4 : Int) => (¬ r4 = 0 → wp_M_layPatterns M (fun (M_2 : Mm) => ∃ I21 : Nat → Int → Int → Mm → Prop, (∃ n, I21 n 0 0 M_2) ∧ ∀ (n21 : Nat) (x2_21 : Int) (x3_21 : Int) (M21 : Mm), I21 n21 x2_21 x3_21 M21 →
      (((M21 30 22) ≤ x3_21 → post x2_21 M21) ∧
        (¬ (M21 30 22) ≤ x3_21 → ∀ K54 : Int → Mm → Prop, (∀ (s1_54 : Int) (M54 : Mm), (inR (x2_21 + s1_54) ∧ ∀ v2_55 : Int, v2_55 = (x2_21 + s1_54) → inR (x3_21 + 1) ∧ ∀ v3_56 : Int, v3_56 = x3_21 + 1 → ∃ k_5, k_5 < n21 ∧ I21 k_5 v2_55 v3_56 M54) →
            K54 s1_54 M54) →
          (∀ K49 : Mm → Prop, (∀ (M49 : Mm), (K54 1 M49) →
            K49 M49) →
          ((a1 = (-1) → K49 M21) ∧
          (¬ a1 = (-1) → (0 ≤ x3_21 ∧ x3_21 < 16384) ∧ ∀ z9 : Int, z9 = M21 46 (x3_21).toNat → wp_M_weightOf z9 M21 (fun (r42 : Int) (M_10 : Mm) => (¬ r42 = a1 → K54 0 M_10) ∧
            (r42 = a1 → K49 M_10))))))))) ∧
  (r4 = 0 → post (-2) M))
set_option maxHeartbeats 4000000 in
set_option maxRecDepth 100000 in
theorem mt_M_patterns (l : Launch) (X : Xw) (hlc : lcl X)(hM0 : IsM X) (a1 : Int) (ra1 : inR a1) (M : Mm) (hm_M : mr M) (post : Int → Mm → Prop) (sz : Nat) (hw : wp_M_patterns a1 M post) : Met l yy_M_patterns (Cond.code yy_M_patterns bc_M_patterns 4 (some .int) :: tg) ({ frames := 4, cells := 0, slots := 0, locals := 87 } : Room) (Pw X [.ref (xA X 30), .int (iI a1)] M sz) (Qi X sz post) 0 0 (xF X sz) := by
  unfold wp_M_patterns at hw
  refine x_enter (by decide) hlc hm_M (Nat.le_of_ble_eq_true rfl) ?_
  intro p e s m below meth c ls hC hsz hr hlocks hS hl
  have hx := hC.1.1
  have hb := hC.1.2.1
  have hl : lv_has ls 4 [(0, .ref (xA X 30)), (1, .int (iI a1))] := hl
  refine lv_iload_n hx hb dd_M_patterns_0 rfl (lv_at hl 1 rfl) ?_
  refine x_iconst hC dd_M_patterns_1 ?_
  refine x_bipush hC dd_M_patterns_2 (by decide) ?_
  refine x_callSi hC hS (As := [.int (iI a1), .int (iI (-1)), .int (iI 63)]) (rest := []) cs_M_in (mt_M_in l X hC.2.2.1  a1 ra1 (-1) (rk rfl) 63 (rk rfl) M hm_M _ _ hw) tb_596 rfl rfl ⟨Nat.le_of_ble_eq_true rfl, Nat.le_of_ble_eq_true rfl⟩ rfl hl.1 (Nat.le_of_ble_eq_true rfl) dd_M_patterns_4 ⟨Nat.le_refl _, Nat.le_refl _⟩ rfl (fun r4 Mx H locs rr4 hp hS => ?_)
  obtain ⟨hq, hw⟩ := hp
  rw [hq] at hS
  refine x_if_ne hC rr4 (tgt := 13) dd_M_patterns_7 (by decide) (fun c1 => ?_) (fun c1 => ?_)
  · have hw := hw.1 c1
    refine lv_aload_n hx hb dd_M_patterns_13 rfl (lv_at hl 0 rfl) ?_
    refine x_callVv hC hS (As := []) (rest := []) hM0.1 rfl cv_M_layPatterns (mt_M_layPatterns l X hC.2.2.1 hM0  M hm_M _ _ hw) tb_700 rfl rfl ⟨Nat.le_of_ble_eq_true rfl, Nat.le_of_ble_eq_true rfl⟩ rfl hl.1 (Nat.le_of_ble_eq_true rfl) dd_M_patterns_14 ⟨Nat.le_refl _, Nat.le_refl _⟩ rfl (fun M_2 H locs hw hS => ?_)
    have hm_M_2 := hS.2.2.2
    refine x_iconst hC dd_M_patterns_17 ?_
    refine lv_istore_n (lv' := [(2, .int (iI 0)), (0, .ref (xA X 30)), (1, .int (iI a1))]) hx hb dd_M_patterns_18 rfl hl (by decide) rfl (fun ls hl => ?_)
    refine x_iconst hC dd_M_patterns_19 ?_
    refine lv_istore_n (lv' := [(3, .int (iI 0)), (2, .int (iI 0)), (0, .ref (xA X 30)), (1, .int (iI a1))]) hx hb dd_M_patterns_20 rfl hl (by decide) rfl (fun ls hl => ?_)
    obtain ⟨I21, ⟨n0, hI⟩, hstep_I21⟩ := hw
    have lp_I21 : ∀ (n21 : Nat) (x2_21 : Int) (x3_21 : Int) (M21 : Mm) (H : Heap) (locs : List Loc) (ls : Array Slot), I21 n21 x2_21 x3_21 M21 → inR x2_21 → inR x3_21 → St X (xF X sz) s M21 H locs → lv_has ls 4 [(0, .ref (xA X 30)), (1, .int (iI a1)), (2, .int (iI x2_21)), (3, .int (iI x3_21))] → W p l e ({ frames := 4, cells := 0, slots := 0, locals := 87 } : Room) s m ([.ref (xA X 30), .int (iI a1)] : List Value).toArray below meth c H locs 0 0 (MQ below (Qi X sz post) ([.ref (xA X 30), .int (iI a1)] : List Value).toArray s 0 0 (xF X sz)) (F0 m 21 ls []) := by
      intro n21
      induction n21 using Nat.strongRecOn with
      | _ n21 ih_I21 =>
        intro x2_21 x3_21 M21 H locs ls hI rx2_21 rx3_21 hS hl
        have hw := hstep_I21 n21 x2_21 x3_21 M21 hI
        have hm_M21 := hS.2.2.2
        refine lv_iload_n hx hb dd_M_patterns_21 rfl (lv_at hl 3 rfl) ?_
        refine lv_aload_n hx hb dd_M_patterns_22 rfl (lv_at hl 0 rfl) ?_
        refine x_get hC hS hM0.1 rfl iw_M 22 (by decide) tb_537 rfl rfl dd_M_patterns_23 ?_
        refine x_icmp_ge hC rx3_21 (hm_M21 30 22) (tgt := 62) dd_M_patterns_26 (by decide) (fun c3 => ?_) (fun c3 => ?_)
        · have hw := hw.1 c3
          refine lv_iload_n hx hb dd_M_patterns_62 rfl (lv_at hl 2 rfl) ?_
          exact x_iret hC hS hlocks hr rx2_21 hw dd_M_patterns_63
        · have hw := hw.2 c3
          refine lv_iload_n hx hb dd_M_patterns_29 rfl (lv_at hl 2 rfl) ?_
          refine lv_iload_n hx hb dd_M_patterns_30 rfl (lv_at hl 1 rfl) ?_
          refine x_iconst hC dd_M_patterns_31 ?_
          have hw := hw (fun (s1_54 : Int) (M54 : Mm) => ∀ (H : Heap) (locs : List Loc) (ls : Array Slot), inR s1_54 → St X (xF X sz) s M54 H locs → lv_has ls 4 [(0, .ref (xA X 30)), (1, .int (iI a1)), (3, .int (iI x3_21))] → W p l e ({ frames := 4, cells := 0, slots := 0, locals := 87 } : Room) s m ([.ref (xA X 30), .int (iI a1)] : List Value).toArray below meth c H locs 0 0 (MQ below (Qi X sz post) ([.ref (xA X 30), .int (iI a1)] : List Value).toArray s 0 0 (xF X sz)) (F0 m 54 ls [.int (iI s1_54), .int (iI x2_21)])) (by
              intro s1_54 M54 hw H locs ls rs1_54 hS hl
              have hm_M54 := hS.2.2.2
              obtain ⟨q4, hw⟩ := hw
              refine x_add hC dd_M_patterns_54 ?_
              refine x_nm q4 (fun v2_55 rv2_55 ev2_55 => ?_)
              have hw := hw v2_55 ev2_55
              refine lv_istore_n (lv' := [(2, .int (iI v2_55)), (0, .ref (xA X 30)), (1, .int (iI a1)), (3, .int (iI x3_21))]) hx hb dd_M_patterns_55 rfl hl (by decide) rfl (fun ls hl => ?_)
              obtain ⟨hr_, hw⟩ := hw
              obtain ⟨v3_56, rv3_56, ev3_56⟩ : ∃ z : Int, inR z ∧ z = x3_21 + 1 := ⟨_, hr_, rfl⟩
              have hw := hw v3_56 ev3_56
              refine lv_iinc (v := iI v3_56) (lv' := [(3, .int (iI v3_56)), (2, .int (iI v2_55)), (0, .ref (xA X 30)), (1, .int (iI a1))]) hx hb dd_M_patterns_56 hl (k := 3) rfl (by rw [ev3_56]; exact iI_add _ _) (by decide) rfl (fun ls hl => ?_)
              refine lv_goto (tgt := 21) hx hb dd_M_patterns_59 (by decide) ?_
              obtain ⟨k_5, h6, hI⟩ := hw
              exact ih_I21 k_5 h6 v2_55 v3_56 M54 _ _ _ hI rv2_55 rv3_56 hS (lv_sub hl [2, 3, 1, 0] rfl))
          have hw := hw (fun (M49 : Mm) => ∀ (H : Heap) (locs : List Loc) (ls : Array Slot), St X (xF X sz) s M49 H locs → lv_has ls 4 [(0, .ref (xA X 30)), (1, .int (iI a1)), (3, .int (iI x3_21))] → W p l e ({ frames := 4, cells := 0, slots := 0, locals := 87 } : Room) s m ([.ref (xA X 30), .int (iI a1)] : List Value).toArray below meth c H locs 0 0 (MQ below (Qi X sz post) ([.ref (xA X 30), .int (iI a1)] : List Value).toArray s 0 0 (xF X sz)) (F0 m 49 ls [.int (iI x2_21)])) (by
              intro M49 hw H locs ls  hS hl
              have hm_M49 := hS.2.2.2
              refine x_iconst hC dd_M_patterns_49 ?_
              refine lv_goto (tgt := 54) hx hb dd_M_patterns_50 (by decide) ?_
              exact hw _ _ _ (rk rfl) hS (lv_sub hl [0, 1, 2] rfl))
          refine x_icmp_eq hC ra1 (rk rfl) (tgt := 49) dd_M_patterns_32 (by decide) (fun c7 => ?_) (fun c7 => ?_)
          · have hw := hw.1 c7
            exact hw _ _ _  hS (lv_sub hl [0, 1, 3] rfl)
          · have hw := hw.2 c7
            refine lv_aload_n hx hb dd_M_patterns_35 rfl (lv_at hl 0 rfl) ?_
            refine lv_aload_n hx hb dd_M_patterns_36 rfl (lv_at hl 0 rfl) ?_
            refine x_get hC hS hM0.1 rfl iw_M 20 (by decide) tb_535 rfl rfl dd_M_patterns_37 ?_
            refine lv_iload_n hx hb dd_M_patterns_40 rfl (lv_at hl 3 rfl) ?_
            obtain ⟨q8, hw⟩ := hw
            refine x_iald hC hS hM0.2.2.2.2.2.2.2.2.2.2.2.2.2.2.2.2.1 q8 dd_M_patterns_41 ?_
            refine x_nm (hm_M21 46 _) (fun z9 rz9 ez9 => ?_)
            have hw := hw z9 ez9
            refine x_callVi hC hS (As := [.int (iI z9)]) (rest := [.int (iI x2_21)]) hM0.1 rfl cv_M_weightOf (mt_M_weightOf l X hC.2.2.1 hM0 z9 rz9 M21 hm_M21 _ _ hw) tb_720 rfl rfl ⟨Nat.le_of_ble_eq_true rfl, Nat.le_of_ble_eq_true rfl⟩ rfl hl.1 (Nat.le_of_ble_eq_true rfl) dd_M_patterns_42 ⟨Nat.le_refl _, Nat.le_refl _⟩ rfl (fun r42 M_10 H locs rr42 hw hS => ?_)
            have hm_M_10 := hS.2.2.2
            refine lv_iload_n hx hb dd_M_patterns_45 rfl (lv_at hl 1 rfl) ?_
            refine x_icmp_ne hC rr42 ra1 (tgt := 53) dd_M_patterns_46 (by decide) (fun c11 => ?_) (fun c11 => ?_)
            · have hw := hw.1 c11
              refine x_iconst hC dd_M_patterns_53 ?_
              exact hw _ _ _ (rk rfl) hS (lv_sub hl [0, 1, 3] rfl)
            · have hw := hw.2 c11
              exact hw _ _ _  hS (lv_sub hl [0, 1, 3] rfl)
    exact lp_I21 n0 0 0 M_2 _ _ _ hI (rk rfl) (rk rfl) hS (lv_sub hl [2, 3, 1, 0] rfl)
  · have hw := hw.2 c1
    refine x_bipush hC dd_M_patterns_10 (by decide) ?_
    exact x_iret hC hS hlocks hr (rk rfl) hw dd_M_patterns_12
def wp_M_twin (a1 : Int) (M : Mm) (post : Int → Mm → Prop) : Prop :=
  (0 ≤ a1 ∧ a1 < 16384) ∧ ∀ z2 : Int, z2 = M 46 (a1).toNat → wp_M_mirrored z2 M (fun (r11 : Int) (M_3 : Mm) => (0 ≤ r11 ∧ r11 < 16384) ∧ ∀ z5 : Int, z5 = M_3 45 (r11).toNat → post z5 M_3)
set_option maxHeartbeats 4000000 in
set_option maxRecDepth 100000 in
theorem mt_M_twin (l : Launch) (X : Xw) (hlc : lcl X)(hM0 : IsM X) (a1 : Int) (ra1 : inR a1) (M : Mm) (hm_M : mr M) (post : Int → Mm → Prop) (sz : Nat) (hw : wp_M_twin a1 M post) : Met l yy_M_twin (Cond.code yy_M_twin bc_M_twin 2 (some .int) :: tg) ({ frames := 3, cells := 0, slots := 0, locals := 66 } : Room) (Pw X [.ref (xA X 30), .int (iI a1)] M sz) (Qi X sz post) 0 0 (xF X sz) := by
  unfold wp_M_twin at hw
  refine x_enter (by decide) hlc hm_M (Nat.le_of_ble_eq_true rfl) ?_
  intro p e s m below meth c ls hC hsz hr hlocks hS hl
  have hx := hC.1.1
  have hb := hC.1.2.1
  have hl : lv_has ls 2 [(0, .ref (xA X 30)), (1, .int (iI a1))] := hl
  refine lv_aload_n hx hb dd_M_twin_0 rfl (lv_at hl 0 rfl) ?_
  refine x_get hC hS hM0.1 rfl iw_M 19 (by decide) tb_534 rfl rfl dd_M_twin_1 ?_
  refine lv_aload_n hx hb dd_M_twin_4 rfl (lv_at hl 0 rfl) ?_
  refine lv_aload_n hx hb dd_M_twin_5 rfl (lv_at hl 0 rfl) ?_
  refine x_get hC hS hM0.1 rfl iw_M 20 (by decide) tb_535 rfl rfl dd_M_twin_6 ?_
  refine lv_iload_n hx hb dd_M_twin_9 rfl (lv_at hl 1 rfl) ?_
  obtain ⟨q1, hw⟩ := hw
  refine x_iald hC hS hM0.2.2.2.2.2.2.2.2.2.2.2.2.2.2.2.2.1 q1 dd_M_twin_10 ?_
  refine x_nm (hm_M 46 _) (fun z2 rz2 ez2 => ?_)
  have hw := hw z2 ez2
  refine x_callVi hC hS (As := [.int (iI z2)]) (rest := [.ref (xA X 45)]) hM0.1 rfl cv_M_mirrored (mt_M_mirrored l X hC.2.2.1 hM0 z2 rz2 M hm_M _ _ hw) tb_732 rfl rfl ⟨Nat.le_of_ble_eq_true rfl, Nat.le_of_ble_eq_true rfl⟩ rfl hl.1 (Nat.le_of_ble_eq_true rfl) dd_M_twin_11 ⟨Nat.le_refl _, Nat.le_refl _⟩ rfl (fun r11 M_3 H locs rr11 hw hS => ?_)
  have hm_M_3 := hS.2.2.2
  obtain ⟨q4, hw⟩ := hw
  refine x_iald hC hS hM0.2.2.2.2.2.2.2.2.2.2.2.2.2.2.2.1 q4 dd_M_twin_14 ?_
  refine x_nm (hm_M_3 45 _) (fun z5 rz5 ez5 => ?_)
  have hw := hw z5 ez5
  exact x_iret hC hS hlocks hr rz5 hw dd_M_twin_15
def wp_M_pattern (a1 : Int) (a2 : Int) (M : Mm) (post : Int → Mm → Prop) : Prop :=
  wp_M_in a2 0 4 (fun (r3 : Int) => (¬ r3 = 0 → wp_M_layPatterns M (fun (M_2 : Mm) => inR ((M_2 30 22) - 1) ∧ wp_M_in a1 0 ((M_2 30 22) - 1) (fun (r24 : Int) => (¬ r24 = 0 → (a2 = 0 → (0 ≤ a1 ∧ a1 < 16384) ∧ ∀ z6 : Int, z6 = M_2 46 (a1).toNat → post z6 M_2) ∧
      (a2 = 1 → (0 ≤ a1 ∧ a1 < 16384) ∧ ∀ z8 : Int, z8 = M_2 47 (a1).toNat → post z8 M_2) ∧
      (a2 = 2 → (0 ≤ a1 ∧ a1 < 16384) ∧ ∀ z10 : Int, z10 = M_2 46 (a1).toNat → wp_M_weightOf z10 M_2 (fun (r85 : Int) (M_11 : Mm) => post r85 M_11)) ∧
      (a2 = 3 → wp_M_twin a1 M_2 (fun (r91 : Int) (M_12 : Mm) => post r91 M_12)) ∧
      ((a2 < 0 ∨ 3 < a2) → (0 ≤ a1 ∧ a1 < 16384) ∧ ∀ z14 : Int, z14 = M_2 46 (a1).toNat → wp_M_coloursOf z14 M_2 (fun (r102 : Int) (M_15 : Mm) => post r102 M_15))) ∧
    (r24 = 0 → post (-6) M_2)))) ∧
  (r3 = 0 → post (-2) M))
set_option maxHeartbeats 4000000 in
set_option maxRecDepth 100000 in
theorem mt_M_pattern (l : Launch) (X : Xw) (hlc : lcl X)(hM0 : IsM X) (a1 : Int) (ra1 : inR a1) (a2 : Int) (ra2 : inR a2) (M : Mm) (hm_M : mr M) (post : Int → Mm → Prop) (sz : Nat) (hw : wp_M_pattern a1 a2 M post) : Met l yy_M_pattern (Cond.code yy_M_pattern bc_M_pattern 3 (some .int) :: tg) ({ frames := 4, cells := 0, slots := 0, locals := 87 } : Room) (Pw X [.ref (xA X 30), .int (iI a1), .int (iI a2)] M sz) (Qi X sz post) 0 0 (xF X sz) := by
  unfold wp_M_pattern at hw
  refine x_enter (by decide) hlc hm_M (Nat.le_of_ble_eq_true rfl) ?_
  intro p e s m below meth c ls hC hsz hr hlocks hS hl
  have hx := hC.1.1
  have hb := hC.1.2.1
  have hl : lv_has ls 3 [(0, .ref (xA X 30)), (1, .int (iI a1)), (2, .int (iI a2))] := hl
  refine lv_iload_n hx hb dd_M_pattern_0 rfl (lv_at hl 2 rfl) ?_
  refine x_iconst hC dd_M_pattern_1 ?_
  refine x_iconst hC dd_M_pattern_2 ?_
  refine x_callSi hC hS (As := [.int (iI a2), .int (iI 0), .int (iI 4)]) (rest := []) cs_M_in (mt_M_in l X hC.2.2.1  a2 ra2 0 (rk rfl) 4 (rk rfl) M hm_M _ _ hw) tb_596 rfl rfl ⟨Nat.le_of_ble_eq_true rfl, Nat.le_of_ble_eq_true rfl⟩ rfl hl.1 (Nat.le_of_ble_eq_true rfl) dd_M_pattern_3 ⟨Nat.le_refl _, Nat.le_refl _⟩ rfl (fun r3 Mx H locs rr3 hp hS => ?_)
  obtain ⟨hq, hw⟩ := hp
  rw [hq] at hS
  refine x_if_ne hC rr3 (tgt := 12) dd_M_pattern_6 (by decide) (fun c1 => ?_) (fun c1 => ?_)
  · have hw := hw.1 c1
    refine lv_aload_n hx hb dd_M_pattern_12 rfl (lv_at hl 0 rfl) ?_
    refine x_callVv hC hS (As := []) (rest := []) hM0.1 rfl cv_M_layPatterns (mt_M_layPatterns l X hC.2.2.1 hM0  M hm_M _ _ hw) tb_700 rfl rfl ⟨Nat.le_of_ble_eq_true rfl, Nat.le_of_ble_eq_true rfl⟩ rfl hl.1 (Nat.le_of_ble_eq_true rfl) dd_M_pattern_13 ⟨Nat.le_refl _, Nat.le_refl _⟩ rfl (fun M_2 H locs hw hS => ?_)
    have hm_M_2 := hS.2.2.2
    refine lv_iload_n hx hb dd_M_pattern_16 rfl (lv_at hl 1 rfl) ?_
    refine x_iconst hC dd_M_pattern_17 ?_
    refine lv_aload_n hx hb dd_M_pattern_18 rfl (lv_at hl 0 rfl) ?_
    refine x_get hC hS hM0.1 rfl iw_M 22 (by decide) tb_537 rfl rfl dd_M_pattern_19 ?_
    refine x_iconst hC dd_M_pattern_22 ?_
    obtain ⟨q3, hw⟩ := hw
    refine x_sub hC dd_M_pattern_23 ?_
    refine x_callSi hC hS (As := [.int (iI a1), .int (iI 0), .int (iI ((M_2 30 22) - 1))]) (rest := []) cs_M_in (mt_M_in l X hC.2.2.1  a1 ra1 0 (rk rfl) ((M_2 30 22) - 1) q3 M_2 hm_M_2 _ _ hw) tb_596 rfl rfl ⟨Nat.le_of_ble_eq_true rfl, Nat.le_of_ble_eq_true rfl⟩ rfl hl.1 (Nat.le_of_ble_eq_true rfl) dd_M_pattern_24 ⟨Nat.le_refl _, Nat.le_refl _⟩ rfl (fun r24 Mx H locs rr24 hp hS => ?_)
    obtain ⟨hq, hw⟩ := hp
    rw [hq] at hS
    refine x_if_ne hC rr24 (tgt := 33) dd_M_pattern_27 (by decide) (fun c4 => ?_) (fun c4 => ?_)
    · have hw := hw.1 c4
      refine lv_iload_n hx hb dd_M_pattern_33 rfl (lv_at hl 2 rfl) ?_
      rcases (show a2 = 0 ∨ a2 = 1 ∨ a2 = 2 ∨ a2 = 3 ∨ (a2 < 0 ∨ 3 < a2) by omega) with hc_ | hc_ | hc_ | hc_ | hc_
      · have hw := hw.1 hc_
        refine x_tin hC 0 ra2 hc_ dd_M_pattern_34 (by decide) (by decide) rfl (by decide) (tgt := 64) ?_
        refine lv_aload_n hx hb dd_M_pattern_64 rfl (lv_at hl 0 rfl) ?_
        refine x_get hC hS hM0.1 rfl iw_M 20 (by decide) tb_535 rfl rfl dd_M_pattern_65 ?_
        refine lv_iload_n hx hb dd_M_pattern_68 rfl (lv_at hl 1 rfl) ?_
        obtain ⟨q5, hw⟩ := hw
        refine x_iald hC hS hM0.2.2.2.2.2.2.2.2.2.2.2.2.2.2.2.2.1 q5 dd_M_pattern_69 ?_
        refine x_nm (hm_M_2 46 _) (fun z6 rz6 ez6 => ?_)
        have hw := hw z6 ez6
        exact x_iret hC hS hlocks hr rz6 hw dd_M_pattern_70
      · have hw := hw.2.1 hc_
        refine x_tin hC 1 ra2 hc_ dd_M_pattern_34 (by decide) (by decide) rfl (by decide) (tgt := 71) ?_
        refine lv_aload_n hx hb dd_M_pattern_71 rfl (lv_at hl 0 rfl) ?_
        refine x_get hC hS hM0.1 rfl iw_M 21 (by decide) tb_536 rfl rfl dd_M_pattern_72 ?_
        refine lv_iload_n hx hb dd_M_pattern_75 rfl (lv_at hl 1 rfl) ?_
        obtain ⟨q7, hw⟩ := hw
        refine x_iald hC hS hM0.2.2.2.2.2.2.2.2.2.2.2.2.2.2.2.2.2.1 q7 dd_M_pattern_76 ?_
        refine x_nm (hm_M_2 47 _) (fun z8 rz8 ez8 => ?_)
        have hw := hw z8 ez8
        exact x_iret hC hS hlocks hr rz8 hw dd_M_pattern_77
      · have hw := hw.2.2.1 hc_
        refine x_tin hC 2 ra2 hc_ dd_M_pattern_34 (by decide) (by decide) rfl (by decide) (tgt := 78) ?_
        refine lv_aload_n hx hb dd_M_pattern_78 rfl (lv_at hl 0 rfl) ?_
        refine lv_aload_n hx hb dd_M_pattern_79 rfl (lv_at hl 0 rfl) ?_
        refine x_get hC hS hM0.1 rfl iw_M 20 (by decide) tb_535 rfl rfl dd_M_pattern_80 ?_
        refine lv_iload_n hx hb dd_M_pattern_83 rfl (lv_at hl 1 rfl) ?_
        obtain ⟨q9, hw⟩ := hw
        refine x_iald hC hS hM0.2.2.2.2.2.2.2.2.2.2.2.2.2.2.2.2.1 q9 dd_M_pattern_84 ?_
        refine x_nm (hm_M_2 46 _) (fun z10 rz10 ez10 => ?_)
        have hw := hw z10 ez10
        refine x_callVi hC hS (As := [.int (iI z10)]) (rest := []) hM0.1 rfl cv_M_weightOf (mt_M_weightOf l X hC.2.2.1 hM0 z10 rz10 M_2 hm_M_2 _ _ hw) tb_720 rfl rfl ⟨Nat.le_of_ble_eq_true rfl, Nat.le_of_ble_eq_true rfl⟩ rfl hl.1 (Nat.le_of_ble_eq_true rfl) dd_M_pattern_85 ⟨Nat.le_refl _, Nat.le_refl _⟩ rfl (fun r85 M_11 H locs rr85 hw hS => ?_)
        have hm_M_11 := hS.2.2.2
        exact x_iret hC hS hlocks hr rr85 hw dd_M_pattern_88
      · have hw := hw.2.2.2.1 hc_
        refine x_tin hC 3 ra2 hc_ dd_M_pattern_34 (by decide) (by decide) rfl (by decide) (tgt := 89) ?_
        refine lv_aload_n hx hb dd_M_pattern_89 rfl (lv_at hl 0 rfl) ?_
        refine lv_iload_n hx hb dd_M_pattern_90 rfl (lv_at hl 1 rfl) ?_
        refine x_callVi hC hS (As := [.int (iI a1)]) (rest := []) hM0.1 rfl cv_M_twin (mt_M_twin l X hC.2.2.1 hM0 a1 ra1 M_2 hm_M_2 _ _ hw) tb_728 rfl rfl ⟨Nat.le_of_ble_eq_true rfl, Nat.le_of_ble_eq_true rfl⟩ rfl hl.1 (Nat.le_of_ble_eq_true rfl) dd_M_pattern_91 ⟨Nat.le_refl _, Nat.le_refl _⟩ rfl (fun r91 M_12 H locs rr91 hw hS => ?_)
        have hm_M_12 := hS.2.2.2
        exact x_iret hC hS hlocks hr rr91 hw dd_M_pattern_94
      · have hw := hw.2.2.2.2 hc_
        refine x_tout hC ra2 dd_M_pattern_34 hc_ (by decide) (tgt := 95) ?_
        refine lv_aload_n hx hb dd_M_pattern_95 rfl (lv_at hl 0 rfl) ?_
        refine lv_aload_n hx hb dd_M_pattern_96 rfl (lv_at hl 0 rfl) ?_
        refine x_get hC hS hM0.1 rfl iw_M 20 (by decide) tb_535 rfl rfl dd_M_pattern_97 ?_
        refine lv_iload_n hx hb dd_M_pattern_100 rfl (lv_at hl 1 rfl) ?_
        obtain ⟨q13, hw⟩ := hw
        refine x_iald hC hS hM0.2.2.2.2.2.2.2.2.2.2.2.2.2.2.2.2.1 q13 dd_M_pattern_101 ?_
        refine x_nm (hm_M_2 46 _) (fun z14 rz14 ez14 => ?_)
        have hw := hw z14 ez14
        refine x_callVi hC hS (As := [.int (iI z14)]) (rest := []) hM0.1 rfl cv_M_coloursOf (mt_M_coloursOf l X hC.2.2.1 hM0 z14 rz14 M_2 hm_M_2 _ _ hw) tb_736 rfl rfl ⟨Nat.le_of_ble_eq_true rfl, Nat.le_of_ble_eq_true rfl⟩ rfl hl.1 (Nat.le_of_ble_eq_true rfl) dd_M_pattern_102 ⟨Nat.le_refl _, Nat.le_refl _⟩ rfl (fun r102 M_15 H locs rr102 hw hS => ?_)
        have hm_M_15 := hS.2.2.2
        exact x_iret hC hS hlocks hr rr102 hw dd_M_pattern_105
    · have hw := hw.2 c4
      refine x_bipush hC dd_M_pattern_30 (by decide) ?_
      exact x_iret hC hS hlocks hr (rk rfl) hw dd_M_pattern_32
  · have hw := hw.2 c1
    refine x_bipush hC dd_M_pattern_9 (by decide) ?_
    exact x_iret hC hS hlocks hr (rk rfl) hw dd_M_pattern_11
def wp_M_isNumber (a1 : Int) (M : Mm) (post : Int → Mm → Prop) : Prop :=
  wp_M_layWorths M (fun (M_1 : Mm) => inR ((M_1 30 23) - 1) ∧ wp_M_in a1 0 ((M_1 30 23) - 1) (fun (r12 : Int) => (r12 = 0 ∨ r12 = 1) ∧ post r12 M_1))
set_option maxHeartbeats 4000000 in
set_option maxRecDepth 100000 in
theorem mt_M_isNumber (l : Launch) (X : Xw) (hlc : lcl X)(hM0 : IsM X) (a1 : Int) (ra1 : inR a1) (M : Mm) (hm_M : mr M) (post : Int → Mm → Prop) (sz : Nat) (hw : wp_M_isNumber a1 M post) : Met l yy_M_isNumber (Cond.code yy_M_isNumber bc_M_isNumber 2 (some .boolean) :: tg) ({ frames := 2, cells := 0, slots := 0, locals := 42 } : Room) (Pw X [.ref (xA X 30), .int (iI a1)] M sz) (Qi X sz post) 0 0 (xF X sz) := by
  unfold wp_M_isNumber at hw
  refine x_enter (by decide) hlc hm_M (Nat.le_of_ble_eq_true rfl) ?_
  intro p e s m below meth c ls hC hsz hr hlocks hS hl
  have hx := hC.1.1
  have hb := hC.1.2.1
  have hl : lv_has ls 2 [(0, .ref (xA X 30)), (1, .int (iI a1))] := hl
  refine lv_aload_n hx hb dd_M_isNumber_0 rfl (lv_at hl 0 rfl) ?_
  refine x_callVv hC hS (As := []) (rest := []) hM0.1 rfl cv_M_layWorths (mt_M_layWorths l X hC.2.2.1 hM0  M hm_M _ _ hw) tb_704 rfl rfl ⟨Nat.le_of_ble_eq_true rfl, Nat.le_of_ble_eq_true rfl⟩ rfl hl.1 (Nat.le_of_ble_eq_true rfl) dd_M_isNumber_1 ⟨Nat.le_refl _, Nat.le_refl _⟩ rfl (fun M_1 H locs hw hS => ?_)
  have hm_M_1 := hS.2.2.2
  refine lv_iload_n hx hb dd_M_isNumber_4 rfl (lv_at hl 1 rfl) ?_
  refine x_iconst hC dd_M_isNumber_5 ?_
  refine lv_aload_n hx hb dd_M_isNumber_6 rfl (lv_at hl 0 rfl) ?_
  refine x_get hC hS hM0.1 rfl iw_M 23 (by decide) tb_538 rfl rfl dd_M_isNumber_7 ?_
  refine x_iconst hC dd_M_isNumber_10 ?_
  obtain ⟨q2, hw⟩ := hw
  refine x_sub hC dd_M_isNumber_11 ?_
  refine x_callSi hC hS (As := [.int (iI a1), .int (iI 0), .int (iI ((M_1 30 23) - 1))]) (rest := []) cs_M_in (mt_M_in l X hC.2.2.1  a1 ra1 0 (rk rfl) ((M_1 30 23) - 1) q2 M_1 hm_M_1 _ _ hw) tb_596 rfl rfl ⟨Nat.le_of_ble_eq_true rfl, Nat.le_of_ble_eq_true rfl⟩ rfl hl.1 (Nat.le_of_ble_eq_true rfl) dd_M_isNumber_12 ⟨Nat.le_refl _, Nat.le_refl _⟩ rfl (fun r12 Mx H locs rr12 hp hS => ?_)
  obtain ⟨hq, hw⟩ := hp
  rw [hq] at hS
  exact x_zret hC hS hlocks hr hw.1 hw.2 dd_M_isNumber_15
def wp_M_of (a1 : Int) (a2 : Int) (M : Mm) (post : Int → Mm → Prop) : Prop :=
  wp_M_isNumber a1 M (fun (r2 : Int) (M_1 : Mm) => (r2 = 0 → post (-2) M_1) ∧
  (¬ r2 = 0 → wp_M_in a2 0 3 (fun (r11 : Int) => (¬ r11 = 0 → wp_M_layPatterns M_1 (fun (M_4 : Mm) => (0 ≤ a1 ∧ a1 < 16384) ∧ ∀ z6 : Int, z6 = M_4 45 (a1).toNat → (¬ a2 = 0 → (¬ a2 = 1 → (¬ a2 = 2 → wp_M_mirrored a1 M_4 (fun (r74 : Int) (M_10 : Mm) => post r74 M_10)) ∧
          (a2 = 2 → (0 ≤ z6 ∧ z6 < 16384) ∧ ∀ z12 : Int, z12 = M_4 47 (z6).toNat → (0 ≤ (M_4 30 12) ∧ 0 < z12) ∧ post ((M_4 30 12) / z12) M_4)) ∧
        (a2 = 1 → (0 ≤ z6 ∧ z6 < 16384) ∧ ∀ z15 : Int, z15 = M_4 46 (z6).toNat → post z15 M_4)) ∧
      (a2 = 0 → post z6 M_4))) ∧
    (r11 = 0 → post (-2) M_1))))
set_option maxHeartbeats 4000000 in
set_option maxRecDepth 100000 in
theorem mt_M_of (l : Launch) (X : Xw) (hlc : lcl X)(hM0 : IsM X) (a1 : Int) (ra1 : inR a1) (a2 : Int) (ra2 : inR a2) (M : Mm) (hm_M : mr M) (post : Int → Mm → Prop) (sz : Nat) (hw : wp_M_of a1 a2 M post) : Met l yy_M_of (Cond.code yy_M_of bc_M_of 4 (some .int) :: tg) ({ frames := 4, cells := 0, slots := 0, locals := 87 } : Room) (Pw X [.ref (xA X 30), .int (iI a1), .int (iI a2)] M sz) (Qi X sz post) 0 0 (xF X sz) := by
  unfold wp_M_of at hw
  refine x_enter (by decide) hlc hm_M (Nat.le_of_ble_eq_true rfl) ?_
  intro p e s m below meth c ls hC hsz hr hlocks hS hl
  have hx := hC.1.1
  have hb := hC.1.2.1
  have hl : lv_has ls 4 [(0, .ref (xA X 30)), (1, .int (iI a1)), (2, .int (iI a2))] := hl
  refine lv_aload_n hx hb dd_M_of_0 rfl (lv_at hl 0 rfl) ?_
  refine lv_iload_n hx hb dd_M_of_1 rfl (lv_at hl 1 rfl) ?_
  refine x_callVi hC hS (As := [.int (iI a1)]) (rest := []) hM0.1 rfl cv_M_isNumber (mt_M_isNumber l X hC.2.2.1 hM0 a1 ra1 M hm_M _ _ hw) tb_744 rfl rfl ⟨Nat.le_of_ble_eq_true rfl, Nat.le_of_ble_eq_true rfl⟩ rfl hl.1 (Nat.le_of_ble_eq_true rfl) dd_M_of_2 ⟨Nat.le_refl _, Nat.le_refl _⟩ rfl (fun r2 M_1 H locs rr2 hw hS => ?_)
  have hm_M_1 := hS.2.2.2
  refine x_if_eq hC rr2 (tgt := 17) dd_M_of_5 (by decide) (fun c2 => ?_) (fun c2 => ?_)
  · have hw := hw.1 c2
    refine x_bipush hC dd_M_of_17 (by decide) ?_
    exact x_iret hC hS hlocks hr (rk rfl) hw dd_M_of_19
  · have hw := hw.2 c2
    refine lv_iload_n hx hb dd_M_of_8 rfl (lv_at hl 2 rfl) ?_
    refine x_iconst hC dd_M_of_9 ?_
    refine x_iconst hC dd_M_of_10 ?_
    refine x_callSi hC hS (As := [.int (iI a2), .int (iI 0), .int (iI 3)]) (rest := []) cs_M_in (mt_M_in l X hC.2.2.1  a2 ra2 0 (rk rfl) 3 (rk rfl) M_1 hm_M_1 _ _ hw) tb_596 rfl rfl ⟨Nat.le_of_ble_eq_true rfl, Nat.le_of_ble_eq_true rfl⟩ rfl hl.1 (Nat.le_of_ble_eq_true rfl) dd_M_of_11 ⟨Nat.le_refl _, Nat.le_refl _⟩ rfl (fun r11 Mx H locs rr11 hp hS => ?_)
    obtain ⟨hq, hw⟩ := hp
    rw [hq] at hS
    refine x_if_ne hC rr11 (tgt := 20) dd_M_of_14 (by decide) (fun c3 => ?_) (fun c3 => ?_)
    · have hw := hw.1 c3
      refine lv_aload_n hx hb dd_M_of_20 rfl (lv_at hl 0 rfl) ?_
      refine x_callVv hC hS (As := []) (rest := []) hM0.1 rfl cv_M_layPatterns (mt_M_layPatterns l X hC.2.2.1 hM0  M_1 hm_M_1 _ _ hw) tb_700 rfl rfl ⟨Nat.le_of_ble_eq_true rfl, Nat.le_of_ble_eq_true rfl⟩ rfl hl.1 (Nat.le_of_ble_eq_true rfl) dd_M_of_21 ⟨Nat.le_refl _, Nat.le_refl _⟩ rfl (fun M_4 H locs hw hS => ?_)
      have hm_M_4 := hS.2.2.2
      refine lv_aload_n hx hb dd_M_of_24 rfl (lv_at hl 0 rfl) ?_
      refine x_get hC hS hM0.1 rfl iw_M 19 (by decide) tb_534 rfl rfl dd_M_of_25 ?_
      refine lv_iload_n hx hb dd_M_of_28 rfl (lv_at hl 1 rfl) ?_
      obtain ⟨q5, hw⟩ := hw
      refine x_iald hC hS hM0.2.2.2.2.2.2.2.2.2.2.2.2.2.2.2.1 q5 dd_M_of_29 ?_
      refine x_nm (hm_M_4 45 _) (fun z6 rz6 ez6 => ?_)
      have hw := hw z6 ez6
      refine lv_istore_n (lv' := [(3, .int (iI z6)), (0, .ref (xA X 30)), (1, .int (iI a1)), (2, .int (iI a2))]) hx hb dd_M_of_30 rfl hl (by decide) rfl (fun ls hl => ?_)
      refine lv_iload_n hx hb dd_M_of_31 rfl (lv_at hl 3 rfl) ?_
      refine x_if_ne hC ra2 (tgt := 39) dd_M_of_32 (by decide) (fun c7 => ?_) (fun c7 => ?_)
      · have hw := hw.1 c7
        refine lv_iload_n hx hb dd_M_of_39 rfl (lv_at hl 3 rfl) ?_
        refine x_iconst hC dd_M_of_40 ?_
        refine x_icmp_ne hC ra2 (rk rfl) (tgt := 53) dd_M_of_41 (by decide) (fun c8 => ?_) (fun c8 => ?_)
        · have hw := hw.1 c8
          refine lv_iload_n hx hb dd_M_of_53 rfl (lv_at hl 3 rfl) ?_
          refine x_iconst hC dd_M_of_54 ?_
          refine x_icmp_ne hC ra2 (rk rfl) (tgt := 72) dd_M_of_55 (by decide) (fun c9 => ?_) (fun c9 => ?_)
          · have hw := hw.1 c9
            refine lv_aload_n hx hb dd_M_of_72 rfl (lv_at hl 1 rfl) ?_
            refine lv_iload_n hx hb dd_M_of_73 rfl (lv_at hl 2 rfl) ?_
            refine x_callVi hC hS (As := [.int (iI a1)]) (rest := []) hM0.1 rfl cv_M_mirrored (mt_M_mirrored l X hC.2.2.1 hM0 a1 ra1 M_4 hm_M_4 _ _ hw) tb_732 rfl rfl ⟨Nat.le_of_ble_eq_true rfl, Nat.le_of_ble_eq_true rfl⟩ rfl hl.1 (Nat.le_of_ble_eq_true rfl) dd_M_of_74 ⟨Nat.le_refl _, Nat.le_refl _⟩ rfl (fun r74 M_10 H locs rr74 hw hS => ?_)
            have hm_M_10 := hS.2.2.2
            exact x_iret hC hS hlocks hr rr74 hw dd_M_of_77
          · have hw := hw.2 c9
            refine lv_aload_n hx hb dd_M_of_58 rfl (lv_at hl 1 rfl) ?_
            refine x_get hC hS hM0.1 rfl iw_M 12 (by decide) tb_527 rfl rfl dd_M_of_59 ?_
            refine lv_aload_n hx hb dd_M_of_62 rfl (lv_at hl 1 rfl) ?_
            refine x_get hC hS hM0.1 rfl iw_M 21 (by decide) tb_536 rfl rfl dd_M_of_63 ?_
            refine lv_iload_n hx hb dd_M_of_66 rfl (lv_at hl 0 rfl) ?_
            obtain ⟨q11, hw⟩ := hw
            refine x_iald hC hS hM0.2.2.2.2.2.2.2.2.2.2.2.2.2.2.2.2.2.1 q11 dd_M_of_67 ?_
            refine x_nm (hm_M_4 47 _) (fun z12 rz12 ez12 => ?_)
            have hw := hw z12 ez12
            obtain ⟨q13, hw⟩ := hw
            refine x_div hC (hm_M_4 30 12) rz12 q13 dd_M_of_68 ?_
            refine lv_goto (tgt := 77) hx hb dd_M_of_69 (by decide) ?_
            exact x_iret hC hS hlocks hr (rDiv (hm_M_4 30 12) q13.1 q13.2) hw dd_M_of_77
        · have hw := hw.2 c8
          refine lv_aload_n hx hb dd_M_of_44 rfl (lv_at hl 1 rfl) ?_
          refine x_get hC hS hM0.1 rfl iw_M 20 (by decide) tb_535 rfl rfl dd_M_of_45 ?_
          refine lv_iload_n hx hb dd_M_of_48 rfl (lv_at hl 0 rfl) ?_
          obtain ⟨q14, hw⟩ := hw
          refine x_iald hC hS hM0.2.2.2.2.2.2.2.2.2.2.2.2.2.2.2.2.1 q14 dd_M_of_49 ?_
          refine x_nm (hm_M_4 46 _) (fun z15 rz15 ez15 => ?_)
          have hw := hw z15 ez15
          refine lv_goto (tgt := 77) hx hb dd_M_of_50 (by decide) ?_
          exact x_iret hC hS hlocks hr rz15 hw dd_M_of_77
      · have hw := hw.2 c7
        refine lv_iload_n hx hb dd_M_of_35 rfl (lv_at hl 0 rfl) ?_
        refine lv_goto (tgt := 77) hx hb dd_M_of_36 (by decide) ?_
        exact x_iret hC hS hlocks hr rz6 hw dd_M_of_77
    · have hw := hw.2 c3
      refine x_bipush hC dd_M_of_17 (by decide) ?_
      exact x_iret hC hS hlocks hr (rk rfl) hw dd_M_of_19
def wp_M_isOf (a1 : Int) (a2 : Int) (M : Mm) (post : Int → Mm → Prop) : Prop :=
  (a2 = 0 → wp_M_twin a1 M (fun (r30 : Int) (M_1 : Mm) => (r30 = a1 → post 0 M_1) ∧
    (¬ r30 = a1 → post 1 M_1))) ∧
  (a2 = 1 → (0 ≤ a1 ∧ a1 < 16384) ∧ ∀ z4 : Int, z4 = M 46 (a1).toNat → wp_M_coloursOf z4 M (fun (r50 : Int) (M_5 : Mm) => (0 ≤ (1 : Int) ∧ (1 : Int) < 5046) ∧ ∀ z7 : Int, z7 = M_5 31 ((1 : Int)).toNat → (¬ r50 = z7 → post 0 M_5) ∧
    (r50 = z7 → post 1 M_5))) ∧
  ((¬ a2 = 0 ∧ ¬ a2 = 1) → (0 ≤ a1 ∧ a1 < 16384) ∧ ∀ z10 : Int, z10 = M 47 (a1).toNat → (¬ z10 = 1 → post 0 M) ∧
    (z10 = 1 → post 1 M))
set_option maxHeartbeats 4000000 in
set_option maxRecDepth 100000 in
theorem mt_M_isOf (l : Launch) (X : Xw) (hlc : lcl X)(hM0 : IsM X) (a1 : Int) (ra1 : inR a1) (a2 : Int) (ra2 : inR a2) (M : Mm) (hm_M : mr M) (post : Int → Mm → Prop) (sz : Nat) (hw : wp_M_isOf a1 a2 M post) : Met l yy_M_isOf (Cond.code yy_M_isOf bc_M_isOf 3 (some .boolean) :: tg) ({ frames := 4, cells := 0, slots := 0, locals := 87 } : Room) (Pw X [.ref (xA X 30), .int (iI a1), .int (iI a2)] M sz) (Qi X sz post) 0 0 (xF X sz) := by
  unfold wp_M_isOf at hw
  refine x_enter (by decide) hlc hm_M (Nat.le_of_ble_eq_true rfl) ?_
  intro p e s m below meth c ls hC hsz hr hlocks hS hl
  have hx := hC.1.1
  have hb := hC.1.2.1
  have hl : lv_has ls 3 [(0, .ref (xA X 30)), (1, .int (iI a1)), (2, .int (iI a2))] := hl
  refine lv_iload_n hx hb dd_M_isOf_0 rfl (lv_at hl 2 rfl) ?_
  rcases (show a2 = 0 ∨ a2 = 1 ∨ (¬ a2 = 0 ∧ ¬ a2 = 1) by omega) with hc_ | hc_ | hc_
  · have hw := hw.1 hc_
    refine x_look hC ra2 dd_M_isOf_1 (by decide) (off := 27) (by rw [hc_]; decide) (by decide) (tgt := 28) ?_
    refine lv_aload_n hx hb dd_M_isOf_28 rfl (lv_at hl 0 rfl) ?_
    refine lv_iload_n hx hb dd_M_isOf_29 rfl (lv_at hl 1 rfl) ?_
    refine x_callVi hC hS (As := [.int (iI a1)]) (rest := []) hM0.1 rfl cv_M_twin (mt_M_twin l X hC.2.2.1 hM0 a1 ra1 M hm_M _ _ hw) tb_728 rfl rfl ⟨Nat.le_of_ble_eq_true rfl, Nat.le_of_ble_eq_true rfl⟩ rfl hl.1 (Nat.le_of_ble_eq_true rfl) dd_M_isOf_30 ⟨Nat.le_refl _, Nat.le_refl _⟩ rfl (fun r30 M_1 H locs rr30 hw hS => ?_)
    have hm_M_1 := hS.2.2.2
    refine lv_iload_n hx hb dd_M_isOf_33 rfl (lv_at hl 1 rfl) ?_
    refine x_icmp_eq hC rr30 ra1 (tgt := 41) dd_M_isOf_34 (by decide) (fun c2 => ?_) (fun c2 => ?_)
    · have hw := hw.1 c2
      refine x_iconst hC dd_M_isOf_41 ?_
      exact x_zret hC hS hlocks hr (Or.inl rfl) hw dd_M_isOf_42
    · have hw := hw.2 c2
      refine x_iconst hC dd_M_isOf_37 ?_
      refine lv_goto (tgt := 42) hx hb dd_M_isOf_38 (by decide) ?_
      exact x_zret hC hS hlocks hr (Or.inr rfl) hw dd_M_isOf_42
  · have hw := hw.2.1 hc_
    refine x_look hC ra2 dd_M_isOf_1 (by decide) (off := 42) (by rw [hc_]; decide) (by decide) (tgt := 43) ?_
    refine lv_aload_n hx hb dd_M_isOf_43 rfl (lv_at hl 0 rfl) ?_
    refine lv_aload_n hx hb dd_M_isOf_44 rfl (lv_at hl 0 rfl) ?_
    refine x_get hC hS hM0.1 rfl iw_M 20 (by decide) tb_535 rfl rfl dd_M_isOf_45 ?_
    refine lv_iload_n hx hb dd_M_isOf_48 rfl (lv_at hl 1 rfl) ?_
    obtain ⟨q3, hw⟩ := hw
    refine x_iald hC hS hM0.2.2.2.2.2.2.2.2.2.2.2.2.2.2.2.2.1 q3 dd_M_isOf_49 ?_
    refine x_nm (hm_M 46 _) (fun z4 rz4 ez4 => ?_)
    have hw := hw z4 ez4
    refine x_callVi hC hS (As := [.int (iI z4)]) (rest := []) hM0.1 rfl cv_M_coloursOf (mt_M_coloursOf l X hC.2.2.1 hM0 z4 rz4 M hm_M _ _ hw) tb_736 rfl rfl ⟨Nat.le_of_ble_eq_true rfl, Nat.le_of_ble_eq_true rfl⟩ rfl hl.1 (Nat.le_of_ble_eq_true rfl) dd_M_isOf_50 ⟨Nat.le_refl _, Nat.le_refl _⟩ rfl (fun r50 M_5 H locs rr50 hw hS => ?_)
    have hm_M_5 := hS.2.2.2
    refine lv_aload_n hx hb dd_M_isOf_53 rfl (lv_at hl 0 rfl) ?_
    refine x_get hC hS hM0.1 rfl iw_M 0 (by decide) tb_515 rfl rfl dd_M_isOf_54 ?_
    refine x_iconst hC dd_M_isOf_57 ?_
    obtain ⟨q6, hw⟩ := hw
    refine x_iald hC hS hM0.2.1 q6 dd_M_isOf_58 ?_
    refine x_nm (hm_M_5 31 _) (fun z7 rz7 ez7 => ?_)
    have hw := hw z7 ez7
    refine x_icmp_ne hC rr50 rz7 (tgt := 66) dd_M_isOf_59 (by decide) (fun c8 => ?_) (fun c8 => ?_)
    · have hw := hw.1 c8
      refine x_iconst hC dd_M_isOf_66 ?_
      exact x_zret hC hS hlocks hr (Or.inl rfl) hw dd_M_isOf_67
    · have hw := hw.2 c8
      refine x_iconst hC dd_M_isOf_62 ?_
      refine lv_goto (tgt := 67) hx hb dd_M_isOf_63 (by decide) ?_
      exact x_zret hC hS hlocks hr (Or.inr rfl) hw dd_M_isOf_67
  · have hw := hw.2.2 hc_
    refine x_look hC ra2 dd_M_isOf_1 (by decide) (off := 67) (by show Op.lookupswitch.offset [(0, 27), (1, 42)] 67 _ = _; rw [Op.lookupswitch.offset_cons, if_neg (fun q => hc_.1 q.symm)]; rw [Op.lookupswitch.offset_cons, if_neg (fun q => hc_.2 q.symm)]; rfl) (by decide) (tgt := 68) ?_
    refine lv_aload_n hx hb dd_M_isOf_68 rfl (lv_at hl 0 rfl) ?_
    refine x_get hC hS hM0.1 rfl iw_M 21 (by decide) tb_536 rfl rfl dd_M_isOf_69 ?_
    refine lv_iload_n hx hb dd_M_isOf_72 rfl (lv_at hl 1 rfl) ?_
    obtain ⟨q9, hw⟩ := hw
    refine x_iald hC hS hM0.2.2.2.2.2.2.2.2.2.2.2.2.2.2.2.2.2.1 q9 dd_M_isOf_73 ?_
    refine x_nm (hm_M 47 _) (fun z10 rz10 ez10 => ?_)
    have hw := hw z10 ez10
    refine x_iconst hC dd_M_isOf_74 ?_
    refine x_icmp_ne hC rz10 (rk rfl) (tgt := 82) dd_M_isOf_75 (by decide) (fun c11 => ?_) (fun c11 => ?_)
    · have hw := hw.1 c11
      refine x_iconst hC dd_M_isOf_82 ?_
      exact x_zret hC hS hlocks hr (Or.inl rfl) hw dd_M_isOf_83
    · have hw := hw.2 c11
      refine x_iconst hC dd_M_isOf_78 ?_
      refine lv_goto (tgt := 83) hx hb dd_M_isOf_79 (by decide) ?_
      exact x_zret hC hS hlocks hr (Or.inr rfl) hw dd_M_isOf_83
def wp_M_kinds (a1 : Int) (M : Mm) (post : Int → Mm → Prop) : Prop :=
  wp_M_in a1 0 3 (fun (r3 : Int) => (¬ r3 = 0 → wp_M_layPatterns M (fun (M_2 : Mm) => ∃ I23 : Nat → Int → Int → Int → Mm → Prop, (∃ n, I23 n 0 0 0 M_2) ∧ ∀ (n23 : Nat) (x2_23 : Int) (x3_23 : Int) (x4_23 : Int) (M23 : Mm), I23 n23 x2_23 x3_23 x4_23 M23 →
      (((M23 30 22) ≤ x4_23 → (¬ a1 = 3 → post x2_23 M23) ∧
          (a1 = 3 → post x3_23 M23)) ∧
        (¬ (M23 30 22) ≤ x4_23 → wp_M_isOf x4_23 a1 M23 (fun (r37 : Int) (M_5 : Mm) => ∀ K48 : Int → Prop, (∀ (s1_48 : Int), (inR (x2_23 + s1_48) ∧ ∀ v2_49 : Int, v2_49 = (x2_23 + s1_48) → (0 ≤ x4_23 ∧ x4_23 < 16384) ∧ ∀ z8 : Int, z8 = M_5 47 (x4_23).toNat → ∀ K72 : Int → Prop, (∀ (s0_72 : Int), (inR (x4_23 + 1) ∧ ∀ v4_73 : Int, v4_73 = x4_23 + 1 → ∃ k_9, k_9 < n23 ∧ I23 k_9 v2_49 s0_72 v4_73 M_5) →
                K72 s0_72) →
              ((z8 ≤ x3_23 → K72 x3_23) ∧
              (¬ z8 ≤ x3_23 → (0 ≤ x4_23 ∧ x4_23 < 16384) ∧ ∀ z13 : Int, z13 = M_5 47 (x4_23).toNat → K72 z13))) →
            K48 s1_48) →
          ((r37 = 0 → K48 0) ∧
          (¬ r37 = 0 → K48 1))))))) ∧
  (r3 = 0 → post (-2) M))
set_option maxHeartbeats 4000000 in
set_option maxRecDepth 100000 in
theorem mt_M_kinds (l : Launch) (X : Xw) (hlc : lcl X)(hM0 : IsM X) (a1 : Int) (ra1 : inR a1) (M : Mm) (hm_M : mr M) (post : Int → Mm → Prop) (sz : Nat) (hw : wp_M_kinds a1 M post) : Met l yy_M_kinds (Cond.code yy_M_kinds bc_M_kinds 5 (some .int) :: tg) ({ frames := 5, cells := 0, slots := 0, locals := 109 } : Room) (Pw X [.ref (xA X 30), .int (iI a1)] M sz) (Qi X sz post) 0 0 (xF X sz) := by
  unfold wp_M_kinds at hw
  refine x_enter (by decide) hlc hm_M (Nat.le_of_ble_eq_true rfl) ?_
  intro p e s m below meth c ls hC hsz hr hlocks hS hl
  have hx := hC.1.1
  have hb := hC.1.2.1
  have hl : lv_has ls 5 [(0, .ref (xA X 30)), (1, .int (iI a1))] := hl
  refine lv_iload_n hx hb dd_M_kinds_0 rfl (lv_at hl 1 rfl) ?_
  refine x_iconst hC dd_M_kinds_1 ?_
  refine x_iconst hC dd_M_kinds_2 ?_
  refine x_callSi hC hS (As := [.int (iI a1), .int (iI 0), .int (iI 3)]) (rest := []) cs_M_in (mt_M_in l X hC.2.2.1  a1 ra1 0 (rk rfl) 3 (rk rfl) M hm_M _ _ hw) tb_596 rfl rfl ⟨Nat.le_of_ble_eq_true rfl, Nat.le_of_ble_eq_true rfl⟩ rfl hl.1 (Nat.le_of_ble_eq_true rfl) dd_M_kinds_3 ⟨Nat.le_refl _, Nat.le_refl _⟩ rfl (fun r3 Mx H locs rr3 hp hS => ?_)
  obtain ⟨hq, hw⟩ := hp
  rw [hq] at hS
  refine x_if_ne hC rr3 (tgt := 12) dd_M_kinds_6 (by decide) (fun c1 => ?_) (fun c1 => ?_)
  · have hw := hw.1 c1
    refine lv_aload_n hx hb dd_M_kinds_12 rfl (lv_at hl 0 rfl) ?_
    refine x_callVv hC hS (As := []) (rest := []) hM0.1 rfl cv_M_layPatterns (mt_M_layPatterns l X hC.2.2.1 hM0  M hm_M _ _ hw) tb_700 rfl rfl ⟨Nat.le_of_ble_eq_true rfl, Nat.le_of_ble_eq_true rfl⟩ rfl hl.1 (Nat.le_of_ble_eq_true rfl) dd_M_kinds_13 ⟨Nat.le_refl _, Nat.le_refl _⟩ rfl (fun M_2 H locs hw hS => ?_)
    have hm_M_2 := hS.2.2.2
    refine x_iconst hC dd_M_kinds_16 ?_
    refine lv_istore_n (lv' := [(2, .int (iI 0)), (0, .ref (xA X 30)), (1, .int (iI a1))]) hx hb dd_M_kinds_17 rfl hl (by decide) rfl (fun ls hl => ?_)
    refine x_iconst hC dd_M_kinds_18 ?_
    refine lv_istore_n (lv' := [(3, .int (iI 0)), (2, .int (iI 0)), (0, .ref (xA X 30)), (1, .int (iI a1))]) hx hb dd_M_kinds_19 rfl hl (by decide) rfl (fun ls hl => ?_)
    refine x_iconst hC dd_M_kinds_20 ?_
    refine lv_istore (lv' := [(4, .int (iI 0)), (3, .int (iI 0)), (2, .int (iI 0)), (0, .ref (xA X 30)), (1, .int (iI a1))]) hx hb dd_M_kinds_21 hl (by decide) rfl (fun ls hl => ?_)
    obtain ⟨I23, ⟨n0, hI⟩, hstep_I23⟩ := hw
    have lp_I23 : ∀ (n23 : Nat) (x2_23 : Int) (x3_23 : Int) (x4_23 : Int) (M23 : Mm) (H : Heap) (locs : List Loc) (ls : Array Slot), I23 n23 x2_23 x3_23 x4_23 M23 → inR x2_23 → inR x3_23 → inR x4_23 → St X (xF X sz) s M23 H locs → lv_has ls 5 [(0, .ref (xA X 30)), (1, .int (iI a1)), (2, .int (iI x2_23)), (3, .int (iI x3_23)), (4, .int (iI x4_23))] → W p l e ({ frames := 5, cells := 0, slots := 0, locals := 109 } : Room) s m ([.ref (xA X 30), .int (iI a1)] : List Value).toArray below meth c H locs 0 0 (MQ below (Qi X sz post) ([.ref (xA X 30), .int (iI a1)] : List Value).toArray s 0 0 (xF X sz)) (F0 m 23 ls []) := by
      intro n23
      induction n23 using Nat.strongRecOn with
      | _ n23 ih_I23 =>
        intro x2_23 x3_23 x4_23 M23 H locs ls hI rx2_23 rx3_23 rx4_23 hS hl
        have hw := hstep_I23 n23 x2_23 x3_23 x4_23 M23 hI
        have hm_M23 := hS.2.2.2
        refine lv_iload hx hb dd_M_kinds_23 (lv_at hl 4 rfl) ?_
        refine lv_aload_n hx hb dd_M_kinds_25 rfl (lv_at hl 0 rfl) ?_
        refine x_get hC hS hM0.1 rfl iw_M 22 (by decide) tb_537 rfl rfl dd_M_kinds_26 ?_
        refine x_icmp_ge hC rx4_23 (hm_M23 30 22) (tgt := 79) dd_M_kinds_29 (by decide) (fun c3 => ?_) (fun c3 => ?_)
        · have hw := hw.1 c3
          refine lv_iload_n hx hb dd_M_kinds_79 rfl (lv_at hl 1 rfl) ?_
          refine x_iconst hC dd_M_kinds_80 ?_
          refine x_icmp_ne hC ra1 (rk rfl) (tgt := 88) dd_M_kinds_81 (by decide) (fun c4 => ?_) (fun c4 => ?_)
          · have hw := hw.1 c4
            refine lv_iload_n hx hb dd_M_kinds_88 rfl (lv_at hl 2 rfl) ?_
            exact x_iret hC hS hlocks hr rx2_23 hw dd_M_kinds_89
          · have hw := hw.2 c4
            refine lv_iload_n hx hb dd_M_kinds_84 rfl (lv_at hl 3 rfl) ?_
            refine lv_goto (tgt := 89) hx hb dd_M_kinds_85 (by decide) ?_
            exact x_iret hC hS hlocks hr rx3_23 hw dd_M_kinds_89
        · have hw := hw.2 c3
          refine lv_iload_n hx hb dd_M_kinds_32 rfl (lv_at hl 2 rfl) ?_
          refine lv_aload_n hx hb dd_M_kinds_33 rfl (lv_at hl 0 rfl) ?_
          refine lv_iload hx hb dd_M_kinds_34 (lv_at hl 4 rfl) ?_
          refine lv_iload_n hx hb dd_M_kinds_36 rfl (lv_at hl 1 rfl) ?_
          refine x_callVi hC hS (As := [.int (iI x4_23), .int (iI a1)]) (rest := [.int (iI x2_23)]) hM0.1 rfl cv_M_isOf (mt_M_isOf l X hC.2.2.1 hM0 x4_23 rx4_23 a1 ra1 M23 hm_M23 _ _ hw) tb_752 rfl rfl ⟨Nat.le_of_ble_eq_true rfl, Nat.le_of_ble_eq_true rfl⟩ rfl hl.1 (Nat.le_of_ble_eq_true rfl) dd_M_kinds_37 ⟨Nat.le_refl _, Nat.le_refl _⟩ rfl (fun r37 M_5 H locs rr37 hw hS => ?_)
          have hm_M_5 := hS.2.2.2
          have hw := hw (fun (s1_48 : Int) => ∀ (H : Heap) (locs : List Loc) (ls : Array Slot), inR s1_48 → St X (xF X sz) s M_5 H locs → lv_has ls 5 [(0, .ref (xA X 30)), (1, .int (iI a1)), (3, .int (iI x3_23)), (4, .int (iI x4_23))] → W p l e ({ frames := 5, cells := 0, slots := 0, locals := 109 } : Room) s m ([.ref (xA X 30), .int (iI a1)] : List Value).toArray below meth c H locs 0 0 (MQ below (Qi X sz post) ([.ref (xA X 30), .int (iI a1)] : List Value).toArray s 0 0 (xF X sz)) (F0 m 48 ls [.int (iI s1_48), .int (iI x2_23)])) (by
              intro s1_48 hw H locs ls rs1_48 hS hl
              obtain ⟨q6, hw⟩ := hw
              refine x_add hC dd_M_kinds_48 ?_
              refine x_nm q6 (fun v2_49 rv2_49 ev2_49 => ?_)
              have hw := hw v2_49 ev2_49
              refine lv_istore_n (lv' := [(2, .int (iI v2_49)), (0, .ref (xA X 30)), (1, .int (iI a1)), (3, .int (iI x3_23)), (4, .int (iI x4_23))]) hx hb dd_M_kinds_49 rfl hl (by decide) rfl (fun ls hl => ?_)
              refine lv_aload_n hx hb dd_M_kinds_50 rfl (lv_at hl 1 rfl) ?_
              refine x_get hC hS hM0.1 rfl iw_M 21 (by decide) tb_536 rfl rfl dd_M_kinds_51 ?_
              refine lv_iload hx hb dd_M_kinds_54 (lv_at hl 4 rfl) ?_
              obtain ⟨q7, hw⟩ := hw
              refine x_iald hC hS hM0.2.2.2.2.2.2.2.2.2.2.2.2.2.2.2.2.2.1 q7 dd_M_kinds_56 ?_
              refine x_nm (hm_M_5 47 _) (fun z8 rz8 ez8 => ?_)
              have hw := hw z8 ez8
              refine lv_iload_n hx hb dd_M_kinds_57 rfl (lv_at hl 3 rfl) ?_
              have hw := hw (fun (s0_72 : Int) => ∀ (H : Heap) (locs : List Loc) (ls : Array Slot), inR s0_72 → St X (xF X sz) s M_5 H locs → lv_has ls 5 [(0, .ref (xA X 30)), (1, .int (iI a1)), (2, .int (iI v2_49)), (4, .int (iI x4_23))] → W p l e ({ frames := 5, cells := 0, slots := 0, locals := 109 } : Room) s m ([.ref (xA X 30), .int (iI a1)] : List Value).toArray below meth c H locs 0 0 (MQ below (Qi X sz post) ([.ref (xA X 30), .int (iI a1)] : List Value).toArray s 0 0 (xF X sz)) (F0 m 72 ls [.int (iI s0_72)])) (by
                  intro s0_72 hw H locs ls rs0_72 hS hl
                  refine lv_istore_n (lv' := [(3, .int (iI s0_72)), (0, .ref (xA X 30)), (1, .int (iI a1)), (2, .int (iI v2_49)), (4, .int (iI x4_23))]) hx hb dd_M_kinds_72 rfl hl (by decide) rfl (fun ls hl => ?_)
                  obtain ⟨hr_, hw⟩ := hw
                  obtain ⟨v4_73, rv4_73, ev4_73⟩ : ∃ z : Int, inR z ∧ z = x4_23 + 1 := ⟨_, hr_, rfl⟩
                  have hw := hw v4_73 ev4_73
                  refine lv_iinc (v := iI v4_73) (lv' := [(4, .int (iI v4_73)), (3, .int (iI s0_72)), (0, .ref (xA X 30)), (1, .int (iI a1)), (2, .int (iI v2_49))]) hx hb dd_M_kinds_73 hl (k := 4) rfl (by rw [ev4_73]; exact iI_add _ _) (by decide) rfl (fun ls hl => ?_)
                  refine lv_goto (tgt := 23) hx hb dd_M_kinds_76 (by decide) ?_
                  obtain ⟨k_9, h10, hI⟩ := hw
                  exact ih_I23 k_9 h10 v2_49 s0_72 v4_73 M_5 _ _ _ hI rv2_49 rs0_72 rv4_73 hS (lv_sub hl [2, 3, 4, 1, 0] rfl))
              refine x_icmp_le hC rz8 rx3_23 (tgt := 71) dd_M_kinds_58 (by decide) (fun c11 => ?_) (fun c11 => ?_)
              · have hw := hw.1 c11
                refine lv_iload_n hx hb dd_M_kinds_71 rfl (lv_at hl 3 rfl) ?_
                exact hw _ _ _ rx3_23 hS (lv_sub hl [1, 2, 0, 4] rfl)
              · have hw := hw.2 c11
                refine lv_aload_n hx hb dd_M_kinds_61 rfl (lv_at hl 1 rfl) ?_
                refine x_get hC hS hM0.1 rfl iw_M 21 (by decide) tb_536 rfl rfl dd_M_kinds_62 ?_
                refine lv_iload hx hb dd_M_kinds_65 (lv_at hl 4 rfl) ?_
                obtain ⟨q12, hw⟩ := hw
                refine x_iald hC hS hM0.2.2.2.2.2.2.2.2.2.2.2.2.2.2.2.2.2.1 q12 dd_M_kinds_67 ?_
                refine x_nm (hm_M_5 47 _) (fun z13 rz13 ez13 => ?_)
                have hw := hw z13 ez13
                refine lv_goto (tgt := 72) hx hb dd_M_kinds_68 (by decide) ?_
                exact hw _ _ _ rz13 hS (lv_sub hl [1, 2, 0, 4] rfl))
          refine x_if_eq hC rr37 (tgt := 47) dd_M_kinds_40 (by decide) (fun c14 => ?_) (fun c14 => ?_)
          · have hw := hw.1 c14
            refine x_iconst hC dd_M_kinds_47 ?_
            exact hw _ _ _ (rk rfl) hS (lv_sub hl [0, 1, 3, 4] rfl)
          · have hw := hw.2 c14
            refine x_iconst hC dd_M_kinds_43 ?_
            refine lv_goto (tgt := 48) hx hb dd_M_kinds_44 (by decide) ?_
            exact hw _ _ _ (rk rfl) hS (lv_sub hl [0, 1, 3, 4] rfl)
    exact lp_I23 n0 0 0 0 M_2 _ _ _ hI (rk rfl) (rk rfl) (rk rfl) hS (lv_sub hl [3, 4, 2, 1, 0] rfl)
  · have hw := hw.2 c1
    refine x_bipush hC dd_M_kinds_9 (by decide) ?_
    exact x_iret hC hS hlocks hr (rk rfl) hw dd_M_kinds_11
def wp_M_by (a1 : Int) (a2 : Int) (M : Mm) (post : Int → Mm → Prop) : Prop :=
  wp_M_isNumber a1 M (fun (r2 : Int) (M_1 : Mm) => (¬ r2 = 0 → wp_M_isPoint a2 M_1 (fun (r13 : Int) => (¬ r13 = 0 → wp_M_layPatterns M_1 (fun (M_4 : Mm) => (0 ≤ a1 ∧ a1 < 16384) ∧ ∀ z6 : Int, z6 = M_4 45 (a1).toNat → (0 ≤ z6 ∧ z6 < 16384) ∧ ∀ z8 : Int, z8 = M_4 46 (z6).toNat → wp_M_layColours a1 M_4 (fun (M_9 : Mm) => ∃ I45 : Nat → Int → Prop, (∃ n, I45 n 0) ∧ ∀ (n45 : Nat) (x4_45 : Int), I45 n45 x4_45 →
        (wp_M_turned x4_45 M_9 (fun (r48 : Int) => (r48 = z8 → inR (7 * x4_45) ∧ inR ((7 * x4_45) + a2) ∧ (0 ≤ ((7 * x4_45) + a2) ∧ ((7 * x4_45) + a2) < 35280) ∧ ∀ z14 : Int, z14 = M_9 39 (((7 * x4_45) + a2)).toNat → post z14 M_9) ∧
          (¬ r48 = z8 → inR (x4_45 + 1) ∧ ∀ v4_55 : Int, v4_55 = x4_45 + 1 → ∃ k_15, k_15 < n45 ∧ I45 k_15 v4_55)))))) ∧
    (r13 = 0 → post (-1) M_1))) ∧
  (r2 = 0 → post (-2) M_1))
set_option maxHeartbeats 4000000 in
set_option maxRecDepth 100000 in
theorem mt_M_by (l : Launch) (X : Xw) (hlc : lcl X)(hM0 : IsM X) (a1 : Int) (ra1 : inR a1) (a2 : Int) (ra2 : inR a2) (M : Mm) (hm_M : mr M) (post : Int → Mm → Prop) (sz : Nat) (hw : wp_M_by a1 a2 M post) : Met l yy_M_by (Cond.code yy_M_by bc_M_by 5 (some .int) :: tg) ({ frames := 4, cells := 0, slots := 0, locals := 87 } : Room) (Pw X [.ref (xA X 30), .int (iI a1), .int (iI a2)] M sz) (Qi X sz post) 0 0 (xF X sz) := by
  unfold wp_M_by at hw
  refine x_enter (by decide) hlc hm_M (Nat.le_of_ble_eq_true rfl) ?_
  intro p e s m below meth c ls hC hsz hr hlocks hS hl
  have hx := hC.1.1
  have hb := hC.1.2.1
  have hl : lv_has ls 5 [(0, .ref (xA X 30)), (1, .int (iI a1)), (2, .int (iI a2))] := hl
  refine lv_aload_n hx hb dd_M_by_0 rfl (lv_at hl 0 rfl) ?_
  refine lv_iload_n hx hb dd_M_by_1 rfl (lv_at hl 1 rfl) ?_
  refine x_callVi hC hS (As := [.int (iI a1)]) (rest := []) hM0.1 rfl cv_M_isNumber (mt_M_isNumber l X hC.2.2.1 hM0 a1 ra1 M hm_M _ _ hw) tb_744 rfl rfl ⟨Nat.le_of_ble_eq_true rfl, Nat.le_of_ble_eq_true rfl⟩ rfl hl.1 (Nat.le_of_ble_eq_true rfl) dd_M_by_2 ⟨Nat.le_refl _, Nat.le_refl _⟩ rfl (fun r2 M_1 H locs rr2 hw hS => ?_)
  have hm_M_1 := hS.2.2.2
  refine x_if_ne hC rr2 (tgt := 11) dd_M_by_5 (by decide) (fun c2 => ?_) (fun c2 => ?_)
  · have hw := hw.1 c2
    refine lv_aload_n hx hb dd_M_by_11 rfl (lv_at hl 0 rfl) ?_
    refine lv_iload_n hx hb dd_M_by_12 rfl (lv_at hl 2 rfl) ?_
    refine x_callVi hC hS (As := [.int (iI a2)]) (rest := []) hM0.1 rfl cv_M_isPoint (mt_M_isPoint l X hC.2.2.1 hM0 a2 ra2 M_1 hm_M_1 _ _ hw) tb_684 rfl rfl ⟨Nat.le_of_ble_eq_true rfl, Nat.le_of_ble_eq_true rfl⟩ rfl hl.1 (Nat.le_of_ble_eq_true rfl) dd_M_by_13 ⟨Nat.le_refl _, Nat.le_refl _⟩ rfl (fun r13 Mx H locs rr13 hp hS => ?_)
    obtain ⟨hq, hw⟩ := hp
    rw [hq] at hS
    refine x_if_ne hC rr13 (tgt := 21) dd_M_by_16 (by decide) (fun c3 => ?_) (fun c3 => ?_)
    · have hw := hw.1 c3
      refine lv_aload_n hx hb dd_M_by_21 rfl (lv_at hl 0 rfl) ?_
      refine x_callVv hC hS (As := []) (rest := []) hM0.1 rfl cv_M_layPatterns (mt_M_layPatterns l X hC.2.2.1 hM0  M_1 hm_M_1 _ _ hw) tb_700 rfl rfl ⟨Nat.le_of_ble_eq_true rfl, Nat.le_of_ble_eq_true rfl⟩ rfl hl.1 (Nat.le_of_ble_eq_true rfl) dd_M_by_22 ⟨Nat.le_refl _, Nat.le_refl _⟩ rfl (fun M_4 H locs hw hS => ?_)
      have hm_M_4 := hS.2.2.2
      refine lv_aload_n hx hb dd_M_by_25 rfl (lv_at hl 0 rfl) ?_
      refine x_get hC hS hM0.1 rfl iw_M 20 (by decide) tb_535 rfl rfl dd_M_by_26 ?_
      refine lv_aload_n hx hb dd_M_by_29 rfl (lv_at hl 0 rfl) ?_
      refine x_get hC hS hM0.1 rfl iw_M 19 (by decide) tb_534 rfl rfl dd_M_by_30 ?_
      refine lv_iload_n hx hb dd_M_by_33 rfl (lv_at hl 1 rfl) ?_
      obtain ⟨q5, hw⟩ := hw
      refine x_iald hC hS hM0.2.2.2.2.2.2.2.2.2.2.2.2.2.2.2.1 q5 dd_M_by_34 ?_
      refine x_nm (hm_M_4 45 _) (fun z6 rz6 ez6 => ?_)
      have hw := hw z6 ez6
      obtain ⟨q7, hw⟩ := hw
      refine x_iald hC hS hM0.2.2.2.2.2.2.2.2.2.2.2.2.2.2.2.2.1 q7 dd_M_by_35 ?_
      refine x_nm (hm_M_4 46 _) (fun z8 rz8 ez8 => ?_)
      have hw := hw z8 ez8
      refine lv_istore_n (lv' := [(3, .int (iI z8)), (0, .ref (xA X 30)), (1, .int (iI a1)), (2, .int (iI a2))]) hx hb dd_M_by_36 rfl hl (by decide) rfl (fun ls hl => ?_)
      refine lv_aload_n hx hb dd_M_by_37 rfl (lv_at hl 1 rfl) ?_
      refine lv_iload_n hx hb dd_M_by_38 rfl (lv_at hl 2 rfl) ?_
      refine x_callVv hC hS (As := [.int (iI a1)]) (rest := []) hM0.1 rfl cv_M_layColours (mt_M_layColours l X hC.2.2.1 hM0 a1 ra1 M_4 hm_M_4 _ _ hw) tb_712 rfl rfl ⟨Nat.le_of_ble_eq_true rfl, Nat.le_of_ble_eq_true rfl⟩ rfl hl.1 (Nat.le_of_ble_eq_true rfl) dd_M_by_39 ⟨Nat.le_refl _, Nat.le_refl _⟩ rfl (fun M_9 H locs hw hS => ?_)
      have hm_M_9 := hS.2.2.2
      refine x_iconst hC dd_M_by_42 ?_
      refine lv_istore (lv' := [(4, .int (iI 0)), (3, .int (iI z8)), (0, .ref (xA X 30)), (1, .int (iI a1)), (2, .int (iI a2))]) hx hb dd_M_by_43 hl (by decide) rfl (fun ls hl => ?_)
      obtain ⟨I45, ⟨n0, hI⟩, hstep_I45⟩ := hw
      have lp_I45 : ∀ (n45 : Nat) (x4_45 : Int) (H : Heap) (locs : List Loc) (ls : Array Slot), I45 n45 x4_45 → inR x4_45 → St X (xF X sz) s M_9 H locs → lv_has ls 5 [(0, .ref (xA X 30)), (2, .int (iI a2)), (3, .int (iI z8)), (4, .int (iI x4_45))] → W p l e ({ frames := 4, cells := 0, slots := 0, locals := 87 } : Room) s m ([.ref (xA X 30), .int (iI a1), .int (iI a2)] : List Value).toArray below meth c H locs 0 0 (MQ below (Qi X sz post) ([.ref (xA X 30), .int (iI a1), .int (iI a2)] : List Value).toArray s 0 0 (xF X sz)) (F0 m 45 ls []) := by
        intro n45
        induction n45 using Nat.strongRecOn with
        | _ n45 ih_I45 =>
          intro x4_45 H locs ls hI rx4_45 hS hl
          have hw := hstep_I45 n45 x4_45 hI
          refine lv_aload_n hx hb dd_M_by_45 rfl (lv_at hl 0 rfl) ?_
          refine lv_iload hx hb dd_M_by_46 (lv_at hl 3 rfl) ?_
          refine x_callVi hC hS (As := [.int (iI x4_45)]) (rest := []) hM0.1 rfl cv_M_turned (mt_M_turned l X hC.2.2.1 hM0 x4_45 rx4_45 M_9 hm_M_9 _ _ hw) tb_716 rfl rfl ⟨Nat.le_of_ble_eq_true rfl, Nat.le_of_ble_eq_true rfl⟩ rfl hl.1 (Nat.le_of_ble_eq_true rfl) dd_M_by_48 ⟨Nat.le_refl _, Nat.le_refl _⟩ rfl (fun r48 Mx H locs rr48 hp hS => ?_)
          obtain ⟨hq, hw⟩ := hp
          rw [hq] at hS
          refine lv_iload_n hx hb dd_M_by_51 rfl (lv_at hl 2 rfl) ?_
          refine x_icmp_eq hC rr48 rz8 (tgt := 61) dd_M_by_52 (by decide) (fun c10 => ?_) (fun c10 => ?_)
          · have hw := hw.1 c10
            refine lv_aload_n hx hb dd_M_by_61 rfl (lv_at hl 0 rfl) ?_
            refine x_get hC hS hM0.1 rfl iw_M 11 (by decide) tb_526 rfl rfl dd_M_by_62 ?_
            refine x_bipush hC dd_M_by_65 (by decide) ?_
            refine lv_iload hx hb dd_M_by_67 (lv_at hl 3 rfl) ?_
            obtain ⟨q11, hw⟩ := hw
            refine x_mul hC dd_M_by_69 ?_
            refine lv_iload_n hx hb dd_M_by_70 rfl (lv_at hl 1 rfl) ?_
            obtain ⟨q12, hw⟩ := hw
            refine x_add hC dd_M_by_71 ?_
            obtain ⟨q13, hw⟩ := hw
            refine x_iald hC hS hM0.2.2.2.2.2.2.2.2.2.1 q13 dd_M_by_72 ?_
            refine x_nm (hm_M_9 39 _) (fun z14 rz14 ez14 => ?_)
            have hw := hw z14 ez14
            exact x_iret hC hS hlocks hr rz14 hw dd_M_by_73
          · have hw := hw.2 c10
            obtain ⟨hr_, hw⟩ := hw
            obtain ⟨v4_55, rv4_55, ev4_55⟩ : ∃ z : Int, inR z ∧ z = x4_45 + 1 := ⟨_, hr_, rfl⟩
            have hw := hw v4_55 ev4_55
            refine lv_iinc (v := iI v4_55) (lv' := [(4, .int (iI v4_55)), (0, .ref (xA X 30)), (2, .int (iI a2)), (3, .int (iI z8))]) hx hb dd_M_by_55 hl (k := 3) rfl (by rw [ev4_55]; exact iI_add _ _) (by decide) rfl (fun ls hl => ?_)
            refine lv_goto (tgt := 45) hx hb dd_M_by_58 (by decide) ?_
            obtain ⟨k_15, h16, hI⟩ := hw
            exact ih_I45 k_15 h16 v4_55 _ _ _ hI rv4_55 hS (lv_sub hl [1, 2, 3, 0] rfl)
      exact lp_I45 n0 0 _ _ _ hI (rk rfl) hS (lv_sub hl [2, 4, 1, 0] rfl)
    · have hw := hw.2 c3
      refine x_iconst hC dd_M_by_19 ?_
      exact x_iret hC hS hlocks hr (rk rfl) hw dd_M_by_20
  · have hw := hw.2 c2
    refine x_bipush hC dd_M_by_8 (by decide) ?_
    exact x_iret hC hS hlocks hr (rk rfl) hw dd_M_by_10
def wp_M_image (a1 : Int) (M : Mm) (post : Int → Mm → Prop) : Prop :=
  wp_M_in a1 0 1 (fun (r3 : Int) => (¬ r3 = 0 → ∃ I14 : Nat → Int → Mm → Prop, (∃ n, I14 n 0 M) ∧ ∀ (n14 : Nat) (x2_14 : Int) (M14 : Mm), I14 n14 x2_14 M14 →
      ((5046 ≤ x2_14 → (0 ≤ a1 ∧ a1 < 2) ∧ ∀ M_4 : Mm, M_4 = ms M14 33 (a1).toNat 1 → post 1 M_4) ∧
        (¬ 5046 ≤ x2_14 → inR (5046 * a1) ∧ inR ((5046 * a1) + x2_14) ∧ (0 ≤ x2_14 ∧ x2_14 < 5046) ∧ ∀ z8 : Int, z8 = M14 31 (x2_14).toNat → (0 ≤ ((5046 * a1) + x2_14) ∧ ((5046 * a1) + x2_14) < 10092) ∧ ∀ M_10 : Mm, M_10 = ms M14 32 (((5046 * a1) + x2_14)).toNat z8 → inR (x2_14 + 1) ∧ ∀ v2_39 : Int, v2_39 = x2_14 + 1 → ∃ k_11, k_11 < n14 ∧ I14 k_11 v2_39 M_10))) ∧
  (r3 = 0 → post (-2) M))
set_option maxHeartbeats 4000000 in
set_option maxRecDepth 100000 in
theorem mt_M_image (l : Launch) (X : Xw) (hlc : lcl X)(hM0 : IsM X) (a1 : Int) (ra1 : inR a1) (M : Mm) (hm_M : mr M) (post : Int → Mm → Prop) (sz : Nat) (hw : wp_M_image a1 M post) : Met l yy_M_image (Cond.code yy_M_image bc_M_image 3 (some .int) :: tg) ({ frames := 1, cells := 0, slots := 0, locals := 22 } : Room) (Pw X [.ref (xA X 30), .int (iI a1)] M sz) (Qi X sz post) 0 0 (xF X sz) := by
  unfold wp_M_image at hw
  refine x_enter (by decide) hlc hm_M (Nat.le_of_ble_eq_true rfl) ?_
  intro p e s m below meth c ls hC hsz hr hlocks hS hl
  have hx := hC.1.1
  have hb := hC.1.2.1
  have hl : lv_has ls 3 [(0, .ref (xA X 30)), (1, .int (iI a1))] := hl
  refine lv_iload_n hx hb dd_M_image_0 rfl (lv_at hl 1 rfl) ?_
  refine x_iconst hC dd_M_image_1 ?_
  refine x_iconst hC dd_M_image_2 ?_
  refine x_callSi hC hS (As := [.int (iI a1), .int (iI 0), .int (iI 1)]) (rest := []) cs_M_in (mt_M_in l X hC.2.2.1  a1 ra1 0 (rk rfl) 1 (rk rfl) M hm_M _ _ hw) tb_596 rfl rfl ⟨Nat.le_of_ble_eq_true rfl, Nat.le_of_ble_eq_true rfl⟩ rfl hl.1 (Nat.le_of_ble_eq_true rfl) dd_M_image_3 ⟨Nat.le_refl _, Nat.le_refl _⟩ rfl (fun r3 Mx H locs rr3 hp hS => ?_)
  obtain ⟨hq, hw⟩ := hp
  rw [hq] at hS
  refine x_if_ne hC rr3 (tgt := 12) dd_M_image_6 (by decide) (fun c1 => ?_) (fun c1 => ?_)
  · have hw := hw.1 c1
    refine x_iconst hC dd_M_image_12 ?_
    refine lv_istore_n (lv' := [(2, .int (iI 0)), (0, .ref (xA X 30)), (1, .int (iI a1))]) hx hb dd_M_image_13 rfl hl (by decide) rfl (fun ls hl => ?_)
    obtain ⟨I14, ⟨n0, hI⟩, hstep_I14⟩ := hw
    have lp_I14 : ∀ (n14 : Nat) (x2_14 : Int) (M14 : Mm) (H : Heap) (locs : List Loc) (ls : Array Slot), I14 n14 x2_14 M14 → inR x2_14 → St X (xF X sz) s M14 H locs → lv_has ls 3 [(0, .ref (xA X 30)), (1, .int (iI a1)), (2, .int (iI x2_14))] → W p l e ({ frames := 1, cells := 0, slots := 0, locals := 22 } : Room) s m ([.ref (xA X 30), .int (iI a1)] : List Value).toArray below meth c H locs 0 0 (MQ below (Qi X sz post) ([.ref (xA X 30), .int (iI a1)] : List Value).toArray s 0 0 (xF X sz)) (F0 m 14 ls []) := by
      intro n14
      induction n14 using Nat.strongRecOn with
      | _ n14 ih_I14 =>
        intro x2_14 M14 H locs ls hI rx2_14 hS hl
        have hw := hstep_I14 n14 x2_14 M14 hI
        have hm_M14 := hS.2.2.2
        refine lv_iload_n hx hb dd_M_image_14 rfl (lv_at hl 2 rfl) ?_
        refine x_sipush hC dd_M_image_15 (by decide) ?_
        refine x_icmp_ge hC rx2_14 (rk rfl) (tgt := 45) dd_M_image_18 (by decide) (fun c2 => ?_) (fun c2 => ?_)
        · have hw := hw.1 c2
          refine lv_aload_n hx hb dd_M_image_45 rfl (lv_at hl 0 rfl) ?_
          refine x_get hC hS hM0.1 rfl iw_M 2 (by decide) tb_517 rfl rfl dd_M_image_46 ?_
          refine lv_iload_n hx hb dd_M_image_49 rfl (lv_at hl 1 rfl) ?_
          refine x_iconst hC dd_M_image_50 ?_
          obtain ⟨q3, hw⟩ := hw
          refine x_zast hC hS hM0.2.2.2.1 q3 (rk rfl) (by decide) dd_M_image_51 (fun H locs hS => ?_)
          obtain ⟨M_4, eM_4⟩ : ∃ Z : Mm, Z = ms M14 33 (a1).toNat 1 := ⟨_, rfl⟩
          rw [← eM_4] at hS
          have hw := hw M_4 eM_4
          have hm_M_4 := hS.2.2.2
          refine x_iconst hC dd_M_image_52 ?_
          exact x_iret hC hS hlocks hr (rk rfl) hw dd_M_image_53
        · have hw := hw.2 c2
          refine lv_aload_n hx hb dd_M_image_21 rfl (lv_at hl 0 rfl) ?_
          refine x_get hC hS hM0.1 rfl iw_M 1 (by decide) tb_516 rfl rfl dd_M_image_22 ?_
          refine x_sipush hC dd_M_image_25 (by decide) ?_
          refine lv_iload_n hx hb dd_M_image_28 rfl (lv_at hl 1 rfl) ?_
          obtain ⟨q5, hw⟩ := hw
          refine x_mul hC dd_M_image_29 ?_
          refine lv_iload_n hx hb dd_M_image_30 rfl (lv_at hl 2 rfl) ?_
          obtain ⟨q6, hw⟩ := hw
          refine x_add hC dd_M_image_31 ?_
          refine lv_aload_n hx hb dd_M_image_32 rfl (lv_at hl 0 rfl) ?_
          refine x_get hC hS hM0.1 rfl iw_M 0 (by decide) tb_515 rfl rfl dd_M_image_33 ?_
          refine lv_iload_n hx hb dd_M_image_36 rfl (lv_at hl 2 rfl) ?_
          obtain ⟨q7, hw⟩ := hw
          refine x_iald hC hS hM0.2.1 q7 dd_M_image_37 ?_
          refine x_nm (hm_M14 31 _) (fun z8 rz8 ez8 => ?_)
          have hw := hw z8 ez8
          obtain ⟨q9, hw⟩ := hw
          refine x_iast hC hS hM0.2.2.1 q9 rz8 dd_M_image_38 (fun H locs hS => ?_)
          obtain ⟨M_10, eM_10⟩ : ∃ Z : Mm, Z = ms M14 32 (((5046 * a1) + x2_14)).toNat z8 := ⟨_, rfl⟩
          rw [← eM_10] at hS
          have hw := hw M_10 eM_10
          have hm_M_10 := hS.2.2.2
          obtain ⟨hr_, hw⟩ := hw
          obtain ⟨v2_39, rv2_39, ev2_39⟩ : ∃ z : Int, inR z ∧ z = x2_14 + 1 := ⟨_, hr_, rfl⟩
          have hw := hw v2_39 ev2_39
          refine lv_iinc (v := iI v2_39) (lv' := [(2, .int (iI v2_39)), (0, .ref (xA X 30)), (1, .int (iI a1))]) hx hb dd_M_image_39 hl (k := 2) rfl (by rw [ev2_39]; exact iI_add _ _) (by decide) rfl (fun ls hl => ?_)
          refine lv_goto (tgt := 14) hx hb dd_M_image_42 (by decide) ?_
          obtain ⟨k_11, h12, hI⟩ := hw
          exact ih_I14 k_11 h12 v2_39 M_10 _ _ _ hI rv2_39 hS (lv_sub hl [1, 2, 0] rfl)
    exact lp_I14 n0 0 M _ _ _ hI (rk rfl) hS (lv_sub hl [1, 2, 0] rfl)
  · have hw := hw.2 c1
    refine x_bipush hC dd_M_image_9 (by decide) ?_
    exact x_iret hC hS hlocks hr (rk rfl) hw dd_M_image_11
def wp_M_restore (a1 : Int) (M : Mm) (post : Int → Mm → Prop) : Prop :=
  wp_M_in a1 0 1 (fun (r3 : Int) => (¬ r3 = 0 → (0 ≤ a1 ∧ a1 < 2) ∧ ∀ z3 : Int, z3 = M 33 (a1).toNat → (¬ z3 = 0 → ∃ I26 : Nat → Int → Mm → Prop, (∃ n, I26 n 0 M) ∧ ∀ (n26 : Nat) (x2_26 : Int) (M26 : Mm), I26 n26 x2_26 M26 →
        ((5046 ≤ x2_26 → wp_M_layTurns M26 (fun (M_6 : Mm) => post 1 M_6)) ∧
          (¬ 5046 ≤ x2_26 → inR (5046 * a1) ∧ inR ((5046 * a1) + x2_26) ∧ (0 ≤ ((5046 * a1) + x2_26) ∧ ((5046 * a1) + x2_26) < 10092) ∧ ∀ z10 : Int, z10 = M26 32 (((5046 * a1) + x2_26)).toNat → (0 ≤ x2_26 ∧ x2_26 < 5046) ∧ ∀ M_12 : Mm, M_12 = ms M26 31 (x2_26).toNat z10 → inR (x2_26 + 1) ∧ ∀ v2_51 : Int, v2_51 = x2_26 + 1 → ∃ k_13, k_13 < n26 ∧ I26 k_13 v2_51 M_12))) ∧
    (z3 = 0 → post (-3) M)) ∧
  (r3 = 0 → post (-2) M))
set_option maxHeartbeats 4000000 in
set_option maxRecDepth 100000 in
theorem mt_M_restore (l : Launch) (X : Xw) (hlc : lcl X)(hM0 : IsM X) (a1 : Int) (ra1 : inR a1) (M : Mm) (hm_M : mr M) (post : Int → Mm → Prop) (sz : Nat) (hw : wp_M_restore a1 M post) : Met l yy_M_restore (Cond.code yy_M_restore bc_M_restore 3 (some .int) :: tg) ({ frames := 3, cells := 0, slots := 0, locals := 67 } : Room) (Pw X [.ref (xA X 30), .int (iI a1)] M sz) (Qi X sz post) 0 0 (xF X sz) := by
  unfold wp_M_restore at hw
  refine x_enter (by decide) hlc hm_M (Nat.le_of_ble_eq_true rfl) ?_
  intro p e s m below meth c ls hC hsz hr hlocks hS hl
  have hx := hC.1.1
  have hb := hC.1.2.1
  have hl : lv_has ls 3 [(0, .ref (xA X 30)), (1, .int (iI a1))] := hl
  refine lv_iload_n hx hb dd_M_restore_0 rfl (lv_at hl 1 rfl) ?_
  refine x_iconst hC dd_M_restore_1 ?_
  refine x_iconst hC dd_M_restore_2 ?_
  refine x_callSi hC hS (As := [.int (iI a1), .int (iI 0), .int (iI 1)]) (rest := []) cs_M_in (mt_M_in l X hC.2.2.1  a1 ra1 0 (rk rfl) 1 (rk rfl) M hm_M _ _ hw) tb_596 rfl rfl ⟨Nat.le_of_ble_eq_true rfl, Nat.le_of_ble_eq_true rfl⟩ rfl hl.1 (Nat.le_of_ble_eq_true rfl) dd_M_restore_3 ⟨Nat.le_refl _, Nat.le_refl _⟩ rfl (fun r3 Mx H locs rr3 hp hS => ?_)
  obtain ⟨hq, hw⟩ := hp
  rw [hq] at hS
  refine x_if_ne hC rr3 (tgt := 12) dd_M_restore_6 (by decide) (fun c1 => ?_) (fun c1 => ?_)
  · have hw := hw.1 c1
    refine lv_aload_n hx hb dd_M_restore_12 rfl (lv_at hl 0 rfl) ?_
    refine x_get hC hS hM0.1 rfl iw_M 2 (by decide) tb_517 rfl rfl dd_M_restore_13 ?_
    refine lv_iload_n hx hb dd_M_restore_16 rfl (lv_at hl 1 rfl) ?_
    obtain ⟨q2, hw⟩ := hw
    refine x_zald hC hS hM0.2.2.2.1 q2 dd_M_restore_17 ?_
    refine x_nm (hm_M 33 _) (fun z3 rz3 ez3 => ?_)
    have hw := hw z3 ez3
    refine x_if_ne hC rz3 (tgt := 24) dd_M_restore_18 (by decide) (fun c4 => ?_) (fun c4 => ?_)
    · have hw := hw.1 c4
      refine x_iconst hC dd_M_restore_24 ?_
      refine lv_istore_n (lv' := [(2, .int (iI 0)), (0, .ref (xA X 30)), (1, .int (iI a1))]) hx hb dd_M_restore_25 rfl hl (by decide) rfl (fun ls hl => ?_)
      obtain ⟨I26, ⟨n0, hI⟩, hstep_I26⟩ := hw
      have lp_I26 : ∀ (n26 : Nat) (x2_26 : Int) (M26 : Mm) (H : Heap) (locs : List Loc) (ls : Array Slot), I26 n26 x2_26 M26 → inR x2_26 → St X (xF X sz) s M26 H locs → lv_has ls 3 [(0, .ref (xA X 30)), (1, .int (iI a1)), (2, .int (iI x2_26))] → W p l e ({ frames := 3, cells := 0, slots := 0, locals := 67 } : Room) s m ([.ref (xA X 30), .int (iI a1)] : List Value).toArray below meth c H locs 0 0 (MQ below (Qi X sz post) ([.ref (xA X 30), .int (iI a1)] : List Value).toArray s 0 0 (xF X sz)) (F0 m 26 ls []) := by
        intro n26
        induction n26 using Nat.strongRecOn with
        | _ n26 ih_I26 =>
          intro x2_26 M26 H locs ls hI rx2_26 hS hl
          have hw := hstep_I26 n26 x2_26 M26 hI
          have hm_M26 := hS.2.2.2
          refine lv_iload_n hx hb dd_M_restore_26 rfl (lv_at hl 2 rfl) ?_
          refine x_sipush hC dd_M_restore_27 (by decide) ?_
          refine x_icmp_ge hC rx2_26 (rk rfl) (tgt := 57) dd_M_restore_30 (by decide) (fun c5 => ?_) (fun c5 => ?_)
          · have hw := hw.1 c5
            refine lv_aload_n hx hb dd_M_restore_57 rfl (lv_at hl 0 rfl) ?_
            refine x_callVv hC hS (As := []) (rest := []) hM0.1 rfl cv_M_layTurns (mt_M_layTurns l X hC.2.2.1 hM0  M26 hm_M26 _ _ hw) tb_511 rfl rfl ⟨Nat.le_of_ble_eq_true rfl, Nat.le_of_ble_eq_true rfl⟩ rfl hl.1 (Nat.le_of_ble_eq_true rfl) dd_M_restore_58 ⟨Nat.le_refl _, Nat.le_refl _⟩ rfl (fun M_6 H locs hw hS => ?_)
            have hm_M_6 := hS.2.2.2
            refine x_iconst hC dd_M_restore_61 ?_
            exact x_iret hC hS hlocks hr (rk rfl) hw dd_M_restore_62
          · have hw := hw.2 c5
            refine lv_aload_n hx hb dd_M_restore_33 rfl (lv_at hl 0 rfl) ?_
            refine x_get hC hS hM0.1 rfl iw_M 0 (by decide) tb_515 rfl rfl dd_M_restore_34 ?_
            refine lv_iload_n hx hb dd_M_restore_37 rfl (lv_at hl 2 rfl) ?_
            refine lv_aload_n hx hb dd_M_restore_38 rfl (lv_at hl 0 rfl) ?_
            refine x_get hC hS hM0.1 rfl iw_M 1 (by decide) tb_516 rfl rfl dd_M_restore_39 ?_
            refine x_sipush hC dd_M_restore_42 (by decide) ?_
            refine lv_iload_n hx hb dd_M_restore_45 rfl (lv_at hl 1 rfl) ?_
            obtain ⟨q7, hw⟩ := hw
            refine x_mul hC dd_M_restore_46 ?_
            refine lv_iload_n hx hb dd_M_restore_47 rfl (lv_at hl 2 rfl) ?_
            obtain ⟨q8, hw⟩ := hw
            refine x_add hC dd_M_restore_48 ?_
            obtain ⟨q9, hw⟩ := hw
            refine x_iald hC hS hM0.2.2.1 q9 dd_M_restore_49 ?_
            refine x_nm (hm_M26 32 _) (fun z10 rz10 ez10 => ?_)
            have hw := hw z10 ez10
            obtain ⟨q11, hw⟩ := hw
            refine x_iast hC hS hM0.2.1 q11 rz10 dd_M_restore_50 (fun H locs hS => ?_)
            obtain ⟨M_12, eM_12⟩ : ∃ Z : Mm, Z = ms M26 31 (x2_26).toNat z10 := ⟨_, rfl⟩
            rw [← eM_12] at hS
            have hw := hw M_12 eM_12
            have hm_M_12 := hS.2.2.2
            obtain ⟨hr_, hw⟩ := hw
            obtain ⟨v2_51, rv2_51, ev2_51⟩ : ∃ z : Int, inR z ∧ z = x2_26 + 1 := ⟨_, hr_, rfl⟩
            have hw := hw v2_51 ev2_51
            refine lv_iinc (v := iI v2_51) (lv' := [(2, .int (iI v2_51)), (0, .ref (xA X 30)), (1, .int (iI a1))]) hx hb dd_M_restore_51 hl (k := 2) rfl (by rw [ev2_51]; exact iI_add _ _) (by decide) rfl (fun ls hl => ?_)
            refine lv_goto (tgt := 26) hx hb dd_M_restore_54 (by decide) ?_
            obtain ⟨k_13, h14, hI⟩ := hw
            exact ih_I26 k_13 h14 v2_51 M_12 _ _ _ hI rv2_51 hS (lv_sub hl [1, 2, 0] rfl)
      exact lp_I26 n0 0 M _ _ _ hI (rk rfl) hS (lv_sub hl [1, 2, 0] rfl)
    · have hw := hw.2 c4
      refine x_bipush hC dd_M_restore_21 (by decide) ?_
      exact x_iret hC hS hlocks hr (rk rfl) hw dd_M_restore_23
  · have hw := hw.2 c1
    refine x_bipush hC dd_M_restore_9 (by decide) ?_
    exact x_iret hC hS hlocks hr (rk rfl) hw dd_M_restore_11
def wp_M_count (a1 : Int) (M : Mm) (post : Int → Prop) : Prop :=
  wp_M_in a1 10 13 (fun (r5 : Int) => (r5 = 0 → (a1 = 0 → wp_M_many M (fun (r61 : Int) => post r61)) ∧
    (a1 = 1 → post (M 30 12)) ∧
    (a1 = 2 → (0 ≤ (1 : Int) ∧ (1 : Int) < 5046) ∧ ∀ z3 : Int, z3 = M 31 ((1 : Int)).toNat → post z3) ∧
    (a1 = 3 → post (M 30 4)) ∧
    (a1 = 4 → (0 ≤ (0 : Int) ∧ (0 : Int) < 2) ∧ ∀ z5 : Int, z5 = M 33 ((0 : Int)).toNat → ∀ K96 : Int → Prop, (∀ (s0_96 : Int), ((0 ≤ (1 : Int) ∧ (1 : Int) < 2) ∧ ∀ z7 : Int, z7 = M 33 ((1 : Int)).toNat → (z7 = 0 → inR (s0_96 + 0) ∧ post (s0_96 + 0)) ∧
          (¬ z7 = 0 → inR (s0_96 + 2) ∧ post (s0_96 + 2))) →
        K96 s0_96) →
      ((z5 = 0 → K96 0) ∧
      (¬ z5 = 0 → K96 1))) ∧
    ((a1 < 0 ∨ 4 < a1) → post (-2))) ∧
  (¬ r5 = 0 → inR (2 + a1) ∧ inR ((2 + a1) - 10) ∧ (0 ≤ ((2 + a1) - 10) ∧ ((2 + a1) - 10) < 5046) ∧ ∀ z15 : Int, z15 = M 31 (((2 + a1) - 10)).toNat → post z15))
set_option maxHeartbeats 4000000 in
set_option maxRecDepth 100000 in
theorem mt_M_count (l : Launch) (X : Xw) (hlc : lcl X)(hM0 : IsM X) (a1 : Int) (ra1 : inR a1) (M : Mm) (hm_M : mr M) (post : Int → Prop) (sz : Nat) (hw : wp_M_count a1 M post) : Met l yy_M_count (Cond.code yy_M_count bc_M_count 2 (some .int) :: tg) ({ frames := 1, cells := 0, slots := 0, locals := 22 } : Room) (Pw X [.ref (xA X 30), .int (iI a1)] M sz) (Qi X sz (fun r M1 => M1 = M ∧ post r)) 0 0 (xF X sz) := by
  unfold wp_M_count at hw
  refine x_enter (by decide) hlc hm_M (Nat.le_of_ble_eq_true rfl) ?_
  intro p e s m below meth c ls hC hsz hr hlocks hS hl
  have hx := hC.1.1
  have hb := hC.1.2.1
  have hl : lv_has ls 2 [(0, .ref (xA X 30)), (1, .int (iI a1))] := hl
  refine lv_iload_n hx hb dd_M_count_0 rfl (lv_at hl 1 rfl) ?_
  refine x_bipush hC dd_M_count_1 (by decide) ?_
  refine x_bipush hC dd_M_count_3 (by decide) ?_
  refine x_callSi hC hS (As := [.int (iI a1), .int (iI 10), .int (iI 13)]) (rest := []) cs_M_in (mt_M_in l X hC.2.2.1  a1 ra1 10 (rk rfl) 13 (rk rfl) M hm_M _ _ hw) tb_596 rfl rfl ⟨Nat.le_of_ble_eq_true rfl, Nat.le_of_ble_eq_true rfl⟩ rfl hl.1 (Nat.le_of_ble_eq_true rfl) dd_M_count_5 ⟨Nat.le_refl _, Nat.le_refl _⟩ rfl (fun r5 Mx H locs rr5 hp hS => ?_)
  obtain ⟨hq, hw⟩ := hp
  rw [hq] at hS
  refine x_if_eq hC rr5 (tgt := 23) dd_M_count_8 (by decide) (fun c1 => ?_) (fun c1 => ?_)
  · have hw := hw.1 c1
    refine lv_iload_n hx hb dd_M_count_23 rfl (lv_at hl 1 rfl) ?_
    rcases (show a1 = 0 ∨ a1 = 1 ∨ a1 = 2 ∨ a1 = 3 ∨ a1 = 4 ∨ (a1 < 0 ∨ 4 < a1) by omega) with hc_ | hc_ | hc_ | hc_ | hc_ | hc_
    · have hw := hw.1 hc_
      refine x_tin hC 0 ra1 hc_ dd_M_count_24 (by decide) (by decide) rfl (by decide) (tgt := 60) ?_
      refine lv_aload_n hx hb dd_M_count_60 rfl (lv_at hl 0 rfl) ?_
      refine x_callVi hC hS (As := []) (rest := []) hM0.1 rfl cv_M_many (mt_M_many l X hC.2.2.1 hM0  M hm_M _ _ hw) tb_495 rfl rfl ⟨Nat.le_of_ble_eq_true rfl, Nat.le_of_ble_eq_true rfl⟩ rfl hl.1 (Nat.le_of_ble_eq_true rfl) dd_M_count_61 ⟨Nat.le_refl _, Nat.le_refl _⟩ rfl (fun r61 Mx H locs rr61 hp hS => ?_)
      obtain ⟨hq, hw⟩ := hp
      rw [hq] at hS
      exact x_iret hC hS hlocks hr rr61 ⟨rfl, hw⟩ dd_M_count_64
    · have hw := hw.2.1 hc_
      refine x_tin hC 1 ra1 hc_ dd_M_count_24 (by decide) (by decide) rfl (by decide) (tgt := 65) ?_
      refine lv_aload_n hx hb dd_M_count_65 rfl (lv_at hl 0 rfl) ?_
      refine x_get hC hS hM0.1 rfl iw_M 12 (by decide) tb_527 rfl rfl dd_M_count_66 ?_
      exact x_iret hC hS hlocks hr (hm_M 30 12) ⟨rfl, hw⟩ dd_M_count_69
    · have hw := hw.2.2.1 hc_
      refine x_tin hC 2 ra1 hc_ dd_M_count_24 (by decide) (by decide) rfl (by decide) (tgt := 70) ?_
      refine lv_aload_n hx hb dd_M_count_70 rfl (lv_at hl 0 rfl) ?_
      refine x_get hC hS hM0.1 rfl iw_M 0 (by decide) tb_515 rfl rfl dd_M_count_71 ?_
      refine x_iconst hC dd_M_count_74 ?_
      obtain ⟨q2, hw⟩ := hw
      refine x_iald hC hS hM0.2.1 q2 dd_M_count_75 ?_
      refine x_nm (hm_M 31 _) (fun z3 rz3 ez3 => ?_)
      have hw := hw z3 ez3
      exact x_iret hC hS hlocks hr rz3 ⟨rfl, hw⟩ dd_M_count_76
    · have hw := hw.2.2.2.1 hc_
      refine x_tin hC 3 ra1 hc_ dd_M_count_24 (by decide) (by decide) rfl (by decide) (tgt := 77) ?_
      refine lv_aload_n hx hb dd_M_count_77 rfl (lv_at hl 0 rfl) ?_
      refine x_get hC hS hM0.1 rfl iw_M 4 (by decide) tb_519 rfl rfl dd_M_count_78 ?_
      exact x_iret hC hS hlocks hr (hm_M 30 4) ⟨rfl, hw⟩ dd_M_count_81
    · have hw := hw.2.2.2.2.1 hc_
      refine x_tin hC 4 ra1 hc_ dd_M_count_24 (by decide) (by decide) rfl (by decide) (tgt := 82) ?_
      refine lv_aload_n hx hb dd_M_count_82 rfl (lv_at hl 0 rfl) ?_
      refine x_get hC hS hM0.1 rfl iw_M 2 (by decide) tb_517 rfl rfl dd_M_count_83 ?_
      refine x_iconst hC dd_M_count_86 ?_
      obtain ⟨q4, hw⟩ := hw
      refine x_zald hC hS hM0.2.2.2.1 q4 dd_M_count_87 ?_
      refine x_nm (hm_M 33 _) (fun z5 rz5 ez5 => ?_)
      have hw := hw z5 ez5
      have hw := hw (fun (s0_96 : Int) => ∀ (H : Heap) (locs : List Loc) (ls : Array Slot), inR s0_96 → St X (xF X sz) s M H locs → lv_has ls 2 [(0, .ref (xA X 30))] → W p l e ({ frames := 1, cells := 0, slots := 0, locals := 22 } : Room) s m ([.ref (xA X 30), .int (iI a1)] : List Value).toArray below meth c H locs 0 0 (MQ below (Qi X sz (fun r M1 => M1 = M ∧ post r)) ([.ref (xA X 30), .int (iI a1)] : List Value).toArray s 0 0 (xF X sz)) (F0 m 96 ls [.int (iI s0_96)])) (by
          intro s0_96 hw H locs ls rs0_96 hS hl
          refine lv_aload_n hx hb dd_M_count_96 rfl (lv_at hl 0 rfl) ?_
          refine x_get hC hS hM0.1 rfl iw_M 2 (by decide) tb_517 rfl rfl dd_M_count_97 ?_
          refine x_iconst hC dd_M_count_100 ?_
          obtain ⟨q6, hw⟩ := hw
          refine x_zald hC hS hM0.2.2.2.1 q6 dd_M_count_101 ?_
          refine x_nm (hm_M 33 _) (fun z7 rz7 ez7 => ?_)
          have hw := hw z7 ez7
          refine x_if_eq hC rz7 (tgt := 109) dd_M_count_102 (by decide) (fun c8 => ?_) (fun c8 => ?_)
          · have hw := hw.1 c8
            refine x_iconst hC dd_M_count_109 ?_
            obtain ⟨q9, hw⟩ := hw
            refine x_add hC dd_M_count_110 ?_
            exact x_iret hC hS hlocks hr q9 ⟨rfl, hw⟩ dd_M_count_111
          · have hw := hw.2 c8
            refine x_iconst hC dd_M_count_105 ?_
            refine lv_goto (tgt := 110) hx hb dd_M_count_106 (by decide) ?_
            obtain ⟨q10, hw⟩ := hw
            refine x_add hC dd_M_count_110 ?_
            exact x_iret hC hS hlocks hr q10 ⟨rfl, hw⟩ dd_M_count_111)
      refine x_if_eq hC rz5 (tgt := 95) dd_M_count_88 (by decide) (fun c11 => ?_) (fun c11 => ?_)
      · have hw := hw.1 c11
        refine x_iconst hC dd_M_count_95 ?_
        exact hw _ _ _ (rk rfl) hS (lv_sub hl [0] rfl)
      · have hw := hw.2 c11
        refine x_iconst hC dd_M_count_91 ?_
        refine lv_goto (tgt := 96) hx hb dd_M_count_92 (by decide) ?_
        exact hw _ _ _ (rk rfl) hS (lv_sub hl [0] rfl)
    · have hw := hw.2.2.2.2.2 hc_
      refine x_tout hC ra1 dd_M_count_24 hc_ (by decide) (tgt := 112) ?_
      refine x_bipush hC dd_M_count_112 (by decide) ?_
      exact x_iret hC hS hlocks hr (rk rfl) ⟨rfl, hw⟩ dd_M_count_114
  · have hw := hw.2 c1
    refine lv_aload_n hx hb dd_M_count_11 rfl (lv_at hl 0 rfl) ?_
    refine x_get hC hS hM0.1 rfl iw_M 0 (by decide) tb_515 rfl rfl dd_M_count_12 ?_
    refine x_iconst hC dd_M_count_15 ?_
    refine lv_iload_n hx hb dd_M_count_16 rfl (lv_at hl 1 rfl) ?_
    obtain ⟨q12, hw⟩ := hw
    refine x_add hC dd_M_count_17 ?_
    refine x_bipush hC dd_M_count_18 (by decide) ?_
    obtain ⟨q13, hw⟩ := hw
    refine x_sub hC dd_M_count_20 ?_
    obtain ⟨q14, hw⟩ := hw
    refine x_iald hC hS hM0.2.1 q14 dd_M_count_21 ?_
    refine x_nm (hm_M 31 _) (fun z15 rz15 ez15 => ?_)
    have hw := hw z15 ez15
    exact x_iret hC hS hlocks hr rz15 ⟨rfl, hw⟩ dd_M_count_22
