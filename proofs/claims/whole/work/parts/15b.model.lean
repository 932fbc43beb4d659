def wp_M_beside (a1 : Int) (a2 : Int) (a3 : Int) (M : Mm) (post : Int → Mm → Prop) : Prop :=
  wp_M_many M (fun (r3 : Int) => wp_M_in a1 0 r3 (fun (r6 : Int) => (r6 = 0 → post (-2) M) ∧
  (¬ r6 = 0 → wp_M_isKind a2 (fun (r13 : Int) => (r13 = 0 → post (-2) M) ∧
    (¬ r13 = 0 → wp_M_isKind a3 (fun (r20 : Int) => (¬ r20 = 0 → wp_M_beginGroup M (fun (M_4 : Mm) => wp_M_addKind a2 0 1 a1 M_4 (fun (M_5 : Mm) => wp_M_many M_5 (fun (r46 : Int) => inR (r46 - a1) ∧ wp_M_addKind a3 a1 1 (r46 - a1) M_5 (fun (M_7 : Mm) => wp_M_closeGroup M_7 (fun (M_8 : Mm) => post (M_8 30 12) M_8)))))) ∧
      (r20 = 0 → post (-2) M)))))))
set_option maxHeartbeats 4000000 in
set_option maxRecDepth 100000 in
theorem mt_M_beside (l : Launch) (X : Xw) (hlc : lcl X)(hM0 : IsM X) (a1 : Int) (ra1 : inR a1) (a2 : Int) (ra2 : inR a2) (a3 : Int) (ra3 : inR a3) (M : Mm) (hm_M : mr M) (post : Int → Mm → Prop) (sz : Nat) (hw : wp_M_beside a1 a2 a3 M post) : Met l yy_M_beside (Cond.code yy_M_beside bc_M_beside 4 (some .int) :: tg) ({ frames := 4, cells := 0, slots := 0, locals := 92 } : Room) (Pw X [.ref (xA X 30), .int (iI a1), .int (iI a2), .int (iI a3)] M sz) (Qi X sz post) 0 0 (xF X sz) := by
  unfold wp_M_beside at hw
  refine x_enter (by decide) hlc hm_M (Nat.le_of_ble_eq_true rfl) ?_
  intro p e s m below meth c ls hC hsz hr hlocks hS hl
  have hx := hC.1.1
  have hb := hC.1.2.1
  have hl : lv_has ls 4 [(0, .ref (xA X 30)), (1, .int (iI a1)), (2, .int (iI a2)), (3, .int (iI a3))] := hl
  refine lv_iload_n hx hb dd_M_beside_0 rfl (lv_at hl 1 rfl) ?_
  refine x_iconst hC dd_M_beside_1 ?_
  refine lv_aload_n hx hb dd_M_beside_2 rfl (lv_at hl 0 rfl) ?_
  refine x_callVi hC hS (As := []) (rest := [.int (iI 0), .int (iI a1)]) hM0.1 rfl cv_M_many (mt_M_many l X hC.2.2.1 hM0  M hm_M _ _ hw) tb_495 rfl rfl ⟨Nat.le_of_ble_eq_true rfl, Nat.le_of_ble_eq_true rfl⟩ rfl hl.1 (Nat.le_of_ble_eq_true rfl) dd_M_beside_3 ⟨Nat.le_refl _, Nat.le_refl _⟩ rfl (fun r3 Mx H locs rr3 hp hS => ?_)
  obtain ⟨hq, hw⟩ := hp
  rw [hq] at hS
  refine x_callSi hC hS (As := [.int (iI a1), .int (iI 0), .int (iI r3)]) (rest := []) cs_M_in (mt_M_in l X hC.2.2.1  a1 ra1 0 (rk rfl) r3 rr3 M hm_M _ _ hw) tb_596 rfl rfl ⟨Nat.le_of_ble_eq_true rfl, Nat.le_of_ble_eq_true rfl⟩ rfl hl.1 (Nat.le_of_ble_eq_true rfl) dd_M_beside_6 ⟨Nat.le_refl _, Nat.le_refl _⟩ rfl (fun r6 Mx H locs rr6 hp hS => ?_)
  obtain ⟨hq, hw⟩ := hp
  rw [hq] at hS
  refine x_if_eq hC rr6 (tgt := 26) dd_M_beside_9 (by decide) (fun c1 => ?_) (fun c1 => ?_)
  · have hw := hw.1 c1
    refine x_bipush hC dd_M_beside_26 (by decide) ?_
    exact x_iret hC hS hlocks hr (rk rfl) hw dd_M_beside_28
  · have hw := hw.2 c1
    refine lv_iload_n hx hb dd_M_beside_12 rfl (lv_at hl 2 rfl) ?_
    refine x_callSi hC hS (As := [.int (iI a2)]) (rest := []) cs_M_isKind (mt_M_isKind l X hC.2.2.1  a2 ra2 M hm_M _ _ hw) tb_603 rfl rfl ⟨Nat.le_of_ble_eq_true rfl, Nat.le_of_ble_eq_true rfl⟩ rfl hl.1 (Nat.le_of_ble_eq_true rfl) dd_M_beside_13 ⟨Nat.le_refl _, Nat.le_refl _⟩ rfl (fun r13 Mx H locs rr13 hp hS => ?_)
    obtain ⟨hq, hw⟩ := hp
    rw [hq] at hS
    refine x_if_eq hC rr13 (tgt := 26) dd_M_beside_16 (by decide) (fun c2 => ?_) (fun c2 => ?_)
    · have hw := hw.1 c2
      refine x_bipush hC dd_M_beside_26 (by decide) ?_
      exact x_iret hC hS hlocks hr (rk rfl) hw dd_M_beside_28
    · have hw := hw.2 c2
      refine lv_iload_n hx hb dd_M_beside_19 rfl (lv_at hl 3 rfl) ?_
      refine x_callSi hC hS (As := [.int (iI a3)]) (rest := []) cs_M_isKind (mt_M_isKind l X hC.2.2.1  a3 ra3 M hm_M _ _ hw) tb_603 rfl rfl ⟨Nat.le_of_ble_eq_true rfl, Nat.le_of_ble_eq_true rfl⟩ rfl hl.1 (Nat.le_of_ble_eq_true rfl) dd_M_beside_20 ⟨Nat.le_refl _, Nat.le_refl _⟩ rfl (fun r20 Mx H locs rr20 hp hS => ?_)
      obtain ⟨hq, hw⟩ := hp
      rw [hq] at hS
      refine x_if_ne hC rr20 (tgt := 29) dd_M_beside_23 (by decide) (fun c3 => ?_) (fun c3 => ?_)
      · have hw := hw.1 c3
        refine lv_aload_n hx hb dd_M_beside_29 rfl (lv_at hl 0 rfl) ?_
        refine x_callVv hC hS (As := []) (rest := []) hM0.1 rfl cv_M_beginGroup (mt_M_beginGroup l X hC.2.2.1 hM0  M hm_M _ _ hw) tb_483 rfl rfl ⟨Nat.le_of_ble_eq_true rfl, Nat.le_of_ble_eq_true rfl⟩ rfl hl.1 (Nat.le_of_ble_eq_true rfl) dd_M_beside_30 ⟨Nat.le_refl _, Nat.le_refl _⟩ rfl (fun M_4 H locs hw hS => ?_)
        have hm_M_4 := hS.2.2.2
        refine lv_aload_n hx hb dd_M_beside_33 rfl (lv_at hl 0 rfl) ?_
        refine lv_iload_n hx hb dd_M_beside_34 rfl (lv_at hl 2 rfl) ?_
        refine x_iconst hC dd_M_beside_35 ?_
        refine x_iconst hC dd_M_beside_36 ?_
        refine lv_iload_n hx hb dd_M_beside_37 rfl (lv_at hl 1 rfl) ?_
        refine x_callVv hC hS (As := [.int (iI a2), .int (iI 0), .int (iI 1), .int (iI a1)]) (rest := []) hM0.1 rfl cv_M_addKind (mt_M_addKind l X hC.2.2.1 hM0 a2 ra2 0 (rk rfl) 1 (rk rfl) a1 ra1 M_4 hm_M_4 _ _ hw) tb_606 rfl rfl ⟨Nat.le_of_ble_eq_true rfl, Nat.le_of_ble_eq_true rfl⟩ rfl hl.1 (Nat.le_of_ble_eq_true rfl) dd_M_beside_38 ⟨Nat.le_refl _, Nat.le_refl _⟩ rfl (fun M_5 H locs hw hS => ?_)
        have hm_M_5 := hS.2.2.2
        refine lv_aload_n hx hb dd_M_beside_41 rfl (lv_at hl 0 rfl) ?_
        refine lv_iload_n hx hb dd_M_beside_42 rfl (lv_at hl 3 rfl) ?_
        refine lv_iload_n hx hb dd_M_beside_43 rfl (lv_at hl 1 rfl) ?_
        refine x_iconst hC dd_M_beside_44 ?_
        refine lv_aload_n hx hb dd_M_beside_45 rfl (lv_at hl 0 rfl) ?_
        refine x_callVi hC hS (As := []) (rest := [.int (iI 1), .int (iI a1), .int (iI a3), .ref (xA X 30)]) hM0.1 rfl cv_M_many (mt_M_many l X hC.2.2.1 hM0  M_5 hm_M_5 _ _ hw) tb_495 rfl rfl ⟨Nat.le_of_ble_eq_true rfl, Nat.le_of_ble_eq_true rfl⟩ rfl hl.1 (Nat.le_of_ble_eq_true rfl) dd_M_beside_46 ⟨Nat.le_refl _, Nat.le_refl _⟩ rfl (fun r46 Mx H locs rr46 hp hS => ?_)
        obtain ⟨hq, hw⟩ := hp
        rw [hq] at hS
        refine lv_iload_n hx hb dd_M_beside_49 rfl (lv_at hl 1 rfl) ?_
        obtain ⟨q6, hw⟩ := hw
        refine x_sub hC dd_M_beside_50 ?_
        refine x_callVv hC hS (As := [.int (iI a3), .int (iI a1), .int (iI 1), .int (iI (r46 - a1))]) (rest := []) hM0.1 rfl cv_M_addKind (mt_M_addKind l X hC.2.2.1 hM0 a3 ra3 a1 ra1 1 (rk rfl) (r46 - a1) q6 M_5 hm_M_5 _ _ hw) tb_606 rfl rfl ⟨Nat.le_of_ble_eq_true rfl, Nat.le_of_ble_eq_true rfl⟩ rfl hl.1 (Nat.le_of_ble_eq_true rfl) dd_M_beside_51 ⟨Nat.le_refl _, Nat.le_refl _⟩ rfl (fun M_7 H locs hw hS => ?_)
        have hm_M_7 := hS.2.2.2
        refine lv_aload_n hx hb dd_M_beside_54 rfl (lv_at hl 0 rfl) ?_
        refine x_callVv hC hS (As := []) (rest := []) hM0.1 rfl cv_M_closeGroup (mt_M_closeGroup l X hC.2.2.1 hM0  M_7 hm_M_7 _ _ hw) tb_487 rfl rfl ⟨Nat.le_of_ble_eq_true rfl, Nat.le_of_ble_eq_true rfl⟩ rfl hl.1 (Nat.le_of_ble_eq_true rfl) dd_M_beside_55 ⟨Nat.le_refl _, Nat.le_refl _⟩ rfl (fun M_8 H locs hw hS => ?_)
        have hm_M_8 := hS.2.2.2
        refine lv_aload_n hx hb dd_M_beside_58 rfl (lv_at hl 0 rfl) ?_
        refine x_get hC hS hM0.1 rfl iw_M 12 (by decide) tb_527 rfl rfl dd_M_beside_59 ?_
        exact x_iret hC hS hlocks hr (hm_M_8 30 12) hw dd_M_beside_62
      · have hw := hw.2 c3
        refine x_bipush hC dd_M_beside_26 (by decide) ?_
        exact x_iret hC hS hlocks hr (rk rfl) hw dd_M_beside_28
def wp_M_blocks (a1 : Int) (a2 : Int) (a3 : Int) (M : Mm) (post : Int → Mm → Prop) : Prop :=
  wp_M_many M (fun (r3 : Int) => wp_M_in a1 1 r3 (fun (r6 : Int) => (r6 = 0 → post (-2) M) ∧
  (¬ r6 = 0 → wp_M_many M (fun (r13 : Int) => (0 ≤ r13 ∧ 0 < a1) ∧ (¬ (r13 % a1) = 0 → post (-2) M) ∧
    ((r13 % a1) = 0 → wp_M_isKind a2 (fun (r22 : Int) => (r22 = 0 → post (-2) M) ∧
      (¬ r22 = 0 → wp_M_isKind a3 (fun (r29 : Int) => (¬ r29 = 0 → wp_M_beginGroup M (fun (M_6 : Mm) => ∃ I45 : Nat → Int → Mm → Prop, (∃ n, I45 n 0 M_6) ∧ ∀ (n45 : Nat) (x4_45 : Int) (M45 : Mm), I45 n45 x4_45 M45 →
            (wp_M_many M45 (fun (r48 : Int) => (r48 ≤ x4_45 → wp_M_many M45 (fun (r77 : Int) => (0 ≤ r77 ∧ 0 < a1) ∧ wp_M_addKind a3 0 a1 (r77 / a1) M45 (fun (M_9 : Mm) => wp_M_closeGroup M_9 (fun (M_10 : Mm) => post (M_10 30 12) M_10)))) ∧
              (¬ r48 ≤ x4_45 → wp_M_addKind a2 x4_45 1 a1 M45 (fun (M_11 : Mm) => inR (x4_45 + a1) ∧ ∀ v4_67 : Int, v4_67 = (x4_45 + a1) → ∃ k_13, k_13 < n45 ∧ I45 k_13 v4_67 M_11)))))) ∧
        (r29 = 0 → post (-2) M)))))))))
set_option maxHeartbeats 4000000 in
set_option maxRecDepth 100000 in
theorem mt_M_blocks (l : Launch) (X : Xw) (hlc : lcl X)(hM0 : IsM X) (a1 : Int) (ra1 : inR a1) (a2 : Int) (ra2 : inR a2) (a3 : Int) (ra3 : inR a3) (M : Mm) (hm_M : mr M) (post : Int → Mm → Prop) (sz : Nat) (hw : wp_M_blocks a1 a2 a3 M post) : Met l yy_M_blocks (Cond.code yy_M_blocks bc_M_blocks 5 (some .int) :: tg) ({ frames := 4, cells := 0, slots := 0, locals := 92 } : Room) (Pw X [.ref (xA X 30), .int (iI a1), .int (iI a2), .int (iI a3)] M sz) (Qi X sz post) 0 0 (xF X sz) := by
  unfold wp_M_blocks at hw
  refine x_enter (by decide) hlc hm_M (Nat.le_of_ble_eq_true rfl) ?_
  intro p e s m below meth c ls hC hsz hr hlocks hS hl
  have hx := hC.1.1
  have hb := hC.1.2.1
  have hl : lv_has ls 5 [(0, .ref (xA X 30)), (1, .int (iI a1)), (2, .int (iI a2)), (3, .int (iI a3))] := hl
  refine lv_iload_n hx hb dd_M_blocks_0 rfl (lv_at hl 1 rfl) ?_
  refine x_iconst hC dd_M_blocks_1 ?_
  refine lv_aload_n hx hb dd_M_blocks_2 rfl (lv_at hl 0 rfl) ?_
  refine x_callVi hC hS (As := []) (rest := [.int (iI 1), .int (iI a1)]) hM0.1 rfl cv_M_many (mt_M_many l X hC.2.2.1 hM0  M hm_M _ _ hw) tb_495 rfl rfl ⟨Nat.le_of_ble_eq_true rfl, Nat.le_of_ble_eq_true rfl⟩ rfl hl.1 (Nat.le_of_ble_eq_true rfl) dd_M_blocks_3 ⟨Nat.le_refl _, Nat.le_refl _⟩ rfl (fun r3 Mx H locs rr3 hp hS => ?_)
  obtain ⟨hq, hw⟩ := hp
  rw [hq] at hS
  refine x_callSi hC hS (As := [.int (iI a1), .int (iI 1), .int (iI r3)]) (rest := []) cs_M_in (mt_M_in l X hC.2.2.1  a1 ra1 1 (rk rfl) r3 rr3 M hm_M _ _ hw) tb_596 rfl rfl ⟨Nat.le_of_ble_eq_true rfl, Nat.le_of_ble_eq_true rfl⟩ rfl hl.1 (Nat.le_of_ble_eq_true rfl) dd_M_blocks_6 ⟨Nat.le_refl _, Nat.le_refl _⟩ rfl (fun r6 Mx H locs rr6 hp hS => ?_)
  obtain ⟨hq, hw⟩ := hp
  rw [hq] at hS
  refine x_if_eq hC rr6 (tgt := 35) dd_M_blocks_9 (by decide) (fun c1 => ?_) (fun c1 => ?_)
  · have hw := hw.1 c1
    refine x_bipush hC dd_M_blocks_35 (by decide) ?_
    exact x_iret hC hS hlocks hr (rk rfl) hw dd_M_blocks_37
  · have hw := hw.2 c1
    refine lv_aload_n hx hb dd_M_blocks_12 rfl (lv_at hl 0 rfl) ?_
    refine x_callVi hC hS (As := []) (rest := []) hM0.1 rfl cv_M_many (mt_M_many l X hC.2.2.1 hM0  M hm_M _ _ hw) tb_495 rfl rfl ⟨Nat.le_of_ble_eq_true rfl, Nat.le_of_ble_eq_true rfl⟩ rfl hl.1 (Nat.le_of_ble_eq_true rfl) dd_M_blocks_13 ⟨Nat.le_refl _, Nat.le_refl _⟩ rfl (fun r13 Mx H locs rr13 hp hS => ?_)
    obtain ⟨hq, hw⟩ := hp
    rw [hq] at hS
    refine lv_iload_n hx hb dd_M_blocks_16 rfl (lv_at hl 1 rfl) ?_
    obtain ⟨q2, hw⟩ := hw
    refine x_rem hC rr13 ra1 q2 dd_M_blocks_17 ?_
    refine x_if_ne hC (rMod ra1 q2.2) (tgt := 35) dd_M_blocks_18 (by decide) (fun c3 => ?_) (fun c3 => ?_)
    · have hw := hw.1 c3
      refine x_bipush hC dd_M_blocks_35 (by decide) ?_
      exact x_iret hC hS hlocks hr (rk rfl) hw dd_M_blocks_37
    · have hw := hw.2 c3
      refine lv_iload_n hx hb dd_M_blocks_21 rfl (lv_at hl 2 rfl) ?_
      refine x_callSi hC hS (As := [.int (iI a2)]) (rest := []) cs_M_isKind (mt_M_isKind l X hC.2.2.1  a2 ra2 M hm_M _ _ hw) tb_603 rfl rfl ⟨Nat.le_of_ble_eq_true rfl, Nat.le_of_ble_eq_true rfl⟩ rfl hl.1 (Nat.le_of_ble_eq_true rfl) dd_M_blocks_22 ⟨Nat.le_refl _, Nat.le_refl _⟩ rfl (fun r22 Mx H locs rr22 hp hS => ?_)
      obtain ⟨hq, hw⟩ := hp
      rw [hq] at hS
      refine x_if_eq hC rr22 (tgt := 35) dd_M_blocks_25 (by decide) (fun c4 => ?_) (fun c4 => ?_)
      · have hw := hw.1 c4
        refine x_bipush hC dd_M_blocks_35 (by decide) ?_
        exact x_iret hC hS hlocks hr (rk rfl) hw dd_M_blocks_37
      · have hw := hw.2 c4
        refine lv_iload_n hx hb dd_M_blocks_28 rfl (lv_at hl 3 rfl) ?_
        refine x_callSi hC hS (As := [.int (iI a3)]) (rest := []) cs_M_isKind (mt_M_isKind l X hC.2.2.1  a3 ra3 M hm_M _ _ hw) tb_603 rfl rfl ⟨Nat.le_of_ble_eq_true rfl, Nat.le_of_ble_eq_true rfl⟩ rfl hl.1 (Nat.le_of_ble_eq_true rfl) dd_M_blocks_29 ⟨Nat.le_refl _, Nat.le_refl _⟩ rfl (fun r29 Mx H locs rr29 hp hS => ?_)
        obtain ⟨hq, hw⟩ := hp
        rw [hq] at hS
        refine x_if_ne hC rr29 (tgt := 38) dd_M_blocks_32 (by decide) (fun c5 => ?_) (fun c5 => ?_)
        · have hw := hw.1 c5
          refine lv_aload_n hx hb dd_M_blocks_38 rfl (lv_at hl 0 rfl) ?_
          refine x_callVv hC hS (As := []) (rest := []) hM0.1 rfl cv_M_beginGroup (mt_M_beginGroup l X hC.2.2.1 hM0  M hm_M _ _ hw) tb_483 rfl rfl ⟨Nat.le_of_ble_eq_true rfl, Nat.le_of_ble_eq_true rfl⟩ rfl hl.1 (Nat.le_of_ble_eq_true rfl) dd_M_blocks_39 ⟨Nat.le_refl _, Nat.le_refl _⟩ rfl (fun M_6 H locs hw hS => ?_)
          have hm_M_6 := hS.2.2.2
          refine x_iconst hC dd_M_blocks_42 ?_
          refine lv_istore (lv' := [(4, .int (iI 0)), (0, .ref (xA X 30)), (1, .int (iI a1)), (2, .int (iI a2)), (3, .int (iI a3))]) hx hb dd_M_blocks_43 hl (by decide) rfl (fun ls hl => ?_)
          obtain ⟨I45, ⟨n0, hI⟩, hstep_I45⟩ := hw
          have lp_I45 : ∀ (n45 : Nat) (x4_45 : Int) (M45 : Mm) (H : Heap) (locs : List Loc) (ls : Array Slot), I45 n45 x4_45 M45 → inR x4_45 → St X (xF X sz) s M45 H locs → lv_has ls 5 [(0, .ref (xA X 30)), (1, .int (iI a1)), (2, .int (iI a2)), (3, .int (iI a3)), (4, .int (iI x4_45))] → W p l e ({ frames := 4, cells := 0, slots := 0, locals := 92 } : Room) s m ([.ref (xA X 30), .int (iI a1), .int (iI a2), .int (iI a3)] : List Value).toArray below meth c H locs 0 0 (MQ below (Qi X sz post) ([.ref (xA X 30), .int (iI a1), .int (iI a2), .int (iI a3)] : List Value).toArray s 0 0 (xF X sz)) (F0 m 45 ls []) := by
            intro n45
            induction n45 using Nat.strongRecOn with
            | _ n45 ih_I45 =>
              intro x4_45 M45 H locs ls hI rx4_45 hS hl
              have hw := hstep_I45 n45 x4_45 M45 hI
              have hm_M45 := hS.2.2.2
              refine lv_iload hx hb dd_M_blocks_45 (lv_at hl 4 rfl) ?_
              refine lv_aload_n hx hb dd_M_blocks_47 rfl (lv_at hl 0 rfl) ?_
              refine x_callVi hC hS (As := []) (rest := [.int (iI x4_45)]) hM0.1 rfl cv_M_many (mt_M_many l X hC.2.2.1 hM0  M45 hm_M45 _ _ hw) tb_495 rfl rfl ⟨Nat.le_of_ble_eq_true rfl, Nat.le_of_ble_eq_true rfl⟩ rfl hl.1 (Nat.le_of_ble_eq_true rfl) dd_M_blocks_48 ⟨Nat.le_refl _, Nat.le_refl _⟩ rfl (fun r48 Mx H locs rr48 hp hS => ?_)
              obtain ⟨hq, hw⟩ := hp
              rw [hq] at hS
              refine x_icmp_ge hC rx4_45 rr48 (tgt := 72) dd_M_blocks_51 (by decide) (fun c7 => ?_) (fun c7 => ?_)
              · have hw := hw.1 c7
                refine lv_aload_n hx hb dd_M_blocks_72 rfl (lv_at hl 0 rfl) ?_
                refine lv_iload_n hx hb dd_M_blocks_73 rfl (lv_at hl 3 rfl) ?_
                refine x_iconst hC dd_M_blocks_74 ?_
                refine lv_iload_n hx hb dd_M_blocks_75 rfl (lv_at hl 1 rfl) ?_
                refine lv_aload_n hx hb dd_M_blocks_76 rfl (lv_at hl 0 rfl) ?_
                refine x_callVi hC hS (As := []) (rest := [.int (iI a1), .int (iI 0), .int (iI a3), .ref (xA X 30)]) hM0.1 rfl cv_M_many (mt_M_many l X hC.2.2.1 hM0  M45 hm_M45 _ _ hw) tb_495 rfl rfl ⟨Nat.le_of_ble_eq_true rfl, Nat.le_of_ble_eq_true rfl⟩ rfl hl.1 (Nat.le_of_ble_eq_true rfl) dd_M_blocks_77 ⟨Nat.le_refl _, Nat.le_refl _⟩ rfl (fun r77 Mx H locs rr77 hp hS => ?_)
                obtain ⟨hq, hw⟩ := hp
                rw [hq] at hS
                refine lv_iload_n hx hb dd_M_blocks_80 rfl (lv_at hl 1 rfl) ?_
                obtain ⟨q8, hw⟩ := hw
                refine x_div hC rr77 ra1 q8 dd_M_blocks_81 ?_
                refine x_callVv hC hS (As := [.int (iI a3), .int (iI 0), .int (iI a1), .int (iI (r77 / a1))]) (rest := []) hM0.1 rfl cv_M_addKind (mt_M_addKind l X hC.2.2.1 hM0 a3 ra3 0 (rk rfl) a1 ra1 (r77 / a1) (rDiv rr77 q8.1 q8.2) M45 hm_M45 _ _ hw) tb_606 rfl rfl ⟨Nat.le_of_ble_eq_true rfl, Nat.le_of_ble_eq_true rfl⟩ rfl hl.1 (Nat.le_of_ble_eq_true rfl) dd_M_blocks_82 ⟨Nat.le_refl _, Nat.le_refl _⟩ rfl (fun M_9 H locs hw hS => ?_)
                have hm_M_9 := hS.2.2.2
                refine lv_aload_n hx hb dd_M_blocks_85 rfl (lv_at hl 0 rfl) ?_
                refine x_callVv hC hS (As := []) (rest := []) hM0.1 rfl cv_M_closeGroup (mt_M_closeGroup l X hC.2.2.1 hM0  M_9 hm_M_9 _ _ hw) tb_487 rfl rfl ⟨Nat.le_of_ble_eq_true rfl, Nat.le_of_ble_eq_true rfl⟩ rfl hl.1 (Nat.le_of_ble_eq_true rfl) dd_M_blocks_86 ⟨Nat.le_refl _, Nat.le_refl _⟩ rfl (fun M_10 H locs hw hS => ?_)
                have hm_M_10 := hS.2.2.2
                refine lv_aload_n hx hb dd_M_blocks_89 rfl (lv_at hl 0 rfl) ?_
                refine x_get hC hS hM0.1 rfl iw_M 12 (by decide) tb_527 rfl rfl dd_M_blocks_90 ?_
                exact x_iret hC hS hlocks hr (hm_M_10 30 12) hw dd_M_blocks_93
              · have hw := hw.2 c7
                refine lv_aload_n hx hb dd_M_blocks_54 rfl (lv_at hl 0 rfl) ?_
                refine lv_iload_n hx hb dd_M_blocks_55 rfl (lv_at hl 2 rfl) ?_
                refine lv_iload hx hb dd_M_blocks_56 (lv_at hl 4 rfl) ?_
                refine x_iconst hC dd_M_blocks_58 ?_
                refine lv_iload_n hx hb dd_M_blocks_59 rfl (lv_at hl 1 rfl) ?_
                refine x_callVv hC hS (As := [.int (iI a2), .int (iI x4_45), .int (iI 1), .int (iI a1)]) (rest := []) hM0.1 rfl cv_M_addKind (mt_M_addKind l X hC.2.2.1 hM0 a2 ra2 x4_45 rx4_45 1 (rk rfl) a1 ra1 M45 hm_M45 _ _ hw) tb_606 rfl rfl ⟨Nat.le_of_ble_eq_true rfl, Nat.le_of_ble_eq_true rfl⟩ rfl hl.1 (Nat.le_of_ble_eq_true rfl) dd_M_blocks_60 ⟨Nat.le_refl _, Nat.le_refl _⟩ rfl (fun M_11 H locs hw hS => ?_)
                have hm_M_11 := hS.2.2.2
                refine lv_iload hx hb dd_M_blocks_63 (lv_at hl 4 rfl) ?_
                refine lv_iload_n hx hb dd_M_blocks_65 rfl (lv_at hl 1 rfl) ?_
                obtain ⟨q12, hw⟩ := hw
                refine x_add hC dd_M_blocks_66 ?_
                refine x_nm q12 (fun v4_67 rv4_67 ev4_67 => ?_)
                have hw := hw v4_67 ev4_67
                refine lv_istore (lv' := [(4, .int (iI v4_67)), (0, .ref (xA X 30)), (1, .int (iI a1)), (2, .int (iI a2)), (3, .int (iI a3))]) hx hb dd_M_blocks_67 hl (by decide) rfl (fun ls hl => ?_)
                refine lv_goto (tgt := 45) hx hb dd_M_blocks_69 (by decide) ?_
                obtain ⟨k_13, h14, hI⟩ := hw
                exact ih_I45 k_13 h14 v4_67 M_11 _ _ _ hI rv4_67 hS (lv_sub hl [1, 2, 3, 4, 0] rfl)
          exact lp_I45 n0 0 M_6 _ _ _ hI (rk rfl) hS (lv_sub hl [1, 2, 3, 4, 0] rfl)
        · have hw := hw.2 c5
          refine x_bipush hC dd_M_blocks_35 (by decide) ?_
          exact x_iret hC hS hlocks hr (rk rfl) hw dd_M_blocks_37
def wp_M_say (a1 : Int) (M : Mm) (post : Int → Mm → Prop) : Prop :=
  wp_M_in a1 33 126 (fun (r5 : Int) => (¬ r5 = 0 → (¬ (M 30 4) = 7 → (0 ≤ (M 30 4) ∧ (M 30 4) < 7) ∧ ∀ M_4 : Mm, M_4 = ms M 34 ((M 30 4)).toNat a1 → inR ((M_4 30 4) + 1) ∧ ∀ M_6 : Mm, M_6 = ms M_4 30 4 ((M_4 30 4) + 1) → post (M_6 30 4) M_6) ∧
    ((M 30 4) = 7 → post (-4) M)) ∧
  (r5 = 0 → post (-2) M))
set_option maxHeartbeats 4000000 in
set_option maxRecDepth 100000 in
theorem mt_M_say (l : Launch) (X : Xw) (hlc : lcl X)(hM0 : IsM X) (a1 : Int) (ra1 : inR a1) (M : Mm) (hm_M : mr M) (post : Int → Mm → Prop) (sz : Nat) (hw : wp_M_say a1 M post) : Met l yy_M_say (Cond.code yy_M_say bc_M_say 2 (some .int) :: tg) ({ frames := 1, cells := 0, slots := 0, locals := 22 } : Room) (Pw X [.ref (xA X 30), .int (iI a1)] M sz) (Qi X sz post) 0 0 (xF X sz) := by
  unfold wp_M_say at hw
  refine x_enter (by decide) hlc hm_M (Nat.le_of_ble_eq_true rfl) ?_
  intro p e s m below meth c ls hC hsz hr hlocks hS hl
  have hx := hC.1.1
  have hb := hC.1.2.1
  have hl : lv_has ls 2 [(0, .ref (xA X 30)), (1, .int (iI a1))] := hl
  refine lv_iload_n hx hb dd_M_say_0 rfl (lv_at hl 1 rfl) ?_
  refine x_bipush hC dd_M_say_1 (by decide) ?_
  refine x_bipush hC dd_M_say_3 (by decide) ?_
  refine x_callSi hC hS (As := [.int (iI a1), .int (iI 33), .int (iI 126)]) (rest := []) cs_M_in (mt_M_in l X hC.2.2.1  a1 ra1 33 (rk rfl) 126 (rk rfl) M hm_M _ _ hw) tb_596 rfl rfl ⟨Nat.le_of_ble_eq_true rfl, Nat.le_of_ble_eq_true rfl⟩ rfl hl.1 (Nat.le_of_ble_eq_true rfl) dd_M_say_5 ⟨Nat.le_refl _, Nat.le_refl _⟩ rfl (fun r5 Mx H locs rr5 hp hS => ?_)
  obtain ⟨hq, hw⟩ := hp
  rw [hq] at hS
  refine x_if_ne hC rr5 (tgt := 14) dd_M_say_8 (by decide) (fun c1 => ?_) (fun c1 => ?_)
  · have hw := hw.1 c1
    refine lv_aload_n hx hb dd_M_say_14 rfl (lv_at hl 0 rfl) ?_
    refine x_get hC hS hM0.1 rfl iw_M 4 (by decide) tb_519 rfl rfl dd_M_say_15 ?_
    refine x_bipush hC dd_M_say_18 (by decide) ?_
    refine x_icmp_ne hC (hm_M 30 4) (rk rfl) (tgt := 26) dd_M_say_20 (by decide) (fun c2 => ?_) (fun c2 => ?_)
    · have hw := hw.1 c2
      refine lv_aload_n hx hb dd_M_say_26 rfl (lv_at hl 0 rfl) ?_
      refine x_get hC hS hM0.1 rfl iw_M 3 (by decide) tb_518 rfl rfl dd_M_say_27 ?_
      refine lv_aload_n hx hb dd_M_say_30 rfl (lv_at hl 0 rfl) ?_
      refine x_get hC hS hM0.1 rfl iw_M 4 (by decide) tb_519 rfl rfl dd_M_say_31 ?_
      refine lv_iload_n hx hb dd_M_say_34 rfl (lv_at hl 1 rfl) ?_
      obtain ⟨q3, hw⟩ := hw
      refine x_iast hC hS hM0.2.2.2.2.1 q3 ra1 dd_M_say_35 (fun H locs hS => ?_)
      obtain ⟨M_4, eM_4⟩ : ∃ Z : Mm, Z = ms M 34 ((M 30 4)).toNat a1 := ⟨_, rfl⟩
      rw [← eM_4] at hS
      have hw := hw M_4 eM_4
      have hm_M_4 := hS.2.2.2
      refine lv_aload_n hx hb dd_M_say_36 rfl (lv_at hl 0 rfl) ?_
      refine lv_dup hx hb dd_M_say_37 rfl ?_
      refine x_get hC hS hM0.1 rfl iw_M 4 (by decide) tb_519 rfl rfl dd_M_say_38 ?_
      refine x_iconst hC dd_M_say_41 ?_
      obtain ⟨q5, hw⟩ := hw
      refine x_add hC dd_M_say_42 ?_
      refine x_put hC hS hM0.1 rfl iw_M fy_M fk_M fn_M 4 (by decide) tb_519 rfl q5 rfl rfl (ps_M_4 _ _ _) (Nat.le_of_ble_eq_true rfl) dd_M_say_43 (fun H locs hS => ?_)
      obtain ⟨M_6, eM_6⟩ : ∃ Z : Mm, Z = ms M_4 30 4 ((M_4 30 4) + 1) := ⟨_, rfl⟩
      rw [← eM_6] at hS
      have hw := hw M_6 eM_6
      have hm_M_6 := hS.2.2.2
      refine lv_aload_n hx hb dd_M_say_46 rfl (lv_at hl 0 rfl) ?_
      refine x_get hC hS hM0.1 rfl iw_M 4 (by decide) tb_519 rfl rfl dd_M_say_47 ?_
      exact x_iret hC hS hlocks hr (hm_M_6 30 4) hw dd_M_say_50
    · have hw := hw.2 c2
      refine x_bipush hC dd_M_say_23 (by decide) ?_
      exact x_iret hC hS hlocks hr (rk rfl) hw dd_M_say_25
  · have hw := hw.2 c1
    refine x_bipush hC dd_M_say_11 (by decide) ?_
    exact x_iret hC hS hlocks hr (rk rfl) hw dd_M_say_13
def wp_M_wipe (M : Mm) (post : Int → Mm → Prop) : Prop :=
  ∀ v1_4 : Int, v1_4 = (M 30 4) → ∀ M_1 : Mm, M_1 = ms M 30 4 0 → post v1_4 M_1
set_option maxHeartbeats 4000000 in
set_option maxRecDepth 100000 in
theorem mt_M_wipe (l : Launch) (X : Xw) (hlc : lcl X)(hM0 : IsM X) (M : Mm) (hm_M : mr M) (post : Int → Mm → Prop) (sz : Nat) (hw : wp_M_wipe M post) : Met l yy_M_wipe (Cond.code yy_M_wipe bc_M_wipe 2 (some .int) :: tg) ({ frames := 0, cells := 0, slots := 0, locals := 0 } : Room) (Pw X [.ref (xA X 30)] M sz) (Qi X sz post) 0 0 (xF X sz) := by
  unfold wp_M_wipe at hw
  refine x_enter (by decide) hlc hm_M (Nat.le_of_ble_eq_true rfl) ?_
  intro p e s m below meth c ls hC hsz hr hlocks hS hl
  have hx := hC.1.1
  have hb := hC.1.2.1
  have hl : lv_has ls 2 [(0, .ref (xA X 30))] := hl
  refine lv_aload_n hx hb dd_M_wipe_0 rfl (lv_at hl 0 rfl) ?_
  refine x_get hC hS hM0.1 rfl iw_M 4 (by decide) tb_519 rfl rfl dd_M_wipe_1 ?_
  refine x_nm (hm_M 30 4) (fun v1_4 rv1_4 ev1_4 => ?_)
  have hw := hw v1_4 ev1_4
  refine lv_istore_n (lv' := [(1, .int (iI v1_4)), (0, .ref (xA X 30))]) hx hb dd_M_wipe_4 rfl hl (by decide) rfl (fun ls hl => ?_)
  refine lv_aload_n hx hb dd_M_wipe_5 rfl (lv_at hl 1 rfl) ?_
  refine x_iconst hC dd_M_wipe_6 ?_
  refine x_put hC hS hM0.1 rfl iw_M fy_M fk_M fn_M 4 (by decide) tb_519 rfl (rk rfl) rfl rfl (ps_M_4 _ _ _) (Nat.le_of_ble_eq_true rfl) dd_M_wipe_7 (fun H locs hS => ?_)
  obtain ⟨M_1, eM_1⟩ : ∃ Z : Mm, Z = ms M 30 4 0 := ⟨_, rfl⟩
  rw [← eM_1] at hS
  have hw := hw M_1 eM_1
  have hm_M_1 := hS.2.2.2
  refine lv_iload_n hx hb dd_M_wipe_10 rfl (lv_at hl 0 rfl) ?_
  exact x_iret hC hS hlocks hr rv1_4 hw dd_M_wipe_11
def wp_M_layPad (M : Mm) (post : Int → Mm → Prop) : Prop :=
  ∃ I4 : Nat → Int → Int → Mm → Prop, (∃ n, I4 n 0 0 M) ∧ ∀ (n4 : Nat) (x1_4 : Int) (x2_4 : Int) (M4 : Mm), I4 n4 x1_4 x2_4 M4 →
    (((M4 30 4) ≤ x2_4 → wp_M_many M4 (fun (r62 : Int) => (¬ (M4 30 4) = r62 → post 0 M4) ∧
        ((M4 30 4) = r62 → wp_M_many M4 (fun (r71 : Int) => inR ((bShl 1 r71) - 1) ∧ (¬ x1_4 = ((bShl 1 r71) - 1) → post 0 M4) ∧
          (x1_4 = ((bShl 1 r71) - 1) → post 1 M4))))) ∧
      (¬ (M4 30 4) ≤ x2_4 → (0 ≤ x2_4 ∧ x2_4 < 7) ∧ ∀ z6 : Int, z6 = M4 34 (x2_4).toNat → inR (z6 - 48) ∧ ∀ v3_21 : Int, v3_21 = (z6 - 48) → wp_M_many M4 (fun (r25 : Int) => inR (r25 - 1) ∧ wp_M_in v3_21 0 (r25 - 1) (fun (r30 : Int) => (¬ r30 = 0 → (0 ≤ x2_4 ∧ x2_4 < 7) ∧ ∀ M_11 : Mm, M_11 = ms M4 35 (x2_4).toNat v3_21 → ∀ v1_50 : Int, v1_50 = (bOr x1_4 (bShl 1 v3_21)) → inR (x2_4 + 1) ∧ ∀ v2_51 : Int, v2_51 = x2_4 + 1 → ∃ k_12, k_12 < n4 ∧ I4 k_12 v1_50 v2_51 M_11) ∧
        (r30 = 0 → post 0 M4)))))
set_option maxHeartbeats 4000000 in
set_option maxRecDepth 100000 in
theorem mt_M_layPad (l : Launch) (X : Xw) (hlc : lcl X)(hM0 : IsM X) (M : Mm) (hm_M : mr M) (post : Int → Mm → Prop) (sz : Nat) (hw : wp_M_layPad M post) : Met l yy_M_layPad (Cond.code yy_M_layPad bc_M_layPad 4 (some .boolean) :: tg) ({ frames := 1, cells := 0, slots := 0, locals := 22 } : Room) (Pw X [.ref (xA X 30)] M sz) (Qi X sz post) 0 0 (xF X sz) := by
  unfold wp_M_layPad at hw
  refine x_enter (by decide) hlc hm_M (Nat.le_of_ble_eq_true rfl) ?_
  intro p e s m below meth c ls hC hsz hr hlocks hS hl
  have hx := hC.1.1
  have hb := hC.1.2.1
  have hl : lv_has ls 4 [(0, .ref (xA X 30))] := hl
  refine x_iconst hC dd_M_layPad_0 ?_
  refine lv_istore_n (lv' := [(1, .int (iI 0)), (0, .ref (xA X 30))]) hx hb dd_M_layPad_1 rfl hl (by decide) rfl (fun ls hl => ?_)
  refine x_iconst hC dd_M_layPad_2 ?_
  refine lv_istore_n (lv' := [(2, .int (iI 0)), (1, .int (iI 0)), (0, .ref (xA X 30))]) hx hb dd_M_layPad_3 rfl hl (by decide) rfl (fun ls hl => ?_)
  obtain ⟨I4, ⟨n0, hI⟩, hstep_I4⟩ := hw
  have lp_I4 : ∀ (n4 : Nat) (x1_4 : Int) (x2_4 : Int) (M4 : Mm) (H : Heap) (locs : List Loc) (ls : Array Slot), I4 n4 x1_4 x2_4 M4 → inR x1_4 → inR x2_4 → St X (xF X sz) s M4 H locs → lv_has ls 4 [(0, .ref (xA X 30)), (1, .int (iI x1_4)), (2, .int (iI x2_4))] → W p l e ({ frames := 1, cells := 0, slots := 0, locals := 22 } : Room) s m ([.ref (xA X 30)] : List Value).toArray below meth c H locs 0 0 (MQ below (Qi X sz post) ([.ref (xA X 30)] : List Value).toArray s 0 0 (xF X sz)) (F0 m 4 ls []) := by
    intro n4
    induction n4 using Nat.strongRecOn with
    | _ n4 ih_I4 =>
      intro x1_4 x2_4 M4 H locs ls hI rx1_4 rx2_4 hS hl
      have hw := hstep_I4 n4 x1_4 x2_4 M4 hI
      have hm_M4 := hS.2.2.2
      refine lv_iload_n hx hb dd_M_layPad_4 rfl (lv_at hl 2 rfl) ?_
      refine lv_aload_n hx hb dd_M_layPad_5 rfl (lv_at hl 0 rfl) ?_
      refine x_get hC hS hM0.1 rfl iw_M 4 (by decide) tb_519 rfl rfl dd_M_layPad_6 ?_
      refine x_icmp_ge hC rx2_4 (hm_M4 30 4) (tgt := 57) dd_M_layPad_9 (by decide) (fun c1 => ?_) (fun c1 => ?_)
      · have hw := hw.1 c1
        refine lv_aload_n hx hb dd_M_layPad_57 rfl (lv_at hl 0 rfl) ?_
        refine x_get hC hS hM0.1 rfl iw_M 4 (by decide) tb_519 rfl rfl dd_M_layPad_58 ?_
        refine lv_aload_n hx hb dd_M_layPad_61 rfl (lv_at hl 0 rfl) ?_
        refine x_callVi hC hS (As := []) (rest := [.int (iI (M4 30 4))]) hM0.1 rfl cv_M_many (mt_M_many l X hC.2.2.1 hM0  M4 hm_M4 _ _ hw) tb_495 rfl rfl ⟨Nat.le_of_ble_eq_true rfl, Nat.le_of_ble_eq_true rfl⟩ rfl hl.1 (Nat.le_of_ble_eq_true rfl) dd_M_layPad_62 ⟨Nat.le_refl _, Nat.le_refl _⟩ rfl (fun r62 Mx H locs rr62 hp hS => ?_)
        obtain ⟨hq, hw⟩ := hp
        rw [hq] at hS
        refine x_icmp_ne hC (hm_M4 30 4) rr62 (tgt := 84) dd_M_layPad_65 (by decide) (fun c2 => ?_) (fun c2 => ?_)
        · have hw := hw.1 c2
          refine x_iconst hC dd_M_layPad_84 ?_
          exact x_zret hC hS hlocks hr (Or.inl rfl) hw dd_M_layPad_85
        · have hw := hw.2 c2
          refine lv_iload_n hx hb dd_M_layPad_68 rfl (lv_at hl 1 rfl) ?_
          refine x_iconst hC dd_M_layPad_69 ?_
          refine lv_aload_n hx hb dd_M_layPad_70 rfl (lv_at hl 0 rfl) ?_
          refine x_callVi hC hS (As := []) (rest := [.int (iI 1), .int (iI x1_4)]) hM0.1 rfl cv_M_many (mt_M_many l X hC.2.2.1 hM0  M4 hm_M4 _ _ hw) tb_495 rfl rfl ⟨Nat.le_of_ble_eq_true rfl, Nat.le_of_ble_eq_true rfl⟩ rfl hl.1 (Nat.le_of_ble_eq_true rfl) dd_M_layPad_71 ⟨Nat.le_refl _, Nat.le_refl _⟩ rfl (fun r71 Mx H locs rr71 hp hS => ?_)
          obtain ⟨hq, hw⟩ := hp
          rw [hq] at hS
          refine x_shl hC dd_M_layPad_74 ?_
          refine x_iconst hC dd_M_layPad_75 ?_
          obtain ⟨q3, hw⟩ := hw
          refine x_sub hC dd_M_layPad_76 ?_
          refine x_icmp_ne hC rx1_4 q3 (tgt := 84) dd_M_layPad_77 (by decide) (fun c4 => ?_) (fun c4 => ?_)
          · have hw := hw.1 c4
            refine x_iconst hC dd_M_layPad_84 ?_
            exact x_zret hC hS hlocks hr (Or.inl rfl) hw dd_M_layPad_85
          · have hw := hw.2 c4
            refine x_iconst hC dd_M_layPad_80 ?_
            refine lv_goto (tgt := 85) hx hb dd_M_layPad_81 (by decide) ?_
            exact x_zret hC hS hlocks hr (Or.inr rfl) hw dd_M_layPad_85
      · have hw := hw.2 c1
        refine lv_aload_n hx hb dd_M_layPad_12 rfl (lv_at hl 0 rfl) ?_
        refine x_get hC hS hM0.1 rfl iw_M 3 (by decide) tb_518 rfl rfl dd_M_layPad_13 ?_
        refine lv_iload_n hx hb dd_M_layPad_16 rfl (lv_at hl 2 rfl) ?_
        obtain ⟨q5, hw⟩ := hw
        refine x_iald hC hS hM0.2.2.2.2.1 q5 dd_M_layPad_17 ?_
        refine x_nm (hm_M4 34 _) (fun z6 rz6 ez6 => ?_)
        have hw := hw z6 ez6
        refine x_bipush hC dd_M_layPad_18 (by decide) ?_
        obtain ⟨q7, hw⟩ := hw
        refine x_sub hC dd_M_layPad_20 ?_
        refine x_nm q7 (fun v3_21 rv3_21 ev3_21 => ?_)
        have hw := hw v3_21 ev3_21
        refine lv_istore_n (lv' := [(3, .int (iI v3_21)), (0, .ref (xA X 30)), (1, .int (iI x1_4)), (2, .int (iI x2_4))]) hx hb dd_M_layPad_21 rfl hl (by decide) rfl (fun ls hl => ?_)
        refine lv_iload_n hx hb dd_M_layPad_22 rfl (lv_at hl 0 rfl) ?_
        refine x_iconst hC dd_M_layPad_23 ?_
        refine lv_aload_n hx hb dd_M_layPad_24 rfl (lv_at hl 1 rfl) ?_
        refine x_callVi hC hS (As := []) (rest := [.int (iI 0), .int (iI v3_21)]) hM0.1 rfl cv_M_many (mt_M_many l X hC.2.2.1 hM0  M4 hm_M4 _ _ hw) tb_495 rfl rfl ⟨Nat.le_of_ble_eq_true rfl, Nat.le_of_ble_eq_true rfl⟩ rfl hl.1 (Nat.le_of_ble_eq_true rfl) dd_M_layPad_25 ⟨Nat.le_refl _, Nat.le_refl _⟩ rfl (fun r25 Mx H locs rr25 hp hS => ?_)
        obtain ⟨hq, hw⟩ := hp
        rw [hq] at hS
        refine x_iconst hC dd_M_layPad_28 ?_
        obtain ⟨q8, hw⟩ := hw
        refine x_sub hC dd_M_layPad_29 ?_
        refine x_callSi hC hS (As := [.int (iI v3_21), .int (iI 0), .int (iI (r25 - 1))]) (rest := []) cs_M_in (mt_M_in l X hC.2.2.1  v3_21 rv3_21 0 (rk rfl) (r25 - 1) q8 M4 hm_M4 _ _ hw) tb_596 rfl rfl ⟨Nat.le_of_ble_eq_true rfl, Nat.le_of_ble_eq_true rfl⟩ rfl hl.1 (Nat.le_of_ble_eq_true rfl) dd_M_layPad_30 ⟨Nat.le_refl _, Nat.le_refl _⟩ rfl (fun r30 Mx H locs rr30 hp hS => ?_)
        obtain ⟨hq, hw⟩ := hp
        rw [hq] at hS
        refine x_if_ne hC rr30 (tgt := 38) dd_M_layPad_33 (by decide) (fun c9 => ?_) (fun c9 => ?_)
        · have hw := hw.1 c9
          refine lv_aload_n hx hb dd_M_layPad_38 rfl (lv_at hl 1 rfl) ?_
          refine x_get hC hS hM0.1 rfl iw_M 5 (by decide) tb_520 rfl rfl dd_M_layPad_39 ?_
          refine lv_iload_n hx hb dd_M_layPad_42 rfl (lv_at hl 3 rfl) ?_
          refine lv_iload_n hx hb dd_M_layPad_43 rfl (lv_at hl 0 rfl) ?_
          obtain ⟨q10, hw⟩ := hw
          refine x_iast hC hS hM0.2.2.2.2.2.1 q10 rv3_21 dd_M_layPad_44 (fun H locs hS => ?_)
          obtain ⟨M_11, eM_11⟩ : ∃ Z : Mm, Z = ms M4 35 (x2_4).toNat v3_21 := ⟨_, rfl⟩
          rw [← eM_11] at hS
          have hw := hw M_11 eM_11
          have hm_M_11 := hS.2.2.2
          refine lv_iload_n hx hb dd_M_layPad_45 rfl (lv_at hl 2 rfl) ?_
          refine x_iconst hC dd_M_layPad_46 ?_
          refine lv_iload_n hx hb dd_M_layPad_47 rfl (lv_at hl 0 rfl) ?_
          refine x_shl hC dd_M_layPad_48 ?_
          refine x_or hC dd_M_layPad_49 ?_
          refine x_nm (rng _) (fun v1_50 rv1_50 ev1_50 => ?_)
          have hw := hw v1_50 ev1_50
          refine lv_istore_n (lv' := [(1, .int (iI v1_50)), (3, .int (iI v3_21)), (0, .ref (xA X 30)), (2, .int (iI x2_4))]) hx hb dd_M_layPad_50 rfl hl (by decide) rfl (fun ls hl => ?_)
          obtain ⟨hr_, hw⟩ := hw
          obtain ⟨v2_51, rv2_51, ev2_51⟩ : ∃ z : Int, inR z ∧ z = x2_4 + 1 := ⟨_, hr_, rfl⟩
          have hw := hw v2_51 ev2_51
          refine lv_iinc (v := iI v2_51) (lv' := [(2, .int (iI v2_51)), (1, .int (iI v1_50)), (3, .int (iI v3_21)), (0, .ref (xA X 30))]) hx hb dd_M_layPad_51 hl (k := 3) rfl (by rw [ev2_51]; exact iI_add _ _) (by decide) rfl (fun ls hl => ?_)
          refine lv_goto (tgt := 4) hx hb dd_M_layPad_54 (by decide) ?_
          obtain ⟨k_12, h13, hI⟩ := hw
          exact ih_I4 k_12 h13 v1_50 v2_51 M_11 _ _ _ hI rv1_50 rv2_51 hS (lv_sub hl [3, 1, 0] rfl)
        · have hw := hw.2 c9
          refine x_iconst hC dd_M_layPad_36 ?_
          exact x_zret hC hS hlocks hr (Or.inl rfl) hw dd_M_layPad_37
  exact lp_I4 n0 0 0 M _ _ _ hI (rk rfl) (rk rfl) hS (lv_sub hl [2, 1, 0] rfl)
def wp_M_join (M : Mm) (post : Int → Mm → Prop) : Prop :=
  wp_M_layPad M (fun (r1 : Int) (M_1 : Mm) => (¬ r1 = 0 → wp_M_rank M_1 (fun (r11 : Int) => ∃ I17 : Nat → Int → Mm → Prop, (∃ n, I17 n 0 M_1) ∧ ∀ (n17 : Nat) (x2_17 : Int) (M17 : Mm), I17 n17 x2_17 M17 →
      ((5040 ≤ x2_17 → wp_M_beginGroup M17 (fun (M_4 : Mm) => wp_M_layRank r11 M_4 (fun (M_5 : Mm) => wp_M_addMaker M_5 (fun (M_6 : Mm) => wp_M_closeGroup M_6 (fun (M_7 : Mm) => ∃ I64 : Nat → Int → Mm → Prop, (∃ n, I64 n 0 M_7) ∧ ∀ (n64 : Nat) (x2_64 : Int) (M64 : Mm), I64 n64 x2_64 M64 →
            ((5040 ≤ x2_64 → ∀ M_9 : Mm, M_9 = ms M64 30 4 0 → post (M_9 30 12) M_9) ∧
              (¬ 5040 ≤ x2_64 → (0 ≤ x2_64 ∧ x2_64 < 5040) ∧ ∀ z11 : Int, z11 = M64 40 (x2_64).toNat → ∀ K106 : Mm → Prop, (∀ (M106 : Mm), (inR (x2_64 + 1) ∧ ∀ v2_106 : Int, v2_106 = x2_64 + 1 → ∃ k_12, k_12 < n64 ∧ I64 k_12 v2_106 M106) →
                  K106 M106) →
                ((¬ z11 = 1 → K106 M64) ∧
                (z11 = 1 → inR (6 + x2_64) ∧ (0 ≤ (6 + x2_64) ∧ (6 + x2_64) < 5046) ∧ ∀ z17 : Int, z17 = M64 31 ((6 + x2_64)).toNat → (¬ z17 = 0 → K106 M64) ∧
                  (z17 = 0 → wp_M_layRank x2_64 M64 (fun (M_19 : Mm) => wp_M_addMaker M_19 (fun (M_20 : Mm) => wp_M_closeGroup M_20 (fun (M_21 : Mm) => K106 M_21))))))))))))) ∧
        (¬ 5040 ≤ x2_17 → inR (6 + x2_17) ∧ (0 ≤ (6 + x2_17) ∧ (6 + x2_17) < 5046) ∧ ∀ z24 : Int, z24 = M17 31 ((6 + x2_17)).toNat → (0 ≤ x2_17 ∧ x2_17 < 5040) ∧ ∀ M_26 : Mm, M_26 = ms M17 40 (x2_17).toNat z24 → inR (x2_17 + 1) ∧ ∀ v2_39 : Int, v2_39 = x2_17 + 1 → ∃ k_27, k_27 < n17 ∧ I17 k_27 v2_39 M_26)))) ∧
  (r1 = 0 → post (-7) M_1))
set_option maxHeartbeats 4000000 in
set_option maxRecDepth 100000 in
theorem mt_M_join (l : Launch) (X : Xw) (hlc : lcl X)(hM0 : IsM X) (M : Mm) (hm_M : mr M) (post : Int → Mm → Prop) (sz : Nat) (hw : wp_M_join M post) : Met l yy_M_join (Cond.code yy_M_join bc_M_join 3 (some .int) :: tg) ({ frames := 4, cells := 0, slots := 0, locals := 90 } : Room) (Pw X [.ref (xA X 30)] M sz) (Qi X sz post) 0 0 (xF X sz) := by
  unfold wp_M_join at hw
  refine x_enter (by decide) hlc hm_M (Nat.le_of_ble_eq_true rfl) ?_
  intro p e s m below meth c ls hC hsz hr hlocks hS hl
  have hx := hC.1.1
  have hb := hC.1.2.1
  have hl : lv_has ls 3 [(0, .ref (xA X 30))] := hl
  refine lv_aload_n hx hb dd_M_join_0 rfl (lv_at hl 0 rfl) ?_
  refine x_callVi hC hS (As := []) (rest := []) hM0.1 rfl cv_M_layPad (mt_M_layPad l X hC.2.2.1 hM0  M hm_M _ _ hw) tb_646 rfl rfl ⟨Nat.le_of_ble_eq_true rfl, Nat.le_of_ble_eq_true rfl⟩ rfl hl.1 (Nat.le_of_ble_eq_true rfl) dd_M_join_1 ⟨Nat.le_refl _, Nat.le_refl _⟩ rfl (fun r1 M_1 H locs rr1 hw hS => ?_)
  have hm_M_1 := hS.2.2.2
  refine x_if_ne hC rr1 (tgt := 10) dd_M_join_4 (by decide) (fun c2 => ?_) (fun c2 => ?_)
  · have hw := hw.1 c2
    refine lv_aload_n hx hb dd_M_join_10 rfl (lv_at hl 0 rfl) ?_
    refine x_callVi hC hS (As := []) (rest := []) hM0.1 rfl cv_M_rank (mt_M_rank l X hC.2.2.1 hM0  M_1 hm_M_1 _ _ hw) tb_499 rfl rfl ⟨Nat.le_of_ble_eq_true rfl, Nat.le_of_ble_eq_true rfl⟩ rfl hl.1 (Nat.le_of_ble_eq_true rfl) dd_M_join_11 ⟨Nat.le_refl _, Nat.le_refl _⟩ rfl (fun r11 Mx H locs rr11 hp hS => ?_)
    obtain ⟨hq, hw⟩ := hp
    rw [hq] at hS
    refine lv_istore_n (lv' := [(1, .int (iI r11)), (0, .ref (xA X 30))]) hx hb dd_M_join_14 rfl hl (by decide) rfl (fun ls hl => ?_)
    refine x_iconst hC dd_M_join_15 ?_
    refine lv_istore_n (lv' := [(2, .int (iI 0)), (1, .int (iI r11)), (0, .ref (xA X 30))]) hx hb dd_M_join_16 rfl hl (by decide) rfl (fun ls hl => ?_)
    obtain ⟨I17, ⟨n0, hI⟩, hstep_I17⟩ := hw
    have lp_I17 : ∀ (n17 : Nat) (x2_17 : Int) (M17 : Mm) (H : Heap) (locs : List Loc) (ls : Array Slot), I17 n17 x2_17 M17 → inR x2_17 → St X (xF X sz) s M17 H locs → lv_has ls 3 [(0, .ref (xA X 30)), (1, .int (iI r11)), (2, .int (iI x2_17))] → W p l e ({ frames := 4, cells := 0, slots := 0, locals := 90 } : Room) s m ([.ref (xA X 30)] : List Value).toArray below meth c H locs 0 0 (MQ below (Qi X sz post) ([.ref (xA X 30)] : List Value).toArray s 0 0 (xF X sz)) (F0 m 17 ls []) := by
      intro n17
      induction n17 using Nat.strongRecOn with
      | _ n17 ih_I17 =>
        intro x2_17 M17 H locs ls hI rx2_17 hS hl
        have hw := hstep_I17 n17 x2_17 M17 hI
        have hm_M17 := hS.2.2.2
        refine lv_iload_n hx hb dd_M_join_17 rfl (lv_at hl 2 rfl) ?_
        refine x_sipush hC dd_M_join_18 (by decide) ?_
        refine x_icmp_ge hC rx2_17 (rk rfl) (tgt := 45) dd_M_join_21 (by decide) (fun c3 => ?_) (fun c3 => ?_)
        · have hw := hw.1 c3
          refine lv_aload_n hx hb dd_M_join_45 rfl (lv_at hl 0 rfl) ?_
          refine x_callVv hC hS (As := []) (rest := []) hM0.1 rfl cv_M_beginGroup (mt_M_beginGroup l X hC.2.2.1 hM0  M17 hm_M17 _ _ hw) tb_483 rfl rfl ⟨Nat.le_of_ble_eq_true rfl, Nat.le_of_ble_eq_true rfl⟩ rfl hl.1 (Nat.le_of_ble_eq_true rfl) dd_M_join_46 ⟨Nat.le_refl _, Nat.le_refl _⟩ rfl (fun M_4 H locs hw hS => ?_)
          have hm_M_4 := hS.2.2.2
          refine lv_aload_n hx hb dd_M_join_49 rfl (lv_at hl 0 rfl) ?_
          refine lv_iload_n hx hb dd_M_join_50 rfl (lv_at hl 1 rfl) ?_
          refine x_callVv hC hS (As := [.int (iI r11)]) (rest := []) hM0.1 rfl cv_M_layRank (mt_M_layRank l X hC.2.2.1 hM0 r11 rr11 M_4 hm_M_4 _ _ hw) tb_507 rfl rfl ⟨Nat.le_of_ble_eq_true rfl, Nat.le_of_ble_eq_true rfl⟩ rfl hl.1 (Nat.le_of_ble_eq_true rfl) dd_M_join_51 ⟨Nat.le_refl _, Nat.le_refl _⟩ rfl (fun M_5 H locs hw hS => ?_)
          have hm_M_5 := hS.2.2.2
          refine lv_aload_n hx hb dd_M_join_54 rfl (lv_at hl 0 rfl) ?_
          refine x_callVv hC hS (As := []) (rest := []) hM0.1 rfl cv_M_addMaker (mt_M_addMaker l X hC.2.2.1 hM0  M_5 hm_M_5 _ _ hw) tb_618 rfl rfl ⟨Nat.le_of_ble_eq_true rfl, Nat.le_of_ble_eq_true rfl⟩ rfl hl.1 (Nat.le_of_ble_eq_true rfl) dd_M_join_55 ⟨Nat.le_refl _, Nat.le_refl _⟩ rfl (fun M_6 H locs hw hS => ?_)
          have hm_M_6 := hS.2.2.2
          refine lv_aload_n hx hb dd_M_join_58 rfl (lv_at hl 0 rfl) ?_
          refine x_callVv hC hS (As := []) (rest := []) hM0.1 rfl cv_M_closeGroup (mt_M_closeGroup l X hC.2.2.1 hM0  M_6 hm_M_6 _ _ hw) tb_487 rfl rfl ⟨Nat.le_of_ble_eq_true rfl, Nat.le_of_ble_eq_true rfl⟩ rfl hl.1 (Nat.le_of_ble_eq_true rfl) dd_M_join_59 ⟨Nat.le_refl _, Nat.le_refl _⟩ rfl (fun M_7 H locs hw hS => ?_)
          have hm_M_7 := hS.2.2.2
          refine x_iconst hC dd_M_join_62 ?_
          refine lv_istore_n (lv' := [(2, .int (iI 0)), (0, .ref (xA X 30)), (1, .int (iI r11))]) hx hb dd_M_join_63 rfl hl (by decide) rfl (fun ls hl => ?_)
          obtain ⟨I64, ⟨n0, hI⟩, hstep_I64⟩ := hw
          have lp_I64 : ∀ (n64 : Nat) (x2_64 : Int) (M64 : Mm) (H : Heap) (locs : List Loc) (ls : Array Slot), I64 n64 x2_64 M64 → inR x2_64 → St X (xF X sz) s M64 H locs → lv_has ls 3 [(0, .ref (xA X 30)), (2, .int (iI x2_64))] → W p l e ({ frames := 4, cells := 0, slots := 0, locals := 90 } : Room) s m ([.ref (xA X 30)] : List Value).toArray below meth c H locs 0 0 (MQ below (Qi X sz post) ([.ref (xA X 30)] : List Value).toArray s 0 0 (xF X sz)) (F0 m 64 ls []) := by
            intro n64
            induction n64 using Nat.strongRecOn with
            | _ n64 ih_I64 =>
              intro x2_64 M64 H locs ls hI rx2_64 hS hl
              have hw := hstep_I64 n64 x2_64 M64 hI
              have hm_M64 := hS.2.2.2
              refine lv_iload_n hx hb dd_M_join_64 rfl (lv_at hl 1 rfl) ?_
              refine x_sipush hC dd_M_join_65 (by decide) ?_
              refine x_icmp_ge hC rx2_64 (rk rfl) (tgt := 112) dd_M_join_68 (by decide) (fun c8 => ?_) (fun c8 => ?_)
              · have hw := hw.1 c8
                refine lv_aload_n hx hb dd_M_join_112 rfl (lv_at hl 0 rfl) ?_
                refine x_iconst hC dd_M_join_113 ?_
                refine x_put hC hS hM0.1 rfl iw_M fy_M fk_M fn_M 4 (by decide) tb_519 rfl (rk rfl) rfl rfl (ps_M_4 _ _ _) (Nat.le_of_ble_eq_true rfl) dd_M_join_114 (fun H locs hS => ?_)
                obtain ⟨M_9, eM_9⟩ : ∃ Z : Mm, Z = ms M64 30 4 0 := ⟨_, rfl⟩
                rw [← eM_9] at hS
                have hw := hw M_9 eM_9
                have hm_M_9 := hS.2.2.2
                refine lv_aload_n hx hb dd_M_join_117 rfl (lv_at hl 0 rfl) ?_
                refine x_get hC hS hM0.1 rfl iw_M 12 (by decide) tb_527 rfl rfl dd_M_join_118 ?_
                exact x_iret hC hS hlocks hr (hm_M_9 30 12) hw dd_M_join_121
              · have hw := hw.2 c8
                refine lv_aload_n hx hb dd_M_join_71 rfl (lv_at hl 0 rfl) ?_
                refine x_get hC hS hM0.1 rfl iw_M 13 (by decide) tb_528 rfl rfl dd_M_join_72 ?_
                refine lv_iload_n hx hb dd_M_join_75 rfl (lv_at hl 1 rfl) ?_
                obtain ⟨q10, hw⟩ := hw
                refine x_iald hC hS hM0.2.2.2.2.2.2.2.2.2.2.1 q10 dd_M_join_76 ?_
                refine x_nm (hm_M64 40 _) (fun z11 rz11 ez11 => ?_)
                have hw := hw z11 ez11
                refine x_iconst hC dd_M_join_77 ?_
                have hw := hw (fun (M106 : Mm) => ∀ (H : Heap) (locs : List Loc) (ls : Array Slot), St X (xF X sz) s M106 H locs → lv_has ls 3 [(0, .ref (xA X 30)), (2, .int (iI x2_64))] → W p l e ({ frames := 4, cells := 0, slots := 0, locals := 90 } : Room) s m ([.ref (xA X 30)] : List Value).toArray below meth c H locs 0 0 (MQ below (Qi X sz post) ([.ref (xA X 30)] : List Value).toArray s 0 0 (xF X sz)) (F0 m 106 ls [])) (by
                    intro M106 hw H locs ls  hS hl
                    have hm_M106 := hS.2.2.2
                    obtain ⟨hr_, hw⟩ := hw
                    obtain ⟨v2_106, rv2_106, ev2_106⟩ : ∃ z : Int, inR z ∧ z = x2_64 + 1 := ⟨_, hr_, rfl⟩
                    have hw := hw v2_106 ev2_106
                    refine lv_iinc (v := iI v2_106) (lv' := [(2, .int (iI v2_106)), (0, .ref (xA X 30))]) hx hb dd_M_join_106 hl (k := 1) rfl (by rw [ev2_106]; exact iI_add _ _) (by decide) rfl (fun ls hl => ?_)
                    refine lv_goto (tgt := 64) hx hb dd_M_join_109 (by decide) ?_
                    obtain ⟨k_12, h13, hI⟩ := hw
                    exact ih_I64 k_12 h13 v2_106 M106 _ _ _ hI rv2_106 hS (lv_sub hl [1, 0] rfl))
                refine x_icmp_ne hC rz11 (rk rfl) (tgt := 106) dd_M_join_78 (by decide) (fun c14 => ?_) (fun c14 => ?_)
                · have hw := hw.1 c14
                  exact hw _ _ _  hS (lv_sub hl [0, 1] rfl)
                · have hw := hw.2 c14
                  refine lv_aload_n hx hb dd_M_join_81 rfl (lv_at hl 0 rfl) ?_
                  refine x_get hC hS hM0.1 rfl iw_M 0 (by decide) tb_515 rfl rfl dd_M_join_82 ?_
                  refine x_bipush hC dd_M_join_85 (by decide) ?_
                  refine lv_iload_n hx hb dd_M_join_87 rfl (lv_at hl 1 rfl) ?_
                  obtain ⟨q15, hw⟩ := hw
                  refine x_add hC dd_M_join_88 ?_
                  obtain ⟨q16, hw⟩ := hw
                  refine x_iald hC hS hM0.2.1 q16 dd_M_join_89 ?_
                  refine x_nm (hm_M64 31 _) (fun z17 rz17 ez17 => ?_)
                  have hw := hw z17 ez17
                  refine x_if_ne hC rz17 (tgt := 106) dd_M_join_90 (by decide) (fun c18 => ?_) (fun c18 => ?_)
                  · have hw := hw.1 c18
                    exact hw _ _ _  hS (lv_sub hl [0, 1] rfl)
                  · have hw := hw.2 c18
                    refine lv_aload_n hx hb dd_M_join_93 rfl (lv_at hl 0 rfl) ?_
                    refine lv_iload_n hx hb dd_M_join_94 rfl (lv_at hl 1 rfl) ?_
                    refine x_callVv hC hS (As := [.int (iI x2_64)]) (rest := []) hM0.1 rfl cv_M_layRank (mt_M_layRank l X hC.2.2.1 hM0 x2_64 rx2_64 M64 hm_M64 _ _ hw) tb_507 rfl rfl ⟨Nat.le_of_ble_eq_true rfl, Nat.le_of_ble_eq_true rfl⟩ rfl hl.1 (Nat.le_of_ble_eq_true rfl) dd_M_join_95 ⟨Nat.le_refl _, Nat.le_refl _⟩ rfl (fun M_19 H locs hw hS => ?_)
                    have hm_M_19 := hS.2.2.2
                    refine lv_aload_n hx hb dd_M_join_98 rfl (lv_at hl 0 rfl) ?_
                    refine x_callVv hC hS (As := []) (rest := []) hM0.1 rfl cv_M_addMaker (mt_M_addMaker l X hC.2.2.1 hM0  M_19 hm_M_19 _ _ hw) tb_618 rfl rfl ⟨Nat.le_of_ble_eq_true rfl, Nat.le_of_ble_eq_true rfl⟩ rfl hl.1 (Nat.le_of_ble_eq_true rfl) dd_M_join_99 ⟨Nat.le_refl _, Nat.le_refl _⟩ rfl (fun M_20 H locs hw hS => ?_)
                    have hm_M_20 := hS.2.2.2
                    refine lv_aload_n hx hb dd_M_join_102 rfl (lv_at hl 0 rfl) ?_
                    refine x_callVv hC hS (As := []) (rest := []) hM0.1 rfl cv_M_closeGroup (mt_M_closeGroup l X hC.2.2.1 hM0  M_20 hm_M_20 _ _ hw) tb_487 rfl rfl ⟨Nat.le_of_ble_eq_true rfl, Nat.le_of_ble_eq_true rfl⟩ rfl hl.1 (Nat.le_of_ble_eq_true rfl) dd_M_join_103 ⟨Nat.le_refl _, Nat.le_refl _⟩ rfl (fun M_21 H locs hw hS => ?_)
                    have hm_M_21 := hS.2.2.2
                    exact hw _ _ _  hS (lv_sub hl [0, 1] rfl)
          exact lp_I64 n0 0 M_7 _ _ _ hI (rk rfl) hS (lv_sub hl [1, 0] rfl)
        · have hw := hw.2 c3
          refine lv_aload_n hx hb dd_M_join_24 rfl (lv_at hl 0 rfl) ?_
          refine x_get hC hS hM0.1 rfl iw_M 13 (by decide) tb_528 rfl rfl dd_M_join_25 ?_
          refine lv_iload_n hx hb dd_M_join_28 rfl (lv_at hl 2 rfl) ?_
          refine lv_aload_n hx hb dd_M_join_29 rfl (lv_at hl 0 rfl) ?_
          refine x_get hC hS hM0.1 rfl iw_M 0 (by decide) tb_515 rfl rfl dd_M_join_30 ?_
          refine x_bipush hC dd_M_join_33 (by decide) ?_
          refine lv_iload_n hx hb dd_M_join_35 rfl (lv_at hl 2 rfl) ?_
          obtain ⟨q22, hw⟩ := hw
          refine x_add hC dd_M_join_36 ?_
          obtain ⟨q23, hw⟩ := hw
          refine x_iald hC hS hM0.2.1 q23 dd_M_join_37 ?_
          refine x_nm (hm_M17 31 _) (fun z24 rz24 ez24 => ?_)
          have hw := hw z24 ez24
          obtain ⟨q25, hw⟩ := hw
          refine x_iast hC hS hM0.2.2.2.2.2.2.2.2.2.2.1 q25 rz24 dd_M_join_38 (fun H locs hS => ?_)
          obtain ⟨M_26, eM_26⟩ : ∃ Z : Mm, Z = ms M17 40 (x2_17).toNat z24 := ⟨_, rfl⟩
          rw [← eM_26] at hS
          have hw := hw M_26 eM_26
          have hm_M_26 := hS.2.2.2
          obtain ⟨hr_, hw⟩ := hw
          obtain ⟨v2_39, rv2_39, ev2_39⟩ : ∃ z : Int, inR z ∧ z = x2_17 + 1 := ⟨_, hr_, rfl⟩
          have hw := hw v2_39 ev2_39
          refine lv_iinc (v := iI v2_39) (lv' := [(2, .int (iI v2_39)), (0, .ref (xA X 30)), (1, .int (iI r11))]) hx hb dd_M_join_39 hl (k := 2) rfl (by rw [ev2_39]; exact iI_add _ _) (by decide) rfl (fun ls hl => ?_)
          refine lv_goto (tgt := 17) hx hb dd_M_join_42 (by decide) ?_
          obtain ⟨k_27, h28, hI⟩ := hw
          exact ih_I17 k_27 h28 v2_39 M_26 _ _ _ hI rv2_39 hS (lv_sub hl [1, 2, 0] rfl)
    exact lp_I17 n0 0 M_1 _ _ _ hI (rk rfl) hS (lv_sub hl [2, 1, 0] rfl)
  · have hw := hw.2 c2
    refine x_bipush hC dd_M_join_7 (by decide) ?_
    exact x_iret hC hS hlocks hr (rk rfl) hw dd_M_join_9
def wp_M_typeOfRow (M : Mm) (post : Int → Mm → Prop) : Prop :=
  ∃ I2 : Nat → Int → Mm → Prop, (∃ n, I2 n 0 M) ∧ ∀ (n2 : Nat) (x1_2 : Int) (M2 : Mm), I2 n2 x1_2 M2 →
    ((8 ≤ x1_2 → ∃ I25 : Nat → Int → Int → Mm → Prop, (∃ n, I25 n 0 0 M2) ∧ ∀ (n25 : Nat) (x1_25 : Int) (x2_25 : Int) (M25 : Mm), I25 n25 x1_25 x2_25 M25 →
          (wp_M_many M25 (fun (r27 : Int) => (r27 ≤ x2_25 → ∃ I90 : Nat → Int → Int → Prop, (∃ n, I90 n 0 7) ∧ ∀ (n90 : Nat) (x2_90 : Int) (x3_90 : Int), I90 n90 x2_90 x3_90 →
                ((x3_90 ≤ 0 → post x2_90 M25) ∧
                  (¬ x3_90 ≤ 0 → ∃ I97 : Nat → Int → Int → Prop, (∃ n, I97 n x2_90 0) ∧ ∀ (n97 : Nat) (x2_97 : Int) (x4_97 : Int), I97 n97 x2_97 x4_97 →
                      ((0 ≤ x3_90 ∧ x3_90 < 8) ∧ ∀ z5 : Int, z5 = M25 41 (x3_90).toNat → (z5 ≤ x4_97 → inR (x3_90 + (-1)) ∧ ∀ v3_121 : Int, v3_121 = x3_90 + (-1) → ∃ k_7, k_7 < n90 ∧ I90 k_7 x2_97 v3_121) ∧
                        (¬ z5 ≤ x4_97 → inR (10 * x2_97) ∧ inR ((10 * x2_97) + x3_90) ∧ ∀ v2_114 : Int, v2_114 = ((10 * x2_97) + x3_90) → inR (x4_97 + 1) ∧ ∀ v4_115 : Int, v4_115 = x4_97 + 1 → ∃ k_11, k_11 < n97 ∧ I97 k_11 v2_114 v4_115))))) ∧
            (¬ r27 ≤ x2_25 → ∃ I38 : Nat → Int → Int → Int → Prop, (∃ n, I38 n x1_25 0 x2_25) ∧ ∀ (n38 : Nat) (x1_38 : Int) (x3_38 : Int) (x4_38 : Int), I38 n38 x1_38 x3_38 x4_38 →
                ((¬ (bAnd (bShr x1_38 x4_38) 1) = 0 → (0 ≤ x3_38 ∧ x3_38 < 8) ∧ ∀ z15 : Int, z15 = M25 41 (x3_38).toNat → inR (z15 + 1) ∧ (0 ≤ x3_38 ∧ x3_38 < 8) ∧ ∀ M_18 : Mm, M_18 = ms M25 41 (x3_38).toNat (z15 + 1) → inR (x2_25 + 1) ∧ ∀ v2_79 : Int, v2_79 = x2_25 + 1 → ∃ k_19, k_19 < n25 ∧ I25 k_19 x1_38 v2_79 M_18) ∧
                  ((bAnd (bShr x1_38 x4_38) 1) = 0 → ∀ v1_53 : Int, v1_53 = (bOr x1_38 (bShl 1 x4_38)) → inR (x3_38 + 1) ∧ ∀ v3_54 : Int, v3_54 = x3_38 + 1 → (0 ≤ x4_38 ∧ x4_38 < 7) ∧ ∀ z22 : Int, z22 = M25 35 (x4_38).toNat → ∃ k_23, k_23 < n38 ∧ I38 k_23 v1_53 v3_54 z22)))))) ∧
      (¬ 8 ≤ x1_2 → (0 ≤ x1_2 ∧ x1_2 < 8) ∧ ∀ M_26 : Mm, M_26 = ms M2 41 (x1_2).toNat 0 → inR (x1_2 + 1) ∧ ∀ v1_15 : Int, v1_15 = x1_2 + 1 → ∃ k_27, k_27 < n2 ∧ I2 k_27 v1_15 M_26))
set_option maxHeartbeats 4000000 in
set_option maxRecDepth 100000 in
theorem mt_M_typeOfRow (l : Launch) (X : Xw) (hlc : lcl X)(hM0 : IsM X) (M : Mm) (hm_M : mr M) (post : Int → Mm → Prop) (sz : Nat) (hw : wp_M_typeOfRow M post) : Met l yy_M_typeOfRow (Cond.code yy_M_typeOfRow bc_M_typeOfRow 5 (some .int) :: tg) ({ frames := 1, cells := 0, slots := 0, locals := 20 } : Room) (Pw X [.ref (xA X 30)] M sz) (Qi X sz post) 0 0 (xF X sz) := by
  unfold wp_M_typeOfRow at hw
  refine x_enter (by decide) hlc hm_M (Nat.le_of_ble_eq_true rfl) ?_
  intro p e s m below meth c ls hC hsz hr hlocks hS hl
  have hx := hC.1.1
  have hb := hC.1.2.1
  have hl : lv_has ls 5 [(0, .ref (xA X 30))] := hl
  refine x_iconst hC dd_M_typeOfRow_0 ?_
  refine lv_istore_n (lv' := [(1, .int (iI 0)), (0, .ref (xA X 30))]) hx hb dd_M_typeOfRow_1 rfl hl (by decide) rfl (fun ls hl => ?_)
  obtain ⟨I2, ⟨n0, hI⟩, hstep_I2⟩ := hw
  have lp_I2 : ∀ (n2 : Nat) (x1_2 : Int) (M2 : Mm) (H : Heap) (locs : List Loc) (ls : Array Slot), I2 n2 x1_2 M2 → inR x1_2 → St X (xF X sz) s M2 H locs → lv_has ls 5 [(0, .ref (xA X 30)), (1, .int (iI x1_2))] → W p l e ({ frames := 1, cells := 0, slots := 0, locals := 20 } : Room) s m ([.ref (xA X 30)] : List Value).toArray below meth c H locs 0 0 (MQ below (Qi X sz post) ([.ref (xA X 30)] : List Value).toArray s 0 0 (xF X sz)) (F0 m 2 ls []) := by
    intro n2
    induction n2 using Nat.strongRecOn with
    | _ n2 ih_I2 =>
      intro x1_2 M2 H locs ls hI rx1_2 hS hl
      have hw := hstep_I2 n2 x1_2 M2 hI
      have hm_M2 := hS.2.2.2
      refine lv_iload_n hx hb dd_M_typeOfRow_2 rfl (lv_at hl 1 rfl) ?_
      refine x_bipush hC dd_M_typeOfRow_3 (by decide) ?_
      refine x_icmp_ge hC rx1_2 (rk rfl) (tgt := 21) dd_M_typeOfRow_5 (by decide) (fun c1 => ?_) (fun c1 => ?_)
      · have hw := hw.1 c1
        refine x_iconst hC dd_M_typeOfRow_21 ?_
        refine lv_istore_n (lv' := [(1, .int (iI 0)), (0, .ref (xA X 30))]) hx hb dd_M_typeOfRow_22 rfl hl (by decide) rfl (fun ls hl => ?_)
        refine x_iconst hC dd_M_typeOfRow_23 ?_
        refine lv_istore_n (lv' := [(2, .int (iI 0)), (1, .int (iI 0)), (0, .ref (xA X 30))]) hx hb dd_M_typeOfRow_24 rfl hl (by decide) rfl (fun ls hl => ?_)
        obtain ⟨I25, ⟨n0, hI⟩, hstep_I25⟩ := hw
        have lp_I25 : ∀ (n25 : Nat) (x1_25 : Int) (x2_25 : Int) (M25 : Mm) (H : Heap) (locs : List Loc) (ls : Array Slot), I25 n25 x1_25 x2_25 M25 → inR x1_25 → inR x2_25 → St X (xF X sz) s M25 H locs → lv_has ls 5 [(0, .ref (xA X 30)), (1, .int (iI x1_25)), (2, .int (iI x2_25))] → W p l e ({ frames := 1, cells := 0, slots := 0, locals := 20 } : Room) s m ([.ref (xA X 30)] : List Value).toArray below meth c H locs 0 0 (MQ below (Qi X sz post) ([.ref (xA X 30)] : List Value).toArray s 0 0 (xF X sz)) (F0 m 25 ls []) := by
          intro n25
          induction n25 using Nat.strongRecOn with
          | _ n25 ih_I25 =>
            intro x1_25 x2_25 M25 H locs ls hI rx1_25 rx2_25 hS hl
            have hw := hstep_I25 n25 x1_25 x2_25 M25 hI
            have hm_M25 := hS.2.2.2
            refine lv_iload_n hx hb dd_M_typeOfRow_25 rfl (lv_at hl 2 rfl) ?_
            refine lv_aload_n hx hb dd_M_typeOfRow_26 rfl (lv_at hl 0 rfl) ?_
            refine x_callVi hC hS (As := []) (rest := [.int (iI x2_25)]) hM0.1 rfl cv_M_many (mt_M_many l X hC.2.2.1 hM0  M25 hm_M25 _ _ hw) tb_495 rfl rfl ⟨Nat.le_of_ble_eq_true rfl, Nat.le_of_ble_eq_true rfl⟩ rfl hl.1 (Nat.le_of_ble_eq_true rfl) dd_M_typeOfRow_27 ⟨Nat.le_refl _, Nat.le_refl _⟩ rfl (fun r27 Mx H locs rr27 hp hS => ?_)
            obtain ⟨hq, hw⟩ := hp
            rw [hq] at hS
            refine x_icmp_ge hC rx2_25 rr27 (tgt := 85) dd_M_typeOfRow_30 (by decide) (fun c2 => ?_) (fun c2 => ?_)
            · have hw := hw.1 c2
              refine x_iconst hC dd_M_typeOfRow_85 ?_
              refine lv_istore_n (lv' := [(2, .int (iI 0)), (0, .ref (xA X 30)), (1, .int (iI x1_25))]) hx hb dd_M_typeOfRow_86 rfl hl (by decide) rfl (fun ls hl => ?_)
              refine x_bipush hC dd_M_typeOfRow_87 (by decide) ?_
              refine lv_istore_n (lv' := [(3, .int (iI 7)), (2, .int (iI 0)), (0, .ref (xA X 30)), (1, .int (iI x1_25))]) hx hb dd_M_typeOfRow_89 rfl hl (by decide) rfl (fun ls hl => ?_)
              obtain ⟨I90, ⟨n0, hI⟩, hstep_I90⟩ := hw
              have lp_I90 : ∀ (n90 : Nat) (x2_90 : Int) (x3_90 : Int) (H : Heap) (locs : List Loc) (ls : Array Slot), I90 n90 x2_90 x3_90 → inR x2_90 → inR x3_90 → St X (xF X sz) s M25 H locs → lv_has ls 5 [(0, .ref (xA X 30)), (2, .int (iI x2_90)), (3, .int (iI x3_90))] → W p l e ({ frames := 1, cells := 0, slots := 0, locals := 20 } : Room) s m ([.ref (xA X 30)] : List Value).toArray below meth c H locs 0 0 (MQ below (Qi X sz post) ([.ref (xA X 30)] : List Value).toArray s 0 0 (xF X sz)) (F0 m 90 ls []) := by
                intro n90
                induction n90 using Nat.strongRecOn with
                | _ n90 ih_I90 =>
                  intro x2_90 x3_90 H locs ls hI rx2_90 rx3_90 hS hl
                  have hw := hstep_I90 n90 x2_90 x3_90 hI
                  refine lv_iload_n hx hb dd_M_typeOfRow_90 rfl (lv_at hl 2 rfl) ?_
                  refine x_if_le hC rx3_90 (tgt := 127) dd_M_typeOfRow_91 (by decide) (fun c3 => ?_) (fun c3 => ?_)
                  · have hw := hw.1 c3
                    refine lv_iload_n hx hb dd_M_typeOfRow_127 rfl (lv_at hl 1 rfl) ?_
                    exact x_iret hC hS hlocks hr rx2_90 hw dd_M_typeOfRow_128
                  · have hw := hw.2 c3
                    refine x_iconst hC dd_M_typeOfRow_94 ?_
                    refine lv_istore (lv' := [(4, .int (iI 0)), (0, .ref (xA X 30)), (2, .int (iI x2_90)), (3, .int (iI x3_90))]) hx hb dd_M_typeOfRow_95 hl (by decide) rfl (fun ls hl => ?_)
                    obtain ⟨I97, ⟨n0, hI⟩, hstep_I97⟩ := hw
                    have lp_I97 : ∀ (n97 : Nat) (x2_97 : Int) (x4_97 : Int) (H : Heap) (locs : List Loc) (ls : Array Slot), I97 n97 x2_97 x4_97 → inR x2_97 → inR x4_97 → St X (xF X sz) s M25 H locs → lv_has ls 5 [(0, .ref (xA X 30)), (2, .int (iI x2_97)), (3, .int (iI x3_90)), (4, .int (iI x4_97))] → W p l e ({ frames := 1, cells := 0, slots := 0, locals := 20 } : Room) s m ([.ref (xA X 30)] : List Value).toArray below meth c H locs 0 0 (MQ below (Qi X sz post) ([.ref (xA X 30)] : List Value).toArray s 0 0 (xF X sz)) (F0 m 97 ls []) := by
                      intro n97
                      induction n97 using Nat.strongRecOn with
                      | _ n97 ih_I97 =>
                        intro x2_97 x4_97 H locs ls hI rx2_97 rx4_97 hS hl
                        have hw := hstep_I97 n97 x2_97 x4_97 hI
                        refine lv_iload hx hb dd_M_typeOfRow_97 (lv_at hl 3 rfl) ?_
                        refine lv_aload_n hx hb dd_M_typeOfRow_99 rfl (lv_at hl 0 rfl) ?_
                        refine x_get hC hS hM0.1 rfl iw_M 14 (by decide) tb_529 rfl rfl dd_M_typeOfRow_100 ?_
                        refine lv_iload_n hx hb dd_M_typeOfRow_103 rfl (lv_at hl 2 rfl) ?_
                        obtain ⟨q4, hw⟩ := hw
                        refine x_iald hC hS hM0.2.2.2.2.2.2.2.2.2.2.2.1 q4 dd_M_typeOfRow_104 ?_
                        refine x_nm (hm_M25 41 _) (fun z5 rz5 ez5 => ?_)
                        have hw := hw z5 ez5
                        refine x_icmp_ge hC rx4_97 rz5 (tgt := 121) dd_M_typeOfRow_105 (by decide) (fun c6 => ?_) (fun c6 => ?_)
                        · have hw := hw.1 c6
                          obtain ⟨hr_, hw⟩ := hw
                          obtain ⟨v3_121, rv3_121, ev3_121⟩ : ∃ z : Int, inR z ∧ z = x3_90 + (-1) := ⟨_, hr_, rfl⟩
                          have hw := hw v3_121 ev3_121
                          refine lv_iinc (v := iI v3_121) (lv' := [(3, .int (iI v3_121)), (0, .ref (xA X 30)), (2, .int (iI x2_97)), (4, .int (iI x4_97))]) hx hb dd_M_typeOfRow_121 hl (k := 2) rfl (by rw [ev3_121]; exact iI_add _ _) (by decide) rfl (fun ls hl => ?_)
                          refine lv_goto (tgt := 90) hx hb dd_M_typeOfRow_124 (by decide) ?_
                          obtain ⟨k_7, h8, hI⟩ := hw
                          exact ih_I90 k_7 h8 x2_97 v3_121 _ _ _ hI rx2_97 rv3_121 hS (lv_sub hl [1, 2, 0] rfl)
                        · have hw := hw.2 c6
                          refine x_bipush hC dd_M_typeOfRow_108 (by decide) ?_
                          refine lv_iload_n hx hb dd_M_typeOfRow_110 rfl (lv_at hl 1 rfl) ?_
                          obtain ⟨q9, hw⟩ := hw
                          refine x_mul hC dd_M_typeOfRow_111 ?_
                          refine lv_iload_n hx hb dd_M_typeOfRow_112 rfl (lv_at hl 2 rfl) ?_
                          obtain ⟨q10, hw⟩ := hw
                          refine x_add hC dd_M_typeOfRow_113 ?_
                          refine x_nm q10 (fun v2_114 rv2_114 ev2_114 => ?_)
                          have hw := hw v2_114 ev2_114
                          refine lv_istore_n (lv' := [(2, .int (iI v2_114)), (0, .ref (xA X 30)), (3, .int (iI x3_90)), (4, .int (iI x4_97))]) hx hb dd_M_typeOfRow_114 rfl hl (by decide) rfl (fun ls hl => ?_)
                          obtain ⟨hr_, hw⟩ := hw
                          obtain ⟨v4_115, rv4_115, ev4_115⟩ : ∃ z : Int, inR z ∧ z = x4_97 + 1 := ⟨_, hr_, rfl⟩
                          have hw := hw v4_115 ev4_115
                          refine lv_iinc (v := iI v4_115) (lv' := [(4, .int (iI v4_115)), (2, .int (iI v2_114)), (0, .ref (xA X 30)), (3, .int (iI x3_90))]) hx hb dd_M_typeOfRow_115 hl (k := 3) rfl (by rw [ev4_115]; exact iI_add _ _) (by decide) rfl (fun ls hl => ?_)
                          refine lv_goto (tgt := 97) hx hb dd_M_typeOfRow_118 (by decide) ?_
                          obtain ⟨k_11, h12, hI⟩ := hw
                          exact ih_I97 k_11 h12 v2_114 v4_115 _ _ _ hI rv2_114 rv4_115 hS (lv_sub hl [2, 1, 3, 0] rfl)
                    exact lp_I97 n0 x2_90 0 _ _ _ hI rx2_90 (rk rfl) hS (lv_sub hl [1, 2, 3, 0] rfl)
              exact lp_I90 n0 0 7 _ _ _ hI (rk rfl) (rk rfl) hS (lv_sub hl [2, 1, 0] rfl)
            · have hw := hw.2 c2
              refine x_iconst hC dd_M_typeOfRow_33 ?_
              refine lv_istore_n (lv' := [(3, .int (iI 0)), (0, .ref (xA X 30)), (1, .int (iI x1_25)), (2, .int (iI x2_25))]) hx hb dd_M_typeOfRow_34 rfl hl (by decide) rfl (fun ls hl => ?_)
              refine lv_iload_n hx hb dd_M_typeOfRow_35 rfl (lv_at hl 3 rfl) ?_
              refine lv_istore (lv' := [(4, .int (iI x2_25)), (3, .int (iI 0)), (0, .ref (xA X 30)), (1, .int (iI x1_25)), (2, .int (iI x2_25))]) hx hb dd_M_typeOfRow_36 hl (by decide) rfl (fun ls hl => ?_)
              obtain ⟨I38, ⟨n0, hI⟩, hstep_I38⟩ := hw
              have lp_I38 : ∀ (n38 : Nat) (x1_38 : Int) (x3_38 : Int) (x4_38 : Int) (H : Heap) (locs : List Loc) (ls : Array Slot), I38 n38 x1_38 x3_38 x4_38 → inR x1_38 → inR x3_38 → inR x4_38 → St X (xF X sz) s M25 H locs → lv_has ls 5 [(0, .ref (xA X 30)), (1, .int (iI x1_38)), (2, .int (iI x2_25)), (3, .int (iI x3_38)), (4, .int (iI x4_38))] → W p l e ({ frames := 1, cells := 0, slots := 0, locals := 20 } : Room) s m ([.ref (xA X 30)] : List Value).toArray below meth c H locs 0 0 (MQ below (Qi X sz post) ([.ref (xA X 30)] : List Value).toArray s 0 0 (xF X sz)) (F0 m 38 ls []) := by
                intro n38
                induction n38 using Nat.strongRecOn with
                | _ n38 ih_I38 =>
                  intro x1_38 x3_38 x4_38 H locs ls hI rx1_38 rx3_38 rx4_38 hS hl
                  have hw := hstep_I38 n38 x1_38 x3_38 x4_38 hI
                  refine lv_iload_n hx hb dd_M_typeOfRow_38 rfl (lv_at hl 1 rfl) ?_
                  refine lv_iload hx hb dd_M_typeOfRow_39 (lv_at hl 4 rfl) ?_
                  refine x_shr hC dd_M_typeOfRow_41 ?_
                  refine x_iconst hC dd_M_typeOfRow_42 ?_
                  refine x_and hC dd_M_typeOfRow_43 ?_
                  refine x_if_ne hC (rng _) (tgt := 69) dd_M_typeOfRow_44 (by decide) (fun c13 => ?_) (fun c13 => ?_)
                  · have hw := hw.1 c13
                    refine lv_aload_n hx hb dd_M_typeOfRow_69 rfl (lv_at hl 0 rfl) ?_
                    refine x_get hC hS hM0.1 rfl iw_M 14 (by decide) tb_529 rfl rfl dd_M_typeOfRow_70 ?_
                    refine lv_iload_n hx hb dd_M_typeOfRow_73 rfl (lv_at hl 3 rfl) ?_
                    refine lv_dup2_11 hx hb dd_M_typeOfRow_74 rfl rfl ?_
                    obtain ⟨q14, hw⟩ := hw
                    refine x_iald hC hS hM0.2.2.2.2.2.2.2.2.2.2.2.1 q14 dd_M_typeOfRow_75 ?_
                    refine x_nm (hm_M25 41 _) (fun z15 rz15 ez15 => ?_)
                    have hw := hw z15 ez15
                    refine x_iconst hC dd_M_typeOfRow_76 ?_
                    obtain ⟨q16, hw⟩ := hw
                    refine x_add hC dd_M_typeOfRow_77 ?_
                    obtain ⟨q17, hw⟩ := hw
                    refine x_iast hC hS hM0.2.2.2.2.2.2.2.2.2.2.2.1 q17 q16 dd_M_typeOfRow_78 (fun H locs hS => ?_)
                    obtain ⟨M_18, eM_18⟩ : ∃ Z : Mm, Z = ms M25 41 (x3_38).toNat (z15 + 1) := ⟨_, rfl⟩
                    rw [← eM_18] at hS
                    have hw := hw M_18 eM_18
                    have hm_M_18 := hS.2.2.2
                    obtain ⟨hr_, hw⟩ := hw
                    obtain ⟨v2_79, rv2_79, ev2_79⟩ : ∃ z : Int, inR z ∧ z = x2_25 + 1 := ⟨_, hr_, rfl⟩
                    have hw := hw v2_79 ev2_79
                    refine lv_iinc (v := iI v2_79) (lv' := [(2, .int (iI v2_79)), (0, .ref (xA X 30)), (1, .int (iI x1_38)), (3, .int (iI x3_38)), (4, .int (iI x4_38))]) hx hb dd_M_typeOfRow_79 hl (k := 2) rfl (by rw [ev2_79]; exact iI_add _ _) (by decide) rfl (fun ls hl => ?_)
                    refine lv_goto (tgt := 25) hx hb dd_M_typeOfRow_82 (by decide) ?_
                    obtain ⟨k_19, h20, hI⟩ := hw
                    exact ih_I25 k_19 h20 x1_38 v2_79 M_18 _ _ _ hI rx1_38 rv2_79 hS (lv_sub hl [1, 2, 0] rfl)
                  · have hw := hw.2 c13
                    refine lv_iload_n hx hb dd_M_typeOfRow_47 rfl (lv_at hl 1 rfl) ?_
                    refine x_iconst hC dd_M_typeOfRow_48 ?_
                    refine lv_iload hx hb dd_M_typeOfRow_49 (lv_at hl 4 rfl) ?_
                    refine x_shl hC dd_M_typeOfRow_51 ?_
                    refine x_or hC dd_M_typeOfRow_52 ?_
                    refine x_nm (rng _) (fun v1_53 rv1_53 ev1_53 => ?_)
                    have hw := hw v1_53 ev1_53
                    refine lv_istore_n (lv' := [(1, .int (iI v1_53)), (0, .ref (xA X 30)), (2, .int (iI x2_25)), (3, .int (iI x3_38)), (4, .int (iI x4_38))]) hx hb dd_M_typeOfRow_53 rfl hl (by decide) rfl (fun ls hl => ?_)
                    obtain ⟨hr_, hw⟩ := hw
                    obtain ⟨v3_54, rv3_54, ev3_54⟩ : ∃ z : Int, inR z ∧ z = x3_38 + 1 := ⟨_, hr_, rfl⟩
                    have hw := hw v3_54 ev3_54
                    refine lv_iinc (v := iI v3_54) (lv' := [(3, .int (iI v3_54)), (1, .int (iI v1_53)), (0, .ref (xA X 30)), (2, .int (iI x2_25)), (4, .int (iI x4_38))]) hx hb dd_M_typeOfRow_54 hl (k := 3) rfl (by rw [ev3_54]; exact iI_add _ _) (by decide) rfl (fun ls hl => ?_)
                    refine lv_aload_n hx hb dd_M_typeOfRow_57 rfl (lv_at hl 2 rfl) ?_
                    refine x_get hC hS hM0.1 rfl iw_M 5 (by decide) tb_520 rfl rfl dd_M_typeOfRow_58 ?_
                    refine lv_iload hx hb dd_M_typeOfRow_61 (lv_at hl 4 rfl) ?_
                    obtain ⟨q21, hw⟩ := hw
                    refine x_iald hC hS hM0.2.2.2.2.2.1 q21 dd_M_typeOfRow_63 ?_
                    refine x_nm (hm_M25 35 _) (fun z22 rz22 ez22 => ?_)
                    have hw := hw z22 ez22
                    refine lv_istore (lv' := [(4, .int (iI z22)), (3, .int (iI v3_54)), (1, .int (iI v1_53)), (0, .ref (xA X 30)), (2, .int (iI x2_25))]) hx hb dd_M_typeOfRow_64 hl (by decide) rfl (fun ls hl => ?_)
                    refine lv_goto (tgt := 38) hx hb dd_M_typeOfRow_66 (by decide) ?_
                    obtain ⟨k_23, h24, hI⟩ := hw
                    exact ih_I38 k_23 h24 v1_53 v3_54 z22 _ _ _ hI rv1_53 rv3_54 rz22 hS (lv_sub hl [3, 2, 4, 1, 0] rfl)
              exact lp_I38 n0 x1_25 0 x2_25 _ _ _ hI rx1_25 (rk rfl) rx2_25 hS (lv_sub hl [2, 3, 4, 1, 0] rfl)
        exact lp_I25 n0 0 0 M2 _ _ _ hI (rk rfl) (rk rfl) hS (lv_sub hl [2, 1, 0] rfl)
      · have hw := hw.2 c1
        refine lv_aload_n hx hb dd_M_typeOfRow_8 rfl (lv_at hl 0 rfl) ?_
        refine x_get hC hS hM0.1 rfl iw_M 14 (by decide) tb_529 rfl rfl dd_M_typeOfRow_9 ?_
        refine lv_iload_n hx hb dd_M_typeOfRow_12 rfl (lv_at hl 1 rfl) ?_
        refine x_iconst hC dd_M_typeOfRow_13 ?_
        obtain ⟨q25, hw⟩ := hw
        refine x_iast hC hS hM0.2.2.2.2.2.2.2.2.2.2.2.1 q25 (rk rfl) dd_M_typeOfRow_14 (fun H locs hS => ?_)
        obtain ⟨M_26, eM_26⟩ : ∃ Z : Mm, Z = ms M2 41 (x1_2).toNat 0 := ⟨_, rfl⟩
        rw [← eM_26] at hS
        have hw := hw M_26 eM_26
        have hm_M_26 := hS.2.2.2
        obtain ⟨hr_, hw⟩ := hw
        obtain ⟨v1_15, rv1_15, ev1_15⟩ : ∃ z : Int, inR z ∧ z = x1_2 + 1 := ⟨_, hr_, rfl⟩
        have hw := hw v1_15 ev1_15
        refine lv_iinc (v := iI v1_15) (lv' := [(1, .int (iI v1_15)), (0, .ref (xA X 30))]) hx hb dd_M_typeOfRow_15 hl (k := 1) rfl (by rw [ev1_15]; exact iI_add _ _) (by decide) rfl (fun ls hl => ?_)
        refine lv_goto (tgt := 2) hx hb dd_M_typeOfRow_18 (by decide) ?_
        obtain ⟨k_27, h28, hI⟩ := hw
        exact ih_I2 k_27 h28 v1_15 M_26 _ _ _ hI rv1_15 hS (lv_sub hl [1, 0] rfl)
  exact lp_I2 n0 0 M _ _ _ hI (rk rfl) hS (lv_sub hl [1, 0] rfl)
def wp_M_common (a0 : Int) (a1 : Int) (post : Int → Prop) : Prop :=
  ∃ I4 : Nat → Int → Int → Prop, (∃ n, I4 n a0 a1) ∧ ∀ (n4 : Nat) (x2_4 : Int) (x3_4 : Int), I4 n4 x2_4 x3_4 →
    ((x3_4 = 0 → post x2_4) ∧
      (¬ x3_4 = 0 → (0 ≤ x2_4 ∧ 0 < x3_4) ∧ ∀ v4_11 : Int, v4_11 = (x2_4 % x3_4) → ∃ k_3, k_3 < n4 ∧ I4 k_3 x3_4 v4_11))
set_option maxHeartbeats 4000000 in
set_option maxRecDepth 100000 in
theorem mt_M_common (l : Launch) (X : Xw) (hlc : lcl X) (a0 : Int) (ra0 : inR a0) (a1 : Int) (ra1 : inR a1) (M : Mm) (hm_M : mr M) (post : Int → Prop) (sz : Nat) (hw : wp_M_common a0 a1 post) : Met l yy_M_common (Cond.code yy_M_common bc_M_common 5 (some .int) :: tg) ({ frames := 0, cells := 0, slots := 0, locals := 0 } : Room) (Pw X [.int (iI a0), .int (iI a1)] M sz) (Qi X sz (fun r M1 => M1 = M ∧ post r)) 0 0 (xF X sz) := by
  unfold wp_M_common at hw
  refine x_enter (by decide) hlc hm_M (Nat.le_of_ble_eq_true rfl) ?_
  intro p e s m below meth c ls hC hsz hr hlocks hS hl
  have hx := hC.1.1
  have hb := hC.1.2.1
  have hl : lv_has ls 5 [(0, .int (iI a0)), (1, .int (iI a1))] := hl
  refine lv_iload_n hx hb dd_M_common_0 rfl (lv_at hl 0 rfl) ?_
  refine lv_istore_n (lv' := [(2, .int (iI a0)), (0, .int (iI a0)), (1, .int (iI a1))]) hx hb dd_M_common_1 rfl hl (by decide) rfl (fun ls hl => ?_)
  refine lv_iload_n hx hb dd_M_common_2 rfl (lv_at hl 2 rfl) ?_
  refine lv_istore_n (lv' := [(3, .int (iI a1)), (2, .int (iI a0)), (0, .int (iI a0)), (1, .int (iI a1))]) hx hb dd_M_common_3 rfl hl (by decide) rfl (fun ls hl => ?_)
  obtain ⟨I4, ⟨n0, hI⟩, hstep_I4⟩ := hw
  have lp_I4 : ∀ (n4 : Nat) (x2_4 : Int) (x3_4 : Int) (H : Heap) (locs : List Loc) (ls : Array Slot), I4 n4 x2_4 x3_4 → inR x2_4 → inR x3_4 → St X (xF X sz) s M H locs → lv_has ls 5 [(2, .int (iI x2_4)), (3, .int (iI x3_4))] → W p l e ({ frames := 0, cells := 0, slots := 0, locals := 0 } : Room) s m ([.int (iI a0), .int (iI a1)] : List Value).toArray below meth c H locs 0 0 (MQ below (Qi X sz (fun r M1 => M1 = M ∧ post r)) ([.int (iI a0), .int (iI a1)] : List Value).toArray s 0 0 (xF X sz)) (F0 m 4 ls []) := by
    intro n4
    induction n4 using Nat.strongRecOn with
    | _ n4 ih_I4 =>
      intro x2_4 x3_4 H locs ls hI rx2_4 rx3_4 hS hl
      have hw := hstep_I4 n4 x2_4 x3_4 hI
      refine lv_iload_n hx hb dd_M_common_4 rfl (lv_at hl 1 rfl) ?_
      refine x_if_eq hC rx3_4 (tgt := 21) dd_M_common_5 (by decide) (fun c1 => ?_) (fun c1 => ?_)
      · have hw := hw.1 c1
        refine lv_iload_n hx hb dd_M_common_21 rfl (lv_at hl 0 rfl) ?_
        exact x_iret hC hS hlocks hr rx2_4 ⟨rfl, hw⟩ dd_M_common_22
      · have hw := hw.2 c1
        refine lv_iload_n hx hb dd_M_common_8 rfl (lv_at hl 0 rfl) ?_
        refine lv_iload_n hx hb dd_M_common_9 rfl (lv_at hl 1 rfl) ?_
        obtain ⟨q2, hw⟩ := hw
        refine x_rem hC rx2_4 rx3_4 q2 dd_M_common_10 ?_
        refine x_nm (rMod rx3_4 q2.2) (fun v4_11 rv4_11 ev4_11 => ?_)
        have hw := hw v4_11 ev4_11
        refine lv_istore (lv' := [(4, .int (iI v4_11)), (2, .int (iI x2_4)), (3, .int (iI x3_4))]) hx hb dd_M_common_11 hl (by decide) rfl (fun ls hl => ?_)
        refine lv_iload_n hx hb dd_M_common_13 rfl (lv_at hl 2 rfl) ?_
        refine lv_istore_n (lv' := [(2, .int (iI x3_4)), (4, .int (iI v4_11)), (3, .int (iI x3_4))]) hx hb dd_M_common_14 rfl hl (by decide) rfl (fun ls hl => ?_)
        refine lv_iload hx hb dd_M_common_15 (lv_at hl 1 rfl) ?_
        refine lv_istore_n (lv' := [(3, .int (iI v4_11)), (2, .int (iI x3_4)), (4, .int (iI v4_11))]) hx hb dd_M_common_17 rfl hl (by decide) rfl (fun ls hl => ?_)
        refine lv_goto (tgt := 4) hx hb dd_M_common_18 (by decide) ?_
        obtain ⟨k_3, h4, hI⟩ := hw
        exact ih_I4 k_3 h4 x3_4 v4_11 _ _ _ hI rx3_4 rv4_11 hS (lv_sub hl [1, 0] rfl)
  exact lp_I4 n0 a0 a1 _ _ _ hI ra0 ra1 hS (lv_sub hl [1, 0] rfl)
def wp_M_orderOf (a0 : Int) (post : Int → Prop) : Prop :=
  ∃ I4 : Nat → Int → Int → Prop, (∃ n, I4 n 1 a0) ∧ ∀ (n4 : Nat) (x1_4 : Int) (x2_4 : Int), I4 n4 x1_4 x2_4 →
    ((x2_4 ≤ 0 → post x1_4) ∧
      (¬ x2_4 ≤ 0 → (0 ≤ x2_4 ∧ 0 < (10 : Int)) ∧ wp_M_common x1_4 (x2_4 % 10) (fun (r14 : Int) => (0 ≤ x1_4 ∧ 0 < r14) ∧ (0 ≤ x2_4 ∧ 0 < (10 : Int)) ∧ inR ((x1_4 / r14) * (x2_4 % 10)) ∧ ∀ v1_23 : Int, v1_23 = ((x1_4 / r14) * (x2_4 % 10)) → (0 ≤ x2_4 ∧ 0 < (10 : Int)) ∧ ∀ v2_28 : Int, v2_28 = (x2_4 / 10) → ∃ k_7, k_7 < n4 ∧ I4 k_7 v1_23 v2_28)))
set_option maxHeartbeats 4000000 in
set_option maxRecDepth 100000 in
theorem mt_M_orderOf (l : Launch) (X : Xw) (hlc : lcl X) (a0 : Int) (ra0 : inR a0) (M : Mm) (hm_M : mr M) (post : Int → Prop) (sz : Nat) (hw : wp_M_orderOf a0 post) : Met l yy_M_orderOf (Cond.code yy_M_orderOf bc_M_orderOf 3 (some .int) :: tg) ({ frames := 1, cells := 0, slots := 0, locals := 24 } : Room) (Pw X [.int (iI a0)] M sz) (Qi X sz (fun r M1 => M1 = M ∧ post r)) 0 0 (xF X sz) := by
  unfold wp_M_orderOf at hw
  refine x_enter (by decide) hlc hm_M (Nat.le_of_ble_eq_true rfl) ?_
  intro p e s m below meth c ls hC hsz hr hlocks hS hl
  have hx := hC.1.1
  have hb := hC.1.2.1
  have hl : lv_has ls 3 [(0, .int (iI a0))] := hl
  refine x_iconst hC dd_M_orderOf_0 ?_
  refine lv_istore_n (lv' := [(1, .int (iI 1)), (0, .int (iI a0))]) hx hb dd_M_orderOf_1 rfl hl (by decide) rfl (fun ls hl => ?_)
  refine lv_iload_n hx hb dd_M_orderOf_2 rfl (lv_at hl 1 rfl) ?_
  refine lv_istore_n (lv' := [(2, .int (iI a0)), (1, .int (iI 1)), (0, .int (iI a0))]) hx hb dd_M_orderOf_3 rfl hl (by decide) rfl (fun ls hl => ?_)
  obtain ⟨I4, ⟨n0, hI⟩, hstep_I4⟩ := hw
  have lp_I4 : ∀ (n4 : Nat) (x1_4 : Int) (x2_4 : Int) (H : Heap) (locs : List Loc) (ls : Array Slot), I4 n4 x1_4 x2_4 → inR x1_4 → inR x2_4 → St X (xF X sz) s M H locs → lv_has ls 3 [(1, .int (iI x1_4)), (2, .int (iI x2_4))] → W p l e ({ frames := 1, cells := 0, slots := 0, locals := 24 } : Room) s m ([.int (iI a0)] : List Value).toArray below meth c H locs 0 0 (MQ below (Qi X sz (fun r M1 => M1 = M ∧ post r)) ([.int (iI a0)] : List Value).toArray s 0 0 (xF X sz)) (F0 m 4 ls []) := by
    intro n4
    induction n4 using Nat.strongRecOn with
    | _ n4 ih_I4 =>
      intro x1_4 x2_4 H locs ls hI rx1_4 rx2_4 hS hl
      have hw := hstep_I4 n4 x1_4 x2_4 hI
      refine lv_iload_n hx hb dd_M_orderOf_4 rfl (lv_at hl 1 rfl) ?_
      refine x_if_le hC rx2_4 (tgt := 32) dd_M_orderOf_5 (by decide) (fun c1 => ?_) (fun c1 => ?_)
      · have hw := hw.1 c1
        refine lv_iload_n hx hb dd_M_orderOf_32 rfl (lv_at hl 0 rfl) ?_
        exact x_iret hC hS hlocks hr rx1_4 ⟨rfl, hw⟩ dd_M_orderOf_33
      · have hw := hw.2 c1
        refine lv_iload_n hx hb dd_M_orderOf_8 rfl (lv_at hl 0 rfl) ?_
        refine lv_iload_n hx hb dd_M_orderOf_9 rfl (lv_at hl 0 rfl) ?_
        refine lv_iload_n hx hb dd_M_orderOf_10 rfl (lv_at hl 1 rfl) ?_
        refine x_bipush hC dd_M_orderOf_11 (by decide) ?_
        obtain ⟨q2, hw⟩ := hw
        refine x_rem hC rx2_4 (rk rfl) q2 dd_M_orderOf_13 ?_
        refine x_callSi hC hS (As := [.int (iI x1_4), .int (iI (x2_4 % 10))]) (rest := [.int (iI x1_4)]) cs_M_common (mt_M_common l X hC.2.2.1  x1_4 rx1_4 (x2_4 % 10) (rMod (rk rfl) q2.2) M hm_M _ _ hw) tb_661 rfl rfl ⟨Nat.le_of_ble_eq_true rfl, Nat.le_of_ble_eq_true rfl⟩ rfl hl.1 (Nat.le_of_ble_eq_true rfl) dd_M_orderOf_14 ⟨Nat.le_refl _, Nat.le_refl _⟩ rfl (fun r14 Mx H locs rr14 hp hS => ?_)
        obtain ⟨hq, hw⟩ := hp
        rw [hq] at hS
        obtain ⟨q3, hw⟩ := hw
        refine x_div hC rx1_4 rr14 q3 dd_M_orderOf_17 ?_
        refine lv_iload_n hx hb dd_M_orderOf_18 rfl (lv_at hl 1 rfl) ?_
        refine x_bipush hC dd_M_orderOf_19 (by decide) ?_
        obtain ⟨q4, hw⟩ := hw
        refine x_rem hC rx2_4 (rk rfl) q4 dd_M_orderOf_21 ?_
        obtain ⟨q5, hw⟩ := hw
        refine x_mul hC dd_M_orderOf_22 ?_
        refine x_nm q5 (fun v1_23 rv1_23 ev1_23 => ?_)
        have hw := hw v1_23 ev1_23
        refine lv_istore_n (lv' := [(1, .int (iI v1_23)), (2, .int (iI x2_4))]) hx hb dd_M_orderOf_23 rfl hl (by decide) rfl (fun ls hl => ?_)
        refine lv_iload_n hx hb dd_M_orderOf_24 rfl (lv_at hl 1 rfl) ?_
        refine x_bipush hC dd_M_orderOf_25 (by decide) ?_
        obtain ⟨q6, hw⟩ := hw
        refine x_div hC rx2_4 (rk rfl) q6 dd_M_orderOf_27 ?_
        refine x_nm (rDiv rx2_4 q6.1 q6.2) (fun v2_28 rv2_28 ev2_28 => ?_)
        have hw := hw v2_28 ev2_28
        refine lv_istore_n (lv' := [(2, .int (iI v2_28)), (1, .int (iI v1_23))]) hx hb dd_M_orderOf_28 rfl hl (by decide) rfl (fun ls hl => ?_)
        refine lv_goto (tgt := 4) hx hb dd_M_orderOf_29 (by decide) ?_
        obtain ⟨k_7, h8, hI⟩ := hw
        exact ih_I4 k_7 h8 v1_23 v2_28 _ _ _ hI rv1_23 rv2_28 hS (lv_sub hl [1, 0] rfl)
  exact lp_I4 n0 1 a0 _ _ _ hI (rk rfl) ra0 hS (lv_sub hl [1, 0] rfl)
def wp_M_turn (a1 : Int) (M : Mm) (post : Int → Mm → Prop) : Prop :=
  wp_M_in a1 0 2 (fun (r3 : Int) => (¬ r3 = 0 → wp_M_layPad M (fun (r13 : Int) (M_2 : Mm) => (¬ r13 = 0 → (¬ a1 = 0 → (¬ a1 = 1 → wp_M_typeOfRow M_2 (fun (r54 : Int) (M_6 : Mm) => wp_M_orderOf r54 (fun (r57 : Int) => post r57 M_6))) ∧
        (a1 = 1 → wp_M_typeOfRow M_2 (fun (r47 : Int) (M_7 : Mm) => post r47 M_7))) ∧
      (a1 = 0 → wp_M_rank M_2 (fun (r33 : Int) => inR (6 + r33) ∧ (0 ≤ (6 + r33) ∧ (6 + r33) < 5046) ∧ ∀ z10 : Int, z10 = M_2 31 ((6 + r33)).toNat → post z10 M_2))) ∧
    (r13 = 0 → post (-7) M_2))) ∧
  (r3 = 0 → post (-2) M))
set_option maxHeartbeats 4000000 in
set_option maxRecDepth 100000 in
theorem mt_M_turn (l : Launch) (X : Xw) (hlc : lcl X)(hM0 : IsM X) (a1 : Int) (ra1 : inR a1) (M : Mm) (hm_M : mr M) (post : Int → Mm → Prop) (sz : Nat) (hw : wp_M_turn a1 M post) : Met l yy_M_turn (Cond.code yy_M_turn bc_M_turn 2 (some .int) :: tg) ({ frames := 2, cells := 0, slots := 0, locals := 46 } : Room) (Pw X [.ref (xA X 30), .int (iI a1)] M sz) (Qi X sz post) 0 0 (xF X sz) := by
  unfold wp_M_turn at hw
  refine x_enter (by decide) hlc hm_M (Nat.le_of_ble_eq_true rfl) ?_
  intro p e s m below meth c ls hC hsz hr hlocks hS hl
  have hx := hC.1.1
  have hb := hC.1.2.1
  have hl : lv_has ls 2 [(0, .ref (xA X 30)), (1, .int (iI a1))] := hl
  refine lv_iload_n hx hb dd_M_turn_0 rfl (lv_at hl 1 rfl) ?_
  refine x_iconst hC dd_M_turn_1 ?_
  refine x_iconst hC dd_M_turn_2 ?_
  refine x_callSi hC hS (As := [.int (iI a1), .int (iI 0), .int (iI 2)]) (rest := []) cs_M_in (mt_M_in l X hC.2.2.1  a1 ra1 0 (rk rfl) 2 (rk rfl) M hm_M _ _ hw) tb_596 rfl rfl ⟨Nat.le_of_ble_eq_true rfl, Nat.le_of_ble_eq_true rfl⟩ rfl hl.1 (Nat.le_of_ble_eq_true rfl) dd_M_turn_3 ⟨Nat.le_refl _, Nat.le_refl _⟩ rfl (fun r3 Mx H locs rr3 hp hS => ?_)
  obtain ⟨hq, hw⟩ := hp
  rw [hq] at hS
  refine x_if_ne hC rr3 (tgt := 12) dd_M_turn_6 (by decide) (fun c1 => ?_) (fun c1 => ?_)
  · have hw := hw.1 c1
    refine lv_aload_n hx hb dd_M_turn_12 rfl (lv_at hl 0 rfl) ?_
    refine x_callVi hC hS (As := []) (rest := []) hM0.1 rfl cv_M_layPad (mt_M_layPad l X hC.2.2.1 hM0  M hm_M _ _ hw) tb_646 rfl rfl ⟨Nat.le_of_ble_eq_true rfl, Nat.le_of_ble_eq_true rfl⟩ rfl hl.1 (Nat.le_of_ble_eq_true rfl) dd_M_turn_13 ⟨Nat.le_refl _, Nat.le_refl _⟩ rfl (fun r13 M_2 H locs rr13 hw hS => ?_)
    have hm_M_2 := hS.2.2.2
    refine x_if_ne hC rr13 (tgt := 22) dd_M_turn_16 (by decide) (fun c3 => ?_) (fun c3 => ?_)
    · have hw := hw.1 c3
      refine lv_iload_n hx hb dd_M_turn_22 rfl (lv_at hl 1 rfl) ?_
      refine x_if_ne hC ra1 (tgt := 41) dd_M_turn_23 (by decide) (fun c4 => ?_) (fun c4 => ?_)
      · have hw := hw.1 c4
        refine lv_iload_n hx hb dd_M_turn_41 rfl (lv_at hl 1 rfl) ?_
        refine x_iconst hC dd_M_turn_42 ?_
        refine x_icmp_ne hC ra1 (rk rfl) (tgt := 53) dd_M_turn_43 (by decide) (fun c5 => ?_) (fun c5 => ?_)
        · have hw := hw.1 c5
          refine lv_aload_n hx hb dd_M_turn_53 rfl (lv_at hl 0 rfl) ?_
          refine x_callVi hC hS (As := []) (rest := []) hM0.1 rfl cv_M_typeOfRow (mt_M_typeOfRow l X hC.2.2.1 hM0  M_2 hm_M_2 _ _ hw) tb_654 rfl rfl ⟨Nat.le_of_ble_eq_true rfl, Nat.le_of_ble_eq_true rfl⟩ rfl hl.1 (Nat.le_of_ble_eq_true rfl) dd_M_turn_54 ⟨Nat.le_refl _, Nat.le_refl _⟩ rfl (fun r54 M_6 H locs rr54 hw hS => ?_)
          have hm_M_6 := hS.2.2.2
          refine x_callSi hC hS (As := [.int (iI r54)]) (rest := []) cs_M_orderOf (mt_M_orderOf l X hC.2.2.1  r54 rr54 M_6 hm_M_6 _ _ hw) tb_658 rfl rfl ⟨Nat.le_of_ble_eq_true rfl, Nat.le_of_ble_eq_true rfl⟩ rfl hl.1 (Nat.le_of_ble_eq_true rfl) dd_M_turn_57 ⟨Nat.le_refl _, Nat.le_refl _⟩ rfl (fun r57 Mx H locs rr57 hp hS => ?_)
          obtain ⟨hq, hw⟩ := hp
          rw [hq] at hS
          exact x_iret hC hS hlocks hr rr57 hw dd_M_turn_60
        · have hw := hw.2 c5
          refine lv_aload_n hx hb dd_M_turn_46 rfl (lv_at hl 0 rfl) ?_
          refine x_callVi hC hS (As := []) (rest := []) hM0.1 rfl cv_M_typeOfRow (mt_M_typeOfRow l X hC.2.2.1 hM0  M_2 hm_M_2 _ _ hw) tb_654 rfl rfl ⟨Nat.le_of_ble_eq_true rfl, Nat.le_of_ble_eq_true rfl⟩ rfl hl.1 (Nat.le_of_ble_eq_true rfl) dd_M_turn_47 ⟨Nat.le_refl _, Nat.le_refl _⟩ rfl (fun r47 M_7 H locs rr47 hw hS => ?_)
          have hm_M_7 := hS.2.2.2
          refine lv_goto (tgt := 60) hx hb dd_M_turn_50 (by decide) ?_
          exact x_iret hC hS hlocks hr rr47 hw dd_M_turn_60
      · have hw := hw.2 c4
        refine lv_aload_n hx hb dd_M_turn_26 rfl (lv_at hl 0 rfl) ?_
        refine x_get hC hS hM0.1 rfl iw_M 0 (by decide) tb_515 rfl rfl dd_M_turn_27 ?_
        refine x_bipush hC dd_M_turn_30 (by decide) ?_
        refine lv_aload_n hx hb dd_M_turn_32 rfl (lv_at hl 0 rfl) ?_
        refine x_callVi hC hS (As := []) (rest := [.int (iI 6), .ref (xA X 31)]) hM0.1 rfl cv_M_rank (mt_M_rank l X hC.2.2.1 hM0  M_2 hm_M_2 _ _ hw) tb_499 rfl rfl ⟨Nat.le_of_ble_eq_true rfl, Nat.le_of_ble_eq_true rfl⟩ rfl hl.1 (Nat.le_of_ble_eq_true rfl) dd_M_turn_33 ⟨Nat.le_refl _, Nat.le_refl _⟩ rfl (fun r33 Mx H locs rr33 hp hS => ?_)
        obtain ⟨hq, hw⟩ := hp
        rw [hq] at hS
        obtain ⟨q8, hw⟩ := hw
        refine x_add hC dd_M_turn_36 ?_
        obtain ⟨q9, hw⟩ := hw
        refine x_iald hC hS hM0.2.1 q9 dd_M_turn_37 ?_
        refine x_nm (hm_M_2 31 _) (fun z10 rz10 ez10 => ?_)
        have hw := hw z10 ez10
        refine lv_goto (tgt := 60) hx hb dd_M_turn_38 (by decide) ?_
        exact x_iret hC hS hlocks hr rz10 hw dd_M_turn_60
    · have hw := hw.2 c3
      refine x_bipush hC dd_M_turn_19 (by decide) ?_
      exact x_iret hC hS hlocks hr (rk rfl) hw dd_M_turn_21
  · have hw := hw.2 c1
    refine x_bipush hC dd_M_turn_9 (by decide) ?_
    exact x_iret hC hS hlocks hr (rk rfl) hw dd_M_turn_11
def wp_M_addType (a1 : Int) (M : Mm) (post : Mm → Prop) : Prop :=
  ∀ v2_4 : Int, v2_4 = (M 30 17) → ∃ I5 : Nat → Int → Prop, (∃ n, I5 n v2_4) ∧ ∀ (n5 : Nat) (x2_5 : Int), I5 n5 x2_5 →
    (∀ K27 : Prop, ((∀ K56 : Prop, ((∀ v3_60 : Int, v3_60 = (M 30 17) → ∃ I61 : Nat → Int → Mm → Prop, (∃ n, I61 n v3_60 M) ∧ ∀ (n61 : Nat) (x3_61 : Int) (M61 : Mm), I61 n61 x3_61 M61 →
                ((x3_61 ≤ x2_5 → (0 ≤ x2_5 ∧ x2_5 < 16) ∧ ∀ M_3 : Mm, M_3 = ms M61 42 (x2_5).toNat a1 → (0 ≤ x2_5 ∧ x2_5 < 16) ∧ ∀ M_5 : Mm, M_5 = ms M_3 43 (x2_5).toNat 1 → inR ((M_5 30 17) + 1) ∧ ∀ M_7 : Mm, M_7 = ms M_5 30 17 ((M_5 30 17) + 1) → post M_7) ∧
                  (¬ x3_61 ≤ x2_5 → inR (x3_61 - 1) ∧ (0 ≤ (x3_61 - 1) ∧ (x3_61 - 1) < 16) ∧ ∀ z10 : Int, z10 = M61 42 ((x3_61 - 1)).toNat → (0 ≤ x3_61 ∧ x3_61 < 16) ∧ ∀ M_12 : Mm, M_12 = ms M61 42 (x3_61).toNat z10 → inR (x3_61 - 1) ∧ (0 ≤ (x3_61 - 1) ∧ (x3_61 - 1) < 16) ∧ ∀ z15 : Int, z15 = M_12 43 ((x3_61 - 1)).toNat → (0 ≤ x3_61 ∧ x3_61 < 16) ∧ ∀ M_17 : Mm, M_17 = ms M_12 43 (x3_61).toNat z15 → inR (x3_61 + (-1)) ∧ ∀ v3_94 : Int, v3_94 = x3_61 + (-1) → ∃ k_18, k_18 < n61 ∧ I61 k_18 v3_94 M_17))) →
            K56) →
          ((x2_5 ≤ 0 → K56) ∧
          (¬ x2_5 ≤ 0 → inR (x2_5 - 1) ∧ (0 ≤ (x2_5 - 1) ∧ (x2_5 - 1) < 16) ∧ ∀ z23 : Int, z23 = M 42 ((x2_5 - 1)).toNat → (¬ z23 = a1 → K56) ∧
            (z23 = a1 → inR (x2_5 - 1) ∧ (0 ≤ (x2_5 - 1) ∧ (x2_5 - 1) < 16) ∧ ∀ z27 : Int, z27 = M 43 ((x2_5 - 1)).toNat → inR (z27 + 1) ∧ (0 ≤ (x2_5 - 1) ∧ (x2_5 - 1) < 16) ∧ ∀ M_30 : Mm, M_30 = ms M 43 ((x2_5 - 1)).toNat (z27 + 1) → post M_30)))) →
        K27) →
      ((x2_5 ≤ 0 → K27) ∧
      (¬ x2_5 ≤ 0 → inR (x2_5 - 1) ∧ (0 ≤ (x2_5 - 1) ∧ (x2_5 - 1) < 16) ∧ ∀ z34 : Int, z34 = M 42 ((x2_5 - 1)).toNat → (a1 ≤ z34 → K27) ∧
        (¬ a1 ≤ z34 → inR (x2_5 + (-1)) ∧ ∀ v2_21 : Int, v2_21 = x2_5 + (-1) → ∃ k_36, k_36 < n5 ∧ I5 k_36 v2_21))))
set_option maxHeartbeats 4000000 in
set_option maxRecDepth 100000 in
theorem mt_M_addType (l : Launch) (X : Xw) (hlc : lcl X)(hM0 : IsM X) (a1 : Int) (ra1 : inR a1) (M : Mm) (hm_M : mr M) (post : Mm → Prop) (sz : Nat) (hw : wp_M_addType a1 M post) : Met l yy_M_addType (Cond.code yy_M_addType bc_M_addType 4 none :: tg) ({ frames := 0, cells := 0, slots := 0, locals := 0 } : Room) (Pw X [.ref (xA X 30), .int (iI a1)] M sz) (Qv X sz post) 0 0 (xF X sz) := by
  unfold wp_M_addType at hw
  refine x_enter (by decide) hlc hm_M (Nat.le_of_ble_eq_true rfl) ?_
  intro p e s m below meth c ls hC hsz hr hlocks hS hl
  have hx := hC.1.1
  have hb := hC.1.2.1
  have hl : lv_has ls 4 [(0, .ref (xA X 30)), (1, .int (iI a1))] := hl
  refine lv_aload_n hx hb dd_M_addType_0 rfl (lv_at hl 0 rfl) ?_
  refine x_get hC hS hM0.1 rfl iw_M 17 (by decide) tb_532 rfl rfl dd_M_addType_1 ?_
  refine x_nm (hm_M 30 17) (fun v2_4 rv2_4 ev2_4 => ?_)
  have hw := hw v2_4 ev2_4
  refine lv_istore_n (lv' := [(2, .int (iI v2_4)), (0, .ref (xA X 30)), (1, .int (iI a1))]) hx hb dd_M_addType_4 rfl hl (by decide) rfl (fun ls hl => ?_)
  obtain ⟨I5, ⟨n0, hI⟩, hstep_I5⟩ := hw
  have lp_I5 : ∀ (n5 : Nat) (x2_5 : Int) (H : Heap) (locs : List Loc) (ls : Array Slot), I5 n5 x2_5 → inR x2_5 → St X (xF X sz) s M H locs → lv_has ls 4 [(0, .ref (xA X 30)), (1, .int (iI a1)), (2, .int (iI x2_5))] → W p l e ({ frames := 0, cells := 0, slots := 0, locals := 0 } : Room) s m ([.ref (xA X 30), .int (iI a1)] : List Value).toArray below meth c H locs 0 0 (MQ below (Qv X sz post) ([.ref (xA X 30), .int (iI a1)] : List Value).toArray s 0 0 (xF X sz)) (F0 m 5 ls []) := by
    intro n5
    induction n5 using Nat.strongRecOn with
    | _ n5 ih_I5 =>
      intro x2_5 H locs ls hI rx2_5 hS hl
      have hw := hstep_I5 n5 x2_5 hI
      refine lv_iload_n hx hb dd_M_addType_5 rfl (lv_at hl 2 rfl) ?_
      have hw := hw (∀ (H : Heap) (locs : List Loc) (ls : Array Slot), St X (xF X sz) s M H locs → lv_has ls 4 [(0, .ref (xA X 30)), (1, .int (iI a1)), (2, .int (iI x2_5))] → W p l e ({ frames := 0, cells := 0, slots := 0, locals := 0 } : Room) s m ([.ref (xA X 30), .int (iI a1)] : List Value).toArray below meth c H locs 0 0 (MQ below (Qv X sz post) ([.ref (xA X 30), .int (iI a1)] : List Value).toArray s 0 0 (xF X sz)) (F0 m 27 ls [])) (by
          intro  hw H locs ls  hS hl
          refine lv_iload_n hx hb dd_M_addType_27 rfl (lv_at hl 2 rfl) ?_
          have hw := hw (∀ (H : Heap) (locs : List Loc) (ls : Array Slot), St X (xF X sz) s M H locs → lv_has ls 4 [(0, .ref (xA X 30)), (1, .int (iI a1)), (2, .int (iI x2_5))] → W p l e ({ frames := 0, cells := 0, slots := 0, locals := 0 } : Room) s m ([.ref (xA X 30), .int (iI a1)] : List Value).toArray below meth c H locs 0 0 (MQ below (Qv X sz post) ([.ref (xA X 30), .int (iI a1)] : List Value).toArray s 0 0 (xF X sz)) (F0 m 56 ls [])) (by
              intro  hw H locs ls  hS hl
              refine lv_aload_n hx hb dd_M_addType_56 rfl (lv_at hl 0 rfl) ?_
              refine x_get hC hS hM0.1 rfl iw_M 17 (by decide) tb_532 rfl rfl dd_M_addType_57 ?_
              refine x_nm (hm_M 30 17) (fun v3_60 rv3_60 ev3_60 => ?_)
              have hw := hw v3_60 ev3_60
              refine lv_istore_n (lv' := [(3, .int (iI v3_60)), (0, .ref (xA X 30)), (1, .int (iI a1)), (2, .int (iI x2_5))]) hx hb dd_M_addType_60 rfl hl (by decide) rfl (fun ls hl => ?_)
              obtain ⟨I61, ⟨n0, hI⟩, hstep_I61⟩ := hw
              have lp_I61 : ∀ (n61 : Nat) (x3_61 : Int) (M61 : Mm) (H : Heap) (locs : List Loc) (ls : Array Slot), I61 n61 x3_61 M61 → inR x3_61 → St X (xF X sz) s M61 H locs → lv_has ls 4 [(0, .ref (xA X 30)), (1, .int (iI a1)), (2, .int (iI x2_5)), (3, .int (iI x3_61))] → W p l e ({ frames := 0, cells := 0, slots := 0, locals := 0 } : Room) s m ([.ref (xA X 30), .int (iI a1)] : List Value).toArray below meth c H locs 0 0 (MQ below (Qv X sz post) ([.ref (xA X 30), .int (iI a1)] : List Value).toArray s 0 0 (xF X sz)) (F0 m 61 ls []) := by
                intro n61
                induction n61 using Nat.strongRecOn with
                | _ n61 ih_I61 =>
                  intro x3_61 M61 H locs ls hI rx3_61 hS hl
                  have hw := hstep_I61 n61 x3_61 M61 hI
                  have hm_M61 := hS.2.2.2
                  refine lv_iload_n hx hb dd_M_addType_61 rfl (lv_at hl 3 rfl) ?_
                  refine lv_iload_n hx hb dd_M_addType_62 rfl (lv_at hl 2 rfl) ?_
                  refine x_icmp_le hC rx3_61 rx2_5 (tgt := 100) dd_M_addType_63 (by decide) (fun c1 => ?_) (fun c1 => ?_)
                  · have hw := hw.1 c1
                    refine lv_aload_n hx hb dd_M_addType_100 rfl (lv_at hl 0 rfl) ?_
                    refine x_get hC hS hM0.1 rfl iw_M 15 (by decide) tb_530 rfl rfl dd_M_addType_101 ?_
                    refine lv_iload_n hx hb dd_M_addType_104 rfl (lv_at hl 2 rfl) ?_
                    refine lv_iload_n hx hb dd_M_addType_105 rfl (lv_at hl 1 rfl) ?_
                    obtain ⟨q2, hw⟩ := hw
                    refine x_iast hC hS hM0.2.2.2.2.2.2.2.2.2.2.2.2.1 q2 ra1 dd_M_addType_106 (fun H locs hS => ?_)
                    obtain ⟨M_3, eM_3⟩ : ∃ Z : Mm, Z = ms M61 42 (x2_5).toNat a1 := ⟨_, rfl⟩
                    rw [← eM_3] at hS
                    have hw := hw M_3 eM_3
                    have hm_M_3 := hS.2.2.2
                    refine lv_aload_n hx hb dd_M_addType_107 rfl (lv_at hl 0 rfl) ?_
                    refine x_get hC hS hM0.1 rfl iw_M 16 (by decide) tb_531 rfl rfl dd_M_addType_108 ?_
                    refine lv_iload_n hx hb dd_M_addType_111 rfl (lv_at hl 2 rfl) ?_
                    refine x_iconst hC dd_M_addType_112 ?_
                    obtain ⟨q4, hw⟩ := hw
                    refine x_iast hC hS hM0.2.2.2.2.2.2.2.2.2.2.2.2.2.1 q4 (rk rfl) dd_M_addType_113 (fun H locs hS => ?_)
                    obtain ⟨M_5, eM_5⟩ : ∃ Z : Mm, Z = ms M_3 43 (x2_5).toNat 1 := ⟨_, rfl⟩
                    rw [← eM_5] at hS
                    have hw := hw M_5 eM_5
                    have hm_M_5 := hS.2.2.2
                    refine lv_aload_n hx hb dd_M_addType_114 rfl (lv_at hl 0 rfl) ?_
                    refine lv_dup hx hb dd_M_addType_115 rfl ?_
                    refine x_get hC hS hM0.1 rfl iw_M 17 (by decide) tb_532 rfl rfl dd_M_addType_116 ?_
                    refine x_iconst hC dd_M_addType_119 ?_
                    obtain ⟨q6, hw⟩ := hw
                    refine x_add hC dd_M_addType_120 ?_
                    refine x_put hC hS hM0.1 rfl iw_M fy_M fk_M fn_M 17 (by decide) tb_532 rfl q6 rfl rfl (ps_M_17 _ _ _) (Nat.le_of_ble_eq_true rfl) dd_M_addType_121 (fun H locs hS => ?_)
                    obtain ⟨M_7, eM_7⟩ : ∃ Z : Mm, Z = ms M_5 30 17 ((M_5 30 17) + 1) := ⟨_, rfl⟩
                    rw [← eM_7] at hS
                    have hw := hw M_7 eM_7
                    have hm_M_7 := hS.2.2.2
                    exact x_vret hC hS hlocks hr hw dd_M_addType_124
                  · have hw := hw.2 c1
                    refine lv_aload_n hx hb dd_M_addType_66 rfl (lv_at hl 0 rfl) ?_
                    refine x_get hC hS hM0.1 rfl iw_M 15 (by decide) tb_530 rfl rfl dd_M_addType_67 ?_
                    refine lv_iload_n hx hb dd_M_addType_70 rfl (lv_at hl 3 rfl) ?_
                    refine lv_aload_n hx hb dd_M_addType_71 rfl (lv_at hl 0 rfl) ?_
                    refine x_get hC hS hM0.1 rfl iw_M 15 (by decide) tb_530 rfl rfl dd_M_addType_72 ?_
                    refine lv_iload_n hx hb dd_M_addType_75 rfl (lv_at hl 3 rfl) ?_
                    refine x_iconst hC dd_M_addType_76 ?_
                    obtain ⟨q8, hw⟩ := hw
                    refine x_sub hC dd_M_addType_77 ?_
                    obtain ⟨q9, hw⟩ := hw
                    refine x_iald hC hS hM0.2.2.2.2.2.2.2.2.2.2.2.2.1 q9 dd_M_addType_78 ?_
                    refine x_nm (hm_M61 42 _) (fun z10 rz10 ez10 => ?_)
                    have hw := hw z10 ez10
                    obtain ⟨q11, hw⟩ := hw
                    refine x_iast hC hS hM0.2.2.2.2.2.2.2.2.2.2.2.2.1 q11 rz10 dd_M_addType_79 (fun H locs hS => ?_)
                    obtain ⟨M_12, eM_12⟩ : ∃ Z : Mm, Z = ms M61 42 (x3_61).toNat z10 := ⟨_, rfl⟩
                    rw [← eM_12] at hS
                    have hw := hw M_12 eM_12
                    have hm_M_12 := hS.2.2.2
                    refine lv_aload_n hx hb dd_M_addType_80 rfl (lv_at hl 0 rfl) ?_
                    refine x_get hC hS hM0.1 rfl iw_M 16 (by decide) tb_531 rfl rfl dd_M_addType_81 ?_
                    refine lv_iload_n hx hb dd_M_addType_84 rfl (lv_at hl 3 rfl) ?_
                    refine lv_aload_n hx hb dd_M_addType_85 rfl (lv_at hl 0 rfl) ?_
                    refine x_get hC hS hM0.1 rfl iw_M 16 (by decide) tb_531 rfl rfl dd_M_addType_86 ?_
                    refine lv_iload_n hx hb dd_M_addType_89 rfl (lv_at hl 3 rfl) ?_
                    refine x_iconst hC dd_M_addType_90 ?_
                    obtain ⟨q13, hw⟩ := hw
                    refine x_sub hC dd_M_addType_91 ?_
                    obtain ⟨q14, hw⟩ := hw
                    refine x_iald hC hS hM0.2.2.2.2.2.2.2.2.2.2.2.2.2.1 q14 dd_M_addType_92 ?_
                    refine x_nm (hm_M_12 43 _) (fun z15 rz15 ez15 => ?_)
                    have hw := hw z15 ez15
                    obtain ⟨q16, hw⟩ := hw
                    refine x_iast hC hS hM0.2.2.2.2.2.2.2.2.2.2.2.2.2.1 q16 rz15 dd_M_addType_93 (fun H locs hS => ?_)
                    obtain ⟨M_17, eM_17⟩ : ∃ Z : Mm, Z = ms M_12 43 (x3_61).toNat z15 := ⟨_, rfl⟩
                    rw [← eM_17] at hS
                    have hw := hw M_17 eM_17
                    have hm_M_17 := hS.2.2.2
                    obtain ⟨hr_, hw⟩ := hw
                    obtain ⟨v3_94, rv3_94, ev3_94⟩ : ∃ z : Int, inR z ∧ z = x3_61 + (-1) := ⟨_, hr_, rfl⟩
                    have hw := hw v3_94 ev3_94
                    refine lv_iinc (v := iI v3_94) (lv' := [(3, .int (iI v3_94)), (0, .ref (xA X 30)), (1, .int (iI a1)), (2, .int (iI x2_5))]) hx hb dd_M_addType_94 hl (k := 3) rfl (by rw [ev3_94]; exact iI_add _ _) (by decide) rfl (fun ls hl => ?_)
                    refine lv_goto (tgt := 61) hx hb dd_M_addType_97 (by decide) ?_
                    obtain ⟨k_18, h19, hI⟩ := hw
                    exact ih_I61 k_18 h19 v3_94 M_17 _ _ _ hI rv3_94 hS (lv_sub hl [1, 2, 3, 0] rfl)
              exact lp_I61 n0 v3_60 M _ _ _ hI rv3_60 hS (lv_sub hl [1, 2, 3, 0] rfl))
          refine x_if_le hC rx2_5 (tgt := 56) dd_M_addType_28 (by decide) (fun c20 => ?_) (fun c20 => ?_)
          · have hw := hw.1 c20
            exact hw _ _ _  hS (lv_sub hl [0, 1, 2] rfl)
          · have hw := hw.2 c20
            refine lv_aload_n hx hb dd_M_addType_31 rfl (lv_at hl 0 rfl) ?_
            refine x_get hC hS hM0.1 rfl iw_M 15 (by decide) tb_530 rfl rfl dd_M_addType_32 ?_
            refine lv_iload_n hx hb dd_M_addType_35 rfl (lv_at hl 2 rfl) ?_
            refine x_iconst hC dd_M_addType_36 ?_
            obtain ⟨q21, hw⟩ := hw
            refine x_sub hC dd_M_addType_37 ?_
            obtain ⟨q22, hw⟩ := hw
            refine x_iald hC hS hM0.2.2.2.2.2.2.2.2.2.2.2.2.1 q22 dd_M_addType_38 ?_
            refine x_nm (hm_M 42 _) (fun z23 rz23 ez23 => ?_)
            have hw := hw z23 ez23
            refine lv_iload_n hx hb dd_M_addType_39 rfl (lv_at hl 1 rfl) ?_
            refine x_icmp_ne hC rz23 ra1 (tgt := 56) dd_M_addType_40 (by decide) (fun c24 => ?_) (fun c24 => ?_)
            · have hw := hw.1 c24
              exact hw _ _ _  hS (lv_sub hl [0, 1, 2] rfl)
            · have hw := hw.2 c24
              refine lv_aload_n hx hb dd_M_addType_43 rfl (lv_at hl 0 rfl) ?_
              refine x_get hC hS hM0.1 rfl iw_M 16 (by decide) tb_531 rfl rfl dd_M_addType_44 ?_
              refine lv_iload_n hx hb dd_M_addType_47 rfl (lv_at hl 2 rfl) ?_
              refine x_iconst hC dd_M_addType_48 ?_
              obtain ⟨q25, hw⟩ := hw
              refine x_sub hC dd_M_addType_49 ?_
              refine lv_dup2_11 hx hb dd_M_addType_50 rfl rfl ?_
              obtain ⟨q26, hw⟩ := hw
              refine x_iald hC hS hM0.2.2.2.2.2.2.2.2.2.2.2.2.2.1 q26 dd_M_addType_51 ?_
              refine x_nm (hm_M 43 _) (fun z27 rz27 ez27 => ?_)
              have hw := hw z27 ez27
              refine x_iconst hC dd_M_addType_52 ?_
              obtain ⟨q28, hw⟩ := hw
              refine x_add hC dd_M_addType_53 ?_
              obtain ⟨q29, hw⟩ := hw
              refine x_iast hC hS hM0.2.2.2.2.2.2.2.2.2.2.2.2.2.1 q29 q28 dd_M_addType_54 (fun H locs hS => ?_)
              obtain ⟨M_30, eM_30⟩ : ∃ Z : Mm, Z = ms M 43 ((x2_5 - 1)).toNat (z27 + 1) := ⟨_, rfl⟩
              rw [← eM_30] at hS
              have hw := hw M_30 eM_30
              have hm_M_30 := hS.2.2.2
              exact x_vret hC hS hlocks hr hw dd_M_addType_55)
      refine x_if_le hC rx2_5 (tgt := 27) dd_M_addType_6 (by decide) (fun c31 => ?_) (fun c31 => ?_)
      · have hw := hw.1 c31
        exact hw _ _ _  hS (lv_sub hl [0, 1, 2] rfl)
      · have hw := hw.2 c31
        refine lv_aload_n hx hb dd_M_addType_9 rfl (lv_at hl 0 rfl) ?_
        refine x_get hC hS hM0.1 rfl iw_M 15 (by decide) tb_530 rfl rfl dd_M_addType_10 ?_
        refine lv_iload_n hx hb dd_M_addType_13 rfl (lv_at hl 2 rfl) ?_
        refine x_iconst hC dd_M_addType_14 ?_
        obtain ⟨q32, hw⟩ := hw
        refine x_sub hC dd_M_addType_15 ?_
        obtain ⟨q33, hw⟩ := hw
        refine x_iald hC hS hM0.2.2.2.2.2.2.2.2.2.2.2.2.1 q33 dd_M_addType_16 ?_
        refine x_nm (hm_M 42 _) (fun z34 rz34 ez34 => ?_)
        have hw := hw z34 ez34
        refine lv_iload_n hx hb dd_M_addType_17 rfl (lv_at hl 1 rfl) ?_
        refine x_icmp_ge hC rz34 ra1 (tgt := 27) dd_M_addType_18 (by decide) (fun c35 => ?_) (fun c35 => ?_)
        · have hw := hw.1 c35
          exact hw _ _ _  hS (lv_sub hl [0, 1, 2] rfl)
        · have hw := hw.2 c35
          obtain ⟨hr_, hw⟩ := hw
          obtain ⟨v2_21, rv2_21, ev2_21⟩ : ∃ z : Int, inR z ∧ z = x2_5 + (-1) := ⟨_, hr_, rfl⟩
          have hw := hw v2_21 ev2_21
          refine lv_iinc (v := iI v2_21) (lv' := [(2, .int (iI v2_21)), (0, .ref (xA X 30)), (1, .int (iI a1))]) hx hb dd_M_addType_21 hl (k := 2) rfl (by rw [ev2_21]; exact iI_add _ _) (by decide) rfl (fun ls hl => ?_)
          refine lv_goto (tgt := 5) hx hb dd_M_addType_24 (by decide) ?_
          obtain ⟨k_36, h37, hI⟩ := hw
          exact ih_I5 k_36 h37 v2_21 _ _ _ hI rv2_21 hS (lv_sub hl [1, 2, 0] rfl)
  exact lp_I5 n0 v2_4 _ _ _ hI rv2_4 hS (lv_sub hl [1, 2, 0] rfl)
