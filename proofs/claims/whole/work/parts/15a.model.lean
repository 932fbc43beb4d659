def wp_M_beginGroup (M : Mm) (post : Mm → Prop) : Prop :=
  ∀ M_1 : Mm, M_1 = ms M 30 8 0 → post M_1
set_option maxHeartbeats 4000000 in
set_option maxRecDepth 100000 in
theorem mt_M_beginGroup (l : Launch) (X : Xw) (hlc : lcl X)(hM0 : IsM X) (M : Mm) (hm_M : mr M) (post : Mm → Prop) (sz : Nat) (hw : wp_M_beginGroup M post) : Met l yy_M_beginGroup (Cond.code yy_M_beginGroup bc_M_beginGroup 1 none :: tg) ({ frames := 0, cells := 0, slots := 0, locals := 0 } : Room) (Pw X [.ref (xA X 30)] M sz) (Qv X sz post) 0 0 (xF X sz) := by
  unfold wp_M_beginGroup at hw
  refine x_enter (by decide) hlc hm_M (Nat.le_of_ble_eq_true rfl) ?_
  intro p e s m below meth c ls hC hsz hr hlocks hS hl
  have hx := hC.1.1
  have hb := hC.1.2.1
  have hl : lv_has ls 1 [(0, .ref (xA X 30))] := hl
  refine lv_aload_n hx hb dd_M_beginGroup_0 rfl (lv_at hl 0 rfl) ?_
  refine x_iconst hC dd_M_beginGroup_1 ?_
  refine x_put hC hS hM0.1 rfl iw_M fy_M fk_M fn_M 8 (by decide) tb_523 rfl (rk rfl) rfl rfl (ps_M_8 _ _ _) (Nat.le_of_ble_eq_true rfl) dd_M_beginGroup_2 (fun H locs hS => ?_)
  obtain ⟨M_1, eM_1⟩ : ∃ Z : Mm, Z = ms M 30 8 0 := ⟨_, rfl⟩
  rw [← eM_1] at hS
  have hw := hw M_1 eM_1
  have hm_M_1 := hS.2.2.2
  exact x_vret hC hS hlocks hr hw dd_M_beginGroup_5
def wp_M_many (M : Mm) (post : Int → Prop) : Prop :=
  (0 ≤ (0 : Int) ∧ (0 : Int) < 5046) ∧ ∀ z2 : Int, z2 = M 31 ((0 : Int)).toNat → post z2
set_option maxHeartbeats 4000000 in
set_option maxRecDepth 100000 in
theorem mt_M_many (l : Launch) (X : Xw) (hlc : lcl X)(hM0 : IsM X) (M : Mm) (hm_M : mr M) (post : Int → Prop) (sz : Nat) (hw : wp_M_many M post) : Met l yy_M_many (Cond.code yy_M_many bc_M_many 1 (some .int) :: tg) ({ frames := 0, cells := 0, slots := 0, locals := 0 } : Room) (Pw X [.ref (xA X 30)] M sz) (Qi X sz (fun r M1 => M1 = M ∧ post r)) 0 0 (xF X sz) := by
  unfold wp_M_many at hw
  refine x_enter (by decide) hlc hm_M (Nat.le_of_ble_eq_true rfl) ?_
  intro p e s m below meth c ls hC hsz hr hlocks hS hl
  have hx := hC.1.1
  have hb := hC.1.2.1
  have hl : lv_has ls 1 [(0, .ref (xA X 30))] := hl
  refine lv_aload_n hx hb dd_M_many_0 rfl (lv_at hl 0 rfl) ?_
  refine x_get hC hS hM0.1 rfl iw_M 0 (by decide) tb_515 rfl rfl dd_M_many_1 ?_
  refine x_iconst hC dd_M_many_4 ?_
  obtain ⟨q1, hw⟩ := hw
  refine x_iald hC hS hM0.2.1 q1 dd_M_many_5 ?_
  refine x_nm (hm_M 31 _) (fun z2 rz2 ez2 => ?_)
  have hw := hw z2 ez2
  exact x_iret hC hS hlocks hr rz2 ⟨rfl, hw⟩ dd_M_many_6
def wp_M_layStill (M : Mm) (post : Mm → Prop) : Prop :=
  ∃ I2 : Nat → Int → Mm → Prop, (∃ n, I2 n 0 M) ∧ ∀ (n2 : Nat) (x1_2 : Int) (M2 : Mm), I2 n2 x1_2 M2 →
    (wp_M_many M2 (fun (r4 : Int) => (r4 ≤ x1_2 → post M2) ∧
      (¬ r4 ≤ x1_2 → (0 ≤ x1_2 ∧ x1_2 < 7) ∧ ∀ M_3 : Mm, M_3 = ms M2 35 (x1_2).toNat x1_2 → inR (x1_2 + 1) ∧ ∀ v1_17 : Int, v1_17 = x1_2 + 1 → ∃ k_4, k_4 < n2 ∧ I2 k_4 v1_17 M_3)))
set_option maxHeartbeats 4000000 in
set_option maxRecDepth 100000 in
theorem mt_M_layStill (l : Launch) (X : Xw) (hlc : lcl X)(hM0 : IsM X) (M : Mm) (hm_M : mr M) (post : Mm → Prop) (sz : Nat) (hw : wp_M_layStill M post) : Met l yy_M_layStill (Cond.code yy_M_layStill bc_M_layStill 2 none :: tg) ({ frames := 1, cells := 0, slots := 0, locals := 20 } : Room) (Pw X [.ref (xA X 30)] M sz) (Qv X sz post) 0 0 (xF X sz) := by
  unfold wp_M_layStill at hw
  refine x_enter (by decide) hlc hm_M (Nat.le_of_ble_eq_true rfl) ?_
  intro p e s m below meth c ls hC hsz hr hlocks hS hl
  have hx := hC.1.1
  have hb := hC.1.2.1
  have hl : lv_has ls 2 [(0, .ref (xA X 30))] := hl
  refine x_iconst hC dd_M_layStill_0 ?_
  refine lv_istore_n (lv' := [(1, .int (iI 0)), (0, .ref (xA X 30))]) hx hb dd_M_layStill_1 rfl hl (by decide) rfl (fun ls hl => ?_)
  obtain ⟨I2, ⟨n0, hI⟩, hstep_I2⟩ := hw
  have lp_I2 : ∀ (n2 : Nat) (x1_2 : Int) (M2 : Mm) (H : Heap) (locs : List Loc) (ls : Array Slot), I2 n2 x1_2 M2 → inR x1_2 → St X (xF X sz) s M2 H locs → lv_has ls 2 [(0, .ref (xA X 30)), (1, .int (iI x1_2))] → W p l e ({ frames := 1, cells := 0, slots := 0, locals := 20 } : Room) s m ([.ref (xA X 30)] : List Value).toArray below meth c H locs 0 0 (MQ below (Qv X sz post) ([.ref (xA X 30)] : List Value).toArray s 0 0 (xF X sz)) (F0 m 2 ls []) := by
    intro n2
    induction n2 using Nat.strongRecOn with
    | _ n2 ih_I2 =>
      intro x1_2 M2 H locs ls hI rx1_2 hS hl
      have hw := hstep_I2 n2 x1_2 M2 hI
      have hm_M2 := hS.2.2.2
      refine lv_iload_n hx hb dd_M_layStill_2 rfl (lv_at hl 1 rfl) ?_
      refine lv_aload_n hx hb dd_M_layStill_3 rfl (lv_at hl 0 rfl) ?_
      refine x_callVi hC hS (As := []) (rest := [.int (iI x1_2)]) hM0.1 rfl cv_M_many (mt_M_many l X hC.2.2.1 hM0  M2 hm_M2 _ _ hw) tb_495 rfl rfl ⟨Nat.le_of_ble_eq_true rfl, Nat.le_of_ble_eq_true rfl⟩ rfl hl.1 (Nat.le_of_ble_eq_true rfl) dd_M_layStill_4 ⟨Nat.le_refl _, Nat.le_refl _⟩ rfl (fun r4 Mx H locs rr4 hp hS => ?_)
      obtain ⟨hq, hw⟩ := hp
      rw [hq] at hS
      refine x_icmp_ge hC rx1_2 rr4 (tgt := 23) dd_M_layStill_7 (by decide) (fun c1 => ?_) (fun c1 => ?_)
      · have hw := hw.1 c1
        exact x_vret hC hS hlocks hr hw dd_M_layStill_23
      · have hw := hw.2 c1
        refine lv_aload_n hx hb dd_M_layStill_10 rfl (lv_at hl 0 rfl) ?_
        refine x_get hC hS hM0.1 rfl iw_M 5 (by decide) tb_520 rfl rfl dd_M_layStill_11 ?_
        refine lv_iload_n hx hb dd_M_layStill_14 rfl (lv_at hl 1 rfl) ?_
        refine lv_iload_n hx hb dd_M_layStill_15 rfl (lv_at hl 1 rfl) ?_
        obtain ⟨q2, hw⟩ := hw
        refine x_iast hC hS hM0.2.2.2.2.2.1 q2 rx1_2 dd_M_layStill_16 (fun H locs hS => ?_)
        obtain ⟨M_3, eM_3⟩ : ∃ Z : Mm, Z = ms M2 35 (x1_2).toNat x1_2 := ⟨_, rfl⟩
        rw [← eM_3] at hS
        have hw := hw M_3 eM_3
        have hm_M_3 := hS.2.2.2
        obtain ⟨hr_, hw⟩ := hw
        obtain ⟨v1_17, rv1_17, ev1_17⟩ : ∃ z : Int, inR z ∧ z = x1_2 + 1 := ⟨_, hr_, rfl⟩
        have hw := hw v1_17 ev1_17
        refine lv_iinc (v := iI v1_17) (lv' := [(1, .int (iI v1_17)), (0, .ref (xA X 30))]) hx hb dd_M_layStill_17 hl (k := 1) rfl (by rw [ev1_17]; exact iI_add _ _) (by decide) rfl (fun ls hl => ?_)
        refine lv_goto (tgt := 2) hx hb dd_M_layStill_20 (by decide) ?_
        obtain ⟨k_4, h5, hI⟩ := hw
        exact ih_I2 k_4 h5 v1_17 M_3 _ _ _ hI rv1_17 hS (lv_sub hl [1, 0] rfl)
  exact lp_I2 n0 0 M _ _ _ hI (rk rfl) hS (lv_sub hl [1, 0] rfl)
def wp_M_rank (M : Mm) (post : Int → Prop) : Prop :=
  ∃ I4 : Nat → Int → Int → Prop, (∃ n, I4 n 0 0) ∧ ∀ (n4 : Nat) (x1_4 : Int) (x2_4 : Int), I4 n4 x1_4 x2_4 →
    (wp_M_many M (fun (r6 : Int) => (r6 ≤ x2_4 → post x1_4) ∧
      (¬ r6 ≤ x2_4 → inR (x2_4 + 1) ∧ ∀ v4_17 : Int, v4_17 = (x2_4 + 1) → ∃ I19 : Nat → Int → Int → Prop, (∃ n, I19 n 0 v4_17) ∧ ∀ (n19 : Nat) (x3_19 : Int) (x4_19 : Int), I19 n19 x3_19 x4_19 →
          (wp_M_many M (fun (r22 : Int) => (r22 ≤ x4_19 → wp_M_many M (fun (r60 : Int) => inR (r60 - x2_4) ∧ inR (x1_4 * (r60 - x2_4)) ∧ inR ((x1_4 * (r60 - x2_4)) + x3_19) ∧ ∀ v1_68 : Int, v1_68 = ((x1_4 * (r60 - x2_4)) + x3_19) → inR (x2_4 + 1) ∧ ∀ v2_69 : Int, v2_69 = x2_4 + 1 → ∃ k_7, k_7 < n4 ∧ I4 k_7 v1_68 v2_69)) ∧
            (¬ r22 ≤ x4_19 → (0 ≤ x4_19 ∧ x4_19 < 7) ∧ ∀ z10 : Int, z10 = M 35 (x4_19).toNat → (0 ≤ x2_4 ∧ x2_4 < 7) ∧ ∀ z12 : Int, z12 = M 35 (x2_4).toNat → ∀ K50 : Int → Prop, (∀ (s1_50 : Int), (inR (x3_19 + s1_50) ∧ ∀ v3_51 : Int, v3_51 = (x3_19 + s1_50) → inR (x4_19 + 1) ∧ ∀ v4_52 : Int, v4_52 = x4_19 + 1 → ∃ k_14, k_14 < n19 ∧ I19 k_14 v3_51 v4_52) →
                K50 s1_50) →
              ((z12 ≤ z10 → K50 0) ∧
              (¬ z12 ≤ z10 → K50 1))))))))
set_option maxHeartbeats 4000000 in
set_option maxRecDepth 100000 in
theorem mt_M_rank (l : Launch) (X : Xw) (hlc : lcl X)(hM0 : IsM X) (M : Mm) (hm_M : mr M) (post : Int → Prop) (sz : Nat) (hw : wp_M_rank M post) : Met l yy_M_rank (Cond.code yy_M_rank bc_M_rank 5 (some .int) :: tg) ({ frames := 1, cells := 0, slots := 0, locals := 20 } : Room) (Pw X [.ref (xA X 30)] M sz) (Qi X sz (fun r M1 => M1 = M ∧ post r)) 0 0 (xF X sz) := by
  unfold wp_M_rank at hw
  refine x_enter (by decide) hlc hm_M (Nat.le_of_ble_eq_true rfl) ?_
  intro p e s m below meth c ls hC hsz hr hlocks hS hl
  have hx := hC.1.1
  have hb := hC.1.2.1
  have hl : lv_has ls 5 [(0, .ref (xA X 30))] := hl
  refine x_iconst hC dd_M_rank_0 ?_
  refine lv_istore_n (lv' := [(1, .int (iI 0)), (0, .ref (xA X 30))]) hx hb dd_M_rank_1 rfl hl (by decide) rfl (fun ls hl => ?_)
  refine x_iconst hC dd_M_rank_2 ?_
  refine lv_istore_n (lv' := [(2, .int (iI 0)), (1, .int (iI 0)), (0, .ref (xA X 30))]) hx hb dd_M_rank_3 rfl hl (by decide) rfl (fun ls hl => ?_)
  obtain ⟨I4, ⟨n0, hI⟩, hstep_I4⟩ := hw
  have lp_I4 : ∀ (n4 : Nat) (x1_4 : Int) (x2_4 : Int) (H : Heap) (locs : List Loc) (ls : Array Slot), I4 n4 x1_4 x2_4 → inR x1_4 → inR x2_4 → St X (xF X sz) s M H locs → lv_has ls 5 [(0, .ref (xA X 30)), (1, .int (iI x1_4)), (2, .int (iI x2_4))] → W p l e ({ frames := 1, cells := 0, slots := 0, locals := 20 } : Room) s m ([.ref (xA X 30)] : List Value).toArray below meth c H locs 0 0 (MQ below (Qi X sz (fun r M1 => M1 = M ∧ post r)) ([.ref (xA X 30)] : List Value).toArray s 0 0 (xF X sz)) (F0 m 4 ls []) := by
    intro n4
    induction n4 using Nat.strongRecOn with
    | _ n4 ih_I4 =>
      intro x1_4 x2_4 H locs ls hI rx1_4 rx2_4 hS hl
      have hw := hstep_I4 n4 x1_4 x2_4 hI
      refine lv_iload_n hx hb dd_M_rank_4 rfl (lv_at hl 2 rfl) ?_
      refine lv_aload_n hx hb dd_M_rank_5 rfl (lv_at hl 0 rfl) ?_
      refine x_callVi hC hS (As := []) (rest := [.int (iI x2_4)]) hM0.1 rfl cv_M_many (mt_M_many l X hC.2.2.1 hM0  M hm_M _ _ hw) tb_495 rfl rfl ⟨Nat.le_of_ble_eq_true rfl, Nat.le_of_ble_eq_true rfl⟩ rfl hl.1 (Nat.le_of_ble_eq_true rfl) dd_M_rank_6 ⟨Nat.le_refl _, Nat.le_refl _⟩ rfl (fun r6 Mx H locs rr6 hp hS => ?_)
      obtain ⟨hq, hw⟩ := hp
      rw [hq] at hS
      refine x_icmp_ge hC rx2_4 rr6 (tgt := 75) dd_M_rank_9 (by decide) (fun c1 => ?_) (fun c1 => ?_)
      · have hw := hw.1 c1
        refine lv_iload_n hx hb dd_M_rank_75 rfl (lv_at hl 1 rfl) ?_
        exact x_iret hC hS hlocks hr rx1_4 ⟨rfl, hw⟩ dd_M_rank_76
      · have hw := hw.2 c1
        refine x_iconst hC dd_M_rank_12 ?_
        refine lv_istore_n (lv' := [(3, .int (iI 0)), (0, .ref (xA X 30)), (1, .int (iI x1_4)), (2, .int (iI x2_4))]) hx hb dd_M_rank_13 rfl hl (by decide) rfl (fun ls hl => ?_)
        refine lv_iload_n hx hb dd_M_rank_14 rfl (lv_at hl 3 rfl) ?_
        refine x_iconst hC dd_M_rank_15 ?_
        obtain ⟨q2, hw⟩ := hw
        refine x_add hC dd_M_rank_16 ?_
        refine x_nm q2 (fun v4_17 rv4_17 ev4_17 => ?_)
        have hw := hw v4_17 ev4_17
        refine lv_istore (lv' := [(4, .int (iI v4_17)), (3, .int (iI 0)), (0, .ref (xA X 30)), (1, .int (iI x1_4)), (2, .int (iI x2_4))]) hx hb dd_M_rank_17 hl (by decide) rfl (fun ls hl => ?_)
        obtain ⟨I19, ⟨n0, hI⟩, hstep_I19⟩ := hw
        have lp_I19 : ∀ (n19 : Nat) (x3_19 : Int) (x4_19 : Int) (H : Heap) (locs : List Loc) (ls : Array Slot), I19 n19 x3_19 x4_19 → inR x3_19 → inR x4_19 → St X (xF X sz) s M H locs → lv_has ls 5 [(0, .ref (xA X 30)), (1, .int (iI x1_4)), (2, .int (iI x2_4)), (3, .int (iI x3_19)), (4, .int (iI x4_19))] → W p l e ({ frames := 1, cells := 0, slots := 0, locals := 20 } : Room) s m ([.ref (xA X 30)] : List Value).toArray below meth c H locs 0 0 (MQ below (Qi X sz (fun r M1 => M1 = M ∧ post r)) ([.ref (xA X 30)] : List Value).toArray s 0 0 (xF X sz)) (F0 m 19 ls []) := by
          intro n19
          induction n19 using Nat.strongRecOn with
          | _ n19 ih_I19 =>
            intro x3_19 x4_19 H locs ls hI rx3_19 rx4_19 hS hl
            have hw := hstep_I19 n19 x3_19 x4_19 hI
            refine lv_iload hx hb dd_M_rank_19 (lv_at hl 4 rfl) ?_
            refine lv_aload_n hx hb dd_M_rank_21 rfl (lv_at hl 0 rfl) ?_
            refine x_callVi hC hS (As := []) (rest := [.int (iI x4_19)]) hM0.1 rfl cv_M_many (mt_M_many l X hC.2.2.1 hM0  M hm_M _ _ hw) tb_495 rfl rfl ⟨Nat.le_of_ble_eq_true rfl, Nat.le_of_ble_eq_true rfl⟩ rfl hl.1 (Nat.le_of_ble_eq_true rfl) dd_M_rank_22 ⟨Nat.le_refl _, Nat.le_refl _⟩ rfl (fun r22 Mx H locs rr22 hp hS => ?_)
            obtain ⟨hq, hw⟩ := hp
            rw [hq] at hS
            refine x_icmp_ge hC rx4_19 rr22 (tgt := 58) dd_M_rank_25 (by decide) (fun c3 => ?_) (fun c3 => ?_)
            · have hw := hw.1 c3
              refine lv_iload_n hx hb dd_M_rank_58 rfl (lv_at hl 1 rfl) ?_
              refine lv_aload_n hx hb dd_M_rank_59 rfl (lv_at hl 0 rfl) ?_
              refine x_callVi hC hS (As := []) (rest := [.int (iI x1_4)]) hM0.1 rfl cv_M_many (mt_M_many l X hC.2.2.1 hM0  M hm_M _ _ hw) tb_495 rfl rfl ⟨Nat.le_of_ble_eq_true rfl, Nat.le_of_ble_eq_true rfl⟩ rfl hl.1 (Nat.le_of_ble_eq_true rfl) dd_M_rank_60 ⟨Nat.le_refl _, Nat.le_refl _⟩ rfl (fun r60 Mx H locs rr60 hp hS => ?_)
              obtain ⟨hq, hw⟩ := hp
              rw [hq] at hS
              refine lv_iload_n hx hb dd_M_rank_63 rfl (lv_at hl 2 rfl) ?_
              obtain ⟨q4, hw⟩ := hw
              refine x_sub hC dd_M_rank_64 ?_
              obtain ⟨q5, hw⟩ := hw
              refine x_mul hC dd_M_rank_65 ?_
              refine lv_iload_n hx hb dd_M_rank_66 rfl (lv_at hl 3 rfl) ?_
              obtain ⟨q6, hw⟩ := hw
              refine x_add hC dd_M_rank_67 ?_
              refine x_nm q6 (fun v1_68 rv1_68 ev1_68 => ?_)
              have hw := hw v1_68 ev1_68
              refine lv_istore_n (lv' := [(1, .int (iI v1_68)), (0, .ref (xA X 30)), (2, .int (iI x2_4)), (3, .int (iI x3_19)), (4, .int (iI x4_19))]) hx hb dd_M_rank_68 rfl hl (by decide) rfl (fun ls hl => ?_)
              obtain ⟨hr_, hw⟩ := hw
              obtain ⟨v2_69, rv2_69, ev2_69⟩ : ∃ z : Int, inR z ∧ z = x2_4 + 1 := ⟨_, hr_, rfl⟩
              have hw := hw v2_69 ev2_69
              refine lv_iinc (v := iI v2_69) (lv' := [(2, .int (iI v2_69)), (1, .int (iI v1_68)), (0, .ref (xA X 30)), (3, .int (iI x3_19)), (4, .int (iI x4_19))]) hx hb dd_M_rank_69 hl (k := 2) rfl (by rw [ev2_69]; exact iI_add _ _) (by decide) rfl (fun ls hl => ?_)
              refine lv_goto (tgt := 4) hx hb dd_M_rank_72 (by decide) ?_
              obtain ⟨k_7, h8, hI⟩ := hw
              exact ih_I4 k_7 h8 v1_68 v2_69 _ _ _ hI rv1_68 rv2_69 hS (lv_sub hl [2, 1, 0] rfl)
            · have hw := hw.2 c3
              refine lv_iload_n hx hb dd_M_rank_28 rfl (lv_at hl 3 rfl) ?_
              refine lv_aload_n hx hb dd_M_rank_29 rfl (lv_at hl 0 rfl) ?_
              refine x_get hC hS hM0.1 rfl iw_M 5 (by decide) tb_520 rfl rfl dd_M_rank_30 ?_
              refine lv_iload hx hb dd_M_rank_33 (lv_at hl 4 rfl) ?_
              obtain ⟨q9, hw⟩ := hw
              refine x_iald hC hS hM0.2.2.2.2.2.1 q9 dd_M_rank_35 ?_
              refine x_nm (hm_M 35 _) (fun z10 rz10 ez10 => ?_)
              have hw := hw z10 ez10
              refine lv_aload_n hx hb dd_M_rank_36 rfl (lv_at hl 0 rfl) ?_
              refine x_get hC hS hM0.1 rfl iw_M 5 (by decide) tb_520 rfl rfl dd_M_rank_37 ?_
              refine lv_iload_n hx hb dd_M_rank_40 rfl (lv_at hl 2 rfl) ?_
              obtain ⟨q11, hw⟩ := hw
              refine x_iald hC hS hM0.2.2.2.2.2.1 q11 dd_M_rank_41 ?_
              refine x_nm (hm_M 35 _) (fun z12 rz12 ez12 => ?_)
              have hw := hw z12 ez12
              have hw := hw (fun (s1_50 : Int) => ∀ (H : Heap) (locs : List Loc) (ls : Array Slot), inR s1_50 → St X (xF X sz) s M H locs → lv_has ls 5 [(0, .ref (xA X 30)), (1, .int (iI x1_4)), (2, .int (iI x2_4)), (4, .int (iI x4_19))] → W p l e ({ frames := 1, cells := 0, slots := 0, locals := 20 } : Room) s m ([.ref (xA X 30)] : List Value).toArray below meth c H locs 0 0 (MQ below (Qi X sz (fun r M1 => M1 = M ∧ post r)) ([.ref (xA X 30)] : List Value).toArray s 0 0 (xF X sz)) (F0 m 50 ls [.int (iI s1_50), .int (iI x3_19)])) (by
                  intro s1_50 hw H locs ls rs1_50 hS hl
                  obtain ⟨q13, hw⟩ := hw
                  refine x_add hC dd_M_rank_50 ?_
                  refine x_nm q13 (fun v3_51 rv3_51 ev3_51 => ?_)
                  have hw := hw v3_51 ev3_51
                  refine lv_istore_n (lv' := [(3, .int (iI v3_51)), (0, .ref (xA X 30)), (1, .int (iI x1_4)), (2, .int (iI x2_4)), (4, .int (iI x4_19))]) hx hb dd_M_rank_51 rfl hl (by decide) rfl (fun ls hl => ?_)
                  obtain ⟨hr_, hw⟩ := hw
                  obtain ⟨v4_52, rv4_52, ev4_52⟩ : ∃ z : Int, inR z ∧ z = x4_19 + 1 := ⟨_, hr_, rfl⟩
                  have hw := hw v4_52 ev4_52
                  refine lv_iinc (v := iI v4_52) (lv' := [(4, .int (iI v4_52)), (3, .int (iI v3_51)), (0, .ref (xA X 30)), (1, .int (iI x1_4)), (2, .int (iI x2_4))]) hx hb dd_M_rank_52 hl (k := 4) rfl (by rw [ev4_52]; exact iI_add _ _) (by decide) rfl (fun ls hl => ?_)
                  refine lv_goto (tgt := 19) hx hb dd_M_rank_55 (by decide) ?_
                  obtain ⟨k_14, h15, hI⟩ := hw
                  exact ih_I19 k_14 h15 v3_51 v4_52 _ _ _ hI rv3_51 rv4_52 hS (lv_sub hl [2, 3, 4, 1, 0] rfl))
              refine x_icmp_ge hC rz10 rz12 (tgt := 49) dd_M_rank_42 (by decide) (fun c16 => ?_) (fun c16 => ?_)
              · have hw := hw.1 c16
                refine x_iconst hC dd_M_rank_49 ?_
                exact hw _ _ _ (rk rfl) hS (lv_sub hl [0, 1, 2, 4] rfl)
              · have hw := hw.2 c16
                refine x_iconst hC dd_M_rank_45 ?_
                refine lv_goto (tgt := 50) hx hb dd_M_rank_46 (by decide) ?_
                exact hw _ _ _ (rk rfl) hS (lv_sub hl [0, 1, 2, 4] rfl)
        exact lp_I19 n0 0 v4_17 _ _ _ hI (rk rfl) rv4_17 hS (lv_sub hl [2, 3, 4, 1, 0] rfl)
  exact lp_I4 n0 0 0 _ _ _ hI (rk rfl) (rk rfl) hS (lv_sub hl [2, 1, 0] rfl)
def wp_M_meet (a1 : Int) (M : Mm) (post : Mm → Prop) : Prop :=
  inR (6 + a1) ∧ (0 ≤ (6 + a1) ∧ (6 + a1) < 5046) ∧ ∀ z3 : Int, z3 = M 31 ((6 + a1)).toNat → (¬ z3 = 0 → post M) ∧
  (z3 = 0 → inR (6 + a1) ∧ (0 ≤ (6 + a1) ∧ (6 + a1) < 5046) ∧ ∀ M_7 : Mm, M_7 = ms M 31 ((6 + a1)).toNat 1 → (0 ≤ (M_7 30 10) ∧ (M_7 30 10) < 5040) ∧ ∀ M_9 : Mm, M_9 = ms M_7 38 ((M_7 30 10)).toNat a1 → inR ((M_9 30 10) + 1) ∧ ∀ M_11 : Mm, M_11 = ms M_9 30 10 ((M_9 30 10) + 1) → post M_11)
set_option maxHeartbeats 4000000 in
set_option maxRecDepth 100000 in
theorem mt_M_meet (l : Launch) (X : Xw) (hlc : lcl X)(hM0 : IsM X) (a1 : Int) (ra1 : inR a1) (M : Mm) (hm_M : mr M) (post : Mm → Prop) (sz : Nat) (hw : wp_M_meet a1 M post) : Met l yy_M_meet (Cond.code yy_M_meet bc_M_meet 2 none :: tg) ({ frames := 0, cells := 0, slots := 0, locals := 0 } : Room) (Pw X [.ref (xA X 30), .int (iI a1)] M sz) (Qv X sz post) 0 0 (xF X sz) := by
  unfold wp_M_meet at hw
  refine x_enter (by decide) hlc hm_M (Nat.le_of_ble_eq_true rfl) ?_
  intro p e s m below meth c ls hC hsz hr hlocks hS hl
  have hx := hC.1.1
  have hb := hC.1.2.1
  have hl : lv_has ls 2 [(0, .ref (xA X 30)), (1, .int (iI a1))] := hl
  refine lv_aload_n hx hb dd_M_meet_0 rfl (lv_at hl 0 rfl) ?_
  refine x_get hC hS hM0.1 rfl iw_M 0 (by decide) tb_515 rfl rfl dd_M_meet_1 ?_
  refine x_bipush hC dd_M_meet_4 (by decide) ?_
  refine lv_iload_n hx hb dd_M_meet_6 rfl (lv_at hl 1 rfl) ?_
  obtain ⟨q1, hw⟩ := hw
  refine x_add hC dd_M_meet_7 ?_
  obtain ⟨q2, hw⟩ := hw
  refine x_iald hC hS hM0.2.1 q2 dd_M_meet_8 ?_
  refine x_nm (hm_M 31 _) (fun z3 rz3 ez3 => ?_)
  have hw := hw z3 ez3
  refine x_if_ne hC rz3 (tgt := 42) dd_M_meet_9 (by decide) (fun c4 => ?_) (fun c4 => ?_)
  · have hw := hw.1 c4
    exact x_vret hC hS hlocks hr hw dd_M_meet_42
  · have hw := hw.2 c4
    refine lv_aload_n hx hb dd_M_meet_12 rfl (lv_at hl 0 rfl) ?_
    refine x_get hC hS hM0.1 rfl iw_M 0 (by decide) tb_515 rfl rfl dd_M_meet_13 ?_
    refine x_bipush hC dd_M_meet_16 (by decide) ?_
    refine lv_iload_n hx hb dd_M_meet_18 rfl (lv_at hl 1 rfl) ?_
    obtain ⟨q5, hw⟩ := hw
    refine x_add hC dd_M_meet_19 ?_
    refine x_iconst hC dd_M_meet_20 ?_
    obtain ⟨q6, hw⟩ := hw
    refine x_iast hC hS hM0.2.1 q6 (rk rfl) dd_M_meet_21 (fun H locs hS => ?_)
    obtain ⟨M_7, eM_7⟩ : ∃ Z : Mm, Z = ms M 31 ((6 + a1)).toNat 1 := ⟨_, rfl⟩
    rw [← eM_7] at hS
    have hw := hw M_7 eM_7
    have hm_M_7 := hS.2.2.2
    refine lv_aload_n hx hb dd_M_meet_22 rfl (lv_at hl 0 rfl) ?_
    refine x_get hC hS hM0.1 rfl iw_M 9 (by decide) tb_524 rfl rfl dd_M_meet_23 ?_
    refine lv_aload_n hx hb dd_M_meet_26 rfl (lv_at hl 0 rfl) ?_
    refine x_get hC hS hM0.1 rfl iw_M 10 (by decide) tb_525 rfl rfl dd_M_meet_27 ?_
    refine lv_iload_n hx hb dd_M_meet_30 rfl (lv_at hl 1 rfl) ?_
    obtain ⟨q8, hw⟩ := hw
    refine x_iast hC hS hM0.2.2.2.2.2.2.2.2.1 q8 ra1 dd_M_meet_31 (fun H locs hS => ?_)
    obtain ⟨M_9, eM_9⟩ : ∃ Z : Mm, Z = ms M_7 38 ((M_7 30 10)).toNat a1 := ⟨_, rfl⟩
    rw [← eM_9] at hS
    have hw := hw M_9 eM_9
    have hm_M_9 := hS.2.2.2
    refine lv_aload_n hx hb dd_M_meet_32 rfl (lv_at hl 0 rfl) ?_
    refine lv_dup hx hb dd_M_meet_33 rfl ?_
    refine x_get hC hS hM0.1 rfl iw_M 10 (by decide) tb_525 rfl rfl dd_M_meet_34 ?_
    refine x_iconst hC dd_M_meet_37 ?_
    obtain ⟨q10, hw⟩ := hw
    refine x_add hC dd_M_meet_38 ?_
    refine x_put hC hS hM0.1 rfl iw_M fy_M fk_M fn_M 10 (by decide) tb_525 rfl q10 rfl rfl (ps_M_10 _ _ _) (Nat.le_of_ble_eq_true rfl) dd_M_meet_39 (fun H locs hS => ?_)
    obtain ⟨M_11, eM_11⟩ : ∃ Z : Mm, Z = ms M_9 30 10 ((M_9 30 10) + 1) := ⟨_, rfl⟩
    rw [← eM_11] at hS
    have hw := hw M_11 eM_11
    have hm_M_11 := hS.2.2.2
    exact x_vret hC hS hlocks hr hw dd_M_meet_42
def wp_M_layRank (a1 : Int) (M : Mm) (post : Mm → Prop) : Prop :=
  wp_M_many M (fun (r3 : Int) => inR (r3 - 1) ∧ ∀ v3_8 : Int, v3_8 = (r3 - 1) → ∃ I9 : Nat → Int → Int → Mm → Prop, (∃ n, I9 n a1 v3_8 M) ∧ ∀ (n9 : Nat) (x2_9 : Int) (x3_9 : Int) (M9 : Mm), I9 n9 x2_9 x3_9 M9 →
    ((x3_9 < 0 → ∃ I51 : Nat → Int → Mm → Prop, (∃ n, I51 n 0 M9) ∧ ∀ (n51 : Nat) (x3_51 : Int) (M51 : Mm), I51 n51 x3_51 M51 →
          (wp_M_many M51 (fun (r53 : Int) => (r53 ≤ x3_51 → post M51) ∧
            (¬ r53 ≤ x3_51 → (0 ≤ x3_51 ∧ x3_51 < 7) ∧ ∀ z5 : Int, z5 = M51 35 (x3_51).toNat → ∃ I70 : Nat → Int → Int → Prop, (∃ n, I70 n z5 0) ∧ ∀ (n70 : Nat) (x4_70 : Int) (x5_70 : Int), I70 n70 x4_70 x5_70 →
                ((0 ≤ x5_70 ∧ x5_70 < 7) ∧ ∀ z7 : Int, z7 = M51 36 (x5_70).toNat → ∀ K85 : Prop, (((0 ≤ x5_70 ∧ x5_70 < 7) ∧ ∀ z9 : Int, z9 = M51 36 (x5_70).toNat → ∀ K102 : Int → Prop, (∀ (s1_102 : Int), (inR (x4_70 - s1_102) ∧ ∀ v4_103 : Int, v4_103 = (x4_70 - s1_102) → inR (x5_70 + 1) ∧ ∀ v5_105 : Int, v5_105 = x5_70 + 1 → ∃ k_11, k_11 < n70 ∧ I70 k_11 v4_103 v5_105) →
                        K102 s1_102) →
                      ((z9 = 0 → K102 1) ∧
                      (¬ z9 = 0 → K102 0))) →
                    K85) →
                  ((¬ z7 = 0 → K85) ∧
                  (z7 = 0 → (x4_70 ≤ 0 → (0 ≤ x5_70 ∧ x5_70 < 7) ∧ ∀ M_17 : Mm, M_17 = ms M51 36 (x5_70).toNat 1 → (0 ≤ x3_51 ∧ x3_51 < 7) ∧ ∀ M_19 : Mm, M_19 = ms M_17 35 (x3_51).toNat x5_70 → inR (x3_51 + 1) ∧ ∀ v3_127 : Int, v3_127 = x3_51 + 1 → ∃ k_20, k_20 < n51 ∧ I51 k_20 v3_127 M_19) ∧
                    (¬ x4_70 ≤ 0 → K85)))))))) ∧
      (¬ x3_9 < 0 → wp_M_many M9 (fun (r20 : Int) => inR (r20 - x3_9) ∧ (0 ≤ x2_9 ∧ 0 < (r20 - x3_9)) ∧ (0 ≤ x3_9 ∧ x3_9 < 7) ∧ ∀ M_25 : Mm, M_25 = ms M9 35 (x3_9).toNat (x2_9 % (r20 - x3_9)) → wp_M_many M_25 (fun (r29 : Int) => inR (r29 - x3_9) ∧ (0 ≤ x2_9 ∧ 0 < (r29 - x3_9)) ∧ ∀ v2_35 : Int, v2_35 = (x2_9 / (r29 - x3_9)) → (0 ≤ x3_9 ∧ x3_9 < 7) ∧ ∀ M_29 : Mm, M_29 = ms M_25 36 (x3_9).toNat 0 → inR (x3_9 + (-1)) ∧ ∀ v3_43 : Int, v3_43 = x3_9 + (-1) → ∃ k_30, k_30 < n9 ∧ I9 k_30 v2_35 v3_43 M_29)))))
set_option maxHeartbeats 4000000 in
set_option maxRecDepth 100000 in
theorem mt_M_layRank (l : Launch) (X : Xw) (hlc : lcl X)(hM0 : IsM X) (a1 : Int) (ra1 : inR a1) (M : Mm) (hm_M : mr M) (post : Mm → Prop) (sz : Nat) (hw : wp_M_layRank a1 M post) : Met l yy_M_layRank (Cond.code yy_M_layRank bc_M_layRank 6 none :: tg) ({ frames := 1, cells := 0, slots := 0, locals := 20 } : Room) (Pw X [.ref (xA X 30), .int (iI a1)] M sz) (Qv X sz post) 0 0 (xF X sz) := by
  unfold wp_M_layRank at hw
  refine x_enter (by decide) hlc hm_M (Nat.le_of_ble_eq_true rfl) ?_
  intro p e s m below meth c ls hC hsz hr hlocks hS hl
  have hx := hC.1.1
  have hb := hC.1.2.1
  have hl : lv_has ls 6 [(0, .ref (xA X 30)), (1, .int (iI a1))] := hl
  refine lv_iload_n hx hb dd_M_layRank_0 rfl (lv_at hl 1 rfl) ?_
  refine lv_istore_n (lv' := [(2, .int (iI a1)), (0, .ref (xA X 30)), (1, .int (iI a1))]) hx hb dd_M_layRank_1 rfl hl (by decide) rfl (fun ls hl => ?_)
  refine lv_aload_n hx hb dd_M_layRank_2 rfl (lv_at hl 1 rfl) ?_
  refine x_callVi hC hS (As := []) (rest := []) hM0.1 rfl cv_M_many (mt_M_many l X hC.2.2.1 hM0  M hm_M _ _ hw) tb_495 rfl rfl ⟨Nat.le_of_ble_eq_true rfl, Nat.le_of_ble_eq_true rfl⟩ rfl hl.1 (Nat.le_of_ble_eq_true rfl) dd_M_layRank_3 ⟨Nat.le_refl _, Nat.le_refl _⟩ rfl (fun r3 Mx H locs rr3 hp hS => ?_)
  obtain ⟨hq, hw⟩ := hp
  rw [hq] at hS
  refine x_iconst hC dd_M_layRank_6 ?_
  obtain ⟨q1, hw⟩ := hw
  refine x_sub hC dd_M_layRank_7 ?_
  refine x_nm q1 (fun v3_8 rv3_8 ev3_8 => ?_)
  have hw := hw v3_8 ev3_8
  refine lv_istore_n (lv' := [(3, .int (iI v3_8)), (2, .int (iI a1)), (0, .ref (xA X 30)), (1, .int (iI a1))]) hx hb dd_M_layRank_8 rfl hl (by decide) rfl (fun ls hl => ?_)
  obtain ⟨I9, ⟨n0, hI⟩, hstep_I9⟩ := hw
  have lp_I9 : ∀ (n9 : Nat) (x2_9 : Int) (x3_9 : Int) (M9 : Mm) (H : Heap) (locs : List Loc) (ls : Array Slot), I9 n9 x2_9 x3_9 M9 → inR x2_9 → inR x3_9 → St X (xF X sz) s M9 H locs → lv_has ls 6 [(0, .ref (xA X 30)), (2, .int (iI x2_9)), (3, .int (iI x3_9))] → W p l e ({ frames := 1, cells := 0, slots := 0, locals := 20 } : Room) s m ([.ref (xA X 30), .int (iI a1)] : List Value).toArray below meth c H locs 0 0 (MQ below (Qv X sz post) ([.ref (xA X 30), .int (iI a1)] : List Value).toArray s 0 0 (xF X sz)) (F0 m 9 ls []) := by
    intro n9
    induction n9 using Nat.strongRecOn with
    | _ n9 ih_I9 =>
      intro x2_9 x3_9 M9 H locs ls hI rx2_9 rx3_9 hS hl
      have hw := hstep_I9 n9 x2_9 x3_9 M9 hI
      have hm_M9 := hS.2.2.2
      refine lv_iload_n hx hb dd_M_layRank_9 rfl (lv_at hl 2 rfl) ?_
      refine x_if_lt hC rx3_9 (tgt := 49) dd_M_layRank_10 (by decide) (fun c2 => ?_) (fun c2 => ?_)
      · have hw := hw.1 c2
        refine x_iconst hC dd_M_layRank_49 ?_
        refine lv_istore_n (lv' := [(3, .int (iI 0)), (0, .ref (xA X 30)), (2, .int (iI x2_9))]) hx hb dd_M_layRank_50 rfl hl (by decide) rfl (fun ls hl => ?_)
        obtain ⟨I51, ⟨n0, hI⟩, hstep_I51⟩ := hw
        have lp_I51 : ∀ (n51 : Nat) (x3_51 : Int) (M51 : Mm) (H : Heap) (locs : List Loc) (ls : Array Slot), I51 n51 x3_51 M51 → inR x3_51 → St X (xF X sz) s M51 H locs → lv_has ls 6 [(0, .ref (xA X 30)), (3, .int (iI x3_51))] → W p l e ({ frames := 1, cells := 0, slots := 0, locals := 20 } : Room) s m ([.ref (xA X 30), .int (iI a1)] : List Value).toArray below meth c H locs 0 0 (MQ below (Qv X sz post) ([.ref (xA X 30), .int (iI a1)] : List Value).toArray s 0 0 (xF X sz)) (F0 m 51 ls []) := by
          intro n51
          induction n51 using Nat.strongRecOn with
          | _ n51 ih_I51 =>
            intro x3_51 M51 H locs ls hI rx3_51 hS hl
            have hw := hstep_I51 n51 x3_51 M51 hI
            have hm_M51 := hS.2.2.2
            refine lv_iload_n hx hb dd_M_layRank_51 rfl (lv_at hl 1 rfl) ?_
            refine lv_aload_n hx hb dd_M_layRank_52 rfl (lv_at hl 0 rfl) ?_
            refine x_callVi hC hS (As := []) (rest := [.int (iI x3_51)]) hM0.1 rfl cv_M_many (mt_M_many l X hC.2.2.1 hM0  M51 hm_M51 _ _ hw) tb_495 rfl rfl ⟨Nat.le_of_ble_eq_true rfl, Nat.le_of_ble_eq_true rfl⟩ rfl hl.1 (Nat.le_of_ble_eq_true rfl) dd_M_layRank_53 ⟨Nat.le_refl _, Nat.le_refl _⟩ rfl (fun r53 Mx H locs rr53 hp hS => ?_)
            obtain ⟨hq, hw⟩ := hp
            rw [hq] at hS
            refine x_icmp_ge hC rx3_51 rr53 (tgt := 133) dd_M_layRank_56 (by decide) (fun c3 => ?_) (fun c3 => ?_)
            · have hw := hw.1 c3
              exact x_vret hC hS hlocks hr hw dd_M_layRank_133
            · have hw := hw.2 c3
              refine lv_aload_n hx hb dd_M_layRank_59 rfl (lv_at hl 0 rfl) ?_
              refine x_get hC hS hM0.1 rfl iw_M 5 (by decide) tb_520 rfl rfl dd_M_layRank_60 ?_
              refine lv_iload_n hx hb dd_M_layRank_63 rfl (lv_at hl 1 rfl) ?_
              obtain ⟨q4, hw⟩ := hw
              refine x_iald hC hS hM0.2.2.2.2.2.1 q4 dd_M_layRank_64 ?_
              refine x_nm (hm_M51 35 _) (fun z5 rz5 ez5 => ?_)
              have hw := hw z5 ez5
              refine lv_istore (lv' := [(4, .int (iI z5)), (0, .ref (xA X 30)), (3, .int (iI x3_51))]) hx hb dd_M_layRank_65 hl (by decide) rfl (fun ls hl => ?_)
              refine x_iconst hC dd_M_layRank_67 ?_
              refine lv_istore (lv' := [(5, .int (iI 0)), (4, .int (iI z5)), (0, .ref (xA X 30)), (3, .int (iI x3_51))]) hx hb dd_M_layRank_68 hl (by decide) rfl (fun ls hl => ?_)
              obtain ⟨I70, ⟨n0, hI⟩, hstep_I70⟩ := hw
              have lp_I70 : ∀ (n70 : Nat) (x4_70 : Int) (x5_70 : Int) (H : Heap) (locs : List Loc) (ls : Array Slot), I70 n70 x4_70 x5_70 → inR x4_70 → inR x5_70 → St X (xF X sz) s M51 H locs → lv_has ls 6 [(0, .ref (xA X 30)), (3, .int (iI x3_51)), (4, .int (iI x4_70)), (5, .int (iI x5_70))] → W p l e ({ frames := 1, cells := 0, slots := 0, locals := 20 } : Room) s m ([.ref (xA X 30), .int (iI a1)] : List Value).toArray below meth c H locs 0 0 (MQ below (Qv X sz post) ([.ref (xA X 30), .int (iI a1)] : List Value).toArray s 0 0 (xF X sz)) (F0 m 70 ls []) := by
                intro n70
                induction n70 using Nat.strongRecOn with
                | _ n70 ih_I70 =>
                  intro x4_70 x5_70 H locs ls hI rx4_70 rx5_70 hS hl
                  have hw := hstep_I70 n70 x4_70 x5_70 hI
                  refine lv_aload_n hx hb dd_M_layRank_70 rfl (lv_at hl 0 rfl) ?_
                  refine x_get hC hS hM0.1 rfl iw_M 6 (by decide) tb_521 rfl rfl dd_M_layRank_71 ?_
                  refine lv_iload hx hb dd_M_layRank_74 (lv_at hl 3 rfl) ?_
                  obtain ⟨q6, hw⟩ := hw
                  refine x_zald hC hS hM0.2.2.2.2.2.2.1 q6 dd_M_layRank_76 ?_
                  refine x_nm (hm_M51 36 _) (fun z7 rz7 ez7 => ?_)
                  have hw := hw z7 ez7
                  have hw := hw (∀ (H : Heap) (locs : List Loc) (ls : Array Slot), St X (xF X sz) s M51 H locs → lv_has ls 6 [(0, .ref (xA X 30)), (3, .int (iI x3_51)), (4, .int (iI x4_70)), (5, .int (iI x5_70))] → W p l e ({ frames := 1, cells := 0, slots := 0, locals := 20 } : Room) s m ([.ref (xA X 30), .int (iI a1)] : List Value).toArray below meth c H locs 0 0 (MQ below (Qv X sz post) ([.ref (xA X 30), .int (iI a1)] : List Value).toArray s 0 0 (xF X sz)) (F0 m 85 ls [])) (by
                      intro  hw H locs ls  hS hl
                      refine lv_iload hx hb dd_M_layRank_85 (lv_at hl 2 rfl) ?_
                      refine lv_aload_n hx hb dd_M_layRank_87 rfl (lv_at hl 0 rfl) ?_
                      refine x_get hC hS hM0.1 rfl iw_M 6 (by decide) tb_521 rfl rfl dd_M_layRank_88 ?_
                      refine lv_iload hx hb dd_M_layRank_91 (lv_at hl 3 rfl) ?_
                      obtain ⟨q8, hw⟩ := hw
                      refine x_zald hC hS hM0.2.2.2.2.2.2.1 q8 dd_M_layRank_93 ?_
                      refine x_nm (hm_M51 36 _) (fun z9 rz9 ez9 => ?_)
                      have hw := hw z9 ez9
                      have hw := hw (fun (s1_102 : Int) => ∀ (H : Heap) (locs : List Loc) (ls : Array Slot), inR s1_102 → St X (xF X sz) s M51 H locs → lv_has ls 6 [(0, .ref (xA X 30)), (3, .int (iI x3_51)), (5, .int (iI x5_70))] → W p l e ({ frames := 1, cells := 0, slots := 0, locals := 20 } : Room) s m ([.ref (xA X 30), .int (iI a1)] : List Value).toArray below meth c H locs 0 0 (MQ below (Qv X sz post) ([.ref (xA X 30), .int (iI a1)] : List Value).toArray s 0 0 (xF X sz)) (F0 m 102 ls [.int (iI s1_102), .int (iI x4_70)])) (by
                          intro s1_102 hw H locs ls rs1_102 hS hl
                          obtain ⟨q10, hw⟩ := hw
                          refine x_sub hC dd_M_layRank_102 ?_
                          refine x_nm q10 (fun v4_103 rv4_103 ev4_103 => ?_)
                          have hw := hw v4_103 ev4_103
                          refine lv_istore (lv' := [(4, .int (iI v4_103)), (0, .ref (xA X 30)), (3, .int (iI x3_51)), (5, .int (iI x5_70))]) hx hb dd_M_layRank_103 hl (by decide) rfl (fun ls hl => ?_)
                          obtain ⟨hr_, hw⟩ := hw
                          obtain ⟨v5_105, rv5_105, ev5_105⟩ : ∃ z : Int, inR z ∧ z = x5_70 + 1 := ⟨_, hr_, rfl⟩
                          have hw := hw v5_105 ev5_105
                          refine lv_iinc (v := iI v5_105) (lv' := [(5, .int (iI v5_105)), (4, .int (iI v4_103)), (0, .ref (xA X 30)), (3, .int (iI x3_51))]) hx hb dd_M_layRank_105 hl (k := 3) rfl (by rw [ev5_105]; exact iI_add _ _) (by decide) rfl (fun ls hl => ?_)
                          refine lv_goto (tgt := 70) hx hb dd_M_layRank_108 (by decide) ?_
                          obtain ⟨k_11, h12, hI⟩ := hw
                          exact ih_I70 k_11 h12 v4_103 v5_105 _ _ _ hI rv4_103 rv5_105 hS (lv_sub hl [2, 3, 1, 0] rfl))
                      refine x_if_eq hC rz9 (tgt := 101) dd_M_layRank_94 (by decide) (fun c13 => ?_) (fun c13 => ?_)
                      · have hw := hw.1 c13
                        refine x_iconst hC dd_M_layRank_101 ?_
                        exact hw _ _ _ (rk rfl) hS (lv_sub hl [0, 1, 3] rfl)
                      · have hw := hw.2 c13
                        refine x_iconst hC dd_M_layRank_97 ?_
                        refine lv_goto (tgt := 102) hx hb dd_M_layRank_98 (by decide) ?_
                        exact hw _ _ _ (rk rfl) hS (lv_sub hl [0, 1, 3] rfl))
                  refine x_if_ne hC rz7 (tgt := 85) dd_M_layRank_77 (by decide) (fun c14 => ?_) (fun c14 => ?_)
                  · have hw := hw.1 c14
                    exact hw _ _ _  hS (lv_sub hl [0, 1, 2, 3] rfl)
                  · have hw := hw.2 c14
                    refine lv_iload hx hb dd_M_layRank_80 (lv_at hl 2 rfl) ?_
                    refine x_if_le hC rx4_70 (tgt := 111) dd_M_layRank_82 (by decide) (fun c15 => ?_) (fun c15 => ?_)
                    · have hw := hw.1 c15
                      refine lv_aload_n hx hb dd_M_layRank_111 rfl (lv_at hl 0 rfl) ?_
                      refine x_get hC hS hM0.1 rfl iw_M 6 (by decide) tb_521 rfl rfl dd_M_layRank_112 ?_
                      refine lv_iload hx hb dd_M_layRank_115 (lv_at hl 3 rfl) ?_
                      refine x_iconst hC dd_M_layRank_117 ?_
                      obtain ⟨q16, hw⟩ := hw
                      refine x_zast hC hS hM0.2.2.2.2.2.2.1 q16 (rk rfl) (by decide) dd_M_layRank_118 (fun H locs hS => ?_)
                      obtain ⟨M_17, eM_17⟩ : ∃ Z : Mm, Z = ms M51 36 (x5_70).toNat 1 := ⟨_, rfl⟩
                      rw [← eM_17] at hS
                      have hw := hw M_17 eM_17
                      have hm_M_17 := hS.2.2.2
                      refine lv_aload_n hx hb dd_M_layRank_119 rfl (lv_at hl 0 rfl) ?_
                      refine x_get hC hS hM0.1 rfl iw_M 5 (by decide) tb_520 rfl rfl dd_M_layRank_120 ?_
                      refine lv_iload_n hx hb dd_M_layRank_123 rfl (lv_at hl 1 rfl) ?_
                      refine lv_iload hx hb dd_M_layRank_124 (lv_at hl 3 rfl) ?_
                      obtain ⟨q18, hw⟩ := hw
                      refine x_iast hC hS hM0.2.2.2.2.2.1 q18 rx5_70 dd_M_layRank_126 (fun H locs hS => ?_)
                      obtain ⟨M_19, eM_19⟩ : ∃ Z : Mm, Z = ms M_17 35 (x3_51).toNat x5_70 := ⟨_, rfl⟩
                      rw [← eM_19] at hS
                      have hw := hw M_19 eM_19
                      have hm_M_19 := hS.2.2.2
                      obtain ⟨hr_, hw⟩ := hw
                      obtain ⟨v3_127, rv3_127, ev3_127⟩ : ∃ z : Int, inR z ∧ z = x3_51 + 1 := ⟨_, hr_, rfl⟩
                      have hw := hw v3_127 ev3_127
                      refine lv_iinc (v := iI v3_127) (lv' := [(3, .int (iI v3_127)), (0, .ref (xA X 30)), (4, .int (iI x4_70)), (5, .int (iI x5_70))]) hx hb dd_M_layRank_127 hl (k := 1) rfl (by rw [ev3_127]; exact iI_add _ _) (by decide) rfl (fun ls hl => ?_)
                      refine lv_goto (tgt := 51) hx hb dd_M_layRank_130 (by decide) ?_
                      obtain ⟨k_20, h21, hI⟩ := hw
                      exact ih_I51 k_20 h21 v3_127 M_19 _ _ _ hI rv3_127 hS (lv_sub hl [1, 0] rfl)
                    · have hw := hw.2 c15
                      exact hw _ _ _  hS (lv_sub hl [0, 1, 2, 3] rfl)
              exact lp_I70 n0 z5 0 _ _ _ hI rz5 (rk rfl) hS (lv_sub hl [2, 3, 1, 0] rfl)
        exact lp_I51 n0 0 M9 _ _ _ hI (rk rfl) hS (lv_sub hl [1, 0] rfl)
      · have hw := hw.2 c2
        refine lv_aload_n hx hb dd_M_layRank_13 rfl (lv_at hl 0 rfl) ?_
        refine x_get hC hS hM0.1 rfl iw_M 5 (by decide) tb_520 rfl rfl dd_M_layRank_14 ?_
        refine lv_iload_n hx hb dd_M_layRank_17 rfl (lv_at hl 2 rfl) ?_
        refine lv_iload_n hx hb dd_M_layRank_18 rfl (lv_at hl 1 rfl) ?_
        refine lv_aload_n hx hb dd_M_layRank_19 rfl (lv_at hl 0 rfl) ?_
        refine x_callVi hC hS (As := []) (rest := [.int (iI x2_9), .int (iI x3_9), .ref (xA X 35)]) hM0.1 rfl cv_M_many (mt_M_many l X hC.2.2.1 hM0  M9 hm_M9 _ _ hw) tb_495 rfl rfl ⟨Nat.le_of_ble_eq_true rfl, Nat.le_of_ble_eq_true rfl⟩ rfl hl.1 (Nat.le_of_ble_eq_true rfl) dd_M_layRank_20 ⟨Nat.le_refl _, Nat.le_refl _⟩ rfl (fun r20 Mx H locs rr20 hp hS => ?_)
        obtain ⟨hq, hw⟩ := hp
        rw [hq] at hS
        refine lv_iload_n hx hb dd_M_layRank_23 rfl (lv_at hl 2 rfl) ?_
        obtain ⟨q22, hw⟩ := hw
        refine x_sub hC dd_M_layRank_24 ?_
        obtain ⟨q23, hw⟩ := hw
        refine x_rem hC rx2_9 q22 q23 dd_M_layRank_25 ?_
        obtain ⟨q24, hw⟩ := hw
        refine x_iast hC hS hM0.2.2.2.2.2.1 q24 (rMod q22 q23.2) dd_M_layRank_26 (fun H locs hS => ?_)
        obtain ⟨M_25, eM_25⟩ : ∃ Z : Mm, Z = ms M9 35 (x3_9).toNat (x2_9 % (r20 - x3_9)) := ⟨_, rfl⟩
        rw [← eM_25] at hS
        have hw := hw M_25 eM_25
        have hm_M_25 := hS.2.2.2
        refine lv_iload_n hx hb dd_M_layRank_27 rfl (lv_at hl 1 rfl) ?_
        refine lv_aload_n hx hb dd_M_layRank_28 rfl (lv_at hl 0 rfl) ?_
        refine x_callVi hC hS (As := []) (rest := [.int (iI x2_9)]) hM0.1 rfl cv_M_many (mt_M_many l X hC.2.2.1 hM0  M_25 hm_M_25 _ _ hw) tb_495 rfl rfl ⟨Nat.le_of_ble_eq_true rfl, Nat.le_of_ble_eq_true rfl⟩ rfl hl.1 (Nat.le_of_ble_eq_true rfl) dd_M_layRank_29 ⟨Nat.le_refl _, Nat.le_refl _⟩ rfl (fun r29 Mx H locs rr29 hp hS => ?_)
        obtain ⟨hq, hw⟩ := hp
        rw [hq] at hS
        refine lv_iload_n hx hb dd_M_layRank_32 rfl (lv_at hl 2 rfl) ?_
        obtain ⟨q26, hw⟩ := hw
        refine x_sub hC dd_M_layRank_33 ?_
        obtain ⟨q27, hw⟩ := hw
        refine x_div hC rx2_9 q26 q27 dd_M_layRank_34 ?_
        refine x_nm (rDiv rx2_9 q27.1 q27.2) (fun v2_35 rv2_35 ev2_35 => ?_)
        have hw := hw v2_35 ev2_35
        refine lv_istore_n (lv' := [(2, .int (iI v2_35)), (0, .ref (xA X 30)), (3, .int (iI x3_9))]) hx hb dd_M_layRank_35 rfl hl (by decide) rfl (fun ls hl => ?_)
        refine lv_aload_n hx hb dd_M_layRank_36 rfl (lv_at hl 1 rfl) ?_
        refine x_get hC hS hM0.1 rfl iw_M 6 (by decide) tb_521 rfl rfl dd_M_layRank_37 ?_
        refine lv_iload_n hx hb dd_M_layRank_40 rfl (lv_at hl 2 rfl) ?_
        refine x_iconst hC dd_M_layRank_41 ?_
        obtain ⟨q28, hw⟩ := hw
        refine x_zast hC hS hM0.2.2.2.2.2.2.1 q28 (rk rfl) (by decide) dd_M_layRank_42 (fun H locs hS => ?_)
        obtain ⟨M_29, eM_29⟩ : ∃ Z : Mm, Z = ms M_25 36 (x3_9).toNat 0 := ⟨_, rfl⟩
        rw [← eM_29] at hS
        have hw := hw M_29 eM_29
        have hm_M_29 := hS.2.2.2
        obtain ⟨hr_, hw⟩ := hw
        obtain ⟨v3_43, rv3_43, ev3_43⟩ : ∃ z : Int, inR z ∧ z = x3_9 + (-1) := ⟨_, hr_, rfl⟩
        have hw := hw v3_43 ev3_43
        refine lv_iinc (v := iI v3_43) (lv' := [(3, .int (iI v3_43)), (2, .int (iI v2_35)), (0, .ref (xA X 30))]) hx hb dd_M_layRank_43 hl (k := 2) rfl (by rw [ev3_43]; exact iI_add _ _) (by decide) rfl (fun ls hl => ?_)
        refine lv_goto (tgt := 9) hx hb dd_M_layRank_46 (by decide) ?_
        obtain ⟨k_30, h31, hI⟩ := hw
        exact ih_I9 k_30 h31 v2_35 v3_43 M_29 _ _ _ hI rv2_35 rv3_43 hS (lv_sub hl [2, 1, 0] rfl)
  exact lp_I9 n0 a1 v3_8 M _ _ _ hI ra1 rv3_8 hS (lv_sub hl [2, 1, 0] rfl)
def wp_M_layTurns (M : Mm) (post : Mm → Prop) : Prop :=
  ∀ M_1 : Mm, M_1 = ms M 30 12 0 → ∃ I7 : Nat → Int → Mm → Prop, (∃ n, I7 n 0 M_1) ∧ ∀ (n7 : Nat) (x1_7 : Int) (M7 : Mm), I7 n7 x1_7 M7 →
    ((5040 ≤ x1_7 → post M7) ∧
      (¬ 5040 ≤ x1_7 → inR (6 + x1_7) ∧ (0 ≤ (6 + x1_7) ∧ (6 + x1_7) < 5046) ∧ ∀ z5 : Int, z5 = M7 31 ((6 + x1_7)).toNat → ∀ K78 : Mm → Prop, (∀ (M78 : Mm), (inR (x1_7 + 1) ∧ ∀ v1_78 : Int, v1_78 = x1_7 + 1 → ∃ k_6, k_6 < n7 ∧ I7 k_6 v1_78 M78) →
          K78 M78) →
        ((¬ z5 = 1 → K78 M7) ∧
        (z5 = 1 → wp_M_layRank x1_7 M7 (fun (M_9 : Mm) => ∃ I34 : Nat → Int → Mm → Prop, (∃ n, I34 n 0 M_9) ∧ ∀ (n34 : Nat) (x2_34 : Int) (M34 : Mm), I34 n34 x2_34 M34 →
            (wp_M_many M34 (fun (r36 : Int) => (r36 ≤ x2_34 → inR ((M34 30 12) + 1) ∧ ∀ M_12 : Mm, M_12 = ms M34 30 12 ((M34 30 12) + 1) → K78 M_12) ∧
              (¬ r36 ≤ x2_34 → inR (7 * (M34 30 12)) ∧ inR ((7 * (M34 30 12)) + x2_34) ∧ (0 ≤ x2_34 ∧ x2_34 < 7) ∧ ∀ z16 : Int, z16 = M34 35 (x2_34).toNat → (0 ≤ ((7 * (M34 30 12)) + x2_34) ∧ ((7 * (M34 30 12)) + x2_34) < 35280) ∧ ∀ M_18 : Mm, M_18 = ms M34 39 (((7 * (M34 30 12)) + x2_34)).toNat z16 → inR (x2_34 + 1) ∧ ∀ v2_62 : Int, v2_62 = x2_34 + 1 → ∃ k_19, k_19 < n34 ∧ I34 k_19 v2_62 M_18))))))))
set_option maxHeartbeats 4000000 in
set_option maxRecDepth 100000 in
theorem mt_M_layTurns (l : Launch) (X : Xw) (hlc : lcl X)(hM0 : IsM X) (M : Mm) (hm_M : mr M) (post : Mm → Prop) (sz : Nat) (hw : wp_M_layTurns M post) : Met l yy_M_layTurns (Cond.code yy_M_layTurns bc_M_layTurns 3 none :: tg) ({ frames := 2, cells := 0, slots := 0, locals := 45 } : Room) (Pw X [.ref (xA X 30)] M sz) (Qv X sz post) 0 0 (xF X sz) := by
  unfold wp_M_layTurns at hw
  refine x_enter (by decide) hlc hm_M (Nat.le_of_ble_eq_true rfl) ?_
  intro p e s m below meth c ls hC hsz hr hlocks hS hl
  have hx := hC.1.1
  have hb := hC.1.2.1
  have hl : lv_has ls 3 [(0, .ref (xA X 30))] := hl
  refine lv_aload_n hx hb dd_M_layTurns_0 rfl (lv_at hl 0 rfl) ?_
  refine x_iconst hC dd_M_layTurns_1 ?_
  refine x_put hC hS hM0.1 rfl iw_M fy_M fk_M fn_M 12 (by decide) tb_527 rfl (rk rfl) rfl rfl (ps_M_12 _ _ _) (Nat.le_of_ble_eq_true rfl) dd_M_layTurns_2 (fun H locs hS => ?_)
  obtain ⟨M_1, eM_1⟩ : ∃ Z : Mm, Z = ms M 30 12 0 := ⟨_, rfl⟩
  rw [← eM_1] at hS
  have hw := hw M_1 eM_1
  have hm_M_1 := hS.2.2.2
  refine x_iconst hC dd_M_layTurns_5 ?_
  refine lv_istore_n (lv' := [(1, .int (iI 0)), (0, .ref (xA X 30))]) hx hb dd_M_layTurns_6 rfl hl (by decide) rfl (fun ls hl => ?_)
  obtain ⟨I7, ⟨n0, hI⟩, hstep_I7⟩ := hw
  have lp_I7 : ∀ (n7 : Nat) (x1_7 : Int) (M7 : Mm) (H : Heap) (locs : List Loc) (ls : Array Slot), I7 n7 x1_7 M7 → inR x1_7 → St X (xF X sz) s M7 H locs → lv_has ls 3 [(0, .ref (xA X 30)), (1, .int (iI x1_7))] → W p l e ({ frames := 2, cells := 0, slots := 0, locals := 45 } : Room) s m ([.ref (xA X 30)] : List Value).toArray below meth c H locs 0 0 (MQ below (Qv X sz post) ([.ref (xA X 30)] : List Value).toArray s 0 0 (xF X sz)) (F0 m 7 ls []) := by
    intro n7
    induction n7 using Nat.strongRecOn with
    | _ n7 ih_I7 =>
      intro x1_7 M7 H locs ls hI rx1_7 hS hl
      have hw := hstep_I7 n7 x1_7 M7 hI
      have hm_M7 := hS.2.2.2
      refine lv_iload_n hx hb dd_M_layTurns_7 rfl (lv_at hl 1 rfl) ?_
      refine x_sipush hC dd_M_layTurns_8 (by decide) ?_
      refine x_icmp_ge hC rx1_7 (rk rfl) (tgt := 84) dd_M_layTurns_11 (by decide) (fun c2 => ?_) (fun c2 => ?_)
      · have hw := hw.1 c2
        exact x_vret hC hS hlocks hr hw dd_M_layTurns_84
      · have hw := hw.2 c2
        refine lv_aload_n hx hb dd_M_layTurns_14 rfl (lv_at hl 0 rfl) ?_
        refine x_get hC hS hM0.1 rfl iw_M 0 (by decide) tb_515 rfl rfl dd_M_layTurns_15 ?_
        refine x_bipush hC dd_M_layTurns_18 (by decide) ?_
        refine lv_iload_n hx hb dd_M_layTurns_20 rfl (lv_at hl 1 rfl) ?_
        obtain ⟨q3, hw⟩ := hw
        refine x_add hC dd_M_layTurns_21 ?_
        obtain ⟨q4, hw⟩ := hw
        refine x_iald hC hS hM0.2.1 q4 dd_M_layTurns_22 ?_
        refine x_nm (hm_M7 31 _) (fun z5 rz5 ez5 => ?_)
        have hw := hw z5 ez5
        refine x_iconst hC dd_M_layTurns_23 ?_
        have hw := hw (fun (M78 : Mm) => ∀ (H : Heap) (locs : List Loc) (ls : Array Slot), St X (xF X sz) s M78 H locs → lv_has ls 3 [(0, .ref (xA X 30)), (1, .int (iI x1_7))] → W p l e ({ frames := 2, cells := 0, slots := 0, locals := 45 } : Room) s m ([.ref (xA X 30)] : List Value).toArray below meth c H locs 0 0 (MQ below (Qv X sz post) ([.ref (xA X 30)] : List Value).toArray s 0 0 (xF X sz)) (F0 m 78 ls [])) (by
            intro M78 hw H locs ls  hS hl
            have hm_M78 := hS.2.2.2
            obtain ⟨hr_, hw⟩ := hw
            obtain ⟨v1_78, rv1_78, ev1_78⟩ : ∃ z : Int, inR z ∧ z = x1_7 + 1 := ⟨_, hr_, rfl⟩
            have hw := hw v1_78 ev1_78
            refine lv_iinc (v := iI v1_78) (lv' := [(1, .int (iI v1_78)), (0, .ref (xA X 30))]) hx hb dd_M_layTurns_78 hl (k := 1) rfl (by rw [ev1_78]; exact iI_add _ _) (by decide) rfl (fun ls hl => ?_)
            refine lv_goto (tgt := 7) hx hb dd_M_layTurns_81 (by decide) ?_
            obtain ⟨k_6, h7, hI⟩ := hw
            exact ih_I7 k_6 h7 v1_78 M78 _ _ _ hI rv1_78 hS (lv_sub hl [1, 0] rfl))
        refine x_icmp_ne hC rz5 (rk rfl) (tgt := 78) dd_M_layTurns_24 (by decide) (fun c8 => ?_) (fun c8 => ?_)
        · have hw := hw.1 c8
          exact hw _ _ _  hS (lv_sub hl [0, 1] rfl)
        · have hw := hw.2 c8
          refine lv_aload_n hx hb dd_M_layTurns_27 rfl (lv_at hl 0 rfl) ?_
          refine lv_iload_n hx hb dd_M_layTurns_28 rfl (lv_at hl 1 rfl) ?_
          refine x_callVv hC hS (As := [.int (iI x1_7)]) (rest := []) hM0.1 rfl cv_M_layRank (mt_M_layRank l X hC.2.2.1 hM0 x1_7 rx1_7 M7 hm_M7 _ _ hw) tb_507 rfl rfl ⟨Nat.le_of_ble_eq_true rfl, Nat.le_of_ble_eq_true rfl⟩ rfl hl.1 (Nat.le_of_ble_eq_true rfl) dd_M_layTurns_29 ⟨Nat.le_refl _, Nat.le_refl _⟩ rfl (fun M_9 H locs hw hS => ?_)
          have hm_M_9 := hS.2.2.2
          refine x_iconst hC dd_M_layTurns_32 ?_
          refine lv_istore_n (lv' := [(2, .int (iI 0)), (0, .ref (xA X 30)), (1, .int (iI x1_7))]) hx hb dd_M_layTurns_33 rfl hl (by decide) rfl (fun ls hl => ?_)
          obtain ⟨I34, ⟨n0, hI⟩, hstep_I34⟩ := hw
          have lp_I34 : ∀ (n34 : Nat) (x2_34 : Int) (M34 : Mm) (H : Heap) (locs : List Loc) (ls : Array Slot), I34 n34 x2_34 M34 → inR x2_34 → St X (xF X sz) s M34 H locs → lv_has ls 3 [(0, .ref (xA X 30)), (1, .int (iI x1_7)), (2, .int (iI x2_34))] → W p l e ({ frames := 2, cells := 0, slots := 0, locals := 45 } : Room) s m ([.ref (xA X 30)] : List Value).toArray below meth c H locs 0 0 (MQ below (Qv X sz post) ([.ref (xA X 30)] : List Value).toArray s 0 0 (xF X sz)) (F0 m 34 ls []) := by
            intro n34
            induction n34 using Nat.strongRecOn with
            | _ n34 ih_I34 =>
              intro x2_34 M34 H locs ls hI rx2_34 hS hl
              have hw := hstep_I34 n34 x2_34 M34 hI
              have hm_M34 := hS.2.2.2
              refine lv_iload_n hx hb dd_M_layTurns_34 rfl (lv_at hl 2 rfl) ?_
              refine lv_aload_n hx hb dd_M_layTurns_35 rfl (lv_at hl 0 rfl) ?_
              refine x_callVi hC hS (As := []) (rest := [.int (iI x2_34)]) hM0.1 rfl cv_M_many (mt_M_many l X hC.2.2.1 hM0  M34 hm_M34 _ _ hw) tb_495 rfl rfl ⟨Nat.le_of_ble_eq_true rfl, Nat.le_of_ble_eq_true rfl⟩ rfl hl.1 (Nat.le_of_ble_eq_true rfl) dd_M_layTurns_36 ⟨Nat.le_refl _, Nat.le_refl _⟩ rfl (fun r36 Mx H locs rr36 hp hS => ?_)
              obtain ⟨hq, hw⟩ := hp
              rw [hq] at hS
              refine x_icmp_ge hC rx2_34 rr36 (tgt := 68) dd_M_layTurns_39 (by decide) (fun c10 => ?_) (fun c10 => ?_)
              · have hw := hw.1 c10
                refine lv_aload_n hx hb dd_M_layTurns_68 rfl (lv_at hl 0 rfl) ?_
                refine lv_dup hx hb dd_M_layTurns_69 rfl ?_
                refine x_get hC hS hM0.1 rfl iw_M 12 (by decide) tb_527 rfl rfl dd_M_layTurns_70 ?_
                refine x_iconst hC dd_M_layTurns_73 ?_
                obtain ⟨q11, hw⟩ := hw
                refine x_add hC dd_M_layTurns_74 ?_
                refine x_put hC hS hM0.1 rfl iw_M fy_M fk_M fn_M 12 (by decide) tb_527 rfl q11 rfl rfl (ps_M_12 _ _ _) (Nat.le_of_ble_eq_true rfl) dd_M_layTurns_75 (fun H locs hS => ?_)
                obtain ⟨M_12, eM_12⟩ : ∃ Z : Mm, Z = ms M34 30 12 ((M34 30 12) + 1) := ⟨_, rfl⟩
                rw [← eM_12] at hS
                have hw := hw M_12 eM_12
                have hm_M_12 := hS.2.2.2
                exact hw _ _ _  hS (lv_sub hl [0, 1] rfl)
              · have hw := hw.2 c10
                refine lv_aload_n hx hb dd_M_layTurns_42 rfl (lv_at hl 0 rfl) ?_
                refine x_get hC hS hM0.1 rfl iw_M 11 (by decide) tb_526 rfl rfl dd_M_layTurns_43 ?_
                refine x_bipush hC dd_M_layTurns_46 (by decide) ?_
                refine lv_aload_n hx hb dd_M_layTurns_48 rfl (lv_at hl 0 rfl) ?_
                refine x_get hC hS hM0.1 rfl iw_M 12 (by decide) tb_527 rfl rfl dd_M_layTurns_49 ?_
                obtain ⟨q13, hw⟩ := hw
                refine x_mul hC dd_M_layTurns_52 ?_
                refine lv_iload_n hx hb dd_M_layTurns_53 rfl (lv_at hl 2 rfl) ?_
                obtain ⟨q14, hw⟩ := hw
                refine x_add hC dd_M_layTurns_54 ?_
                refine lv_aload_n hx hb dd_M_layTurns_55 rfl (lv_at hl 0 rfl) ?_
                refine x_get hC hS hM0.1 rfl iw_M 5 (by decide) tb_520 rfl rfl dd_M_layTurns_56 ?_
                refine lv_iload_n hx hb dd_M_layTurns_59 rfl (lv_at hl 2 rfl) ?_
                obtain ⟨q15, hw⟩ := hw
                refine x_iald hC hS hM0.2.2.2.2.2.1 q15 dd_M_layTurns_60 ?_
                refine x_nm (hm_M34 35 _) (fun z16 rz16 ez16 => ?_)
                have hw := hw z16 ez16
                obtain ⟨q17, hw⟩ := hw
                refine x_iast hC hS hM0.2.2.2.2.2.2.2.2.2.1 q17 rz16 dd_M_layTurns_61 (fun H locs hS => ?_)
                obtain ⟨M_18, eM_18⟩ : ∃ Z : Mm, Z = ms M34 39 (((7 * (M34 30 12)) + x2_34)).toNat z16 := ⟨_, rfl⟩
                rw [← eM_18] at hS
                have hw := hw M_18 eM_18
                have hm_M_18 := hS.2.2.2
                obtain ⟨hr_, hw⟩ := hw
                obtain ⟨v2_62, rv2_62, ev2_62⟩ : ∃ z : Int, inR z ∧ z = x2_34 + 1 := ⟨_, hr_, rfl⟩
                have hw := hw v2_62 ev2_62
                refine lv_iinc (v := iI v2_62) (lv' := [(2, .int (iI v2_62)), (0, .ref (xA X 30)), (1, .int (iI x1_7))]) hx hb dd_M_layTurns_62 hl (k := 2) rfl (by rw [ev2_62]; exact iI_add _ _) (by decide) rfl (fun ls hl => ?_)
                refine lv_goto (tgt := 34) hx hb dd_M_layTurns_65 (by decide) ?_
                obtain ⟨k_19, h20, hI⟩ := hw
                exact ih_I34 k_19 h20 v2_62 M_18 _ _ _ hI rv2_62 hS (lv_sub hl [1, 2, 0] rfl)
          exact lp_I34 n0 0 M_9 _ _ _ hI (rk rfl) hS (lv_sub hl [1, 2, 0] rfl)
  exact lp_I7 n0 0 M_1 _ _ _ hI (rk rfl) hS (lv_sub hl [1, 0] rfl)
def wp_M_closeGroup (M : Mm) (post : Mm → Prop) : Prop :=
  ∃ I2 : Nat → Int → Mm → Prop, (∃ n, I2 n 0 M) ∧ ∀ (n2 : Nat) (x1_2 : Int) (M2 : Mm), I2 n2 x1_2 M2 →
    ((5040 ≤ x1_2 → ∀ M_2 : Mm, M_2 = ms M2 30 10 0 → wp_M_layStill M_2 (fun (M_3 : Mm) => wp_M_rank M_3 (fun (r36 : Int) => wp_M_meet r36 M_3 (fun (M_4 : Mm) => ∃ I44 : Nat → Int → Mm → Prop, (∃ n, I44 n 0 M_4) ∧ ∀ (n44 : Nat) (x1_44 : Int) (M44 : Mm), I44 n44 x1_44 M44 →
          (((M44 30 10) ≤ x1_44 → wp_M_layTurns M44 (fun (M_6 : Mm) => post M_6)) ∧
            (¬ (M44 30 10) ≤ x1_44 → ∃ I54 : Nat → Int → Mm → Prop, (∃ n, I54 n 0 M44) ∧ ∀ (n54 : Nat) (x2_54 : Int) (M54 : Mm), I54 n54 x2_54 M54 →
                (((M54 30 8) ≤ x2_54 → inR (x1_44 + 1) ∧ ∀ v1_124 : Int, v1_124 = x1_44 + 1 → ∃ k_8, k_8 < n44 ∧ I44 k_8 v1_124 M54) ∧
                  (¬ (M54 30 8) ≤ x2_54 → (0 ≤ x1_44 ∧ x1_44 < 5040) ∧ ∀ z11 : Int, z11 = M54 38 (x1_44).toNat → wp_M_layRank z11 M54 (fun (M_12 : Mm) => ∃ I74 : Nat → Int → Mm → Prop, (∃ n, I74 n 0 M_12) ∧ ∀ (n74 : Nat) (x3_74 : Int) (M74 : Mm), I74 n74 x3_74 M74 →
                      (wp_M_many M74 (fun (r76 : Int) => (r76 ≤ x3_74 → wp_M_rank M74 (fun (r112 : Int) => wp_M_meet r112 M74 (fun (M_14 : Mm) => inR (x2_54 + 1) ∧ ∀ v2_118 : Int, v2_118 = x2_54 + 1 → ∃ k_15, k_15 < n54 ∧ I54 k_15 v2_118 M_14))) ∧
                        (¬ r76 ≤ x3_74 → inR (7 * x2_54) ∧ (0 ≤ x3_74 ∧ x3_74 < 7) ∧ ∀ z19 : Int, z19 = M74 35 (x3_74).toNat → inR ((7 * x2_54) + z19) ∧ (0 ≤ ((7 * x2_54) + z19) ∧ ((7 * x2_54) + z19) < 420) ∧ ∀ z22 : Int, z22 = M74 37 (((7 * x2_54) + z19)).toNat → (0 ≤ x3_74 ∧ x3_74 < 7) ∧ ∀ M_24 : Mm, M_24 = ms M74 35 (x3_74).toNat z22 → inR (x3_74 + 1) ∧ ∀ v3_104 : Int, v3_104 = x3_74 + 1 → ∃ k_25, k_25 < n74 ∧ I74 k_25 v3_104 M_24)))))))))))) ∧
      (¬ 5040 ≤ x1_2 → inR (6 + x1_2) ∧ (0 ≤ (6 + x1_2) ∧ (6 + x1_2) < 5046) ∧ ∀ M_29 : Mm, M_29 = ms M2 31 ((6 + x1_2)).toNat 0 → inR (x1_2 + 1) ∧ ∀ v1_19 : Int, v1_19 = x1_2 + 1 → ∃ k_30, k_30 < n2 ∧ I2 k_30 v1_19 M_29))
set_option maxHeartbeats 4000000 in
set_option maxRecDepth 100000 in
theorem mt_M_closeGroup (l : Launch) (X : Xw) (hlc : lcl X)(hM0 : IsM X) (M : Mm) (hm_M : mr M) (post : Mm → Prop) (sz : Nat) (hw : wp_M_closeGroup M post) : Met l yy_M_closeGroup (Cond.code yy_M_closeGroup bc_M_closeGroup 4 none :: tg) ({ frames := 3, cells := 0, slots := 0, locals := 67 } : Room) (Pw X [.ref (xA X 30)] M sz) (Qv X sz post) 0 0 (xF X sz) := by
  unfold wp_M_closeGroup at hw
  refine x_enter (by decide) hlc hm_M (Nat.le_of_ble_eq_true rfl) ?_
  intro p e s m below meth c ls hC hsz hr hlocks hS hl
  have hx := hC.1.1
  have hb := hC.1.2.1
  have hl : lv_has ls 4 [(0, .ref (xA X 30))] := hl
  refine x_iconst hC dd_M_closeGroup_0 ?_
  refine lv_istore_n (lv' := [(1, .int (iI 0)), (0, .ref (xA X 30))]) hx hb dd_M_closeGroup_1 rfl hl (by decide) rfl (fun ls hl => ?_)
  obtain ⟨I2, ⟨n0, hI⟩, hstep_I2⟩ := hw
  have lp_I2 : ∀ (n2 : Nat) (x1_2 : Int) (M2 : Mm) (H : Heap) (locs : List Loc) (ls : Array Slot), I2 n2 x1_2 M2 → inR x1_2 → St X (xF X sz) s M2 H locs → lv_has ls 4 [(0, .ref (xA X 30)), (1, .int (iI x1_2))] → W p l e ({ frames := 3, cells := 0, slots := 0, locals := 67 } : Room) s m ([.ref (xA X 30)] : List Value).toArray below meth c H locs 0 0 (MQ below (Qv X sz post) ([.ref (xA X 30)] : List Value).toArray s 0 0 (xF X sz)) (F0 m 2 ls []) := by
    intro n2
    induction n2 using Nat.strongRecOn with
    | _ n2 ih_I2 =>
      intro x1_2 M2 H locs ls hI rx1_2 hS hl
      have hw := hstep_I2 n2 x1_2 M2 hI
      have hm_M2 := hS.2.2.2
      refine lv_iload_n hx hb dd_M_closeGroup_2 rfl (lv_at hl 1 rfl) ?_
      refine x_sipush hC dd_M_closeGroup_3 (by decide) ?_
      refine x_icmp_ge hC rx1_2 (rk rfl) (tgt := 25) dd_M_closeGroup_6 (by decide) (fun c1 => ?_) (fun c1 => ?_)
      · have hw := hw.1 c1
        refine lv_aload_n hx hb dd_M_closeGroup_25 rfl (lv_at hl 0 rfl) ?_
        refine x_iconst hC dd_M_closeGroup_26 ?_
        refine x_put hC hS hM0.1 rfl iw_M fy_M fk_M fn_M 10 (by decide) tb_525 rfl (rk rfl) rfl rfl (ps_M_10 _ _ _) (Nat.le_of_ble_eq_true rfl) dd_M_closeGroup_27 (fun H locs hS => ?_)
        obtain ⟨M_2, eM_2⟩ : ∃ Z : Mm, Z = ms M2 30 10 0 := ⟨_, rfl⟩
        rw [← eM_2] at hS
        have hw := hw M_2 eM_2
        have hm_M_2 := hS.2.2.2
        refine lv_aload_n hx hb dd_M_closeGroup_30 rfl (lv_at hl 0 rfl) ?_
        refine x_callVv hC hS (As := []) (rest := []) hM0.1 rfl cv_M_layStill (mt_M_layStill l X hC.2.2.1 hM0  M_2 hm_M_2 _ _ hw) tb_491 rfl rfl ⟨Nat.le_of_ble_eq_true rfl, Nat.le_of_ble_eq_true rfl⟩ rfl hl.1 (Nat.le_of_ble_eq_true rfl) dd_M_closeGroup_31 ⟨Nat.le_refl _, Nat.le_refl _⟩ rfl (fun M_3 H locs hw hS => ?_)
        have hm_M_3 := hS.2.2.2
        refine lv_aload_n hx hb dd_M_closeGroup_34 rfl (lv_at hl 0 rfl) ?_
        refine lv_aload_n hx hb dd_M_closeGroup_35 rfl (lv_at hl 0 rfl) ?_
        refine x_callVi hC hS (As := []) (rest := [.ref (xA X 30)]) hM0.1 rfl cv_M_rank (mt_M_rank l X hC.2.2.1 hM0  M_3 hm_M_3 _ _ hw) tb_499 rfl rfl ⟨Nat.le_of_ble_eq_true rfl, Nat.le_of_ble_eq_true rfl⟩ rfl hl.1 (Nat.le_of_ble_eq_true rfl) dd_M_closeGroup_36 ⟨Nat.le_refl _, Nat.le_refl _⟩ rfl (fun r36 Mx H locs rr36 hp hS => ?_)
        obtain ⟨hq, hw⟩ := hp
        rw [hq] at hS
        refine x_callVv hC hS (As := [.int (iI r36)]) (rest := []) hM0.1 rfl cv_M_meet (mt_M_meet l X hC.2.2.1 hM0 r36 rr36 M_3 hm_M_3 _ _ hw) tb_503 rfl rfl ⟨Nat.le_of_ble_eq_true rfl, Nat.le_of_ble_eq_true rfl⟩ rfl hl.1 (Nat.le_of_ble_eq_true rfl) dd_M_closeGroup_39 ⟨Nat.le_refl _, Nat.le_refl _⟩ rfl (fun M_4 H locs hw hS => ?_)
        have hm_M_4 := hS.2.2.2
        refine x_iconst hC dd_M_closeGroup_42 ?_
        refine lv_istore_n (lv' := [(1, .int (iI 0)), (0, .ref (xA X 30))]) hx hb dd_M_closeGroup_43 rfl hl (by decide) rfl (fun ls hl => ?_)
        obtain ⟨I44, ⟨n0, hI⟩, hstep_I44⟩ := hw
        have lp_I44 : ∀ (n44 : Nat) (x1_44 : Int) (M44 : Mm) (H : Heap) (locs : List Loc) (ls : Array Slot), I44 n44 x1_44 M44 → inR x1_44 → St X (xF X sz) s M44 H locs → lv_has ls 4 [(0, .ref (xA X 30)), (1, .int (iI x1_44))] → W p l e ({ frames := 3, cells := 0, slots := 0, locals := 67 } : Room) s m ([.ref (xA X 30)] : List Value).toArray below meth c H locs 0 0 (MQ below (Qv X sz post) ([.ref (xA X 30)] : List Value).toArray s 0 0 (xF X sz)) (F0 m 44 ls []) := by
          intro n44
          induction n44 using Nat.strongRecOn with
          | _ n44 ih_I44 =>
            intro x1_44 M44 H locs ls hI rx1_44 hS hl
            have hw := hstep_I44 n44 x1_44 M44 hI
            have hm_M44 := hS.2.2.2
            refine lv_iload_n hx hb dd_M_closeGroup_44 rfl (lv_at hl 1 rfl) ?_
            refine lv_aload_n hx hb dd_M_closeGroup_45 rfl (lv_at hl 0 rfl) ?_
            refine x_get hC hS hM0.1 rfl iw_M 10 (by decide) tb_525 rfl rfl dd_M_closeGroup_46 ?_
            refine x_icmp_ge hC rx1_44 (hm_M44 30 10) (tgt := 130) dd_M_closeGroup_49 (by decide) (fun c5 => ?_) (fun c5 => ?_)
            · have hw := hw.1 c5
              refine lv_aload_n hx hb dd_M_closeGroup_130 rfl (lv_at hl 0 rfl) ?_
              refine x_callVv hC hS (As := []) (rest := []) hM0.1 rfl cv_M_layTurns (mt_M_layTurns l X hC.2.2.1 hM0  M44 hm_M44 _ _ hw) tb_511 rfl rfl ⟨Nat.le_of_ble_eq_true rfl, Nat.le_of_ble_eq_true rfl⟩ rfl hl.1 (Nat.le_of_ble_eq_true rfl) dd_M_closeGroup_131 ⟨Nat.le_refl _, Nat.le_refl _⟩ rfl (fun M_6 H locs hw hS => ?_)
              have hm_M_6 := hS.2.2.2
              exact x_vret hC hS hlocks hr hw dd_M_closeGroup_134
            · have hw := hw.2 c5
              refine x_iconst hC dd_M_closeGroup_52 ?_
              refine lv_istore_n (lv' := [(2, .int (iI 0)), (0, .ref (xA X 30)), (1, .int (iI x1_44))]) hx hb dd_M_closeGroup_53 rfl hl (by decide) rfl (fun ls hl => ?_)
              obtain ⟨I54, ⟨n0, hI⟩, hstep_I54⟩ := hw
              have lp_I54 : ∀ (n54 : Nat) (x2_54 : Int) (M54 : Mm) (H : Heap) (locs : List Loc) (ls : Array Slot), I54 n54 x2_54 M54 → inR x2_54 → St X (xF X sz) s M54 H locs → lv_has ls 4 [(0, .ref (xA X 30)), (1, .int (iI x1_44)), (2, .int (iI x2_54))] → W p l e ({ frames := 3, cells := 0, slots := 0, locals := 67 } : Room) s m ([.ref (xA X 30)] : List Value).toArray below meth c H locs 0 0 (MQ below (Qv X sz post) ([.ref (xA X 30)] : List Value).toArray s 0 0 (xF X sz)) (F0 m 54 ls []) := by
                intro n54
                induction n54 using Nat.strongRecOn with
                | _ n54 ih_I54 =>
                  intro x2_54 M54 H locs ls hI rx2_54 hS hl
                  have hw := hstep_I54 n54 x2_54 M54 hI
                  have hm_M54 := hS.2.2.2
                  refine lv_iload_n hx hb dd_M_closeGroup_54 rfl (lv_at hl 2 rfl) ?_
                  refine lv_aload_n hx hb dd_M_closeGroup_55 rfl (lv_at hl 0 rfl) ?_
                  refine x_get hC hS hM0.1 rfl iw_M 8 (by decide) tb_523 rfl rfl dd_M_closeGroup_56 ?_
                  refine x_icmp_ge hC rx2_54 (hm_M54 30 8) (tgt := 124) dd_M_closeGroup_59 (by decide) (fun c7 => ?_) (fun c7 => ?_)
                  · have hw := hw.1 c7
                    obtain ⟨hr_, hw⟩ := hw
                    obtain ⟨v1_124, rv1_124, ev1_124⟩ : ∃ z : Int, inR z ∧ z = x1_44 + 1 := ⟨_, hr_, rfl⟩
                    have hw := hw v1_124 ev1_124
                    refine lv_iinc (v := iI v1_124) (lv' := [(1, .int (iI v1_124)), (0, .ref (xA X 30)), (2, .int (iI x2_54))]) hx hb dd_M_closeGroup_124 hl (k := 1) rfl (by rw [ev1_124]; exact iI_add _ _) (by decide) rfl (fun ls hl => ?_)
                    refine lv_goto (tgt := 44) hx hb dd_M_closeGroup_127 (by decide) ?_
                    obtain ⟨k_8, h9, hI⟩ := hw
                    exact ih_I44 k_8 h9 v1_124 M54 _ _ _ hI rv1_124 hS (lv_sub hl [1, 0] rfl)
                  · have hw := hw.2 c7
                    refine lv_aload_n hx hb dd_M_closeGroup_62 rfl (lv_at hl 0 rfl) ?_
                    refine lv_aload_n hx hb dd_M_closeGroup_63 rfl (lv_at hl 0 rfl) ?_
                    refine x_get hC hS hM0.1 rfl iw_M 9 (by decide) tb_524 rfl rfl dd_M_closeGroup_64 ?_
                    refine lv_iload_n hx hb dd_M_closeGroup_67 rfl (lv_at hl 1 rfl) ?_
                    obtain ⟨q10, hw⟩ := hw
                    refine x_iald hC hS hM0.2.2.2.2.2.2.2.2.1 q10 dd_M_closeGroup_68 ?_
                    refine x_nm (hm_M54 38 _) (fun z11 rz11 ez11 => ?_)
                    have hw := hw z11 ez11
                    refine x_callVv hC hS (As := [.int (iI z11)]) (rest := []) hM0.1 rfl cv_M_layRank (mt_M_layRank l X hC.2.2.1 hM0 z11 rz11 M54 hm_M54 _ _ hw) tb_507 rfl rfl ⟨Nat.le_of_ble_eq_true rfl, Nat.le_of_ble_eq_true rfl⟩ rfl hl.1 (Nat.le_of_ble_eq_true rfl) dd_M_closeGroup_69 ⟨Nat.le_refl _, Nat.le_refl _⟩ rfl (fun M_12 H locs hw hS => ?_)
                    have hm_M_12 := hS.2.2.2
                    refine x_iconst hC dd_M_closeGroup_72 ?_
                    refine lv_istore_n (lv' := [(3, .int (iI 0)), (0, .ref (xA X 30)), (1, .int (iI x1_44)), (2, .int (iI x2_54))]) hx hb dd_M_closeGroup_73 rfl hl (by decide) rfl (fun ls hl => ?_)
                    obtain ⟨I74, ⟨n0, hI⟩, hstep_I74⟩ := hw
                    have lp_I74 : ∀ (n74 : Nat) (x3_74 : Int) (M74 : Mm) (H : Heap) (locs : List Loc) (ls : Array Slot), I74 n74 x3_74 M74 → inR x3_74 → St X (xF X sz) s M74 H locs → lv_has ls 4 [(0, .ref (xA X 30)), (1, .int (iI x1_44)), (2, .int (iI x2_54)), (3, .int (iI x3_74))] → W p l e ({ frames := 3, cells := 0, slots := 0, locals := 67 } : Room) s m ([.ref (xA X 30)] : List Value).toArray below meth c H locs 0 0 (MQ below (Qv X sz post) ([.ref (xA X 30)] : List Value).toArray s 0 0 (xF X sz)) (F0 m 74 ls []) := by
                      intro n74
                      induction n74 using Nat.strongRecOn with
                      | _ n74 ih_I74 =>
                        intro x3_74 M74 H locs ls hI rx3_74 hS hl
                        have hw := hstep_I74 n74 x3_74 M74 hI
                        have hm_M74 := hS.2.2.2
                        refine lv_iload_n hx hb dd_M_closeGroup_74 rfl (lv_at hl 3 rfl) ?_
                        refine lv_aload_n hx hb dd_M_closeGroup_75 rfl (lv_at hl 0 rfl) ?_
                        refine x_callVi hC hS (As := []) (rest := [.int (iI x3_74)]) hM0.1 rfl cv_M_many (mt_M_many l X hC.2.2.1 hM0  M74 hm_M74 _ _ hw) tb_495 rfl rfl ⟨Nat.le_of_ble_eq_true rfl, Nat.le_of_ble_eq_true rfl⟩ rfl hl.1 (Nat.le_of_ble_eq_true rfl) dd_M_closeGroup_76 ⟨Nat.le_refl _, Nat.le_refl _⟩ rfl (fun r76 Mx H locs rr76 hp hS => ?_)
                        obtain ⟨hq, hw⟩ := hp
                        rw [hq] at hS
                        refine x_icmp_ge hC rx3_74 rr76 (tgt := 110) dd_M_closeGroup_79 (by decide) (fun c13 => ?_) (fun c13 => ?_)
                        · have hw := hw.1 c13
                          refine lv_aload_n hx hb dd_M_closeGroup_110 rfl (lv_at hl 0 rfl) ?_
                          refine lv_aload_n hx hb dd_M_closeGroup_111 rfl (lv_at hl 0 rfl) ?_
                          refine x_callVi hC hS (As := []) (rest := [.ref (xA X 30)]) hM0.1 rfl cv_M_rank (mt_M_rank l X hC.2.2.1 hM0  M74 hm_M74 _ _ hw) tb_499 rfl rfl ⟨Nat.le_of_ble_eq_true rfl, Nat.le_of_ble_eq_true rfl⟩ rfl hl.1 (Nat.le_of_ble_eq_true rfl) dd_M_closeGroup_112 ⟨Nat.le_refl _, Nat.le_refl _⟩ rfl (fun r112 Mx H locs rr112 hp hS => ?_)
                          obtain ⟨hq, hw⟩ := hp
                          rw [hq] at hS
                          refine x_callVv hC hS (As := [.int (iI r112)]) (rest := []) hM0.1 rfl cv_M_meet (mt_M_meet l X hC.2.2.1 hM0 r112 rr112 M74 hm_M74 _ _ hw) tb_503 rfl rfl ⟨Nat.le_of_ble_eq_true rfl, Nat.le_of_ble_eq_true rfl⟩ rfl hl.1 (Nat.le_of_ble_eq_true rfl) dd_M_closeGroup_115 ⟨Nat.le_refl _, Nat.le_refl _⟩ rfl (fun M_14 H locs hw hS => ?_)
                          have hm_M_14 := hS.2.2.2
                          obtain ⟨hr_, hw⟩ := hw
                          obtain ⟨v2_118, rv2_118, ev2_118⟩ : ∃ z : Int, inR z ∧ z = x2_54 + 1 := ⟨_, hr_, rfl⟩
                          have hw := hw v2_118 ev2_118
                          refine lv_iinc (v := iI v2_118) (lv' := [(2, .int (iI v2_118)), (0, .ref (xA X 30)), (1, .int (iI x1_44)), (3, .int (iI x3_74))]) hx hb dd_M_closeGroup_118 hl (k := 2) rfl (by rw [ev2_118]; exact iI_add _ _) (by decide) rfl (fun ls hl => ?_)
                          refine lv_goto (tgt := 54) hx hb dd_M_closeGroup_121 (by decide) ?_
                          obtain ⟨k_15, h16, hI⟩ := hw
                          exact ih_I54 k_15 h16 v2_118 M_14 _ _ _ hI rv2_118 hS (lv_sub hl [1, 2, 0] rfl)
                        · have hw := hw.2 c13
                          refine lv_aload_n hx hb dd_M_closeGroup_82 rfl (lv_at hl 0 rfl) ?_
                          refine x_get hC hS hM0.1 rfl iw_M 5 (by decide) tb_520 rfl rfl dd_M_closeGroup_83 ?_
                          refine lv_iload_n hx hb dd_M_closeGroup_86 rfl (lv_at hl 3 rfl) ?_
                          refine lv_aload_n hx hb dd_M_closeGroup_87 rfl (lv_at hl 0 rfl) ?_
                          refine x_get hC hS hM0.1 rfl iw_M 7 (by decide) tb_522 rfl rfl dd_M_closeGroup_88 ?_
                          refine x_bipush hC dd_M_closeGroup_91 (by decide) ?_
                          refine lv_iload_n hx hb dd_M_closeGroup_93 rfl (lv_at hl 2 rfl) ?_
                          obtain ⟨q17, hw⟩ := hw
                          refine x_mul hC dd_M_closeGroup_94 ?_
                          refine lv_aload_n hx hb dd_M_closeGroup_95 rfl (lv_at hl 0 rfl) ?_
                          refine x_get hC hS hM0.1 rfl iw_M 5 (by decide) tb_520 rfl rfl dd_M_closeGroup_96 ?_
                          refine lv_iload_n hx hb dd_M_closeGroup_99 rfl (lv_at hl 3 rfl) ?_
                          obtain ⟨q18, hw⟩ := hw
                          refine x_iald hC hS hM0.2.2.2.2.2.1 q18 dd_M_closeGroup_100 ?_
                          refine x_nm (hm_M74 35 _) (fun z19 rz19 ez19 => ?_)
                          have hw := hw z19 ez19
                          obtain ⟨q20, hw⟩ := hw
                          refine x_add hC dd_M_closeGroup_101 ?_
                          obtain ⟨q21, hw⟩ := hw
                          refine x_iald hC hS hM0.2.2.2.2.2.2.2.1 q21 dd_M_closeGroup_102 ?_
                          refine x_nm (hm_M74 37 _) (fun z22 rz22 ez22 => ?_)
                          have hw := hw z22 ez22
                          obtain ⟨q23, hw⟩ := hw
                          refine x_iast hC hS hM0.2.2.2.2.2.1 q23 rz22 dd_M_closeGroup_103 (fun H locs hS => ?_)
                          obtain ⟨M_24, eM_24⟩ : ∃ Z : Mm, Z = ms M74 35 (x3_74).toNat z22 := ⟨_, rfl⟩
                          rw [← eM_24] at hS
                          have hw := hw M_24 eM_24
                          have hm_M_24 := hS.2.2.2
                          obtain ⟨hr_, hw⟩ := hw
                          obtain ⟨v3_104, rv3_104, ev3_104⟩ : ∃ z : Int, inR z ∧ z = x3_74 + 1 := ⟨_, hr_, rfl⟩
                          have hw := hw v3_104 ev3_104
                          refine lv_iinc (v := iI v3_104) (lv' := [(3, .int (iI v3_104)), (0, .ref (xA X 30)), (1, .int (iI x1_44)), (2, .int (iI x2_54))]) hx hb dd_M_closeGroup_104 hl (k := 3) rfl (by rw [ev3_104]; exact iI_add _ _) (by decide) rfl (fun ls hl => ?_)
                          refine lv_goto (tgt := 74) hx hb dd_M_closeGroup_107 (by decide) ?_
                          obtain ⟨k_25, h26, hI⟩ := hw
                          exact ih_I74 k_25 h26 v3_104 M_24 _ _ _ hI rv3_104 hS (lv_sub hl [1, 2, 3, 0] rfl)
                    exact lp_I74 n0 0 M_12 _ _ _ hI (rk rfl) hS (lv_sub hl [1, 2, 3, 0] rfl)
              exact lp_I54 n0 0 M44 _ _ _ hI (rk rfl) hS (lv_sub hl [1, 2, 0] rfl)
        exact lp_I44 n0 0 M_4 _ _ _ hI (rk rfl) hS (lv_sub hl [1, 0] rfl)
      · have hw := hw.2 c1
        refine lv_aload_n hx hb dd_M_closeGroup_9 rfl (lv_at hl 0 rfl) ?_
        refine x_get hC hS hM0.1 rfl iw_M 0 (by decide) tb_515 rfl rfl dd_M_closeGroup_10 ?_
        refine x_bipush hC dd_M_closeGroup_13 (by decide) ?_
        refine lv_iload_n hx hb dd_M_closeGroup_15 rfl (lv_at hl 1 rfl) ?_
        obtain ⟨q27, hw⟩ := hw
        refine x_add hC dd_M_closeGroup_16 ?_
        refine x_iconst hC dd_M_closeGroup_17 ?_
        obtain ⟨q28, hw⟩ := hw
        refine x_iast hC hS hM0.2.1 q28 (rk rfl) dd_M_closeGroup_18 (fun H locs hS => ?_)
        obtain ⟨M_29, eM_29⟩ : ∃ Z : Mm, Z = ms M2 31 ((6 + x1_2)).toNat 0 := ⟨_, rfl⟩
        rw [← eM_29] at hS
        have hw := hw M_29 eM_29
        have hm_M_29 := hS.2.2.2
        obtain ⟨hr_, hw⟩ := hw
        obtain ⟨v1_19, rv1_19, ev1_19⟩ : ∃ z : Int, inR z ∧ z = x1_2 + 1 := ⟨_, hr_, rfl⟩
        have hw := hw v1_19 ev1_19
        refine lv_iinc (v := iI v1_19) (lv' := [(1, .int (iI v1_19)), (0, .ref (xA X 30))]) hx hb dd_M_closeGroup_19 hl (k := 1) rfl (by rw [ev1_19]; exact iI_add _ _) (by decide) rfl (fun ls hl => ?_)
        refine lv_goto (tgt := 2) hx hb dd_M_closeGroup_22 (by decide) ?_
        obtain ⟨k_30, h31, hI⟩ := hw
        exact ih_I2 k_30 h31 v1_19 M_29 _ _ _ hI rv1_19 hS (lv_sub hl [1, 0] rfl)
  exact lp_I2 n0 0 M _ _ _ hI (rk rfl) hS (lv_sub hl [1, 0] rfl)
def wp_M_in (a0 : Int) (a1 : Int) (a2 : Int) (post : Int → Prop) : Prop :=
  (a0 < a1 → post 0) ∧
  (¬ a0 < a1 → (a2 < a0 → post 0) ∧
    (¬ a2 < a0 → post 1))
set_option maxHeartbeats 4000000 in
set_option maxRecDepth 100000 in
theorem mt_M_in (l : Launch) (X : Xw) (hlc : lcl X) (a0 : Int) (ra0 : inR a0) (a1 : Int) (ra1 : inR a1) (a2 : Int) (ra2 : inR a2) (M : Mm) (hm_M : mr M) (post : Int → Prop) (sz : Nat) (hw : wp_M_in a0 a1 a2 post) : Met l yy_M_in (Cond.code yy_M_in bc_M_in 3 (some .boolean) :: tg) ({ frames := 0, cells := 0, slots := 0, locals := 0 } : Room) (Pw X [.int (iI a0), .int (iI a1), .int (iI a2)] M sz) (Qi X sz (fun r M1 => M1 = M ∧ post r)) 0 0 (xF X sz) := by
  unfold wp_M_in at hw
  refine x_enter (by decide) hlc hm_M (Nat.le_of_ble_eq_true rfl) ?_
  intro p e s m below meth c ls hC hsz hr hlocks hS hl
  have hx := hC.1.1
  have hb := hC.1.2.1
  have hl : lv_has ls 3 [(0, .int (iI a0)), (1, .int (iI a1)), (2, .int (iI a2))] := hl
  refine lv_iload_n hx hb dd_M_in_0 rfl (lv_at hl 0 rfl) ?_
  refine lv_iload_n hx hb dd_M_in_1 rfl (lv_at hl 1 rfl) ?_
  refine x_icmp_lt hC ra0 ra1 (tgt := 14) dd_M_in_2 (by decide) (fun c1 => ?_) (fun c1 => ?_)
  · have hw := hw.1 c1
    refine x_iconst hC dd_M_in_14 ?_
    exact x_zret hC hS hlocks hr (Or.inl rfl) ⟨rfl, hw⟩ dd_M_in_15
  · have hw := hw.2 c1
    refine lv_iload_n hx hb dd_M_in_5 rfl (lv_at hl 0 rfl) ?_
    refine lv_iload_n hx hb dd_M_in_6 rfl (lv_at hl 2 rfl) ?_
    refine x_icmp_gt hC ra0 ra2 (tgt := 14) dd_M_in_7 (by decide) (fun c2 => ?_) (fun c2 => ?_)
    · have hw := hw.1 c2
      refine x_iconst hC dd_M_in_14 ?_
      exact x_zret hC hS hlocks hr (Or.inl rfl) ⟨rfl, hw⟩ dd_M_in_15
    · have hw := hw.2 c2
      refine x_iconst hC dd_M_in_10 ?_
      refine lv_goto (tgt := 15) hx hb dd_M_in_11 (by decide) ?_
      exact x_zret hC hS hlocks hr (Or.inr rfl) ⟨rfl, hw⟩ dd_M_in_15
def wp_M_addMaker (M : Mm) (post : Mm → Prop) : Prop :=
  ∃ I2 : Nat → Int → Mm → Prop, (∃ n, I2 n 0 M) ∧ ∀ (n2 : Nat) (x1_2 : Int) (M2 : Mm), I2 n2 x1_2 M2 →
    (wp_M_many M2 (fun (r4 : Int) => (r4 ≤ x1_2 → inR ((M2 30 8) + 1) ∧ ∀ M_3 : Mm, M_3 = ms M2 30 8 ((M2 30 8) + 1) → post M_3) ∧
      (¬ r4 ≤ x1_2 → inR (7 * (M2 30 8)) ∧ inR ((7 * (M2 30 8)) + x1_2) ∧ (0 ≤ x1_2 ∧ x1_2 < 7) ∧ ∀ z7 : Int, z7 = M2 35 (x1_2).toNat → (0 ≤ ((7 * (M2 30 8)) + x1_2) ∧ ((7 * (M2 30 8)) + x1_2) < 420) ∧ ∀ M_9 : Mm, M_9 = ms M2 37 (((7 * (M2 30 8)) + x1_2)).toNat z7 → inR (x1_2 + 1) ∧ ∀ v1_30 : Int, v1_30 = x1_2 + 1 → ∃ k_10, k_10 < n2 ∧ I2 k_10 v1_30 M_9)))
set_option maxHeartbeats 4000000 in
set_option maxRecDepth 100000 in
theorem mt_M_addMaker (l : Launch) (X : Xw) (hlc : lcl X)(hM0 : IsM X) (M : Mm) (hm_M : mr M) (post : Mm → Prop) (sz : Nat) (hw : wp_M_addMaker M post) : Met l yy_M_addMaker (Cond.code yy_M_addMaker bc_M_addMaker 2 none :: tg) ({ frames := 1, cells := 0, slots := 0, locals := 20 } : Room) (Pw X [.ref (xA X 30)] M sz) (Qv X sz post) 0 0 (xF X sz) := by
  unfold wp_M_addMaker at hw
  refine x_enter (by decide) hlc hm_M (Nat.le_of_ble_eq_true rfl) ?_
  intro p e s m below meth c ls hC hsz hr hlocks hS hl
  have hx := hC.1.1
  have hb := hC.1.2.1
  have hl : lv_has ls 2 [(0, .ref (xA X 30))] := hl
  refine x_iconst hC dd_M_addMaker_0 ?_
  refine lv_istore_n (lv' := [(1, .int (iI 0)), (0, .ref (xA X 30))]) hx hb dd_M_addMaker_1 rfl hl (by decide) rfl (fun ls hl => ?_)
  obtain ⟨I2, ⟨n0, hI⟩, hstep_I2⟩ := hw
  have lp_I2 : ∀ (n2 : Nat) (x1_2 : Int) (M2 : Mm) (H : Heap) (locs : List Loc) (ls : Array Slot), I2 n2 x1_2 M2 → inR x1_2 → St X (xF X sz) s M2 H locs → lv_has ls 2 [(0, .ref (xA X 30)), (1, .int (iI x1_2))] → W p l e ({ frames := 1, cells := 0, slots := 0, locals := 20 } : Room) s m ([.ref (xA X 30)] : List Value).toArray below meth c H locs 0 0 (MQ below (Qv X sz post) ([.ref (xA X 30)] : List Value).toArray s 0 0 (xF X sz)) (F0 m 2 ls []) := by
    intro n2
    induction n2 using Nat.strongRecOn with
    | _ n2 ih_I2 =>
      intro x1_2 M2 H locs ls hI rx1_2 hS hl
      have hw := hstep_I2 n2 x1_2 M2 hI
      have hm_M2 := hS.2.2.2
      refine lv_iload_n hx hb dd_M_addMaker_2 rfl (lv_at hl 1 rfl) ?_
      refine lv_aload_n hx hb dd_M_addMaker_3 rfl (lv_at hl 0 rfl) ?_
      refine x_callVi hC hS (As := []) (rest := [.int (iI x1_2)]) hM0.1 rfl cv_M_many (mt_M_many l X hC.2.2.1 hM0  M2 hm_M2 _ _ hw) tb_495 rfl rfl ⟨Nat.le_of_ble_eq_true rfl, Nat.le_of_ble_eq_true rfl⟩ rfl hl.1 (Nat.le_of_ble_eq_true rfl) dd_M_addMaker_4 ⟨Nat.le_refl _, Nat.le_refl _⟩ rfl (fun r4 Mx H locs rr4 hp hS => ?_)
      obtain ⟨hq, hw⟩ := hp
      rw [hq] at hS
      refine x_icmp_ge hC rx1_2 rr4 (tgt := 36) dd_M_addMaker_7 (by decide) (fun c1 => ?_) (fun c1 => ?_)
      · have hw := hw.1 c1
        refine lv_aload_n hx hb dd_M_addMaker_36 rfl (lv_at hl 0 rfl) ?_
        refine lv_dup hx hb dd_M_addMaker_37 rfl ?_
        refine x_get hC hS hM0.1 rfl iw_M 8 (by decide) tb_523 rfl rfl dd_M_addMaker_38 ?_
        refine x_iconst hC dd_M_addMaker_41 ?_
        obtain ⟨q2, hw⟩ := hw
        refine x_add hC dd_M_addMaker_42 ?_
        refine x_put hC hS hM0.1 rfl iw_M fy_M fk_M fn_M 8 (by decide) tb_523 rfl q2 rfl rfl (ps_M_8 _ _ _) (Nat.le_of_ble_eq_true rfl) dd_M_addMaker_43 (fun H locs hS => ?_)
        obtain ⟨M_3, eM_3⟩ : ∃ Z : Mm, Z = ms M2 30 8 ((M2 30 8) + 1) := ⟨_, rfl⟩
        rw [← eM_3] at hS
        have hw := hw M_3 eM_3
        have hm_M_3 := hS.2.2.2
        exact x_vret hC hS hlocks hr hw dd_M_addMaker_46
      · have hw := hw.2 c1
        refine lv_aload_n hx hb dd_M_addMaker_10 rfl (lv_at hl 0 rfl) ?_
        refine x_get hC hS hM0.1 rfl iw_M 7 (by decide) tb_522 rfl rfl dd_M_addMaker_11 ?_
        refine x_bipush hC dd_M_addMaker_14 (by decide) ?_
        refine lv_aload_n hx hb dd_M_addMaker_16 rfl (lv_at hl 0 rfl) ?_
        refine x_get hC hS hM0.1 rfl iw_M 8 (by decide) tb_523 rfl rfl dd_M_addMaker_17 ?_
        obtain ⟨q4, hw⟩ := hw
        refine x_mul hC dd_M_addMaker_20 ?_
        refine lv_iload_n hx hb dd_M_addMaker_21 rfl (lv_at hl 1 rfl) ?_
        obtain ⟨q5, hw⟩ := hw
        refine x_add hC dd_M_addMaker_22 ?_
        refine lv_aload_n hx hb dd_M_addMaker_23 rfl (lv_at hl 0 rfl) ?_
        refine x_get hC hS hM0.1 rfl iw_M 5 (by decide) tb_520 rfl rfl dd_M_addMaker_24 ?_
        refine lv_iload_n hx hb dd_M_addMaker_27 rfl (lv_at hl 1 rfl) ?_
        obtain ⟨q6, hw⟩ := hw
        refine x_iald hC hS hM0.2.2.2.2.2.1 q6 dd_M_addMaker_28 ?_
        refine x_nm (hm_M2 35 _) (fun z7 rz7 ez7 => ?_)
        have hw := hw z7 ez7
        obtain ⟨q8, hw⟩ := hw
        refine x_iast hC hS hM0.2.2.2.2.2.2.2.1 q8 rz7 dd_M_addMaker_29 (fun H locs hS => ?_)
        obtain ⟨M_9, eM_9⟩ : ∃ Z : Mm, Z = ms M2 37 (((7 * (M2 30 8)) + x1_2)).toNat z7 := ⟨_, rfl⟩
        rw [← eM_9] at hS
        have hw := hw M_9 eM_9
        have hm_M_9 := hS.2.2.2
        obtain ⟨hr_, hw⟩ := hw
        obtain ⟨v1_30, rv1_30, ev1_30⟩ : ∃ z : Int, inR z ∧ z = x1_2 + 1 := ⟨_, hr_, rfl⟩
        have hw := hw v1_30 ev1_30
        refine lv_iinc (v := iI v1_30) (lv' := [(1, .int (iI v1_30)), (0, .ref (xA X 30))]) hx hb dd_M_addMaker_30 hl (k := 1) rfl (by rw [ev1_30]; exact iI_add _ _) (by decide) rfl (fun ls hl => ?_)
        refine lv_goto (tgt := 2) hx hb dd_M_addMaker_33 (by decide) ?_
        obtain ⟨k_10, h11, hI⟩ := hw
        exact ih_I2 k_10 h11 v1_30 M_9 _ _ _ hI rv1_30 hS (lv_sub hl [1, 0] rfl)
  exact lp_I2 n0 0 M _ _ _ hI (rk rfl) hS (lv_sub hl [1, 0] rfl)
def wp_M_points (a1 : Int) (M : Mm) (post : Int → Mm → Prop) : Prop :=
  wp_M_in a1 1 7 (fun (r4 : Int) => (¬ r4 = 0 → wp_M_many M (fun (r14 : Int) => (0 ≤ (0 : Int) ∧ (0 : Int) < 5046) ∧ ∀ M_3 : Mm, M_3 = ms M 31 ((0 : Int)).toNat a1 → wp_M_beginGroup M_3 (fun (M_4 : Mm) => wp_M_closeGroup M_4 (fun (M_5 : Mm) => post r14 M_5)))) ∧
  (r4 = 0 → post (-2) M))
set_option maxHeartbeats 4000000 in
set_option maxRecDepth 100000 in
theorem mt_M_points (l : Launch) (X : Xw) (hlc : lcl X)(hM0 : IsM X) (a1 : Int) (ra1 : inR a1) (M : Mm) (hm_M : mr M) (post : Int → Mm → Prop) (sz : Nat) (hw : wp_M_points a1 M post) : Met l yy_M_points (Cond.code yy_M_points bc_M_points 3 (some .int) :: tg) ({ frames := 4, cells := 0, slots := 0, locals := 90 } : Room) (Pw X [.ref (xA X 30), .int (iI a1)] M sz) (Qi X sz post) 0 0 (xF X sz) := by
  unfold wp_M_points at hw
  refine x_enter (by decide) hlc hm_M (Nat.le_of_ble_eq_true rfl) ?_
  intro p e s m below meth c ls hC hsz hr hlocks hS hl
  have hx := hC.1.1
  have hb := hC.1.2.1
  have hl : lv_has ls 3 [(0, .ref (xA X 30)), (1, .int (iI a1))] := hl
  refine lv_iload_n hx hb dd_M_points_0 rfl (lv_at hl 1 rfl) ?_
  refine x_iconst hC dd_M_points_1 ?_
  refine x_bipush hC dd_M_points_2 (by decide) ?_
  refine x_callSi hC hS (As := [.int (iI a1), .int (iI 1), .int (iI 7)]) (rest := []) cs_M_in (mt_M_in l X hC.2.2.1  a1 ra1 1 (rk rfl) 7 (rk rfl) M hm_M _ _ hw) tb_596 rfl rfl ⟨Nat.le_of_ble_eq_true rfl, Nat.le_of_ble_eq_true rfl⟩ rfl hl.1 (Nat.le_of_ble_eq_true rfl) dd_M_points_4 ⟨Nat.le_refl _, Nat.le_refl _⟩ rfl (fun r4 Mx H locs rr4 hp hS => ?_)
  obtain ⟨hq, hw⟩ := hp
  rw [hq] at hS
  refine x_if_ne hC rr4 (tgt := 13) dd_M_points_7 (by decide) (fun c1 => ?_) (fun c1 => ?_)
  · have hw := hw.1 c1
    refine lv_aload_n hx hb dd_M_points_13 rfl (lv_at hl 0 rfl) ?_
    refine x_callVi hC hS (As := []) (rest := []) hM0.1 rfl cv_M_many (mt_M_many l X hC.2.2.1 hM0  M hm_M _ _ hw) tb_495 rfl rfl ⟨Nat.le_of_ble_eq_true rfl, Nat.le_of_ble_eq_true rfl⟩ rfl hl.1 (Nat.le_of_ble_eq_true rfl) dd_M_points_14 ⟨Nat.le_refl _, Nat.le_refl _⟩ rfl (fun r14 Mx H locs rr14 hp hS => ?_)
    obtain ⟨hq, hw⟩ := hp
    rw [hq] at hS
    refine lv_istore_n (lv' := [(2, .int (iI r14)), (0, .ref (xA X 30)), (1, .int (iI a1))]) hx hb dd_M_points_17 rfl hl (by decide) rfl (fun ls hl => ?_)
    refine lv_aload_n hx hb dd_M_points_18 rfl (lv_at hl 1 rfl) ?_
    refine x_get hC hS hM0.1 rfl iw_M 0 (by decide) tb_515 rfl rfl dd_M_points_19 ?_
    refine x_iconst hC dd_M_points_22 ?_
    refine lv_iload_n hx hb dd_M_points_23 rfl (lv_at hl 2 rfl) ?_
    obtain ⟨q2, hw⟩ := hw
    refine x_iast hC hS hM0.2.1 q2 ra1 dd_M_points_24 (fun H locs hS => ?_)
    obtain ⟨M_3, eM_3⟩ : ∃ Z : Mm, Z = ms M 31 ((0 : Int)).toNat a1 := ⟨_, rfl⟩
    rw [← eM_3] at hS
    have hw := hw M_3 eM_3
    have hm_M_3 := hS.2.2.2
    refine lv_aload_n hx hb dd_M_points_25 rfl (lv_at hl 1 rfl) ?_
    refine x_callVv hC hS (As := []) (rest := []) hM0.1 rfl cv_M_beginGroup (mt_M_beginGroup l X hC.2.2.1 hM0  M_3 hm_M_3 _ _ hw) tb_483 rfl rfl ⟨Nat.le_of_ble_eq_true rfl, Nat.le_of_ble_eq_true rfl⟩ rfl hl.1 (Nat.le_of_ble_eq_true rfl) dd_M_points_26 ⟨Nat.le_refl _, Nat.le_refl _⟩ rfl (fun M_4 H locs hw hS => ?_)
    have hm_M_4 := hS.2.2.2
    refine lv_aload_n hx hb dd_M_points_29 rfl (lv_at hl 1 rfl) ?_
    refine x_callVv hC hS (As := []) (rest := []) hM0.1 rfl cv_M_closeGroup (mt_M_closeGroup l X hC.2.2.1 hM0  M_4 hm_M_4 _ _ hw) tb_487 rfl rfl ⟨Nat.le_of_ble_eq_true rfl, Nat.le_of_ble_eq_true rfl⟩ rfl hl.1 (Nat.le_of_ble_eq_true rfl) dd_M_points_30 ⟨Nat.le_refl _, Nat.le_refl _⟩ rfl (fun M_5 H locs hw hS => ?_)
    have hm_M_5 := hS.2.2.2
    refine lv_iload_n hx hb dd_M_points_33 rfl (lv_at hl 0 rfl) ?_
    exact x_iret hC hS hlocks hr rr14 hw dd_M_points_34
  · have hw := hw.2 c1
    refine x_bipush hC dd_M_points_10 (by decide) ?_
    exact x_iret hC hS hlocks hr (rk rfl) hw dd_M_points_12
def wp_M_isKind (a0 : Int) (post : Int → Prop) : Prop :=
  wp_M_in a0 0 4 (fun (r3 : Int) => (r3 = 0 ∨ r3 = 1) ∧ post r3)
set_option maxHeartbeats 4000000 in
set_option maxRecDepth 100000 in
theorem mt_M_isKind (l : Launch) (X : Xw) (hlc : lcl X) (a0 : Int) (ra0 : inR a0) (M : Mm) (hm_M : mr M) (post : Int → Prop) (sz : Nat) (hw : wp_M_isKind a0 post) : Met l yy_M_isKind (Cond.code yy_M_isKind bc_M_isKind 1 (some .boolean) :: tg) ({ frames := 1, cells := 0, slots := 0, locals := 22 } : Room) (Pw X [.int (iI a0)] M sz) (Qi X sz (fun r M1 => M1 = M ∧ post r)) 0 0 (xF X sz) := by
  unfold wp_M_isKind at hw
  refine x_enter (by decide) hlc hm_M (Nat.le_of_ble_eq_true rfl) ?_
  intro p e s m below meth c ls hC hsz hr hlocks hS hl
  have hx := hC.1.1
  have hb := hC.1.2.1
  have hl : lv_has ls 1 [(0, .int (iI a0))] := hl
  refine lv_iload_n hx hb dd_M_isKind_0 rfl (lv_at hl 0 rfl) ?_
  refine x_iconst hC dd_M_isKind_1 ?_
  refine x_iconst hC dd_M_isKind_2 ?_
  refine x_callSi hC hS (As := [.int (iI a0), .int (iI 0), .int (iI 4)]) (rest := []) cs_M_in (mt_M_in l X hC.2.2.1  a0 ra0 0 (rk rfl) 4 (rk rfl) M hm_M _ _ hw) tb_596 rfl rfl ⟨Nat.le_of_ble_eq_true rfl, Nat.le_of_ble_eq_true rfl⟩ rfl hl.1 (Nat.le_of_ble_eq_true rfl) dd_M_isKind_3 ⟨Nat.le_refl _, Nat.le_refl _⟩ rfl (fun r3 Mx H locs rr3 hp hS => ?_)
  obtain ⟨hq, hw⟩ := hp
  rw [hq] at hS
  exact x_zret hC hS hlocks hr hw.1 ⟨rfl, hw.2⟩ dd_M_isKind_6
def wp_M_bring (a1 : Int) (a2 : Int) (a3 : Int) (a4 : Int) (M : Mm) (post : Mm → Prop) : Prop :=
  ∃ I3 : Nat → Int → Mm → Prop, (∃ n, I3 n 0 M) ∧ ∀ (n3 : Nat) (x5_3 : Int) (M3 : Mm), I3 n3 x5_3 M3 →
    ((a2 ≤ x5_3 → post M3) ∧
      (¬ a2 ≤ x5_3 → inR (a2 * a3) ∧ inR (a1 + (a2 * a3)) ∧ inR ((a1 + (a2 * a3)) + x5_3) ∧ inR (a2 * a4) ∧ inR (a1 + (a2 * a4)) ∧ inR ((a1 + (a2 * a4)) + x5_3) ∧ (0 ≤ ((a1 + (a2 * a3)) + x5_3) ∧ ((a1 + (a2 * a3)) + x5_3) < 7) ∧ ∀ M_9 : Mm, M_9 = ms M3 35 (((a1 + (a2 * a3)) + x5_3)).toNat ((a1 + (a2 * a4)) + x5_3) → inR (x5_3 + 1) ∧ ∀ v5_31 : Int, v5_31 = x5_3 + 1 → ∃ k_10, k_10 < n3 ∧ I3 k_10 v5_31 M_9))
set_option maxHeartbeats 4000000 in
set_option maxRecDepth 100000 in
theorem mt_M_bring (l : Launch) (X : Xw) (hlc : lcl X)(hM0 : IsM X) (a1 : Int) (ra1 : inR a1) (a2 : Int) (ra2 : inR a2) (a3 : Int) (ra3 : inR a3) (a4 : Int) (ra4 : inR a4) (M : Mm) (hm_M : mr M) (post : Mm → Prop) (sz : Nat) (hw : wp_M_bring a1 a2 a3 a4 M post) : Met l yy_M_bring (Cond.code yy_M_bring bc_M_bring 6 none :: tg) ({ frames := 0, cells := 0, slots := 0, locals := 0 } : Room) (Pw X [.ref (xA X 30), .int (iI a1), .int (iI a2), .int (iI a3), .int (iI a4)] M sz) (Qv X sz post) 0 0 (xF X sz) := by
  unfold wp_M_bring at hw
  refine x_enter (by decide) hlc hm_M (Nat.le_of_ble_eq_true rfl) ?_
  intro p e s m below meth c ls hC hsz hr hlocks hS hl
  have hx := hC.1.1
  have hb := hC.1.2.1
  have hl : lv_has ls 6 [(0, .ref (xA X 30)), (1, .int (iI a1)), (2, .int (iI a2)), (3, .int (iI a3)), (4, .int (iI a4))] := hl
  refine x_iconst hC dd_M_bring_0 ?_
  refine lv_istore (lv' := [(5, .int (iI 0)), (0, .ref (xA X 30)), (1, .int (iI a1)), (2, .int (iI a2)), (3, .int (iI a3)), (4, .int (iI a4))]) hx hb dd_M_bring_1 hl (by decide) rfl (fun ls hl => ?_)
  obtain ⟨I3, ⟨n0, hI⟩, hstep_I3⟩ := hw
  have lp_I3 : ∀ (n3 : Nat) (x5_3 : Int) (M3 : Mm) (H : Heap) (locs : List Loc) (ls : Array Slot), I3 n3 x5_3 M3 → inR x5_3 → St X (xF X sz) s M3 H locs → lv_has ls 6 [(0, .ref (xA X 30)), (1, .int (iI a1)), (2, .int (iI a2)), (3, .int (iI a3)), (4, .int (iI a4)), (5, .int (iI x5_3))] → W p l e ({ frames := 0, cells := 0, slots := 0, locals := 0 } : Room) s m ([.ref (xA X 30), .int (iI a1), .int (iI a2), .int (iI a3), .int (iI a4)] : List Value).toArray below meth c H locs 0 0 (MQ below (Qv X sz post) ([.ref (xA X 30), .int (iI a1), .int (iI a2), .int (iI a3), .int (iI a4)] : List Value).toArray s 0 0 (xF X sz)) (F0 m 3 ls []) := by
    intro n3
    induction n3 using Nat.strongRecOn with
    | _ n3 ih_I3 =>
      intro x5_3 M3 H locs ls hI rx5_3 hS hl
      have hw := hstep_I3 n3 x5_3 M3 hI
      have hm_M3 := hS.2.2.2
      refine lv_iload hx hb dd_M_bring_3 (lv_at hl 5 rfl) ?_
      refine lv_iload_n hx hb dd_M_bring_5 rfl (lv_at hl 2 rfl) ?_
      refine x_icmp_ge hC rx5_3 ra2 (tgt := 37) dd_M_bring_6 (by decide) (fun c1 => ?_) (fun c1 => ?_)
      · have hw := hw.1 c1
        exact x_vret hC hS hlocks hr hw dd_M_bring_37
      · have hw := hw.2 c1
        refine lv_aload_n hx hb dd_M_bring_9 rfl (lv_at hl 0 rfl) ?_
        refine x_get hC hS hM0.1 rfl iw_M 5 (by decide) tb_520 rfl rfl dd_M_bring_10 ?_
        refine lv_iload_n hx hb dd_M_bring_13 rfl (lv_at hl 1 rfl) ?_
        refine lv_iload_n hx hb dd_M_bring_14 rfl (lv_at hl 2 rfl) ?_
        refine lv_iload_n hx hb dd_M_bring_15 rfl (lv_at hl 3 rfl) ?_
        obtain ⟨q2, hw⟩ := hw
        refine x_mul hC dd_M_bring_16 ?_
        obtain ⟨q3, hw⟩ := hw
        refine x_add hC dd_M_bring_17 ?_
        refine lv_iload hx hb dd_M_bring_18 (lv_at hl 5 rfl) ?_
        obtain ⟨q4, hw⟩ := hw
        refine x_add hC dd_M_bring_20 ?_
        refine lv_iload_n hx hb dd_M_bring_21 rfl (lv_at hl 1 rfl) ?_
        refine lv_iload_n hx hb dd_M_bring_22 rfl (lv_at hl 2 rfl) ?_
        refine lv_iload hx hb dd_M_bring_23 (lv_at hl 4 rfl) ?_
        obtain ⟨q5, hw⟩ := hw
        refine x_mul hC dd_M_bring_25 ?_
        obtain ⟨q6, hw⟩ := hw
        refine x_add hC dd_M_bring_26 ?_
        refine lv_iload hx hb dd_M_bring_27 (lv_at hl 5 rfl) ?_
        obtain ⟨q7, hw⟩ := hw
        refine x_add hC dd_M_bring_29 ?_
        obtain ⟨q8, hw⟩ := hw
        refine x_iast hC hS hM0.2.2.2.2.2.1 q8 q7 dd_M_bring_30 (fun H locs hS => ?_)
        obtain ⟨M_9, eM_9⟩ : ∃ Z : Mm, Z = ms M3 35 (((a1 + (a2 * a3)) + x5_3)).toNat ((a1 + (a2 * a4)) + x5_3) := ⟨_, rfl⟩
        rw [← eM_9] at hS
        have hw := hw M_9 eM_9
        have hm_M_9 := hS.2.2.2
        obtain ⟨hr_, hw⟩ := hw
        obtain ⟨v5_31, rv5_31, ev5_31⟩ : ∃ z : Int, inR z ∧ z = x5_3 + 1 := ⟨_, hr_, rfl⟩
        have hw := hw v5_31 ev5_31
        refine lv_iinc (v := iI v5_31) (lv' := [(5, .int (iI v5_31)), (0, .ref (xA X 30)), (1, .int (iI a1)), (2, .int (iI a2)), (3, .int (iI a3)), (4, .int (iI a4))]) hx hb dd_M_bring_31 hl (k := 5) rfl (by rw [ev5_31]; exact iI_add _ _) (by decide) rfl (fun ls hl => ?_)
        refine lv_goto (tgt := 3) hx hb dd_M_bring_34 (by decide) ?_
        obtain ⟨k_10, h11, hI⟩ := hw
        exact ih_I3 k_10 h11 v5_31 M_9 _ _ _ hI rv5_31 hS (lv_sub hl [1, 2, 3, 4, 5, 0] rfl)
  exact lp_I3 n0 0 M _ _ _ hI (rk rfl) hS (lv_sub hl [1, 2, 3, 4, 5, 0] rfl)
def wp_M_addRound (a1 : Int) (a2 : Int) (a3 : Int) (M : Mm) (post : Mm → Prop) : Prop :=
  wp_M_layStill M (fun (M_1 : Mm) => ∃ I7 : Nat → Int → Mm → Prop, (∃ n, I7 n 0 M_1) ∧ ∀ (n7 : Nat) (x4_7 : Int) (M7 : Mm), I7 n7 x4_7 M7 →
    ((a3 ≤ x4_7 → wp_M_addMaker M7 (fun (M_3 : Mm) => post M_3)) ∧
      (¬ a3 ≤ x4_7 → inR (x4_7 + 1) ∧ (0 ≤ (x4_7 + 1) ∧ 0 < a3) ∧ wp_M_bring a1 a2 x4_7 ((x4_7 + 1) % a3) M7 (fun (M_6 : Mm) => inR (x4_7 + 1) ∧ ∀ v4_27 : Int, v4_27 = x4_7 + 1 → ∃ k_7, k_7 < n7 ∧ I7 k_7 v4_27 M_6))))
set_option maxHeartbeats 4000000 in
set_option maxRecDepth 100000 in
theorem mt_M_addRound (l : Launch) (X : Xw) (hlc : lcl X)(hM0 : IsM X) (a1 : Int) (ra1 : inR a1) (a2 : Int) (ra2 : inR a2) (a3 : Int) (ra3 : inR a3) (M : Mm) (hm_M : mr M) (post : Mm → Prop) (sz : Nat) (hw : wp_M_addRound a1 a2 a3 M post) : Met l yy_M_addRound (Cond.code yy_M_addRound bc_M_addRound 5 none :: tg) ({ frames := 2, cells := 0, slots := 0, locals := 41 } : Room) (Pw X [.ref (xA X 30), .int (iI a1), .int (iI a2), .int (iI a3)] M sz) (Qv X sz post) 0 0 (xF X sz) := by
  unfold wp_M_addRound at hw
  refine x_enter (by decide) hlc hm_M (Nat.le_of_ble_eq_true rfl) ?_
  intro p e s m below meth c ls hC hsz hr hlocks hS hl
  have hx := hC.1.1
  have hb := hC.1.2.1
  have hl : lv_has ls 5 [(0, .ref (xA X 30)), (1, .int (iI a1)), (2, .int (iI a2)), (3, .int (iI a3))] := hl
  refine lv_aload_n hx hb dd_M_addRound_0 rfl (lv_at hl 0 rfl) ?_
  refine x_callVv hC hS (As := []) (rest := []) hM0.1 rfl cv_M_layStill (mt_M_layStill l X hC.2.2.1 hM0  M hm_M _ _ hw) tb_491 rfl rfl ⟨Nat.le_of_ble_eq_true rfl, Nat.le_of_ble_eq_true rfl⟩ rfl hl.1 (Nat.le_of_ble_eq_true rfl) dd_M_addRound_1 ⟨Nat.le_refl _, Nat.le_refl _⟩ rfl (fun M_1 H locs hw hS => ?_)
  have hm_M_1 := hS.2.2.2
  refine x_iconst hC dd_M_addRound_4 ?_
  refine lv_istore (lv' := [(4, .int (iI 0)), (0, .ref (xA X 30)), (1, .int (iI a1)), (2, .int (iI a2)), (3, .int (iI a3))]) hx hb dd_M_addRound_5 hl (by decide) rfl (fun ls hl => ?_)
  obtain ⟨I7, ⟨n0, hI⟩, hstep_I7⟩ := hw
  have lp_I7 : ∀ (n7 : Nat) (x4_7 : Int) (M7 : Mm) (H : Heap) (locs : List Loc) (ls : Array Slot), I7 n7 x4_7 M7 → inR x4_7 → St X (xF X sz) s M7 H locs → lv_has ls 5 [(0, .ref (xA X 30)), (1, .int (iI a1)), (2, .int (iI a2)), (3, .int (iI a3)), (4, .int (iI x4_7))] → W p l e ({ frames := 2, cells := 0, slots := 0, locals := 41 } : Room) s m ([.ref (xA X 30), .int (iI a1), .int (iI a2), .int (iI a3)] : List Value).toArray below meth c H locs 0 0 (MQ below (Qv X sz post) ([.ref (xA X 30), .int (iI a1), .int (iI a2), .int (iI a3)] : List Value).toArray s 0 0 (xF X sz)) (F0 m 7 ls []) := by
    intro n7
    induction n7 using Nat.strongRecOn with
    | _ n7 ih_I7 =>
      intro x4_7 M7 H locs ls hI rx4_7 hS hl
      have hw := hstep_I7 n7 x4_7 M7 hI
      have hm_M7 := hS.2.2.2
      refine lv_iload hx hb dd_M_addRound_7 (lv_at hl 4 rfl) ?_
      refine lv_iload_n hx hb dd_M_addRound_9 rfl (lv_at hl 3 rfl) ?_
      refine x_icmp_ge hC rx4_7 ra3 (tgt := 33) dd_M_addRound_10 (by decide) (fun c2 => ?_) (fun c2 => ?_)
      · have hw := hw.1 c2
        refine lv_aload_n hx hb dd_M_addRound_33 rfl (lv_at hl 0 rfl) ?_
        refine x_callVv hC hS (As := []) (rest := []) hM0.1 rfl cv_M_addMaker (mt_M_addMaker l X hC.2.2.1 hM0  M7 hm_M7 _ _ hw) tb_618 rfl rfl ⟨Nat.le_of_ble_eq_true rfl, Nat.le_of_ble_eq_true rfl⟩ rfl hl.1 (Nat.le_of_ble_eq_true rfl) dd_M_addRound_34 ⟨Nat.le_refl _, Nat.le_refl _⟩ rfl (fun M_3 H locs hw hS => ?_)
        have hm_M_3 := hS.2.2.2
        exact x_vret hC hS hlocks hr hw dd_M_addRound_37
      · have hw := hw.2 c2
        refine lv_aload_n hx hb dd_M_addRound_13 rfl (lv_at hl 0 rfl) ?_
        refine lv_iload_n hx hb dd_M_addRound_14 rfl (lv_at hl 1 rfl) ?_
        refine lv_iload_n hx hb dd_M_addRound_15 rfl (lv_at hl 2 rfl) ?_
        refine lv_iload hx hb dd_M_addRound_16 (lv_at hl 4 rfl) ?_
        refine lv_iload hx hb dd_M_addRound_18 (lv_at hl 4 rfl) ?_
        refine x_iconst hC dd_M_addRound_20 ?_
        obtain ⟨q4, hw⟩ := hw
        refine x_add hC dd_M_addRound_21 ?_
        refine lv_iload_n hx hb dd_M_addRound_22 rfl (lv_at hl 3 rfl) ?_
        obtain ⟨q5, hw⟩ := hw
        refine x_rem hC q4 ra3 q5 dd_M_addRound_23 ?_
        refine x_callVv hC hS (As := [.int (iI a1), .int (iI a2), .int (iI x4_7), .int (iI ((x4_7 + 1) % a3))]) (rest := []) hM0.1 rfl cv_M_bring (mt_M_bring l X hC.2.2.1 hM0 a1 ra1 a2 ra2 x4_7 rx4_7 ((x4_7 + 1) % a3) (rMod ra3 q5.2) M7 hm_M7 _ _ hw) tb_614 rfl rfl ⟨Nat.le_of_ble_eq_true rfl, Nat.le_of_ble_eq_true rfl⟩ rfl hl.1 (Nat.le_of_ble_eq_true rfl) dd_M_addRound_24 ⟨Nat.le_refl _, Nat.le_refl _⟩ rfl (fun M_6 H locs hw hS => ?_)
        have hm_M_6 := hS.2.2.2
        obtain ⟨hr_, hw⟩ := hw
        obtain ⟨v4_27, rv4_27, ev4_27⟩ : ∃ z : Int, inR z ∧ z = x4_7 + 1 := ⟨_, hr_, rfl⟩
        have hw := hw v4_27 ev4_27
        refine lv_iinc (v := iI v4_27) (lv' := [(4, .int (iI v4_27)), (0, .ref (xA X 30)), (1, .int (iI a1)), (2, .int (iI a2)), (3, .int (iI a3))]) hx hb dd_M_addRound_27 hl (k := 4) rfl (by rw [ev4_27]; exact iI_add _ _) (by decide) rfl (fun ls hl => ?_)
        refine lv_goto (tgt := 7) hx hb dd_M_addRound_30 (by decide) ?_
        obtain ⟨k_7, h8, hI⟩ := hw
        exact ih_I7 k_7 h8 v4_27 M_6 _ _ _ hI rv4_27 hS (lv_sub hl [1, 2, 3, 4, 0] rfl)
  exact lp_I7 n0 0 M_1 _ _ _ hI (rk rfl) hS (lv_sub hl [1, 2, 3, 4, 0] rfl)
def wp_M_addFlip (a1 : Int) (a2 : Int) (a3 : Int) (M : Mm) (post : Mm → Prop) : Prop :=
  wp_M_layStill M (fun (M_1 : Mm) => ∃ I7 : Nat → Int → Mm → Prop, (∃ n, I7 n 0 M_1) ∧ ∀ (n7 : Nat) (x4_7 : Int) (M7 : Mm), I7 n7 x4_7 M7 →
    ((a3 ≤ x4_7 → wp_M_addMaker M7 (fun (M_3 : Mm) => post M_3)) ∧
      (¬ a3 ≤ x4_7 → inR (a3 - 1) ∧ inR ((a3 - 1) - x4_7) ∧ wp_M_bring a1 a2 x4_7 ((a3 - 1) - x4_7) M7 (fun (M_6 : Mm) => inR (x4_7 + 1) ∧ ∀ v4_27 : Int, v4_27 = x4_7 + 1 → ∃ k_7, k_7 < n7 ∧ I7 k_7 v4_27 M_6))))
set_option maxHeartbeats 4000000 in
set_option maxRecDepth 100000 in
theorem mt_M_addFlip (l : Launch) (X : Xw) (hlc : lcl X)(hM0 : IsM X) (a1 : Int) (ra1 : inR a1) (a2 : Int) (ra2 : inR a2) (a3 : Int) (ra3 : inR a3) (M : Mm) (hm_M : mr M) (post : Mm → Prop) (sz : Nat) (hw : wp_M_addFlip a1 a2 a3 M post) : Met l yy_M_addFlip (Cond.code yy_M_addFlip bc_M_addFlip 5 none :: tg) ({ frames := 2, cells := 0, slots := 0, locals := 41 } : Room) (Pw X [.ref (xA X 30), .int (iI a1), .int (iI a2), .int (iI a3)] M sz) (Qv X sz post) 0 0 (xF X sz) := by
  unfold wp_M_addFlip at hw
  refine x_enter (by decide) hlc hm_M (Nat.le_of_ble_eq_true rfl) ?_
  intro p e s m below meth c ls hC hsz hr hlocks hS hl
  have hx := hC.1.1
  have hb := hC.1.2.1
  have hl : lv_has ls 5 [(0, .ref (xA X 30)), (1, .int (iI a1)), (2, .int (iI a2)), (3, .int (iI a3))] := hl
  refine lv_aload_n hx hb dd_M_addFlip_0 rfl (lv_at hl 0 rfl) ?_
  refine x_callVv hC hS (As := []) (rest := []) hM0.1 rfl cv_M_layStill (mt_M_layStill l X hC.2.2.1 hM0  M hm_M _ _ hw) tb_491 rfl rfl ⟨Nat.le_of_ble_eq_true rfl, Nat.le_of_ble_eq_true rfl⟩ rfl hl.1 (Nat.le_of_ble_eq_true rfl) dd_M_addFlip_1 ⟨Nat.le_refl _, Nat.le_refl _⟩ rfl (fun M_1 H locs hw hS => ?_)
  have hm_M_1 := hS.2.2.2
  refine x_iconst hC dd_M_addFlip_4 ?_
  refine lv_istore (lv' := [(4, .int (iI 0)), (0, .ref (xA X 30)), (1, .int (iI a1)), (2, .int (iI a2)), (3, .int (iI a3))]) hx hb dd_M_addFlip_5 hl (by decide) rfl (fun ls hl => ?_)
  obtain ⟨I7, ⟨n0, hI⟩, hstep_I7⟩ := hw
  have lp_I7 : ∀ (n7 : Nat) (x4_7 : Int) (M7 : Mm) (H : Heap) (locs : List Loc) (ls : Array Slot), I7 n7 x4_7 M7 → inR x4_7 → St X (xF X sz) s M7 H locs → lv_has ls 5 [(0, .ref (xA X 30)), (1, .int (iI a1)), (2, .int (iI a2)), (3, .int (iI a3)), (4, .int (iI x4_7))] → W p l e ({ frames := 2, cells := 0, slots := 0, locals := 41 } : Room) s m ([.ref (xA X 30), .int (iI a1), .int (iI a2), .int (iI a3)] : List Value).toArray below meth c H locs 0 0 (MQ below (Qv X sz post) ([.ref (xA X 30), .int (iI a1), .int (iI a2), .int (iI a3)] : List Value).toArray s 0 0 (xF X sz)) (F0 m 7 ls []) := by
    intro n7
    induction n7 using Nat.strongRecOn with
    | _ n7 ih_I7 =>
      intro x4_7 M7 H locs ls hI rx4_7 hS hl
      have hw := hstep_I7 n7 x4_7 M7 hI
      have hm_M7 := hS.2.2.2
      refine lv_iload hx hb dd_M_addFlip_7 (lv_at hl 4 rfl) ?_
      refine lv_iload_n hx hb dd_M_addFlip_9 rfl (lv_at hl 3 rfl) ?_
      refine x_icmp_ge hC rx4_7 ra3 (tgt := 33) dd_M_addFlip_10 (by decide) (fun c2 => ?_) (fun c2 => ?_)
      · have hw := hw.1 c2
        refine lv_aload_n hx hb dd_M_addFlip_33 rfl (lv_at hl 0 rfl) ?_
        refine x_callVv hC hS (As := []) (rest := []) hM0.1 rfl cv_M_addMaker (mt_M_addMaker l X hC.2.2.1 hM0  M7 hm_M7 _ _ hw) tb_618 rfl rfl ⟨Nat.le_of_ble_eq_true rfl, Nat.le_of_ble_eq_true rfl⟩ rfl hl.1 (Nat.le_of_ble_eq_true rfl) dd_M_addFlip_34 ⟨Nat.le_refl _, Nat.le_refl _⟩ rfl (fun M_3 H locs hw hS => ?_)
        have hm_M_3 := hS.2.2.2
        exact x_vret hC hS hlocks hr hw dd_M_addFlip_37
      · have hw := hw.2 c2
        refine lv_aload_n hx hb dd_M_addFlip_13 rfl (lv_at hl 0 rfl) ?_
        refine lv_iload_n hx hb dd_M_addFlip_14 rfl (lv_at hl 1 rfl) ?_
        refine lv_iload_n hx hb dd_M_addFlip_15 rfl (lv_at hl 2 rfl) ?_
        refine lv_iload hx hb dd_M_addFlip_16 (lv_at hl 4 rfl) ?_
        refine lv_iload_n hx hb dd_M_addFlip_18 rfl (lv_at hl 3 rfl) ?_
        refine x_iconst hC dd_M_addFlip_19 ?_
        obtain ⟨q4, hw⟩ := hw
        refine x_sub hC dd_M_addFlip_20 ?_
        refine lv_iload hx hb dd_M_addFlip_21 (lv_at hl 4 rfl) ?_
        obtain ⟨q5, hw⟩ := hw
        refine x_sub hC dd_M_addFlip_23 ?_
        refine x_callVv hC hS (As := [.int (iI a1), .int (iI a2), .int (iI x4_7), .int (iI ((a3 - 1) - x4_7))]) (rest := []) hM0.1 rfl cv_M_bring (mt_M_bring l X hC.2.2.1 hM0 a1 ra1 a2 ra2 x4_7 rx4_7 ((a3 - 1) - x4_7) q5 M7 hm_M7 _ _ hw) tb_614 rfl rfl ⟨Nat.le_of_ble_eq_true rfl, Nat.le_of_ble_eq_true rfl⟩ rfl hl.1 (Nat.le_of_ble_eq_true rfl) dd_M_addFlip_24 ⟨Nat.le_refl _, Nat.le_refl _⟩ rfl (fun M_6 H locs hw hS => ?_)
        have hm_M_6 := hS.2.2.2
        obtain ⟨hr_, hw⟩ := hw
        obtain ⟨v4_27, rv4_27, ev4_27⟩ : ∃ z : Int, inR z ∧ z = x4_7 + 1 := ⟨_, hr_, rfl⟩
        have hw := hw v4_27 ev4_27
        refine lv_iinc (v := iI v4_27) (lv' := [(4, .int (iI v4_27)), (0, .ref (xA X 30)), (1, .int (iI a1)), (2, .int (iI a2)), (3, .int (iI a3))]) hx hb dd_M_addFlip_27 hl (k := 4) rfl (by rw [ev4_27]; exact iI_add _ _) (by decide) rfl (fun ls hl => ?_)
        refine lv_goto (tgt := 7) hx hb dd_M_addFlip_30 (by decide) ?_
        obtain ⟨k_7, h8, hI⟩ := hw
        exact ih_I7 k_7 h8 v4_27 M_6 _ _ _ hI rv4_27 hS (lv_sub hl [1, 2, 3, 4, 0] rfl)
  exact lp_I7 n0 0 M_1 _ _ _ hI (rk rfl) hS (lv_sub hl [1, 2, 3, 4, 0] rfl)
def wp_M_addNext (a1 : Int) (a2 : Int) (a3 : Int) (a4 : Int) (M : Mm) (post : Mm → Prop) : Prop :=
  wp_M_layStill M (fun (M_1 : Mm) => ∃ I7 : Nat → Int → Mm → Prop, (∃ n, I7 n 0 M_1) ∧ ∀ (n7 : Nat) (x5_7 : Int) (M7 : Mm), I7 n7 x5_7 M7 →
    ((a4 ≤ x5_7 → wp_M_addMaker M7 (fun (M_3 : Mm) => post M_3)) ∧
      (¬ a4 ≤ x5_7 → inR (a3 + x5_7) ∧ inR (x5_7 + 1) ∧ (0 ≤ (x5_7 + 1) ∧ 0 < a4) ∧ inR (a3 + ((x5_7 + 1) % a4)) ∧ wp_M_bring a1 a2 (a3 + x5_7) (a3 + ((x5_7 + 1) % a4)) M7 (fun (M_8 : Mm) => inR (x5_7 + 1) ∧ ∀ v5_33 : Int, v5_33 = x5_7 + 1 → ∃ k_9, k_9 < n7 ∧ I7 k_9 v5_33 M_8))))
set_option maxHeartbeats 4000000 in
set_option maxRecDepth 100000 in
theorem mt_M_addNext (l : Launch) (X : Xw) (hlc : lcl X)(hM0 : IsM X) (a1 : Int) (ra1 : inR a1) (a2 : Int) (ra2 : inR a2) (a3 : Int) (ra3 : inR a3) (a4 : Int) (ra4 : inR a4) (M : Mm) (hm_M : mr M) (post : Mm → Prop) (sz : Nat) (hw : wp_M_addNext a1 a2 a3 a4 M post) : Met l yy_M_addNext (Cond.code yy_M_addNext bc_M_addNext 6 none :: tg) ({ frames := 2, cells := 0, slots := 0, locals := 41 } : Room) (Pw X [.ref (xA X 30), .int (iI a1), .int (iI a2), .int (iI a3), .int (iI a4)] M sz) (Qv X sz post) 0 0 (xF X sz) := by
  unfold wp_M_addNext at hw
  refine x_enter (by decide) hlc hm_M (Nat.le_of_ble_eq_true rfl) ?_
  intro p e s m below meth c ls hC hsz hr hlocks hS hl
  have hx := hC.1.1
  have hb := hC.1.2.1
  have hl : lv_has ls 6 [(0, .ref (xA X 30)), (1, .int (iI a1)), (2, .int (iI a2)), (3, .int (iI a3)), (4, .int (iI a4))] := hl
  refine lv_aload_n hx hb dd_M_addNext_0 rfl (lv_at hl 0 rfl) ?_
  refine x_callVv hC hS (As := []) (rest := []) hM0.1 rfl cv_M_layStill (mt_M_layStill l X hC.2.2.1 hM0  M hm_M _ _ hw) tb_491 rfl rfl ⟨Nat.le_of_ble_eq_true rfl, Nat.le_of_ble_eq_true rfl⟩ rfl hl.1 (Nat.le_of_ble_eq_true rfl) dd_M_addNext_1 ⟨Nat.le_refl _, Nat.le_refl _⟩ rfl (fun M_1 H locs hw hS => ?_)
  have hm_M_1 := hS.2.2.2
  refine x_iconst hC dd_M_addNext_4 ?_
  refine lv_istore (lv' := [(5, .int (iI 0)), (0, .ref (xA X 30)), (1, .int (iI a1)), (2, .int (iI a2)), (3, .int (iI a3)), (4, .int (iI a4))]) hx hb dd_M_addNext_5 hl (by decide) rfl (fun ls hl => ?_)
  obtain ⟨I7, ⟨n0, hI⟩, hstep_I7⟩ := hw
  have lp_I7 : ∀ (n7 : Nat) (x5_7 : Int) (M7 : Mm) (H : Heap) (locs : List Loc) (ls : Array Slot), I7 n7 x5_7 M7 → inR x5_7 → St X (xF X sz) s M7 H locs → lv_has ls 6 [(0, .ref (xA X 30)), (1, .int (iI a1)), (2, .int (iI a2)), (3, .int (iI a3)), (4, .int (iI a4)), (5, .int (iI x5_7))] → W p l e ({ frames := 2, cells := 0, slots := 0, locals := 41 } : Room) s m ([.ref (xA X 30), .int (iI a1), .int (iI a2), .int (iI a3), .int (iI a4)] : List Value).toArray below meth c H locs 0 0 (MQ below (Qv X sz post) ([.ref (xA X 30), .int (iI a1), .int (iI a2), .int (iI a3), .int (iI a4)] : List Value).toArray s 0 0 (xF X sz)) (F0 m 7 ls []) := by
    intro n7
    induction n7 using Nat.strongRecOn with
    | _ n7 ih_I7 =>
      intro x5_7 M7 H locs ls hI rx5_7 hS hl
      have hw := hstep_I7 n7 x5_7 M7 hI
      have hm_M7 := hS.2.2.2
      refine lv_iload hx hb dd_M_addNext_7 (lv_at hl 5 rfl) ?_
      refine lv_iload hx hb dd_M_addNext_9 (lv_at hl 4 rfl) ?_
      refine x_icmp_ge hC rx5_7 ra4 (tgt := 39) dd_M_addNext_11 (by decide) (fun c2 => ?_) (fun c2 => ?_)
      · have hw := hw.1 c2
        refine lv_aload_n hx hb dd_M_addNext_39 rfl (lv_at hl 0 rfl) ?_
        refine x_callVv hC hS (As := []) (rest := []) hM0.1 rfl cv_M_addMaker (mt_M_addMaker l X hC.2.2.1 hM0  M7 hm_M7 _ _ hw) tb_618 rfl rfl ⟨Nat.le_of_ble_eq_true rfl, Nat.le_of_ble_eq_true rfl⟩ rfl hl.1 (Nat.le_of_ble_eq_true rfl) dd_M_addNext_40 ⟨Nat.le_refl _, Nat.le_refl _⟩ rfl (fun M_3 H locs hw hS => ?_)
        have hm_M_3 := hS.2.2.2
        exact x_vret hC hS hlocks hr hw dd_M_addNext_43
      · have hw := hw.2 c2
        refine lv_aload_n hx hb dd_M_addNext_14 rfl (lv_at hl 0 rfl) ?_
        refine lv_iload_n hx hb dd_M_addNext_15 rfl (lv_at hl 1 rfl) ?_
        refine lv_iload_n hx hb dd_M_addNext_16 rfl (lv_at hl 2 rfl) ?_
        refine lv_iload_n hx hb dd_M_addNext_17 rfl (lv_at hl 3 rfl) ?_
        refine lv_iload hx hb dd_M_addNext_18 (lv_at hl 5 rfl) ?_
        obtain ⟨q4, hw⟩ := hw
        refine x_add hC dd_M_addNext_20 ?_
        refine lv_iload_n hx hb dd_M_addNext_21 rfl (lv_at hl 3 rfl) ?_
        refine lv_iload hx hb dd_M_addNext_22 (lv_at hl 5 rfl) ?_
        refine x_iconst hC dd_M_addNext_24 ?_
        obtain ⟨q5, hw⟩ := hw
        refine x_add hC dd_M_addNext_25 ?_
        refine lv_iload hx hb dd_M_addNext_26 (lv_at hl 4 rfl) ?_
        obtain ⟨q6, hw⟩ := hw
        refine x_rem hC q5 ra4 q6 dd_M_addNext_28 ?_
        obtain ⟨q7, hw⟩ := hw
        refine x_add hC dd_M_addNext_29 ?_
        refine x_callVv hC hS (As := [.int (iI a1), .int (iI a2), .int (iI (a3 + x5_7)), .int (iI (a3 + ((x5_7 + 1) % a4)))]) (rest := []) hM0.1 rfl cv_M_bring (mt_M_bring l X hC.2.2.1 hM0 a1 ra1 a2 ra2 (a3 + x5_7) q4 (a3 + ((x5_7 + 1) % a4)) q7 M7 hm_M7 _ _ hw) tb_614 rfl rfl ⟨Nat.le_of_ble_eq_true rfl, Nat.le_of_ble_eq_true rfl⟩ rfl hl.1 (Nat.le_of_ble_eq_true rfl) dd_M_addNext_30 ⟨Nat.le_refl _, Nat.le_refl _⟩ rfl (fun M_8 H locs hw hS => ?_)
        have hm_M_8 := hS.2.2.2
        obtain ⟨hr_, hw⟩ := hw
        obtain ⟨v5_33, rv5_33, ev5_33⟩ : ∃ z : Int, inR z ∧ z = x5_7 + 1 := ⟨_, hr_, rfl⟩
        have hw := hw v5_33 ev5_33
        refine lv_iinc (v := iI v5_33) (lv' := [(5, .int (iI v5_33)), (0, .ref (xA X 30)), (1, .int (iI a1)), (2, .int (iI a2)), (3, .int (iI a3)), (4, .int (iI a4))]) hx hb dd_M_addNext_33 hl (k := 5) rfl (by rw [ev5_33]; exact iI_add _ _) (by decide) rfl (fun ls hl => ?_)
        refine lv_goto (tgt := 7) hx hb dd_M_addNext_36 (by decide) ?_
        obtain ⟨k_9, h10, hI⟩ := hw
        exact ih_I7 k_9 h10 v5_33 M_8 _ _ _ hI rv5_33 hS (lv_sub hl [1, 2, 3, 4, 5, 0] rfl)
  exact lp_I7 n0 0 M_1 _ _ _ hI (rk rfl) hS (lv_sub hl [1, 2, 3, 4, 5, 0] rfl)
def wp_M_addKind (a1 : Int) (a2 : Int) (a3 : Int) (a4 : Int) (M : Mm) (post : Mm → Prop) : Prop :=
  (a4 < 2 → post M) ∧
  (¬ a4 < 2 → (¬ a1 = 0 → ∀ K24 : Mm → Prop, (∀ (M24 : Mm), (∀ K37 : Mm → Prop, (∀ (M37 : Mm), (∀ K47 : Int → Prop, (∀ (s0_47 : Int), (∃ I52 : Nat → Int → Mm → Prop, (∃ n, I52 n 0 M37) ∧ ∀ (n52 : Nat) (x6_52 : Int) (M52 : Mm), I52 n52 x6_52 M52 →
                    (inR (x6_52 + s0_47) ∧ (a4 < (x6_52 + s0_47) → post M52) ∧
                      (¬ a4 < (x6_52 + s0_47) → (a1 ≤ 2 → post M52) ∧
                        (¬ a1 ≤ 2 → wp_M_addNext a2 a3 x6_52 s0_47 M52 (fun (M_6 : Mm) => inR (x6_52 + 1) ∧ ∀ v6_77 : Int, v6_77 = x6_52 + 1 → ∃ k_7, k_7 < n52 ∧ I52 k_7 v6_77 M_6))))) →
                K47 s0_47) →
              ((¬ a1 = 3 → K47 2) ∧
              (a1 = 3 → K47 3))) →
            K37 M37) →
          ((¬ a1 = 2 → K37 M24) ∧
          (a1 = 2 → wp_M_addFlip a2 a3 a4 M24 (fun (M_11 : Mm) => K37 M_11)))) →
        K24 M24) →
      ((3 ≤ a1 → K24 M) ∧
      (¬ 3 ≤ a1 → wp_M_addRound a2 a3 a4 M (fun (M_13 : Mm) => K24 M_13)))) ∧
    (a1 = 0 → post M))
set_option maxHeartbeats 4000000 in
set_option maxRecDepth 100000 in
theorem mt_M_addKind (l : Launch) (X : Xw) (hlc : lcl X)(hM0 : IsM X) (a1 : Int) (ra1 : inR a1) (a2 : Int) (ra2 : inR a2) (a3 : Int) (ra3 : inR a3) (a4 : Int) (ra4 : inR a4) (M : Mm) (hm_M : mr M) (post : Mm → Prop) (sz : Nat) (hw : wp_M_addKind a1 a2 a3 a4 M post) : Met l yy_M_addKind (Cond.code yy_M_addKind bc_M_addKind 7 none :: tg) ({ frames := 3, cells := 0, slots := 0, locals := 66 } : Room) (Pw X [.ref (xA X 30), .int (iI a1), .int (iI a2), .int (iI a3), .int (iI a4)] M sz) (Qv X sz post) 0 0 (xF X sz) := by
  unfold wp_M_addKind at hw
  refine x_enter (by decide) hlc hm_M (Nat.le_of_ble_eq_true rfl) ?_
  intro p e s m below meth c ls hC hsz hr hlocks hS hl
  have hx := hC.1.1
  have hb := hC.1.2.1
  have hl : lv_has ls 7 [(0, .ref (xA X 30)), (1, .int (iI a1)), (2, .int (iI a2)), (3, .int (iI a3)), (4, .int (iI a4))] := hl
  refine lv_iload hx hb dd_M_addKind_0 (lv_at hl 4 rfl) ?_
  refine x_iconst hC dd_M_addKind_2 ?_
  refine x_icmp_lt hC ra4 (rk rfl) (tgt := 10) dd_M_addKind_3 (by decide) (fun c1 => ?_) (fun c1 => ?_)
  · have hw := hw.1 c1
    exact x_vret hC hS hlocks hr hw dd_M_addKind_10
  · have hw := hw.2 c1
    refine lv_iload_n hx hb dd_M_addKind_6 rfl (lv_at hl 1 rfl) ?_
    refine x_if_ne hC ra1 (tgt := 11) dd_M_addKind_7 (by decide) (fun c2 => ?_) (fun c2 => ?_)
    · have hw := hw.1 c2
      refine lv_iload_n hx hb dd_M_addKind_11 rfl (lv_at hl 1 rfl) ?_
      refine x_iconst hC dd_M_addKind_12 ?_
      have hw := hw (fun (M24 : Mm) => ∀ (H : Heap) (locs : List Loc) (ls : Array Slot), St X (xF X sz) s M24 H locs → lv_has ls 7 [(0, .ref (xA X 30)), (1, .int (iI a1)), (2, .int (iI a2)), (3, .int (iI a3)), (4, .int (iI a4))] → W p l e ({ frames := 3, cells := 0, slots := 0, locals := 66 } : Room) s m ([.ref (xA X 30), .int (iI a1), .int (iI a2), .int (iI a3), .int (iI a4)] : List Value).toArray below meth c H locs 0 0 (MQ below (Qv X sz post) ([.ref (xA X 30), .int (iI a1), .int (iI a2), .int (iI a3), .int (iI a4)] : List Value).toArray s 0 0 (xF X sz)) (F0 m 24 ls [])) (by
          intro M24 hw H locs ls  hS hl
          have hm_M24 := hS.2.2.2
          refine lv_iload_n hx hb dd_M_addKind_24 rfl (lv_at hl 1 rfl) ?_
          refine x_iconst hC dd_M_addKind_25 ?_
          have hw := hw (fun (M37 : Mm) => ∀ (H : Heap) (locs : List Loc) (ls : Array Slot), St X (xF X sz) s M37 H locs → lv_has ls 7 [(0, .ref (xA X 30)), (1, .int (iI a1)), (2, .int (iI a2)), (3, .int (iI a3)), (4, .int (iI a4))] → W p l e ({ frames := 3, cells := 0, slots := 0, locals := 66 } : Room) s m ([.ref (xA X 30), .int (iI a1), .int (iI a2), .int (iI a3), .int (iI a4)] : List Value).toArray below meth c H locs 0 0 (MQ below (Qv X sz post) ([.ref (xA X 30), .int (iI a1), .int (iI a2), .int (iI a3), .int (iI a4)] : List Value).toArray s 0 0 (xF X sz)) (F0 m 37 ls [])) (by
              intro M37 hw H locs ls  hS hl
              have hm_M37 := hS.2.2.2
              refine lv_iload_n hx hb dd_M_addKind_37 rfl (lv_at hl 1 rfl) ?_
              refine x_iconst hC dd_M_addKind_38 ?_
              have hw := hw (fun (s0_47 : Int) => ∀ (H : Heap) (locs : List Loc) (ls : Array Slot), inR s0_47 → St X (xF X sz) s M37 H locs → lv_has ls 7 [(0, .ref (xA X 30)), (1, .int (iI a1)), (2, .int (iI a2)), (3, .int (iI a3)), (4, .int (iI a4))] → W p l e ({ frames := 3, cells := 0, slots := 0, locals := 66 } : Room) s m ([.ref (xA X 30), .int (iI a1), .int (iI a2), .int (iI a3), .int (iI a4)] : List Value).toArray below meth c H locs 0 0 (MQ below (Qv X sz post) ([.ref (xA X 30), .int (iI a1), .int (iI a2), .int (iI a3), .int (iI a4)] : List Value).toArray s 0 0 (xF X sz)) (F0 m 47 ls [.int (iI s0_47)])) (by
                  intro s0_47 hw H locs ls rs0_47 hS hl
                  refine lv_istore (lv' := [(5, .int (iI s0_47)), (0, .ref (xA X 30)), (1, .int (iI a1)), (2, .int (iI a2)), (3, .int (iI a3)), (4, .int (iI a4))]) hx hb dd_M_addKind_47 hl (by decide) rfl (fun ls hl => ?_)
                  refine x_iconst hC dd_M_addKind_49 ?_
                  refine lv_istore (lv' := [(6, .int (iI 0)), (5, .int (iI s0_47)), (0, .ref (xA X 30)), (1, .int (iI a1)), (2, .int (iI a2)), (3, .int (iI a3)), (4, .int (iI a4))]) hx hb dd_M_addKind_50 hl (by decide) rfl (fun ls hl => ?_)
                  obtain ⟨I52, ⟨n0, hI⟩, hstep_I52⟩ := hw
                  have lp_I52 : ∀ (n52 : Nat) (x6_52 : Int) (M52 : Mm) (H : Heap) (locs : List Loc) (ls : Array Slot), I52 n52 x6_52 M52 → inR x6_52 → St X (xF X sz) s M52 H locs → lv_has ls 7 [(0, .ref (xA X 30)), (1, .int (iI a1)), (2, .int (iI a2)), (3, .int (iI a3)), (4, .int (iI a4)), (5, .int (iI s0_47)), (6, .int (iI x6_52))] → W p l e ({ frames := 3, cells := 0, slots := 0, locals := 66 } : Room) s m ([.ref (xA X 30), .int (iI a1), .int (iI a2), .int (iI a3), .int (iI a4)] : List Value).toArray below meth c H locs 0 0 (MQ below (Qv X sz post) ([.ref (xA X 30), .int (iI a1), .int (iI a2), .int (iI a3), .int (iI a4)] : List Value).toArray s 0 0 (xF X sz)) (F0 m 52 ls []) := by
                    intro n52
                    induction n52 using Nat.strongRecOn with
                    | _ n52 ih_I52 =>
                      intro x6_52 M52 H locs ls hI rx6_52 hS hl
                      have hw := hstep_I52 n52 x6_52 M52 hI
                      have hm_M52 := hS.2.2.2
                      refine lv_iload hx hb dd_M_addKind_52 (lv_at hl 6 rfl) ?_
                      refine lv_iload hx hb dd_M_addKind_54 (lv_at hl 5 rfl) ?_
                      obtain ⟨q3, hw⟩ := hw
                      refine x_add hC dd_M_addKind_56 ?_
                      refine lv_iload hx hb dd_M_addKind_57 (lv_at hl 4 rfl) ?_
                      refine x_icmp_gt hC q3 ra4 (tgt := 83) dd_M_addKind_59 (by decide) (fun c4 => ?_) (fun c4 => ?_)
                      · have hw := hw.1 c4
                        exact x_vret hC hS hlocks hr hw dd_M_addKind_83
                      · have hw := hw.2 c4
                        refine lv_iload_n hx hb dd_M_addKind_62 rfl (lv_at hl 1 rfl) ?_
                        refine x_iconst hC dd_M_addKind_63 ?_
                        refine x_icmp_le hC ra1 (rk rfl) (tgt := 83) dd_M_addKind_64 (by decide) (fun c5 => ?_) (fun c5 => ?_)
                        · have hw := hw.1 c5
                          exact x_vret hC hS hlocks hr hw dd_M_addKind_83
                        · have hw := hw.2 c5
                          refine lv_aload_n hx hb dd_M_addKind_67 rfl (lv_at hl 0 rfl) ?_
                          refine lv_iload_n hx hb dd_M_addKind_68 rfl (lv_at hl 2 rfl) ?_
                          refine lv_iload_n hx hb dd_M_addKind_69 rfl (lv_at hl 3 rfl) ?_
                          refine lv_iload hx hb dd_M_addKind_70 (lv_at hl 6 rfl) ?_
                          refine lv_iload hx hb dd_M_addKind_72 (lv_at hl 5 rfl) ?_
                          refine x_callVv hC hS (As := [.int (iI a2), .int (iI a3), .int (iI x6_52), .int (iI s0_47)]) (rest := []) hM0.1 rfl cv_M_addNext (mt_M_addNext l X hC.2.2.1 hM0 a2 ra2 a3 ra3 x6_52 rx6_52 s0_47 rs0_47 M52 hm_M52 _ _ hw) tb_626 rfl rfl ⟨Nat.le_of_ble_eq_true rfl, Nat.le_of_ble_eq_true rfl⟩ rfl hl.1 (Nat.le_of_ble_eq_true rfl) dd_M_addKind_74 ⟨Nat.le_refl _, Nat.le_refl _⟩ rfl (fun M_6 H locs hw hS => ?_)
                          have hm_M_6 := hS.2.2.2
                          obtain ⟨hr_, hw⟩ := hw
                          obtain ⟨v6_77, rv6_77, ev6_77⟩ : ∃ z : Int, inR z ∧ z = x6_52 + 1 := ⟨_, hr_, rfl⟩
                          have hw := hw v6_77 ev6_77
                          refine lv_iinc (v := iI v6_77) (lv' := [(6, .int (iI v6_77)), (0, .ref (xA X 30)), (1, .int (iI a1)), (2, .int (iI a2)), (3, .int (iI a3)), (4, .int (iI a4)), (5, .int (iI s0_47))]) hx hb dd_M_addKind_77 hl (k := 6) rfl (by rw [ev6_77]; exact iI_add _ _) (by decide) rfl (fun ls hl => ?_)
                          refine lv_goto (tgt := 52) hx hb dd_M_addKind_80 (by decide) ?_
                          obtain ⟨k_7, h8, hI⟩ := hw
                          exact ih_I52 k_7 h8 v6_77 M_6 _ _ _ hI rv6_77 hS (lv_sub hl [1, 2, 3, 4, 5, 6, 0] rfl)
                  exact lp_I52 n0 0 M37 _ _ _ hI (rk rfl) hS (lv_sub hl [2, 3, 4, 5, 6, 1, 0] rfl))
              refine x_icmp_ne hC ra1 (rk rfl) (tgt := 46) dd_M_addKind_39 (by decide) (fun c9 => ?_) (fun c9 => ?_)
              · have hw := hw.1 c9
                refine x_iconst hC dd_M_addKind_46 ?_
                exact hw _ _ _ (rk rfl) hS (lv_sub hl [0, 1, 2, 3, 4] rfl)
              · have hw := hw.2 c9
                refine x_iconst hC dd_M_addKind_42 ?_
                refine lv_goto (tgt := 47) hx hb dd_M_addKind_43 (by decide) ?_
                exact hw _ _ _ (rk rfl) hS (lv_sub hl [0, 1, 2, 3, 4] rfl))
          refine x_icmp_ne hC ra1 (rk rfl) (tgt := 37) dd_M_addKind_26 (by decide) (fun c10 => ?_) (fun c10 => ?_)
          · have hw := hw.1 c10
            exact hw _ _ _  hS (lv_sub hl [0, 1, 2, 3, 4] rfl)
          · have hw := hw.2 c10
            refine lv_aload_n hx hb dd_M_addKind_29 rfl (lv_at hl 0 rfl) ?_
            refine lv_iload_n hx hb dd_M_addKind_30 rfl (lv_at hl 2 rfl) ?_
            refine lv_iload_n hx hb dd_M_addKind_31 rfl (lv_at hl 3 rfl) ?_
            refine lv_iload hx hb dd_M_addKind_32 (lv_at hl 4 rfl) ?_
            refine x_callVv hC hS (As := [.int (iI a2), .int (iI a3), .int (iI a4)]) (rest := []) hM0.1 rfl cv_M_addFlip (mt_M_addFlip l X hC.2.2.1 hM0 a2 ra2 a3 ra3 a4 ra4 M24 hm_M24 _ _ hw) tb_622 rfl rfl ⟨Nat.le_of_ble_eq_true rfl, Nat.le_of_ble_eq_true rfl⟩ rfl hl.1 (Nat.le_of_ble_eq_true rfl) dd_M_addKind_34 ⟨Nat.le_refl _, Nat.le_refl _⟩ rfl (fun M_11 H locs hw hS => ?_)
            have hm_M_11 := hS.2.2.2
            exact hw _ _ _  hS (lv_sub hl [0, 1, 2, 3, 4] rfl))
      refine x_icmp_ge hC ra1 (rk rfl) (tgt := 24) dd_M_addKind_13 (by decide) (fun c12 => ?_) (fun c12 => ?_)
      · have hw := hw.1 c12
        exact hw _ _ _  hS (lv_sub hl [0, 1, 2, 3, 4] rfl)
      · have hw := hw.2 c12
        refine lv_aload_n hx hb dd_M_addKind_16 rfl (lv_at hl 0 rfl) ?_
        refine lv_iload_n hx hb dd_M_addKind_17 rfl (lv_at hl 2 rfl) ?_
        refine lv_iload_n hx hb dd_M_addKind_18 rfl (lv_at hl 3 rfl) ?_
        refine lv_iload hx hb dd_M_addKind_19 (lv_at hl 4 rfl) ?_
        refine x_callVv hC hS (As := [.int (iI a2), .int (iI a3), .int (iI a4)]) (rest := []) hM0.1 rfl cv_M_addRound (mt_M_addRound l X hC.2.2.1 hM0 a2 ra2 a3 ra3 a4 ra4 M hm_M _ _ hw) tb_610 rfl rfl ⟨Nat.le_of_ble_eq_true rfl, Nat.le_of_ble_eq_true rfl⟩ rfl hl.1 (Nat.le_of_ble_eq_true rfl) dd_M_addKind_21 ⟨Nat.le_refl _, Nat.le_refl _⟩ rfl (fun M_13 H locs hw hS => ?_)
        have hm_M_13 := hS.2.2.2
        exact hw _ _ _  hS (lv_sub hl [0, 1, 2, 3, 4] rfl)
    · have hw := hw.2 c2
      exact x_vret hC hS hlocks hr hw dd_M_addKind_10
