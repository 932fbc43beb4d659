/-! ===== join, turn, type, orbit; images ===== -/
theorem Told_uniq {n t t' : Nat} {l l' : Int} {f f' : Nat → Int} (h7 : n ≤ 7) (h : Told n l f t) (h' : Told n l' f' t') (hf : ∀ j, j < 7 → f j = f' j) : t = t' := by
  refine dg_ext h.2.1.1 h'.2.1.1 fun i hi => ?_
  by_cases q : i < n
  · have a := h.2.2 i q
    have b := h'.2.2 i q
    have := hf i hi
    omega
  · rw [h.2.1.2.2.1 i (by omega) hi, h'.2.1.2.2.1 i (by omega) hi]
theorem Told_cong {n t : Nat} {l l' : Int} {f f' : Nat → Int} (h7 : n ≤ 7) (h : Told n l f t) (hl : l' = l) (hf : ∀ j, j < 7 → f' j = f j) : Told n l' f' t :=
  ⟨hl.trans h.1, h.2.1, fun j hj => (hf j (by omega)).trans (h.2.2 j hj)⟩
theorem ok_join : op_join Inv := by
  intro M hM ⟨c, hV, hC, hL, ⟨L, hL7, p2, p4, ps⟩, hI⟩
  have hV' := hV
  obtain ⟨v1, v2, v3, v4, v5, hG⟩ := hV
  have hC1 := hC.1
  obtain ⟨t0, t1, t2, hGC⟩ := hC1
  unfold wp_T_join
  rw [t0]
  refine sp_toldTurn v2 (fun j hj => by rw [(ps j hj).1]; exact (ps j hj).2) (fun t hT => ?_) (fun hT => ?_)
  · refine ⟨fun _ => ?_, fun q => absurd (Int.natCast_nonneg t) q⟩
    intro M2 e2
    have k2 : ∀ k, k ≠ 2 → M2 k = M k := fun k hk => by rw [e2, ms_o _ _ _ hk]
    have ht := hT.2.1
    have hGC' := hGC
    obtain ⟨N, cc, e, mk, hLB, o3, c12, pp2, e0, hl, hmk, hgen⟩ := hGC'
    have fin : ∀ (M5 : Mm) (S : Nat → Prop), (∀ y, S y ↔ Cl (fun y => c.2.2.2 y ∨ y = t) y) → CL (c.1, c.2.1, c.2.2.1, S) M5 → (∀ k, k ≤ 1 ∨ k = 3 ∨ 18 ≤ k → M5 k = M k) → M5 2 1 = 0 → wp_M_join M5 (fun (r2 : Int) (M2 : Mm) => M5 14 1 = r2 ∧ Inv M2) := by
      intro M5 S hS hC5 k5 z5
      have m30 := k5 30 (by omega)
      have m34 := k5 34 (by omega)
      have hIS : IS c.1 c.2.2.2 (M5 31) := by rw [k5 31 (by omega)]; exact hL.1.2.2.2
      refine sp_M_join (L := L) v1 v2 hG (by rw [k5 31 (by omega)]; exact hL.1.1) hIS (by rw [m30]; exact p4) hL7 (fun j hj => by rw [m34]; exact (ps j hj).2) (fun t' M8 hT' i8 t8 z8 b8 b32 b33 b34 b31 => ?_) (fun hno => absurd ⟨t, Told_cong v2 hT (by rw [m30, p4, p2]) (fun j hj => by rw [m34, (ps j hj).1])⟩ hno)
      have htt : t' = t := (Told_uniq v2 hT hT' (fun j hj => by rw [m34, (ps j hj).1])).symm
      rw [htt] at i8 t8
      have t8' := t8.congr hS
      have hgr : isGrp c.1 S := (Cl_grp v2 (fun y hy => hy.elim (fun a => hG.1 y a) (fun a => by rw [a]; exact ht))).congr hS
      have m31 : ∀ j, j < 6 → M8 31 j = M 31 j := fun j hj => by rw [b31 j hj, k5 31 (by omega)]
      refine ⟨size_eq hC5.1 t8', (c.1, c.2.1, c.2.2.1, S), ⟨v1, v2, v3, v4, v5, hgr⟩, hC5.cong (fun k _ hk => b8 k (by omega)), ⟨⟨by rw [m31 0 (by omega)]; exact hL.1.1, by rw [m31 1 (by omega)]; exact hL.1.2.1, fun j hj => by rw [m31 (2 + j) (by omega)]; exact hL.1.2.2.1 j hj, i8.congr hS⟩, t8'⟩, ⟨0, by omega, by rw [b8 2 (by omega), z5]; rfl, by rw [z8]; rfl, fun j hj => by rw [b8 3 (by omega), k5 3 (by omega), b34, m34]; exact ps j hj⟩, hI.cong (by rw [b8 0 (by omega), k5 0 (by omega)]) (fun q a b => by rw [b8 q (by omega), k5 q (by omega)]) (by rw [b32, k5 32 (by omega)]) (by rw [b33, k5 33 (by omega)])⟩
    have z2 : M2 2 1 = 0 := by rw [e2, ms_self]
    have hC2 : CL c M2 := hC.cong (fun k a b => k2 k (by omega))
    refine sp_has (U := Ls e N) (ht.to7 v2) (by rw [k2 (12 + 2 + 3) (by omega)]; exact hLB.2.2.2.2) (fun y hy => (hG.1 y ((hl y).mpr hy)).to7 v2) (fun hin => ?_) (fun hin => ?_)
    · intro K hK
      refine ⟨fun _ => hK _ ?_, fun q => absurd q (by decide)⟩
      refine fin M2 c.2.2.2 (fun y => ?_) hC2 (fun k hk => k2 k (by omega)) z2
      rw [← Cl_self v2 hG y]
      refine ⟨fun h => Cl_mono (fun z hz => Or.inl hz) h, fun h => Cl_mono (fun z hz => hz.elim id (fun a => by rw [a]; exact (hl t).mpr hin)) h⟩
    · intro K hK
      refine ⟨fun q => absurd rfl q, fun _ => ?_⟩
      refine sp_widen (G := c.2.2.2) v1 v2 hG hC2.1.2.2.2 ht ?_
      intro M4 g4 f4 _
      unfold wp_T_forgetGroup
      intro M5 e5 M6 e6
      have hS4 : SC (c.1, c.2.1, c.2.2.1, Cl (fun y => c.2.2.2 y ∨ y = t)) 12 M4 := ⟨by rw [f4 12 (by omega) (by omega) (by omega) (by omega), k2 12 (by omega)]; exact t0, by rw [f4 12 (by omega) (by omega) (by omega) (by omega), k2 12 (by omega)]; exact t1, fun j hj => by rw [f4 13 (by omega) (by omega) (by omega) (by omega), k2 13 (by omega)]; exact t2 j hj, g4⟩
      obtain ⟨hC6, k6⟩ := CL_forget hS4 e5 e6
      refine hK _ ?_
      exact fin M6 _ (fun y => Iff.rfl) hC6 (fun k hk => by rw [k6 k (by omega) (by omega), f4 k (by omega) (by omega) (by omega) (by omega), k2 k (by omega)]) (by rw [k6 2 (by omega) (by omega), f4 2 (by omega) (by omega) (by omega) (by omega)]; exact z2)
  · refine ⟨fun q => absurd q (by decide), fun _ => ?_⟩
    refine sp_M_join (L := L) v1 v2 hG hL.1.1 hL.1.2.2.2 p4 hL7 (fun j hj => (ps j hj).2) (fun t' M8 hT' _ _ _ _ _ _ _ _ => absurd ⟨t', Told_cong v2 hT' (by rw [p4, p2]) (fun j hj => (ps j hj).1)⟩ hT) (fun _ M8 f8 => ?_)
    exact ⟨rfl, c, hV', hC.cong (fun k _ _ => f8 k (by omega)), hL.cong (f8 31 (by omega)) (by rw [f8 30 (by omega)]) (f8 39 (by omega)), PAD.cong ⟨L, hL7, p2, p4, ps⟩ (by rw [f8 2 (by omega)]) (f8 3 (by omega)) (by rw [f8 30 (by omega)]) (f8 34 (by omega)), hI.cong (by rw [f8 0 (by omega)]) (fun q _ _ => f8 q (by omega)) (f8 32 (by omega)) (f8 33 (by omega))⟩
theorem Inv.scr {M M' : Mm} (h : Inv M) (hk : ∀ k, k < 30 → M' k = M k) (h31 : M' 31 = M 31) (h32 : M' 32 = M 32) (h33 : M' 33 = M 33) (h34 : M' 34 = M 34) (h39 : M' 39 = M 39) (h4 : M' 30 4 = M 30 4) (h12 : M' 30 12 = M 30 12) : Inv M' := by
  obtain ⟨c, hV, hC, hL, hP, hI⟩ := h
  exact ⟨c, hV, hC.cong (fun k _ b => hk k (by omega)), hL.cong h31 h12 h39, hP.cong (by rw [hk 2 (by omega)]) (hk 3 (by omega)) h4 h34, hI.cong (by rw [hk 0 (by omega)]) (fun q _ b => hk q b) h32 h33⟩
theorem ok_turn : op_turn Inv := by
  intro M hM hInv a1 _
  have hInv' := hInv
  obtain ⟨c, hV, hC, hL, ⟨L, hL7, p2, p4, ps⟩, hI⟩ := hInv'
  obtain ⟨v1, v2, v3, v4, v5, hG⟩ := hV
  obtain ⟨t0, t1, t2, hGC⟩ := hC.1
  unfold wp_T_turn wp_M_turn
  by_cases q : 0 ≤ a1 ∧ a1 ≤ 2
  · refine wt_in_1 q ⟨fun _ => ?_, fun q2 => absurd q2 (by decide)⟩
    rw [t0]
    refine sp_toldTurn v2 (fun j hj => by rw [(ps j hj).1]; exact (ps j hj).2) (fun t hT => ?_) (fun hT => ?_)
    · refine ⟨fun _ => ?_, fun q2 => absurd (Int.natCast_nonneg t) q2⟩
      have ht := hT.2.1
      have mod : ∀ (r1 : Int), (a1 = 0 → (r1 = 1 ∧ c.2.2.2 t) ∨ (r1 = 0 ∧ ¬ c.2.2.2 t)) → (a1 = 1 → r1 = (typF c.1 t : Int)) → (a1 = 2 → r1 = (orF t : Int)) → wp_M_in a1 0 2 (fun (r3 : Int) => (¬ r3 = 0 → wp_M_layPad M (fun (r13 : Int) (M_2 : Mm) => (¬ r13 = 0 → (¬ a1 = 0 → (¬ a1 = 1 → wp_M_typeOfRow M_2 (fun (r54 : Int) (M_6 : Mm) => wp_M_orderOf r54 (fun (r57 : Int) => r1 = r57 ∧ Inv M_6))) ∧
        (a1 = 1 → wp_M_typeOfRow M_2 (fun (r47 : Int) (M_7 : Mm) => r1 = r47 ∧ Inv M_7))) ∧
      (a1 = 0 → wp_M_rank M_2 (fun (r33 : Int) => inR (6 + r33) ∧ (0 ≤ (6 + r33) ∧ (6 + r33) < 5046) ∧ ∀ z10 : Int, z10 = M_2 31 ((6 + r33)).toNat → r1 = z10 ∧ Inv M_2))) ∧
    (r13 = 0 → r1 = (-7) ∧ Inv M_2))) ∧
  (r3 = 0 → r1 = (-2) ∧ Inv M)) := by
        intro r1 h0 h1 h2
        refine wp_in_1 q ⟨fun _ => ?_, fun q2 => absurd q2 (by decide)⟩
        refine sp_M_layPad v2 hL.1.1 p4 hL7 (fun j hj => (ps j hj).2) (fun t' M2 hT' r2 f2 => ⟨fun _ => ?_, fun q2 => absurd q2 (by decide)⟩) (fun hno => absurd ⟨t, Told_cong v2 hT (by rw [p4, p2]) (fun j hj => (ps j hj).1.symm)⟩ hno)
        have htt : t' = t := (Told_uniq v2 hT hT' (fun j hj => (ps j hj).1)).symm
        subst htt
        have n2 : M2 31 0 = (c.1 : Int) := by rw [f2 31 (by omega)]; exact hL.1.1
        have i2 : Inv M2 := hInv.scr (fun k hk => f2 k (by omega)) (f2 31 (by omega)) (f2 32 (by omega)) (f2 33 (by omega)) (f2 34 (by omega)) (f2 39 (by omega)) (by rw [f2 30 (by omega)]) (by rw [f2 30 (by omega)])
        have ty : ∀ {M7 : Mm}, (∀ k, k ≠ 41 → M7 k = M2 k) → Inv M7 := fun f7 => i2.scr (fun k hk => f7 k (by omega)) (f7 31 (by omega)) (f7 32 (by omega)) (f7 33 (by omega)) (f7 34 (by omega)) (f7 39 (by omega)) (by rw [f7 30 (by omega)]) (by rw [f7 30 (by omega)])
        refine ⟨fun q2 => ⟨fun q3 => ?_, fun q3 => ?_⟩, fun q2 => ?_⟩
        · refine sp_M_typeOfRow v1 v2 n2 ht r2 ?_
          intro M7 f7
          refine sp_M_orderOf (List.all_eq_true.mp (okO_all v1 v2) _ (typ_in v1 v2 ht)) ?_
          exact ⟨by rw [or_eq v1 v2 ht]; exact h2 (by omega), ty f7⟩
        · refine sp_M_typeOfRow v1 v2 n2 ht r2 ?_
          intro M7 f7
          exact ⟨h1 q3, ty f7⟩
        · refine sp_M_rank v2 n2 r2 ?_
          have hr := rk_lt v1 v2 ht
          refine ⟨⟨by omega, by omega⟩, ⟨by omega, by omega⟩, ?_⟩
          intro z10 hz10
          rw [show (6 + (rkF c.1 t' : Int)).toNat = 6 + rkF c.1 t' by omega, f2 31 (by omega)] at hz10
          refine ⟨?_, i2⟩
          have hIS := hL.1.2.2.2 _ hr
          have hk := inK_iff v1 v2 hG.1 ht
          rcases h0 q2 with ⟨a, b⟩ | ⟨a, b⟩
          · rcases hIS with ⟨d, _⟩ | ⟨_, d⟩
            · rw [a, hz10, d]
            · exact absurd (hk.mpr b) d
          · rcases hIS with ⟨_, d⟩ | ⟨d, _⟩
            · exact absurd (hk.mp d) b
            · rw [a, hz10, d]
      refine ⟨fun q2 => ⟨fun q3 => ?_, fun q3 => ?_⟩, fun q2 => ?_⟩
      · exact sp_times (ht.to7 v2) (mod _ (fun a => absurd a q2) (fun a => absurd a q3) (fun _ => rfl))
      · exact sp_typeOf v1 v2 ht (mod _ (fun a => absurd a q2) (fun _ => rfl) (fun a => absurd a (by omega)))
      · have hGC' := hGC
        obtain ⟨N, cc, e, mk, hLB, o3, c12, pp2, e0, hl, hmk, hgen⟩ := hGC'
        refine sp_has (U := Ls e N) (ht.to7 v2) hLB.2.2.2.2 (fun y hy => (hG.1 y ((hl y).mpr hy)).to7 v2) (fun hin => ⟨fun a => absurd a (by decide), fun _ => ?_⟩) (fun hin => ⟨fun _ => ?_, fun a => absurd rfl a⟩)
        · exact mod 1 (fun _ => Or.inl ⟨rfl, (hl t).mpr hin⟩) (fun a => absurd a (by omega)) (fun a => absurd a (by omega))
        · exact mod 0 (fun _ => Or.inr ⟨rfl, fun a => hin ((hl t).mp a)⟩) (fun a => absurd a (by omega)) (fun a => absurd a (by omega))
    · refine ⟨fun q2 => absurd q2 (by decide), fun _ => ?_⟩
      refine wp_in_1 q ⟨fun _ => ?_, fun q2 => absurd q2 (by decide)⟩
      refine sp_M_layPad v2 hL.1.1 p4 hL7 (fun j hj => (ps j hj).2) (fun t' M2 hT' _ _ => absurd ⟨t', Told_cong v2 hT' (by rw [p4, p2]) (fun j hj => (ps j hj).1)⟩ hT) (fun _ M2 f2 => ⟨fun a => absurd rfl a, fun _ => ⟨rfl, ?_⟩⟩)
      exact hInv.scr (fun k hk => f2 k (by omega)) (f2 31 (by omega)) (f2 32 (by omega)) (f2 33 (by omega)) (f2 34 (by omega)) (f2 39 (by omega)) (by rw [f2 30 (by omega)]) (by rw [f2 30 (by omega)])
  · exact wt_in_0 q ⟨fun q2 => absurd rfl q2, fun _ => wp_in_0 q ⟨fun q2 => absurd rfl q2, fun _ => ⟨rfl, hInv⟩⟩⟩
theorem ok_type : op_type Inv := by
  intro M hM hInv a1 _ a2 _
  obtain ⟨c, hV, hC, hL, hP, hI⟩ := id hInv
  obtain ⟨v1, v2, v3, v4, v5, hG⟩ := id hV
  unfold wp_T_type wp_M_type
  refine ⟨fun q => ⟨fun _ => ⟨rfl, hInv⟩, fun q2 => absurd q q2⟩, fun q => ?_⟩
  by_cases q2 : 0 ≤ a2 ∧ a2 ≤ 1
  · refine wt_in_1 q2 ⟨fun _ => ?_, fun q3 => absurd q3 (by decide)⟩
    refine sp_Y_bringUp hV (by omega) hC.1 hC.2.1 ?_
    intro M3 y3 _ fl3 k3
    have hC3 : CL c M3 := by
      refine ⟨hC.1.cong (fun i hi => k3 _ (by omega) (by omega) (by omega)), fun _ => y3, fun q4 => ?_⟩
      rw [k3 7 (by omega) (by omega) (by omega)] at q4
      exact (hC.2.2 q4).cong (fun j _ _ => by rw [k3 7 (by omega) (by omega) (by omega)]) (k3 8 (by omega) (by omega) (by omega)) (k3 9 (by omega) (by omega) (by omega)) (k3 10 (by omega) (by omega) (by omega)) (k3 11 (by omega) (by omega) (by omega))
    have i3 : Inv M3 := ⟨c, hV, hC3, hL.cong (k3 31 (by omega) (by omega) (by omega)) (by rw [k3 30 (by omega) (by omega) (by omega)]) (k3 39 (by omega) (by omega) (by omega)), hP.cong (by rw [k3 2 (by omega) (by omega) (by omega)]) (k3 3 (by omega) (by omega) (by omega)) (by rw [k3 30 (by omega) (by omega) (by omega)]) (k3 34 (by omega) (by omega) (by omega)), hI.cong (by rw [k3 0 (by omega) (by omega) (by omega)]) (fun q a b => k3 q (by omega) (by omega) (by omega)) (k3 32 (by omega) (by omega) (by omega)) (k3 33 (by omega) (by omega) (by omega))⟩
    have n3 : M3 31 0 = (c.1 : Int) := by rw [k3 31 (by omega) (by omega) (by omega)]; exact hL.1.1
    obtain ⟨N, e, A, f, ct, y1, y2, y4, y5⟩ := y3
    obtain ⟨N', τ, hT⟩ := hL.2.cong (M' := M3) (by rw [k3 30 (by omega) (by omega) (by omega)]) (k3 39 (by omega) (by omega) (by omega))
    have hA15 := TS_15 v1 v2 y4 (fun v hv => cnT_in v1 v2 (fun j hj => hG.1 _ ((y1 _).mpr ⟨j, hj, rfl⟩)) hv)
    have hcn : cnT c.1 e N = cnT c.1 τ N' := funext fun v => (two_lists y2 (TL.inj hT) (fun x => (y1 x).symm.trans (hT.2.2.1 x))).2 (fun x => decide (typF c.1 x = v))
    have mod : ∀ r1 : Int, (a1 = -1 → r1 = (A : Int)) → (¬ a1 = -1 → ((A : Int) ≤ a1 → r1 = -6) ∧ (a1 < (A : Int) → r1 = if a2 = 0 then (f a1.toNat : Int) else (ct a1.toNat : Int))) → (a1 < (-1) → r1 = (-2) ∧ Inv M3) ∧
  (¬ a1 < (-1) → wp_M_in a2 0 1 (fun (r8 : Int) => (¬ r8 = 0 → wp_M_layTypes M3 (fun (M_3 : Mm) => (¬ a1 = (-1) → (a1 < (M_3 30 17) → (¬ a2 = 0 → (0 ≤ a1 ∧ a1 < 16) ∧ ∀ z8 : Int, z8 = M_3 43 (a1).toNat → r1 = z8 ∧ Inv M_3) ∧
          (a2 = 0 → (0 ≤ a1 ∧ a1 < 16) ∧ ∀ z10 : Int, z10 = M_3 42 (a1).toNat → r1 = z10 ∧ Inv M_3)) ∧
        (¬ a1 < (M_3 30 17) → r1 = (-6) ∧ Inv M_3)) ∧
      (a1 = (-1) → r1 = (M_3 30 17) ∧ Inv M_3))) ∧
    (r8 = 0 → r1 = (-2) ∧ Inv M3))) := by
      intro r1 hm hr
      refine ⟨fun q4 => absurd q4 q, fun _ => ?_⟩
      refine wp_in_1 q2 ⟨fun _ => ?_, fun q3 => absurd q3 (by decide)⟩
      refine sp_M_layTypes v1 v2 hG n3 hT ?_
      intro M8 A' f' c' hTS hR f8
      obtain ⟨r1', r2', r3'⟩ := hR
      obtain ⟨eA, eF⟩ := TS_uniq y4 (by rw [hcn]; exact hTS)
      subst eA
      have i8 : Inv M8 := i3.scr (fun k hk => f8.1 k (by omega) (by omega) (by omega) (by omega) (by omega)) (f8.1 31 (by omega) (by omega) (by omega) (by omega) (by omega)) (f8.1 32 (by omega) (by omega) (by omega) (by omega) (by omega)) (f8.1 33 (by omega) (by omega) (by omega) (by omega) (by omega)) (f8.1 34 (by omega) (by omega) (by omega) (by omega) (by omega)) (f8.1 39 (by omega) (by omega) (by omega) (by omega) (by omega)) (f8.2 4 (by omega)) (f8.2 12 (by omega))
      rw [r1']
      refine ⟨fun q4 => ⟨fun q5 => ⟨fun q6 => ⟨⟨by omega, by omega⟩, fun z hz => ⟨?_, i8⟩⟩, fun q6 => ⟨⟨by omega, by omega⟩, fun z hz => ⟨?_, i8⟩⟩⟩, fun q5 => ⟨(hr q4).1 (by omega), i8⟩⟩, fun q4 => ⟨hm q4, i8⟩⟩
      · rw [(hr q4).2 q5, if_neg q6, hz, r3' _ (by omega), (eF _ (by omega)).2]
      · rw [(hr q4).2 q5, if_pos q6, hz, r2' _ (by omega), (eF _ (by omega)).1]
    rw [y5.1]
    refine ⟨fun q4 => ⟨fun q5 => ⟨fun q6 => ⟨⟨by omega, by omega⟩, fun z hz => mod z (fun a => absurd a q4) (fun _ => ⟨fun a => absurd a (by omega), fun _ => ?_⟩)⟩, fun q6 => ⟨⟨by omega, by omega⟩, fun z hz => mod z (fun a => absurd a q4) (fun _ => ⟨fun a => absurd a (by omega), fun _ => ?_⟩)⟩⟩, fun q5 => mod _ (fun a => absurd a q4) (fun _ => ⟨fun _ => rfl, fun a => absurd a q5⟩)⟩, fun q4 => mod _ (fun _ => rfl) (fun a => absurd q4 a)⟩
    · rw [if_neg q6, hz, y5.2.2 _ (by omega)]
    · rw [if_pos q6, hz, y5.2.1 _ (by omega)]
  · exact wt_in_0 q2 ⟨fun q3 => absurd rfl q3, fun _ => ⟨fun q3 => absurd q3 q, fun _ => wp_in_0 q2 ⟨fun q3 => absurd rfl q3, fun _ => ⟨rfl, hInv⟩⟩⟩⟩
theorem ok_orbit : op_orbit Inv := by
  intro M hM hInv a1 _ a2 _
  obtain ⟨c, hV, hC, hL, hP, hI⟩ := id hInv
  obtain ⟨v1, v2, v3, v4, v5, hG⟩ := id hV
  obtain ⟨t0, t1, t2, N, cc, e, mk, hLB, o3, c12, pp2, e0, hl, hmk, hgen⟩ := hC.1
  obtain ⟨N', τ, hT⟩ := hL.2
  have hlist : ∀ x, Ls e N x ↔ Ls τ N' x := fun x => (hl x).symm.trans (hT.2.2.1 x)
  have h2l := two_lists hLB.2.2.2.1 (TL.inj hT) hlist
  unfold wp_T_orbit
  rw [t0]
  refine ⟨⟨by omega, by omega⟩, ?_⟩
  by_cases q : 0 ≤ a1 ∧ a1 ≤ (c.1 : Int) - 1
  · refine wt_in_1 q ⟨fun _ => ?_, fun q3 => absurd q3 (by decide)⟩
    by_cases q2 : 0 ≤ a2 ∧ a2 ≤ 1
    · refine wt_in_1 q2 ⟨fun _ => ?_, fun q3 => absurd q3 (by decide)⟩
      obtain ⟨a, ha⟩ : ∃ a : Nat, a1 = (a : Int) := ⟨a1.toNat, by omega⟩
      rw [ha]
      refine ⟨fun q3 => ?_, fun q3 => ?_⟩
      · refine sp_holding (N := N) (e := e) hLB (by omega) ?_
        refine sp_M_orbit v1 v2 hG hL.1.1 hT (fun q4 => absurd (by omega) q4) (fun _ q4 => absurd q2 q4) (fun b hb eb q4 => absurd q4 q3) (fun b hb eb _ _ => ⟨?_, hInv⟩)
        have : b = a := by omega
        rw [this, h2l.2 (fun x => decide (dg x a = a))]
      · refine sp_reachFrom (N := N) (e := e) hLB (by omega) ?_
        refine sp_M_orbit v1 v2 hG hL.1.1 hT (fun q4 => absurd (by omega) q4) (fun _ q4 => absurd q2 q4) (fun b hb eb _ => ⟨?_, hInv⟩) (fun b hb eb q4 _ => absurd q3 q4)
        have : b = a := by omega
        rw [this, orS_eq (f := fun i => dg (e i) a) (g := fun k => dg (τ k) a) (n := N) (m := N') (fun w => ⟨fun ⟨i, hi, ei⟩ => by
          obtain ⟨k, hk, ek⟩ := (hlist _).mp ⟨i, hi, rfl⟩
          exact ⟨k, hk, by show dg (τ k) a = w; rw [ek]; exact ei⟩, fun ⟨i, hi, ei⟩ => by
          obtain ⟨k, hk, ek⟩ := (hlist _).mpr ⟨i, hi, rfl⟩
          exact ⟨k, hk, by show dg (e k) a = w; rw [ek]; exact ei⟩⟩)]
    · exact wt_in_0 q2 ⟨fun q3 => absurd rfl q3, fun _ => sp_M_orbit v1 v2 hG hL.1.1 hT (fun q4 => absurd q q4) (fun _ _ => ⟨rfl, hInv⟩) (fun b hb eb q4 => absurd (by omega) q2) (fun b hb eb _ q4 => absurd q4 q2)⟩
  · exact wt_in_0 q ⟨fun q3 => absurd rfl q3, fun _ => sp_M_orbit v1 v2 hG hL.1.1 hT (fun _ => ⟨rfl, hInv⟩) (fun q4 => absurd q4 q) (fun b hb eb _ => absurd (by omega) q) (fun b hb eb _ _ => absurd (by omega) q)⟩
