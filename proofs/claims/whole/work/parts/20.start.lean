set_option maxHeartbeats 8000000 in
set_option maxRecDepth 100000 in
/-- the law from its entry, out of the pure statement -/
theorem law_start {p : Program} {e : Env} {s : State} {m : MethodId} {below : List Frame} {meth : Method} {c : Code} (l : Launch) {b L : Nat} {xs : Nat → Int32} (hL : L ≤ 2048) (C0 : lw_At p s m meth c b L xs) (Inv : Mm → Prop) (hOK : LawOK Inv) (PG PM : Mm → Prop) (hwG : wp_G_makeStill 0 (fun _ _ => 0) PG) (hwM : wp_M_beginGroup mM0 (fun M1 => wp_M_closeGroup M1 PM)) (hInit : ∀ a b c d : Mm, PG a → PG b → PG c → PM d → Inv (comb (mT a b c) d)) : W p l e room_1 s m #[Value.ref b] below meth c s.heap [] 0 0 (lw_Z below #[Value.ref b] s) (entryFrame m ([Value.ref b] : List Value).toArray 4) := by
  obtain ⟨hx, hb, hr, hml, hown, hts0, hX, hbl, hlocks, hgv⟩ := id C0
  have hts : ∀ w ∈ tg, w.before #[Value.ref b] s = true := fun w hw => hts0 w (List.mem_filter.mp hw).1
  have hA : ∀ q : Nat, s.heap.size ≤ q → (fun q : Nat => s.heap.size ≤ q) q := fun _ h => h
  have hN : nW s := nW.of hts0
  have hbA : ¬ (fun q : Nat => s.heap.size ≤ q) b := Nat.not_le.mpr hbl
  obtain ⟨c0, iS0, hKn0⟩ := u_known (C := rr_G) (T := ft_G) (N := 5) (n := 5) hts iw_G (hts (.instantiable rr_G 5) tb_27)
  obtain ⟨c1, iS1, hKn1⟩ := u_known (C := rr_D) (T := ft_D) (N := 2) (n := 2) hts iw_D (hts (.instantiable rr_D 2) tb_107)
  obtain ⟨c2, iS2, hKn2⟩ := u_known (C := rr_P) (T := ft_P) (N := 9) (n := 9) hts iw_P (hts (.instantiable rr_P 9) tb_145)
  obtain ⟨c3, iS3, hKn3⟩ := u_known (C := rr_S) (T := ft_S) (N := 4) (n := 4) hts iw_S (hts (.instantiable rr_S 4) tb_21)
  obtain ⟨c4, iS4, hKn4⟩ := u_known (C := rr_Y) (T := ft_Y) (N := 4) (n := 4) hts iw_Y (hts (.instantiable rr_Y 4) tb_122)
  obtain ⟨c5, iS5, hKn5⟩ := u_known (C := rr_T) (T := ft_T) (N := 6) (n := 6) hts iw_T (hts (.instantiable rr_T 6) tb_13)
  obtain ⟨c6, iS6, hKn6⟩ := u_known (C := rr_M) (T := ft_M) (N := 25) (n := 25) hts iw_M (hts (.instantiable rr_M 25) tb_477)
  obtain ⟨dC, dI, hKc⟩ : ∃ (dC : Nat → ClassId) (dI : Nat → Nat → Nat), ∀ (k : Nat) (q : vw_C), vc[k]? = some q → u_Kn s q.1 q.2.1 q.2.2 (dC k) (dI k) := by
    refine ⟨fun k => if k = 0 then c0 else if k = 1 then c1 else if k = 2 then c2 else if k = 3 then c3 else if k = 4 then c4 else if k = 5 then c5 else c6, fun k => if k = 0 then iS0 else if k = 1 then iS1 else if k = 2 then iS2 else if k = 3 then iS3 else if k = 4 then iS4 else if k = 5 then iS5 else iS6, ?_⟩
    intro k q hq
    match k, hq with
    | 0, hq => cases hq; exact hKn0
    | 1, hq => cases hq; exact hKn1
    | 2, hq => cases hq; exact hKn2
    | 3, hq => cases hq; exact hKn3
    | 4, hq => cases hq; exact hKn4
    | 5, hq => cases hq; exact hKn5
    | 6, hq => cases hq; exact hKn6
    | k + 7, hq => simp [vc] at hq
  have hS : va_S (fun q : Nat => s.heap.size ≤ q) s.heap s.heap [] := va_S.rf
  have hK : va_K (dC, dI) vc [] s := ⟨hKc, fun k q h => by simp at h⟩
  have hP : va_P (dC, dI) vc [] s.heap := fun k q h => by simp at h
  have hD : va_D (fun q : Nat => s.heap.size ≤ q) [] := ⟨fun i j p q h => by simp at h, fun k q h => by simp at h⟩
  have hl := lv_entry ([.ref b]) (n := 4) (Nat.le_of_ble_eq_true rfl)
  rw [lg_entry_eq]
  generalize (lg_sl ([.ref b]) ++ List.replicate (4 - (lg_sl ([.ref b])).length) Slot.unset).toArray = ls at hl ⊢
  have hl : lv_has ls 4 [(0, .ref b)] := hl
  have hAO : va_AO "TurnCounts$Setting" s := va_AO.of (hts0 _ tb_105)
  refine va_new (ci := 5) (fs := [.null, .null, .int (iI 0), .null, .null, .null]) (C := rr_T) (T := ft_T) (N := 6) hx hb hts iw_T fy_T fk_T hown (hts _ tb_12) (hts _ tb_13) (hts _ tb_1) hK hP hD hS hA rfl (fun j hj => by rcases (show j = 0 ∨ j = 1 ∨ j = 2 ∨ j = 3 ∨ j = 4 ∨ j = 5 by omega) with rfl | rfl | rfl | rfl | rfl | rfl <;> rfl) (Nat.le_of_ble_eq_true rfl) (Nat.le_of_ble_eq_true rfl) dd_L_0 (fun qT H hP hD hS => ?_)
  have hP : va_P (dC, dI) vc ([(qT, .inr (5, [.null, .null, .int (iI 0), .null, .null, .null]))]) H := hP
  have hD : va_D (fun q : Nat => s.heap.size ≤ q) ([(qT, .inr (5, [.null, .null, .int (iI 0), .null, .null, .null]))]) := hD
  refine lv_dup hx hb dd_L_3 rfl ?_
  have hPc := hP.sub (ws' := [(qT, .inr (5, [.null, .null, .int (iI 0), .null, .null, .null]))]) [0] rfl
  have hDc := hD.sub (ws' := [(qT, .inr (5, [.null, .null, .int (iI 0), .null, .null, .null]))]) [0] (by decide) rfl
  have hKc2 := hK.sub (tys' := []) [] rfl
  have hFc := va_free (wc := [(qT, .inr (5, [.null, .null, .int (iI 0), .null, .null, .null]))]) hD hS hA [0] rfl
  refine va_callv (va_runI (As := []) (rest := [.ref qT]) ⟨hx, hb, hml, hown, hts⟩ (ci_T l dC dI qT H.size PG hwG) (cwI 0 hts (tb_cons tb_16 tb_gi) rfl rfl rfl (hts _ tb_1) (hts _ tb_14) (hts _ tb_15) rfl (by decide +kernel) ⟨Nat.le_of_ble_eq_true rfl, Nat.le_of_ble_eq_true rfl⟩) ⟨fun a U g mk q => by obtain ⟨q0, q1, qP, qK, qD, qN, qA⟩ := q; exact ⟨q0, q1, qP, va_K.moved (u := U) (U := U.calling g mk a) (Vm.Alike.refl U.vm) qK, qD, nW.same (u := U) (U := U.calling g mk a) rfl qN, va_AO.moved (u := U) (U := U.calling g mk a) (Vm.Alike.refl U.vm) qA⟩, fun U hU hW => ⟨rfl, by rw [hU], by rw [hU]; exact hPc, va_K.moved hW.alike hKc2, hDc.weaken (fun _ _ _ _ => trivial), nW.warm hW hN, va_AO.moved hW.alike hAO⟩⟩ rfl rfl hl.1 rfl (lv_room (Nat.le_of_ble_eq_true rfl)) dd_L_4 ⟨Nat.le_of_ble_eq_true rfl, Nat.le_of_ble_eq_true rfl⟩) hS (fun q _ h => hFc q h) hFc (fun u t H1 locs ht hvm hw hB hz1 hk1 hS => ?_)
  obtain ⟨aT, cT, eT, hP1, hK1, hD1⟩ := hB
  rw [ht] at hP1
  have hK1 := va_K.moved hvm.symm hK1
  obtain ⟨⟨hra, hpa⟩, ⟨hrb, hpb⟩, ⟨hrc, hpc⟩⟩ := hw
  obtain ⟨hP, hD⟩ := va_join (wr := []) (w1 := wF aT cT (mT u.1 u.2.1 u.2.2) 0 30) hP hD [0] [] rfl rfl (by decide) (by decide) hk1 hFc hP1 hD1
  have hK := hK1
  generalize H1 = H at hP hS ⊢
  have hP : va_P (dC, dI) vc (wF aT cT (mT u.1 u.2.1 u.2.2) 0 30) H := hP
  have hD : va_D (fun q : Nat => s.heap.size ≤ q) (wF aT cT (mT u.1 u.2.1 u.2.2) 0 30) := hD
  refine lv_astore_n (lv' := [(1, .ref qT), (0, .ref b)]) hx hb dd_L_7 rfl hl (by decide) rfl (fun ls hl => ?_)
  refine va_new (ci := 6) (fs := [.null, .null, .null, .null, .int (iI 0), .null, .null, .null, .int (iI 0), .null, .int (iI 0), .null, .int (iI 0), .null, .null, .null, .null, .int (iI 0), .null, .null, .null, .null, .int (iI 0), .int (iI 0), .null]) (C := rr_M) (T := ft_M) (N := 25) hx hb hts iw_M fy_M fk_M hown (hts _ tb_476) (hts _ tb_477) (hts _ tb_9) hK hP hD hS hA rfl (fun j hj => by rcases (show j = 0 ∨ j = 1 ∨ j = 2 ∨ j = 3 ∨ j = 4 ∨ j = 5 ∨ j = 6 ∨ j = 7 ∨ j = 8 ∨ j = 9 ∨ j = 10 ∨ j = 11 ∨ j = 12 ∨ j = 13 ∨ j = 14 ∨ j = 15 ∨ j = 16 ∨ j = 17 ∨ j = 18 ∨ j = 19 ∨ j = 20 ∨ j = 21 ∨ j = 22 ∨ j = 23 ∨ j = 24 by omega) with rfl | rfl | rfl | rfl | rfl | rfl | rfl | rfl | rfl | rfl | rfl | rfl | rfl | rfl | rfl | rfl | rfl | rfl | rfl | rfl | rfl | rfl | rfl | rfl | rfl <;> rfl) (Nat.le_of_ble_eq_true rfl) (Nat.le_of_ble_eq_true rfl) dd_L_8 (fun qM H hP hD hS => ?_)
  have hP : va_P (dC, dI) vc (wF aT cT (mT u.1 u.2.1 u.2.2) 0 30 ++ [(qM, .inr (6, [.null, .null, .null, .null, .int (iI 0), .null, .null, .null, .int (iI 0), .null, .int (iI 0), .null, .int (iI 0), .null, .null, .null, .null, .int (iI 0), .null, .null, .null, .null, .int (iI 0), .int (iI 0), .null]))]) H := hP
  have hD : va_D (fun q : Nat => s.heap.size ≤ q) (wF aT cT (mT u.1 u.2.1 u.2.2) 0 30 ++ [(qM, .inr (6, [.null, .null, .null, .null, .int (iI 0), .null, .null, .null, .int (iI 0), .null, .int (iI 0), .null, .int (iI 0), .null, .null, .null, .null, .int (iI 0), .null, .null, .null, .null, .int (iI 0), .int (iI 0), .null]))]) := hD
  refine lv_dup hx hb dd_L_11 rfl ?_
  obtain ⟨uT, euT⟩ : ∃ z, z = u := ⟨_, rfl⟩
  rw [← euT] at hP hD hra hrb hrc hpa hpb hpc
  have hPc := hP.sub (ws' := [(qM, .inr (6, [.null, .null, .null, .null, .int (iI 0), .null, .null, .null, .int (iI 0), .null, .int (iI 0), .null, .int (iI 0), .null, .null, .null, .null, .int (iI 0), .null, .null, .null, .null, .int (iI 0), .int (iI 0), .null]))]) [30] rfl
  have hDc := hD.sub (ws' := [(qM, .inr (6, [.null, .null, .null, .null, .int (iI 0), .null, .null, .null, .int (iI 0), .null, .int (iI 0), .null, .int (iI 0), .null, .null, .null, .null, .int (iI 0), .null, .null, .null, .null, .int (iI 0), .int (iI 0), .null]))]) [30] (by decide) rfl
  have hKc2 := hK.sub (tys' := []) [] rfl
  have hFc := va_free (wc := [(qM, .inr (6, [.null, .null, .null, .null, .int (iI 0), .null, .null, .null, .int (iI 0), .null, .int (iI 0), .null, .int (iI 0), .null, .null, .null, .null, .int (iI 0), .null, .null, .null, .null, .int (iI 0), .int (iI 0), .null]))]) hD hS hA [30] rfl
  refine va_callv (va_runI (As := []) (rest := [.ref qM]) ⟨hx, hb, hml, hown, hts⟩ (ci_M l dC dI qM H.size PM hwM) (cwI 0 hts (tb_cons tb_480 tb_gi) rfl rfl rfl (hts _ tb_9) (hts _ tb_478) (hts _ tb_479) rfl (by decide +kernel) ⟨Nat.le_of_ble_eq_true rfl, Nat.le_of_ble_eq_true rfl⟩) ⟨fun a U g mk q => by obtain ⟨q0, q1, qP, qK, qD, qN⟩ := q; exact ⟨q0, q1, qP, va_K.moved (u := U) (U := U.calling g mk a) (Vm.Alike.refl U.vm) qK, qD, nW.same (u := U) (U := U.calling g mk a) rfl qN⟩, fun U hU hW => ⟨rfl, by rw [hU], by rw [hU]; exact hPc, va_K.moved hW.alike hKc2, hDc.weaken (fun _ _ _ _ => trivial), nW.warm hW hN⟩⟩ rfl rfl hl.1 rfl (lv_room (Nat.le_of_ble_eq_true rfl)) dd_L_12 ⟨Nat.le_of_ble_eq_true rfl, Nat.le_of_ble_eq_true rfl⟩) hS (fun q _ h => hFc q h) hFc (fun u t H1 locs ht hvm hw hB hz1 hk1 hS => ?_)
  obtain ⟨aM, cM, eM, hP2, hK2, hD2⟩ := hB
  rw [ht] at hP2
  have hK2 := va_K.moved hvm.symm hK2
  obtain ⟨hrd, hpd⟩ := hw
  obtain ⟨hP, hD⟩ := va_join (wr := wF aT cT (mT uT.1 uT.2.1 uT.2.2) 0 30) (w1 := wF aM cM u 30 19) hP hD [30] [0, 1, 2, 3, 4, 5, 6, 7, 8, 9, 10, 11, 12, 13, 14, 15, 16, 17, 18, 19, 20, 21, 22, 23, 24, 25, 26, 27, 28, 29] rfl rfl (by decide) (by decide) hk1 hFc hP2 hD2
  have hK3 : va_K (dC, dI) vc (tyT cT ++ tyM cM) s := (hK.sub (tys' := tyT cT) [0, 1, 2, 3, 4, 5, 6, 7, 8, 9, 10, 11, 12, 13, 14, 15, 16, 17, 18, 19] rfl).app hK2
  generalize H1 = H at hP hS ⊢
  have hPT : va_P (dC, dI) vc (wF aT cT (mT uT.1 uT.2.1 uT.2.2) 0 30) H := hP.sub [0, 1, 2, 3, 4, 5, 6, 7, 8, 9, 10, 11, 12, 13, 14, 15, 16, 17, 18, 19, 20, 21, 22, 23, 24, 25, 26, 27, 28, 29] rfl
  have hPM : va_P (dC, dI) vc (wF aM cM u 30 19) H := hP.sub [30, 31, 32, 33, 34, 35, 36, 37, 38, 39, 40, 41, 42, 43, 44, 45, 46, 47, 48] rfl
  have hm : mr (comb (mT uT.1 uT.2.1 uT.2.2) u) := by
    intro k j
    unfold comb
    by_cases h30 : k < 30
    · rw [if_pos h30]
      unfold mT
      split <;> first | exact rk rfl | exact up_r (up_r z0_r (rk rfl)) (rk rfl) j | exact up_r (up_r (up_r (up_r z0_r (rk rfl)) (rk rfl)) (rk rfl)) (rk rfl) j | exact hra _ j | exact hrb _ j | exact hrc _ j
    · rw [if_neg h30]; exact hrd k j
  have hSt : St (XL (dC, dI) aT aM cT cM) (fun q : Nat => s.heap.size ≤ q) s (comb (mT uT.1 uT.2.1 uT.2.2) u) H locs := ⟨glue hPT hPM, glueD hD, hS, hm⟩
  refine lv_astore_n (lv' := [(2, .ref qM), (1, .ref qT), (0, .ref b)]) hx hb dd_L_15 rfl hl (by decide) rfl (fun ls hl => ?_)
  have hC : Cx p s m #[Value.ref b] c code 4 "TurnCountsLaw" (XL (dC, dI) aT aM cT cM) (fun q : Nat => s.heap.size ≤ q) := ⟨⟨hx, hb, hml, hown, hts⟩, hK3, XL_lcl _ _ _ _ _, hA, hN⟩
  refine x_iconst hC dd_L_16 ?_
  refine lv_istore_n (lv' := [(3, .int (iI 0)), (2, .ref qM), (1, .ref qT), (0, .ref b)]) hx hb dd_L_17 rfl hl (by decide) rfl (fun ls hl => ?_)
  have hl2 : lv_has ls 4 [(0, .ref b), (1, .ref (xA (XL (dC, dI) aT aM cT cM) 0)), (2, .ref (xA (XL (dC, dI) aT aM cT cM) 30)), (3, .int (iI 0))] := by
    have e0 : xA (XL (dC, dI) aT aM cT cM) 0 = qT := eT
    have e30 : xA (XL (dC, dI) aT aM cT cM) 30 = qM := eM
    rw [e0, e30]
    exact lv_sub hl [3, 2, 1, 0] rfl
  refine W.widen (k := 49) (n := 175062) (Nat.le_of_ble_eq_true rfl) (Nat.le_of_ble_eq_true rfl) ?_
  exact law_loop hL C0 Inv hOK aT aM cT cM hK3 (L + 5) 0 _ _ _ _ (hInit _ _ _ _ hpa hpb hpc hpd) (by omega) (by omega) (by omega) hSt hl2
