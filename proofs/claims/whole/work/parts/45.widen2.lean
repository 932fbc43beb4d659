/-! ===== a turn more: the group grows by whole copies ===== -/
def WS (S : Nat → Prop) (N c : Nat) (e mk : Nat → Nat) (g : Nat) (M0 M : Mm) (C : Nat) (e' : Nat → Nat) : Prop :=
  2 ≤ C ∧ LB (C * N) e' (M g) (M (g + 1)) (M (g + 3)) ∧ M g 3 = (c : Int) ∧ (∀ i, i < c → M (g + 2) i = (mk i : Int)) ∧ (∀ i, i < N → e' i = e i) ∧ (∀ a i, a < C → i < N → e' (a * N + i) = cmp (e i) (e' (a * N))) ∧ (∀ a, a < C → Cl S (e' (a * N))) ∧ (∀ k, k ≠ g → k ≠ g + 1 → k ≠ g + 2 → k ≠ g + 3 → M k = M0 k) ∧ (∀ j, j ≠ 1 → j ≠ 3 → M g j = M0 g j)
theorem cut_CN {C N j : Nat} (hN : 0 < N) (hj : j < C * N) : ∃ a i, a < C ∧ i < N ∧ j = a * N + i :=
  ⟨j / N, j % N, Nat.div_lt_of_lt_mul (by rw [Nat.mul_comm]; exact hj), Nat.mod_lt _ hN, by rw [Nat.mul_comm]; exact (Nat.div_add_mod j N).symm⟩
theorem in_CN {C N a i : Nat} (ha : a < C) (hi : i < N) : a * N + i < C * N := by
  have : (a + 1) * N ≤ C * N := Nat.mul_le_mul_right N ha
  rw [Nat.add_mul, Nat.one_mul] at this
  omega
theorem ws_mul {n N C c : Nat} {S G : Nat → Prop} {e e' mk : Nat → Nat} {g : Nat} {M0 M : Mm} (h7 : n ≤ 7) (hG : isGrp n G) (hl : ∀ y, G y ↔ Ls e N y) (hN : 0 < N) (hw : WS S N c e mk g M0 M C e') {k x : Nat} (hk : k < N) (hx : Ls e' (C * N) x) : Ls e' (C * N) (cmp (e k) x) := by
  obtain ⟨w1, w2, w3, w4, w5, w6, w7, w8, w9⟩ := hw
  obtain ⟨j, hj, rfl⟩ := hx
  obtain ⟨a, i, ha, hi, rfl⟩ := cut_CN hN hj
  have hGe : ∀ i, i < N → G (e i) := fun i hi => (hl _).mpr ⟨i, hi, rfl⟩
  obtain ⟨i', hi', q⟩ := (hl _).mp (hG.2.2 _ _ (hGe k hk) (hGe i hi))
  refine ⟨a * N + i', in_CN ha hi', ?_⟩
  rw [w6 a i' ha hi', q, w6 a i ha hi, cmp_assoc ((hG.1 _ (hGe k hk)).to7 h7) ((hG.1 _ (hGe i hi)).to7 h7)]
theorem ws_disj {n N C c : Nat} {S G : Nat → Prop} {e e' mk : Nat → Nat} {g : Nat} {M0 M : Mm} (h7 : n ≤ 7) (hG : isGrp n G) (hl : ∀ y, G y ↔ Ls e N y) (hN : 0 < N) (hw : WS S N c e mk g M0 M C e') {x : Nat} (hx : isP 7 x) (hn : ¬ Ls e' (C * N) x) : ∀ i j, i < N → j < C * N → cmp (e' i) x ≠ e' j := by
  intro i j hi hj q
  have hGe : ∀ i, i < N → G (e i) := fun i hi => (hl _).mpr ⟨i, hi, rfl⟩
  rw [hw.2.2.2.2.1 i hi] at q
  have h1 := shift_l ((hG.1 _ (hGe i hi)).to7 h7) hx q
  obtain ⟨k, hk, e1⟩ := (hl _).mp (hG.inv (hGe i hi))
  apply hn
  rw [h1, ← e1]
  exact ws_mul h7 hG hl hN hw hk ⟨j, hj, rfl⟩
theorem ws_more {n N C c : Nat} {S G : Nat → Prop} {e e' mk : Nat → Nat} {g : Nat} {M0 M : Mm} {post : Mm → Prop} (h7 : n ≤ 7) (hG : isGrp n G) (hl : ∀ y, G y ↔ Ls e N y) (he0 : e 0 = idc) (hN : 0 < N) (hw : WS S N c e mk g M0 M C e') {x : Nat} (hx : isP 7 x) (hS : Cl S x) (hn : ¬ Ls e' (C * N) x)
    (h : ∀ M' : Mm, WS S N c e mk g M0 M' (C + 1) (eC e' (C * N) x) → post M') : wp_G_addCopy g (N : Int) (x : Int) M post := by
  have hd := ws_disj h7 hG hl hN hw hx hn
  obtain ⟨w1, w2, w3, w4, w5, w6, w7, w8, w9⟩ := hw
  have hNC : N ≤ C * N := Nat.le_mul_of_pos_left N (by omega)
  refine sp_addCopy w2 hNC hx hd ?_
  intro M' hL hf hs
  have e2 : (C + 1) * N = C * N + N := by rw [Nat.add_mul, Nat.one_mul]
  have e00 : e' 0 = idc := by rw [w5 0 hN, he0]
  refine h M' ⟨by omega, by rw [e2]; exact hL, by rw [hs 3 (by omega)]; exact w3, fun i hi => by rw [hf (g + 2) (by omega) (by omega) (by omega)]; exact w4 i hi, fun i hi => by rw [eC_lt (by omega)]; exact w5 i hi, fun a i ha hi => ?_, fun a ha => ?_, fun k k1 k2 k3 k4 => by rw [hf k k1 k2 k4]; exact w8 k k1 k2 k3 k4, fun j j1 j3 => by rw [hs j j1]; exact w9 j j1 j3⟩
  · by_cases q : a < C
    · rw [eC_lt (in_CN q hi), eC_lt (by have := in_CN q hN; omega)]
      exact w6 a i q hi
    · have : a = C := by omega
      subst this
      have h0 := eC_ge (e := e') (N := a * N) (x := x) 0
      rw [Nat.add_zero] at h0
      rw [eC_ge, h0, e00, id_cmp hx, w5 i hi]
  · by_cases q : a < C
    · rw [eC_lt (by have := in_CN q hN; omega)]; exact w7 a q
    · have : a = C := by omega
      subst this
      have h0 := eC_ge (e := e') (N := a * N) (x := x) 0
      rw [Nat.add_zero] at h0
      rw [h0, e00, id_cmp hx]; exact hS
theorem ws_end {n N C c : Nat} {S G : Nat → Prop} {e e' mk : Nat → Nat} {g : Nat} {M0 M : Mm} (h7 : n ≤ 7) (hG : isGrp n G) (hl : ∀ y, G y ↔ Ls e N y) (he0 : e 0 = idc) (hN : 0 < N) (hc : c ≤ 12) (hp : 2 ^ c ≤ 2 * N) (hw : WS S N c e mk g M0 M C e')
    (hSP : ∀ y, S y → isP n y) (hGS : ∀ y, G y → S y) (hSm : ∀ y, S y → Cl (Ls mk c) y) (hmS : ∀ i, i < c → S (mk i)) (hcl : ∀ a m, a < C → m < c → Ls e' (C * N) (cmp (e' (a * N)) (mk m))) :
    GC n (Cl S) (M g) (M (g + 1)) (M (g + 2)) (M (g + 3)) := by
  have hw' := hw
  obtain ⟨w1, w2, w3, w4, w5, w6, w7, w8, w9⟩ := hw
  have hS7 : ∀ y, S y → isP 7 y := fun y hy => (hSP y hy).to7 h7
  have hGe : ∀ i, i < N → G (e i) := fun i hi => (hl _).mpr ⟨i, hi, rfl⟩
  have hmP : ∀ y, Ls mk c y → isP n y := by rintro y ⟨i, hi, rfl⟩; exact hSP _ (hmS i hi)
  have hSm' : ∀ y, Cl S y → Cl (Ls mk c) y := fun y hy => Cl_le (Cl_grp h7 hmP) hSm hy
  have e00 : e' 0 = idc := by rw [w5 0 hN, he0]
  have h2N : 2 * N ≤ C * N := Nat.mul_le_mul_right N w1
  have hstep : ∀ x, Ls e' (C * N) x → ∀ m, m < c → Ls e' (C * N) (cmp x (mk m)) := by
    rintro x ⟨j, hj, rfl⟩ m hm
    obtain ⟨a, i, ha, hi, rfl⟩ := cut_CN hN hj
    have hb : isP 7 (e' (a * N)) := Cl_P (Nat.le_refl 7) hS7 (w7 a ha)
    rw [w6 a i ha hi, cmp_assoc ((hG.1 _ (hGe i hi)).to7 h7) hb]
    exact ws_mul h7 hG hl hN hw' hi (hcl a m ha hm)
  refine ⟨C * N, c, e', mk, w2, w3, hc, by omega, e00, fun x => ⟨fun hx => ?_, ?_⟩, fun i hi => ⟨w4 i hi, Cl_in (hS7 _ (hmS i hi)) (hmS i hi)⟩, hSm'⟩
  · refine Cl_ind (S := Ls mk c) (P := Ls e' (C * N)) ⟨0, by omega, e00⟩ (fun x y hx hy => ?_) (hSm' x hx)
    obtain ⟨m, hm, rfl⟩ := hy
    exact hstep x hx m hm
  · rintro ⟨j, hj, rfl⟩
    obtain ⟨a, i, ha, hi, rfl⟩ := cut_CN hN hj
    rw [w6 a i ha hi]
    exact Cl_mul hS7 (Cl_in (hS7 _ (hGS _ (hGe i hi))) (hGS _ (hGe i hi))) (w7 a ha)
theorem sp_widen {g n x : Nat} {G : Nat → Prop} {M : Mm} {post : Mm → Prop} (h1 : 1 ≤ n) (h7 : n ≤ 7) (hG : isGrp n G) (hC : GC n G (M g) (M (g + 1)) (M (g + 2)) (M (g + 3))) (hx : isP n x)
    (h : ∀ M' : Mm, GC n (Cl (fun y => G y ∨ y = x)) (M' g) (M' (g + 1)) (M' (g + 2)) (M' (g + 3)) → (∀ k, k ≠ g → k ≠ g + 1 → k ≠ g + 2 → k ≠ g + 3 → M' k = M k) → (∀ j, j ≠ 1 → j ≠ 3 → M' g j = M g j) → post M') : wp_G_widen g (x : Int) M post := by
  have hC' := hC
  obtain ⟨N, c, e, mk, hL, o3, c12, p2, e0, hl, hmk, hgen⟩ := hC
  have hN0 : 0 < N := Nat.lt_of_lt_of_le (Nat.two_pow_pos c) p2
  have hGe : ∀ i, i < N → G (e i) := fun i hi => (hl _).mpr ⟨i, hi, rfl⟩
  have hN : N ≤ 5040 := Ls_le (by decide) (Nat.le_refl 7) hL.2.2.1 hL.2.2.2.1
  have hx7 := hx.to7 h7
  unfold wp_G_widen
  refine sp_has (U := Ls e N) hx7 hL.2.2.2.2 (fun y hy => (hG.1 y ((hl y).mpr hy)).to7 h7) (fun hin => ?_) (fun hin => ?_)
  · refine ⟨fun _ => ?_, fun q => absurd q (by decide)⟩
    refine h M (hC'.congr (fun y => ⟨fun hy => ?_, fun hy => Cl_in ((hG.1 y hy).to7 h7) (Or.inl hy)⟩)) (fun _ _ _ _ _ => rfl) (fun _ _ _ => rfl)
    refine Cl_le hG (fun z hz => ?_) hy
    rcases hz with hz | rfl
    · exact hz
    · exact (hl _).mpr hin
  · refine ⟨fun q => absurd rfl q, fun _ => ?_⟩
    have hnG : ¬ G x := fun q => hin ((hl x).mp q)
    have hdbl := Ls_dbl h1 h7 hG hl hL.2.2.2.1 hx hnG
    have hc : c < 12 := by
      by_cases q : c = 12
      · rw [q] at p2; omega
      · omega
    rw [o3]
    refine ⟨fun _ => ?_, fun q => absurd (by omega) q⟩
    refine ⟨⟨by omega, by omega⟩, ?_⟩
    intro M4 h4
    rw [Int.toNat_natCast] at h4
    have g4 : M4 g = M g := by rw [h4]; exact ms_o M _ _ (by omega)
    rw [g4, o3]
    refine ⟨⟨by omega, by omega⟩, ?_⟩
    intro M6 h6 v2 hv2
    have l6 : LB N e (M6 g) (M6 (g + 1)) (M6 (g + 3)) := by
      rw [show M6 (g + 1) = M (g + 1) by rw [h6, ms_o _ _ _ (by omega), h4, ms_o _ _ _ (by omega)], show M6 (g + 3) = M (g + 3) by rw [h6, ms_o _ _ _ (by omega), h4, ms_o _ _ _ (by omega)]]
      exact ⟨by rw [h6, ms_ne _ _ (by omega), g4]; exact hL.1, hL.2⟩
    rw [l6.1] at hv2
    subst hv2
    obtain ⟨t1, t2⟩ := Ls_two h1 h7 hG hl hL.2.2.2.1 hx hnG
    refine sp_addCopy l6 (Nat.le_refl N) hx7 t1 ?_
    intro M7 hL7 hf7 hs7
    -- the plan
    have hSP : ∀ y, (G y ∨ y = x) → isP n y := fun y hy => hy.elim (hG.1 y) (fun q => by rw [q]; exact hx)
    have hS7 : ∀ y, (G y ∨ y = x) → isP 7 y := fun y hy => (hSP y hy).to7 h7
    have hmS : ∀ i, i < c + 1 → (G (eX mk c x i) ∨ eX mk c x i = x) := by
      intro i hi
      by_cases q : i = c
      · right; rw [q, eX_at]
      · left; rw [eX_lt (by omega)]; exact (hmk i (by omega)).2
    have hSm : ∀ y, (G y ∨ y = x) → Cl (Ls (eX mk c x) (c + 1)) y := by
      intro y hy
      rcases hy with hy | rfl
      · refine Cl_le (Cl_grp h7 (fun z hz => ?_)) (fun z hz => ?_) (hgen y hy)
        · obtain ⟨i, hi, rfl⟩ := hz; exact hSP _ (hmS i hi)
        · obtain ⟨i, hi, rfl⟩ := hz
          exact Cl_in ((hG.1 _ (hmk i hi).2).to7 h7) ⟨i, by omega, eX_lt hi⟩
      · exact Cl_in hx7 ⟨c, by omega, eX_at⟩
    have hmP : ∀ i, i < c + 1 → isP 7 (eX mk c x i) := fun i hi => hS7 _ (hmS i hi)
    have hmlt : ∀ i, i < c + 1 → (eX mk c x i) < 2097152 := fun i hi => (hmP i hi).1
    have hp2' : 2 ^ (c + 1) ≤ 2 * N := by rw [Nat.pow_succ]; omega
    have w0 : WS (fun y => G y ∨ y = x) N (c + 1) e (eX mk c x) g M M7 2 (eC e N x) := by
      refine ⟨by omega, by rw [Nat.two_mul]; exact hL7, ?_, fun i hi => ?_, fun i hi => eC_lt hi, fun a i ha hi => ?_, fun a ha => ?_, fun k k1 k2 k3 k4 => ?_, fun j j1 j3 => ?_⟩
      · rw [hs7 3 (by omega), h6, ms_self]; omega
      · rw [hf7 (g + 2) (by omega) (by omega) (by omega), h6, ms_o _ _ _ (by omega), h4]
        by_cases q : i = c
        · rw [q, ms_self, eX_at]
        · rw [ms_ne _ _ q, eX_lt (by omega)]; exact (hmk i (by omega)).1
      · rcases (show a = 0 ∨ a = 1 by omega) with rfl | rfl
        · rw [Nat.zero_mul, Nat.zero_add, eC_lt hi, eC_lt hN0, e0, cmp_id (hL.2.2.1 i hi)]
        · have h0 := eC_ge (e := e) (N := N) (x := x) 0
          rw [Nat.add_zero] at h0
          rw [Nat.one_mul, eC_ge, h0, e0, id_cmp hx7]
      · rcases (show a = 0 ∨ a = 1 by omega) with rfl | rfl
        · rw [Nat.zero_mul, eC_lt hN0, e0]; exact Cl_id _
        · have h0 := eC_ge (e := e) (N := N) (x := x) 0
          rw [Nat.add_zero] at h0
          rw [Nat.one_mul, h0, e0, id_cmp hx7]; exact Cl_in hx7 (Or.inr rfl)
      · rw [hf7 k k1 k2 k4, h6, ms_o _ _ _ k1, h4, ms_o _ _ _ k3]
      · rw [hs7 j j1, h6, ms_ne _ _ j3, g4]
    have hfirst : ∀ (C : Nat) (e' : Nat → Nat) (M' : Mm), WS (fun y => G y ∨ y = x) N (c + 1) e (eX mk c x) g M M' C e' → (e' (1 * N) = x) → ∀ m, m < c + 1 → Ls e' (C * N) (cmp (e' (0 * N)) (eX mk c x m)) := by
      intro C e' M' hw hx1 m hm
      rw [Nat.zero_mul, hw.2.2.2.2.1 0 hN0, e0, id_cmp (hmP m hm)]
      by_cases q : m = c
      · rw [q, eX_at]
        exact ⟨1 * N, by have := in_CN (show 1 < C by have := hw.1; omega) hN0; omega, hx1⟩
      · rw [eX_lt (by omega)]
        obtain ⟨i, hi, q2⟩ := (hl _).mp (hmk m (by omega)).2
        exact ⟨i, by have := in_CN (show 0 < C by have := hw.1; omega) hi; omega, by rw [hw.2.2.2.2.1 i hi]; exact q2⟩
    have hfin : ∀ (C : Nat) (e' : Nat → Nat) (M' : Mm), WS (fun y => G y ∨ y = x) N (c + 1) e (eX mk c x) g M M' C e' → (∀ a m, a < C → m < c + 1 → Ls e' (C * N) (cmp (e' (a * N)) (eX mk c x m))) → post M' := by
      intro C e' M' hw hcl
      exact h M' (ws_end h7 hG hl e0 hN0 (by omega) hp2' hw hSP (fun y hy => Or.inl hy) hSm hmS hcl) hw.2.2.2.2.2.2.2.1 hw.2.2.2.2.2.2.2.2
    have hNC : ∀ (C : Nat) (e' : Nat → Nat) (M' : Mm), WS (fun y => G y ∨ y = x) N (c + 1) e (eX mk c x) g M M' C e' → C * N ≤ 5040 := fun C e' M' hw => Ls_le (by decide) (Nat.le_refl 7) hw.2.1.2.2.1 hw.2.1.2.2.2.1
    refine ⟨fun t q3 M5 => ∃ (q C : Nat) (e' : Nat → Nat), 1 ≤ q ∧ q ≤ C ∧ q3 = (q : Int) ∧ t = 5041 - q ∧ WS (fun y => G y ∨ y = x) N (c + 1) e (eX mk c x) g M M5 C e' ∧ e' (1 * N) = x ∧ (∀ a m, a < q → m < c + 1 → Ls e' (C * N) (cmp (e' (a * N)) (eX mk c x m))), ⟨5040, 1, 2, eC e N x, by omega, by omega, rfl, rfl, w0, ?_, ?_⟩, ?_⟩
    · have h0 := eC_ge (e := e) (N := N) (x := x) 0
      rw [Nat.add_zero] at h0
      rw [Nat.one_mul, h0, e0, id_cmp hx7]
    · intro a m ha hm
      have : a = 0 := by omega
      subst this
      refine hfirst 2 _ M7 w0 ?_ m hm
      have h0 := eC_ge (e := e) (N := N) (x := x) 0
      rw [Nat.add_zero] at h0
      rw [Nat.one_mul, h0, e0, id_cmp hx7]
    rintro t q3 M5 ⟨q, C, e', hq1, hqC, rfl, rfl, hw, hx1, hpr⟩
    have hCN := hNC C e' M5 hw
    have hC2 : C ≤ C * N := Nat.le_mul_of_pos_right C hN0
    refine ⟨fun a => ?_, fun a => ?_⟩
    · exact hfin C e' M5 hw (fun a m ha hm => hpr a m (by omega) hm)
    · have hqN : q * N ≤ C * N := Nat.mul_le_mul_right N hqC
      rw [show (q : Int) * (N : Int) = ((q * N : Nat) : Int) from rfl, hw.2.1.1]
      refine ⟨⟨by omega, by omega⟩, fun b => ?_, fun b => ?_⟩
      · have : C ≤ q := by
          by_cases hh : C ≤ q
          · exact hh
          · have := in_CN (show q < C by omega) hN0; omega
        exact hfin C e' M5 hw (fun a m ha hm => hpr a m (by omega) hm)
      · have hqC2 : q < C := by
          by_cases hh : q < C
          · exact hh
          · have : C = q := by omega
            subst this; omega
        refine ⟨fun t m4 M6 => ∃ (m C : Nat) (e' : Nat → Nat), m ≤ c + 1 ∧ t = c + 1 - m ∧ m4 = (m : Int) ∧ q < C ∧ WS (fun y => G y ∨ y = x) N (c + 1) e (eX mk c x) g M M6 C e' ∧ e' (1 * N) = x ∧ (∀ a m, a < q → m < c + 1 → Ls e' (C * N) (cmp (e' (a * N)) (eX mk c x m))) ∧ (∀ m', m' < m → Ls e' (C * N) (cmp (e' (q * N)) (eX mk c x m'))), ⟨c + 1, 0, C, e', by omega, rfl, rfl, hqC2, hw, hx1, hpr, fun m' hm' => by omega⟩, ?_⟩
        rintro t m4 M6 ⟨m, C, e', hm, rfl, rfl, hqC3, hw, hx1, hpr, hpm⟩
        have hCN := hNC C e' M6 hw
        rw [hw.2.2.1]
        refine ⟨fun d => ?_, fun d => ?_⟩
        · refine ⟨⟨by omega, by omega⟩, ?_⟩
          intro v hv
          refine ⟨5041 - (q + 1), by omega, q + 1, C, e', by omega, by omega, by omega, rfl, hw, hx1, fun a m' ha hm' => ?_⟩
          by_cases hh : a = q
          · subst hh; exact hpm m' (by omega)
          · exact hpr a m' (by omega) hm'
        · have hqq := in_CN hqC3 hN0
          refine ⟨⟨by omega, by omega⟩, ⟨by omega, by omega⟩, ?_⟩
          intro z16 hz16
          rw [Int.toNat_natCast, hw.2.1.2.1 _ (by omega)] at hz16
          refine ⟨⟨by omega, by omega⟩, ?_⟩
          intro z18 hz18
          rw [Int.toNat_natCast, hw.2.2.2.1 m (by omega)] at hz18
          rw [hz16, hz18]
          have hP1 : isP 7 (e' (q * N)) := hw.2.1.2.2.1 _ (by omega)
          have hP2 := hmP m (by omega)
          refine sp_oto hP1 hP2.1 ?_
          have hPn : isP 7 (cmp (e' (q * N)) (eX mk c x m)) := isP_cmp (Nat.le_refl 7) hP1 hP2
          have hCn : Cl (fun y => G y ∨ y = x) (cmp (e' (q * N)) (eX mk c x m)) := Cl_step (hw.2.2.2.2.2.2.1 q hqC3) (hmS m (by omega))
          refine sp_has (U := Ls e' (C * N)) hPn hw.2.1.2.2.2.2 (fun y hy => by obtain ⟨i, hi, rfl⟩ := hy; exact hw.2.1.2.2.1 i hi) (fun hin2 => ?_) (fun hin2 => ?_)
          · intro K hK
            refine ⟨fun _ => hK _ ⟨⟨by omega, by omega⟩, ?_⟩, fun q => absurd q (by decide)⟩
            intro v hv
            refine ⟨c + 1 - (m + 1), by omega, m + 1, C, e', by omega, rfl, by omega, hqC3, hw, hx1, hpr, fun m' hm' => ?_⟩
            by_cases hh : m' = m
            · subst hh; exact hin2
            · exact hpm m' (by omega)
          · intro K hK
            refine ⟨fun q => absurd rfl q, fun _ => ?_⟩
            refine ws_more h7 hG hl e0 hN0 hw hPn hCn hin2 ?_
            intro M8 hw8
            have hold : ∀ a, a < C → eC e' (C * N) (cmp (e' (q * N)) (eX mk c x m)) (a * N) = e' (a * N) := fun a ha => eC_lt (by have := in_CN ha hN0; omega)
            have hup : ∀ y, Ls e' (C * N) y → Ls (eC e' (C * N) (cmp (e' (q * N)) (eX mk c x m))) ((C + 1) * N) y := by
              rintro y ⟨i, hi, rfl⟩
              exact ⟨i, by rw [Nat.add_mul]; omega, eC_lt hi⟩
            refine hK _ ⟨⟨by omega, by omega⟩, ?_⟩
            intro v hv
            refine ⟨c + 1 - (m + 1), by omega, m + 1, C + 1, _, by omega, rfl, by omega, by omega, hw8, ?_, fun a m' ha hm' => ?_, fun m' hm' => ?_⟩
            · rw [hold 1 (by have := hw.1; omega)]; exact hx1
            · rw [hold a (by omega)]; exact hup _ (hpr a m' ha hm')
            · rw [hold q hqC3]
              by_cases hh : m' = m
              · subst hh
                refine ⟨C * N, by rw [Nat.add_mul]; omega, ?_⟩
                have h0 := eC_ge (e := e') (N := C * N) (x := cmp (e' (q * N)) (eX mk c x m')) 0
                rw [Nat.add_zero] at h0
                rw [h0, hw.2.2.2.2.1 0 hN0, e0, id_cmp hPn]
              · exact hup _ (hpm m' (by omega))
