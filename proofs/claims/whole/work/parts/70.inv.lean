/-! ===== what holds of the two together, after every call ===== -/
def SR (c : Cfg) (f : Nat → Int) : Prop := f 0 = (c.1 : Int) ∧ f 1 = (c.2.1 : Int) ∧ (∀ j, j < 4 → f (2 + j) = (c.2.2.1 j : Int)) ∧ IS c.1 c.2.2.2 f
def CL (c : Cfg) (M : Mm) : Prop := SC c 12 M ∧ (¬ M 4 3 = 0 → YT c.1 c.2.2.2 M) ∧ (¬ M 7 8 = 0 → PTC c M)
def ML (c : Cfg) (M : Mm) : Prop := SR c (M 31) ∧ TL c.1 c.2.2.2 M
def PAD (M : Mm) : Prop := ∃ L : Nat, L ≤ 7 ∧ M 2 1 = (L : Int) ∧ M 30 4 = (L : Int) ∧ (∀ j, j < 7 → M 3 j = M 34 j ∧ 0 ≤ M 34 j ∧ M 34 j ≤ 1000)
def IMk (k : Nat) (M : Mm) : Prop := ∃ c : Cfg, VC c ∧ SC c (18 + 6 * k) M ∧ SR c (fun i => M 32 (5046 * k + i))
def IMG (M : Mm) : Prop := ∃ b0 b1 : Nat, b0 ≤ 1 ∧ b1 ≤ 1 ∧ M 0 2 = ((b0 + 2 * b1 : Nat) : Int) ∧ M 33 0 = (b0 : Int) ∧ M 33 1 = (b1 : Int) ∧ (b0 = 1 → IMk 0 M) ∧ (b1 = 1 → IMk 1 M)
def Inv (M : Mm) : Prop := ∃ c : Cfg, VC c ∧ CL c M ∧ ML c M ∧ PAD M ∧ IMG M
theorem YT.cong {n : Nat} {G : Nat → Prop} {M M' : Mm} (h : YT n G M) (h2 : M' 4 2 = M 4 2) (h5 : M' 5 = M 5) (h6 : M' 6 = M 6) : YT n G M' := by
  unfold YT YR
  rw [h2, h5, h6]; exact h
theorem CL.cong {c : Cfg} {M M' : Mm} (h : CL c M) (hk : ∀ k, 4 ≤ k → k < 18 → M' k = M k) : CL c M' := by
  refine ⟨h.1.cong (fun i hi => hk _ (by omega) (by omega)), fun q => ?_, fun q => ?_⟩
  · rw [hk 4 (by omega) (by omega)] at q
    exact (h.2.1 q).cong (by rw [hk 4 (by omega) (by omega)]) (hk 5 (by omega) (by omega)) (hk 6 (by omega) (by omega))
  · rw [hk 7 (by omega) (by omega)] at q
    exact (h.2.2 q).cong (fun j _ _ => by rw [hk 7 (by omega) (by omega)]) (hk 8 (by omega) (by omega)) (hk 9 (by omega) (by omega)) (hk 10 (by omega) (by omega)) (hk 11 (by omega) (by omega))
theorem ML.cong {c : Cfg} {M M' : Mm} (h : ML c M) (h31 : M' 31 = M 31) (h12 : M' 30 12 = M 30 12) (h39 : M' 39 = M 39) : ML c M' := ⟨by rw [h31]; exact h.1, h.2.cong h12 h39⟩
theorem PAD.cong {M M' : Mm} (h : PAD M) (h2 : M' 2 1 = M 2 1) (h3 : M' 3 = M 3) (h4 : M' 30 4 = M 30 4) (h34 : M' 34 = M 34) : PAD M' := by
  unfold PAD
  rw [h2, h3, h4, h34]; exact h
theorem IMk.cong {k : Nat} {M M' : Mm} (h : IMk k M) (hk : k ≤ 1) (hc : ∀ q, 18 ≤ q → q < 30 → M' q = M q) (h32 : M' 32 = M 32) : IMk k M' := by
  obtain ⟨c, a, b, d⟩ := h
  exact ⟨c, a, b.cong (fun i hi => hc _ (by omega) (by omega)), by rw [h32]; exact d⟩
theorem IMG.cong {M M' : Mm} (h : IMG M) (h0 : M' 0 2 = M 0 2) (hc : ∀ q, 18 ≤ q → q < 30 → M' q = M q) (h32 : M' 32 = M 32) (h33 : M' 33 = M 33) : IMG M' := by
  obtain ⟨b0, b1, a1, a2, a3, a4, a5, a6, a7⟩ := h
  exact ⟨b0, b1, a1, a2, by rw [h0]; exact a3, by rw [h33]; exact a4, by rw [h33]; exact a5, fun q => (a6 q).cong (by omega) hc h32, fun q => (a7 q).cong (by omega) hc h32⟩
theorem CL_forget {c : Cfg} {M M1 M2 : Mm} (h : SC c 12 M) (e1 : M1 = ms M 4 3 0) (e2 : M2 = ms M1 7 8 0) : CL c M2 ∧ ∀ k, k ≠ 4 → k ≠ 7 → M2 k = M k := by
  have hk : ∀ k, k ≠ 4 → k ≠ 7 → M2 k = M k := fun k k4 k7 => by rw [e2, ms_o _ _ _ k7, e1, ms_o _ _ _ k4]
  refine ⟨⟨h.cong (fun i hi => hk _ (by omega) (by omega)), fun q => absurd ?_ q, fun q => absurd ?_ q⟩, hk⟩
  · rw [e2, ms_o _ _ _ (by omega), e1, ms_self]
  · rw [e2, ms_self]
theorem keep {M M5 M8 : Mm} (h1 : ∀ k, k ≤ 3 ∨ 18 ≤ k → M5 k = M k) (h2 : ∀ k, k < 30 → M8 k = M5 k) (h32 : M8 32 = M5 32) (h33 : M8 33 = M5 33) (h34 : M8 34 = M5 34) (h4 : M8 30 4 = M5 30 4) (hP : PAD M) (hI : IMG M) : PAD M8 ∧ IMG M8 :=
  ⟨hP.cong (by rw [h2 2 (by omega), h1 2 (by omega)]) (by rw [h2 3 (by omega), h1 3 (by omega)]) (by rw [h4, h1 30 (by omega)]) (by rw [h34, h1 34 (by omega)]), hI.cong (by rw [h2 0 (by omega), h1 0 (by omega)]) (fun q a b => by rw [h2 q b, h1 q (by omega)]) (by rw [h32, h1 32 (by omega)]) (by rw [h33, h1 33 (by omega)])⟩
theorem Cl_nil {mk : Nat → Nat} (x : Nat) : Cl (Ls mk 0) x ↔ x = idc :=
  ⟨fun h => Cl_ind (P := fun x => x = idc) rfl (fun a b _ ⟨i, hi, _⟩ => by omega) h, fun h => by rw [h]; exact Cl_id _⟩
theorem Cl_mono {S T : Nat → Prop} (h : ∀ y, S y → T y) {x : Nat} (hx : Cl S x) : Cl T x := by
  obtain ⟨l, hl, e⟩ := hx
  exact ⟨l, fun y hy => h y (hl y hy), e⟩
theorem TL.congr {n : Nat} {G G' : Nat → Prop} {M : Mm} (h : TL n G M) (e : ∀ x, G' x ↔ G x) : TL n G' M := by
  have : G' = G := funext fun x => propext (e x)
  rw [this]; exact h
theorem size_eq {c : Cfg} {M M' : Mm} (h : SC c 12 M) (h2 : TL c.1 c.2.2.2 M') : M 14 1 = M' 30 12 := by
  obtain ⟨_, _, _, N, cc, e, mk, hL, o3, c12, p2, e0, hl, hmk, hgen⟩ := h
  obtain ⟨N', τ, hT⟩ := h2
  have := (two_lists hL.2.2.2.1 (TL.inj hT) (fun x => (hl x).symm.trans (hT.2.2.1 x))).1
  have e1 : M 14 1 = (N : Int) := hL.1
  rw [e1, hT.1, this]
theorem in01 {r : Int} (h : r = 0 ∨ r = 1) : r = 0 ∨ r = 1 := h
theorem ok_points : op_points Inv := by
  intro M hM ⟨c, hV, hC, hL, hP, hI⟩ a1 _
  unfold wp_T_points wp_M_points
  by_cases q : 1 ≤ a1 ∧ a1 ≤ 7
  · refine wt_in_1 q ⟨fun _ => ?_, fun q2 => absurd q2 (by decide)⟩
    obtain ⟨a, ha⟩ : ∃ a : Nat, a1 = (a : Int) := ⟨a1.toNat, by omega⟩
    obtain ⟨v1, v2, v3, v4, v5, hG⟩ := hV
    obtain ⟨t0, t1, t2, hGC⟩ := hC.1
    intro v hv M2 e2
    refine sp_makeStill (n := a) ?_
    intro M3 g3 f3 j3
    unfold wp_T_forgetGroup
    intro M4 e4 M5 e5
    have k3 : ∀ k, k ≠ 12 → k ≠ 14 → k ≠ 15 → k ≠ 17 → M3 k = M k := fun k a b c d => by rw [f3 k (by omega) (by omega) (by omega), e2, ms_o _ _ _ a]
    have m12 : M3 12 = M2 12 := f3 12 (by omega) (by omega) (by omega)
    have hS3 : SC (a, c.2.1, c.2.2.1, fun x => x = idc) 12 M3 := ⟨by rw [m12, e2, ms_self]; exact ha, by rw [m12, e2, ms_ne _ _ (by omega)]; exact t1, fun j hj => by rw [k3 13 (by omega) (by omega) (by omega) (by omega)]; exact t2 j hj, g3⟩
    obtain ⟨hC5, k5⟩ := CL_forget hS3 e4 e5
    have k5' : ∀ k, k ≤ 3 ∨ 18 ≤ k → M5 k = M k := fun k hk => by rw [k5 k (by omega) (by omega), k3 k (by omega) (by omega) (by omega) (by omega)]
    refine wp_in_1 q ⟨fun _ => ?_, fun q2 => absurd q2 (by decide)⟩
    refine sp_M_many (n := c.1) (by rw [k5' 31 (by omega)]; exact hL.1.1) ?_
    refine ⟨⟨by decide, by decide⟩, ?_⟩
    intro M6 e6
    rw [Int.toNat_zero] at e6
    unfold wp_M_beginGroup
    intro M7 e7
    have k7 : ∀ k, k ≠ 30 → k ≠ 31 → M7 k = M5 k := fun k a b => by rw [e7, ms_o _ _ _ a, e6, ms_o _ _ _ b]
    have m31 : M7 31 = M6 31 := by rw [e7, ms_o _ _ _ (by omega)]
    refine sp_M_closeGroup (n := a) (c := 0) (mk := fun _ => 0) (by omega) (by omega) (by rw [m31, e6, ms_self]; exact ha) ⟨by rw [e7, ms_self]; rfl, by omega, fun m hm => by omega⟩ ?_
    intro M8 i8 t8 m8 f8
    have j8 := f8.J
    obtain ⟨p8, q8⟩ := keep (M8 := M8) k5' (fun k hk => by rw [j8.1 k hk, k7 k (by omega) (by omega)]) (by rw [j8.2.1, k7 32 (by omega) (by omega)]) (by rw [j8.2.2.1, k7 33 (by omega) (by omega)]) (by rw [j8.2.2.2.1, k7 34 (by omega) (by omega)]) (by rw [j8.2.2.2.2.1, e7, ms_ne _ _ (by omega), e6, ms_o _ _ _ (by omega)]) hP hI
    refine ⟨by rw [hv]; exact t0, (a, c.2.1, c.2.2.1, fun x => x = idc), ⟨by show 1 ≤ a; omega, by show a ≤ 7; omega, v3, v4, v5, ⟨fun t ht => by rw [show t = idc from ht]; exact isP_id (show a ≤ 7 by omega), rfl, fun x y hx hy => by rw [show x = idc from hx, show y = idc from hy]; exact id_cmp (isP_id (Nat.le_refl 7))⟩⟩, hC5.cong (fun k _ hk => by rw [j8.1 k (by omega), k7 k (by omega) (by omega)]), ⟨⟨?_, ?_, fun j hj => ?_, i8.congr (fun x => (Cl_nil x).symm)⟩, t8.congr (fun x => (Cl_nil x).symm)⟩, p8, q8⟩
    · rw [f8.2.2 0 (by omega), m31, e6, ms_self]; exact ha
    · rw [f8.2.2 1 (by omega), m31, e6, ms_ne _ _ (by omega), k5' 31 (by omega)]; exact hL.1.2.1
    · rw [f8.2.2 (2 + j) (by omega), m31, e6, ms_ne _ _ (by omega), k5' 31 (by omega)]; exact hL.1.2.2.1 j hj
  · exact wt_in_0 q ⟨fun q2 => absurd rfl q2, fun _ => wp_in_0 q ⟨fun q2 => absurd rfl q2, fun _ => ⟨rfl, c, hV, hC, hL, hP, hI⟩⟩⟩
theorem ok_say : op_say Inv := by
  intro M hM ⟨c, hV, hC, hL, ⟨L, hL7, p2, p4, ps⟩, hI⟩ a1 _
  unfold wp_T_say wp_M_say
  by_cases q : 33 ≤ a1 ∧ a1 ≤ 126
  · refine wt_in_1 q ⟨fun _ => ?_, fun q2 => absurd q2 (by decide)⟩
    rw [p2]
    refine ⟨fun q2 => ⟨⟨by omega, by omega⟩, ?_⟩, fun q2 => ?_⟩
    · intro M4 e4
      rw [Int.toNat_natCast] at e4
      have m2 : M4 2 = M 2 := by rw [e4, ms_o _ _ _ (by omega)]
      rw [m2, p2]
      refine ⟨⟨by omega, by omega⟩, ?_⟩
      intro M6 e6
      have k6 : ∀ k, k ≠ 2 → k ≠ 3 → M6 k = M k := fun k a b => by rw [e6, ms_o _ _ _ a, e4, ms_o _ _ _ b]
      refine wp_in_1 q ⟨fun _ => ?_, fun q3 => absurd q3 (by decide)⟩
      rw [k6 30 (by omega) (by omega), p4]
      refine ⟨fun q3 => ⟨⟨by omega, by omega⟩, ?_⟩, fun q3 => absurd q3 (by omega)⟩
      intro M7 e7
      rw [Int.toNat_natCast] at e7
      have m30 : M7 30 = M 30 := by rw [e7, ms_o _ _ _ (by omega)]; exact k6 30 (by omega) (by omega)
      rw [m30, p4]
      refine ⟨⟨by omega, by omega⟩, ?_⟩
      intro M8 e8
      have k8 : ∀ k, k ≠ 2 → k ≠ 3 → k ≠ 30 → k ≠ 34 → M8 k = M k := fun k a b c d => by rw [e8, ms_o _ _ _ c, e7, ms_o _ _ _ d]; exact k6 k a b
      refine ⟨by rw [e6, ms_self, e8, ms_self], c, hV, hC.cong (fun k a b => k8 k (by omega) (by omega) (by omega) (by omega)), hL.cong (k8 31 (by omega) (by omega) (by omega) (by omega)) (by rw [e8, ms_ne _ _ (by omega), m30]) (k8 39 (by omega) (by omega) (by omega) (by omega)), ⟨L + 1, by omega, ?_, ?_, fun j hj => ?_⟩, hI.cong (by rw [k8 0 (by omega) (by omega) (by omega) (by omega)]) (fun q a b => k8 q (by omega) (by omega) (by omega) (by omega)) (k8 32 (by omega) (by omega) (by omega) (by omega)) (k8 33 (by omega) (by omega) (by omega) (by omega))⟩
      · rw [e8, ms_o _ _ _ (by omega), e7, ms_o _ _ _ (by omega), e6, ms_self]; omega
      · rw [e8, ms_self]; omega
      · have a3 : M8 3 j = M4 3 j := by rw [e8, ms_o _ _ _ (by omega), e7, ms_o _ _ _ (by omega), e6, ms_o _ _ _ (by omega)]
        have a34 : M8 34 j = M7 34 j := by rw [e8, ms_o _ _ _ (by omega)]
        rw [a3, a34, e4, e7]
        by_cases qj : j = L
        · rw [qj, ms_self, ms_self]; exact ⟨rfl, by omega, by omega⟩
        · rw [ms_ne _ _ qj, ms_ne _ _ qj, k6 34 (by omega) (by omega)]; exact ps j hj
    · refine wp_in_1 q ⟨fun _ => ?_, fun q3 => absurd q3 (by decide)⟩
      rw [p4]
      exact ⟨fun q3 => absurd (by omega) q3, fun _ => ⟨rfl, c, hV, hC, hL, ⟨L, hL7, p2, p4, ps⟩, hI⟩⟩
  · exact wt_in_0 q ⟨fun q2 => absurd rfl q2, fun _ => wp_in_0 q ⟨fun q2 => absurd rfl q2, fun _ => ⟨rfl, c, hV, hC, hL, ⟨L, hL7, p2, p4, ps⟩, hI⟩⟩⟩
theorem ok_wipe : op_wipe Inv := by
  intro M hM ⟨c, hV, hC, hL, ⟨L, hL7, p2, p4, ps⟩, hI⟩
  unfold wp_T_wipe wp_M_wipe
  intro v hv M1 e1 v2 hv2 M2 e2
  have k : ∀ k, k ≠ 2 → k ≠ 30 → M2 k = M k := fun k a b => by rw [e2, ms_o _ _ _ b, e1, ms_o _ _ _ a]
  have m30 : M1 30 = M 30 := by rw [e1, ms_o _ _ _ (by omega)]
  refine ⟨by rw [hv, hv2, m30, p2, p4], c, hV, hC.cong (fun q a b => k q (by omega) (by omega)), hL.cong (k 31 (by omega) (by omega)) (by rw [e2, ms_ne _ _ (by omega), m30]) (k 39 (by omega) (by omega)), ⟨0, by omega, ?_, ?_, fun j hj => ?_⟩, hI.cong (by rw [k 0 (by omega) (by omega)]) (fun q a b => k q (by omega) (by omega)) (k 32 (by omega) (by omega)) (k 33 (by omega) (by omega))⟩
  · rw [e2, ms_o _ _ _ (by omega), e1, ms_self]; rfl
  · rw [e2, ms_self]; rfl
  · rw [k 3 (by omega) (by omega), k 34 (by omega) (by omega)]; exact ps j hj
theorem ok_sorts : op_sorts Inv := by
  intro M hM ⟨c, hV, hC, hL, hP, hI⟩ a1 _
  unfold wp_T_sorts wp_M_sorts
  by_cases q : 1 ≤ a1 ∧ a1 ≤ 4
  · refine wt_in_1 q ⟨fun _ => ?_, fun q2 => absurd q2 (by decide)⟩
    obtain ⟨a, ha⟩ : ∃ a : Nat, a1 = (a : Int) := ⟨a1.toNat, by omega⟩
    obtain ⟨v1, v2, v3, v4, v5, hG⟩ := hV
    obtain ⟨t0, t1, t2, hGC⟩ := hC.1
    intro v hv M2 e2 M3 e3
    have k3 : ∀ k, k ≠ 7 → k ≠ 12 → M3 k = M k := fun k a b => by rw [e3, ms_o _ _ _ a, e2, ms_o _ _ _ b]
    refine wp_in_1 q ⟨fun _ => ?_, fun q2 => absurd q2 (by decide)⟩
    refine ⟨⟨by decide, by decide⟩, ?_⟩
    intro z3 hz3
    rw [show ((1 : Int)).toNat = 1 from rfl, k3 31 (by omega) (by omega), hL.1.2.1] at hz3
    refine ⟨⟨by decide, by decide⟩, ?_⟩
    intro M5 e5
    rw [show ((1 : Int)).toNat = 1 from rfl] at e5
    have k5 : ∀ k, k ≠ 7 → k ≠ 12 → k ≠ 31 → M5 k = M k := fun k a b d => by rw [e5, ms_o _ _ _ d]; exact k3 k a b
    have m12 : M5 12 = M2 12 := by rw [e5, ms_o _ _ _ (by omega), e3, ms_o _ _ _ (by omega)]
    have m31 : M3 31 = M 31 := k3 31 (by omega) (by omega)
    refine ⟨by rw [hv, hz3]; exact t1, (c.1, a, c.2.2.1, c.2.2.2), ⟨v1, v2, by show 1 ≤ a; omega, by show a ≤ 4; omega, v5, hG⟩, ⟨⟨?_, ?_, fun j hj => ?_, ?_⟩, fun q2 => ?_, fun q2 => absurd ?_ q2⟩, ⟨⟨?_, ?_, fun j hj => ?_, fun r hr => ?_⟩, hL.2.cong (by rw [k5 30 (by omega) (by omega) (by omega)]) (k5 39 (by omega) (by omega) (by omega))⟩, hP.cong (by rw [k5 2 (by omega) (by omega) (by omega)]) (k5 3 (by omega) (by omega) (by omega)) (by rw [k5 30 (by omega) (by omega) (by omega)]) (k5 34 (by omega) (by omega) (by omega)), hI.cong (by rw [k5 0 (by omega) (by omega) (by omega)]) (fun q a b => k5 q (by omega) (by omega) (by omega)) (k5 32 (by omega) (by omega) (by omega)) (k5 33 (by omega) (by omega) (by omega))⟩
    · rw [m12, e2, ms_ne _ _ (by omega)]; exact t0
    · rw [m12, e2, ms_self]; exact ha
    · rw [k5 13 (by omega) (by omega) (by omega)]; exact t2 j hj
    · unfold GCg
      rw [k5 (12 + 2) (by omega) (by omega) (by omega), k5 (12 + 2 + 1) (by omega) (by omega) (by omega), k5 (12 + 2 + 2) (by omega) (by omega) (by omega), k5 (12 + 2 + 3) (by omega) (by omega) (by omega)]; exact hGC
    · rw [k5 4 (by omega) (by omega) (by omega)] at q2
      exact (hC.2.1 q2).cong (by rw [k5 4 (by omega) (by omega) (by omega)]) (k5 5 (by omega) (by omega) (by omega)) (k5 6 (by omega) (by omega) (by omega))
    · rw [e5, ms_o _ _ _ (by omega), e3, ms_self]
    · rw [e5, ms_ne _ _ (by omega), m31]; exact hL.1.1
    · rw [e5, ms_self]; exact ha
    · rw [e5, ms_ne _ _ (by omega), m31]; exact hL.1.2.2.1 j hj
    · rw [e5, ms_ne _ _ (by omega), m31]; exact hL.1.2.2.2 r hr
  · exact wt_in_0 q ⟨fun q2 => absurd rfl q2, fun _ => wp_in_0 q ⟨fun q2 => absurd rfl q2, fun _ => ⟨rfl, c, hV, hC, hL, hP, hI⟩⟩⟩
theorem ok_weight : op_weight Inv := by
  intro M hM ⟨c, hV, hC, hL, hP, hI⟩ a1 _ a2 _
  unfold wp_T_weight wp_M_weight
  by_cases q : 0 ≤ a1 ∧ a1 ≤ 3
  · refine wt_in_1 q ⟨fun _ => ?_, fun q2 => absurd q2 (by decide)⟩
    by_cases q' : 0 ≤ a2 ∧ a2 ≤ 9
    · refine wt_in_1 q' ⟨fun _ => ?_, fun q2 => absurd q2 (by decide)⟩
      obtain ⟨a, ha⟩ : ∃ a : Nat, a1 = (a : Int) := ⟨a1.toNat, by omega⟩
      obtain ⟨b, hb⟩ : ∃ b : Nat, a2 = (b : Int) := ⟨a2.toNat, by omega⟩
      obtain ⟨v1, v2, v3, v4, v5, hG⟩ := hV
      obtain ⟨t0, t1, t2, hGC⟩ := hC.1
      rw [ha]
      refine ⟨⟨by omega, by omega⟩, ?_⟩
      intro z4 hz4
      rw [Int.toNat_natCast, t2 a (by omega)] at hz4
      refine ⟨⟨by omega, by omega⟩, ?_⟩
      intro M6 e6
      rw [Int.toNat_natCast] at e6
      have k6 : ∀ k, k ≠ 13 → M6 k = M k := fun k a => by rw [e6, ms_o _ _ _ a]
      refine wp_in_1 (by omega) ⟨fun _ => ?_, fun q2 => absurd q2 (by decide)⟩
      refine wp_in_1 q' ⟨fun _ => ?_, fun q2 => absurd q2 (by decide)⟩
      rw [show (2 + (a : Int)).toNat = 2 + a by omega]
      refine ⟨⟨by omega, by omega⟩, ⟨by omega, by omega⟩, ?_⟩
      intro z5 hz5
      rw [k6 31 (by omega), hL.1.2.2.1 a (by omega)] at hz5
      refine ⟨⟨by omega, by omega⟩, ⟨by omega, by omega⟩, ?_⟩
      intro M8 e8
      have k8 : ∀ k, k ≠ 13 → k ≠ 31 → M8 k = M k := fun k a b => by rw [e8, ms_o _ _ _ b]; exact k6 k a
      have m31 : M6 31 = M 31 := k6 31 (by omega)
      have m13 : M8 13 = M6 13 := by rw [e8, ms_o _ _ _ (by omega)]
      refine ⟨by rw [hz4, hz5], (c.1, c.2.1, (fun j => if j = a then b else c.2.2.1 j), c.2.2.2), ⟨v1, v2, v3, v4, fun j hj => ?_, hG⟩, ⟨⟨?_, ?_, fun j hj => ?_, ?_⟩, fun q2 => ?_, fun q2 => ?_⟩, ⟨⟨?_, ?_, fun j hj => ?_, fun r hr => ?_⟩, hL.2.cong (by rw [k8 30 (by omega) (by omega)]) (k8 39 (by omega) (by omega))⟩, hP.cong (by rw [k8 2 (by omega) (by omega)]) (k8 3 (by omega) (by omega)) (by rw [k8 30 (by omega) (by omega)]) (k8 34 (by omega) (by omega)), hI.cong (by rw [k8 0 (by omega) (by omega)]) (fun q a b => k8 q (by omega) (by omega)) (k8 32 (by omega) (by omega)) (k8 33 (by omega) (by omega))⟩
      · show (if j = a then b else c.2.2.1 j) ≤ 9
        by_cases qj : j = a
        · rw [if_pos qj]; omega
        · rw [if_neg qj]; exact v5 j hj
      · rw [k8 12 (by omega) (by omega)]; exact t0
      · rw [k8 12 (by omega) (by omega)]; exact t1
      · show M8 13 j = ((if j = a then b else c.2.2.1 j : Nat) : Int)
        rw [m13, e6]
        by_cases qj : j = a
        · rw [if_pos qj, qj, ms_self]; exact hb
        · rw [if_neg qj, ms_ne _ _ qj]; exact t2 j hj
      · unfold GCg
        rw [k8 (12 + 2) (by omega) (by omega), k8 (12 + 2 + 1) (by omega) (by omega), k8 (12 + 2 + 2) (by omega) (by omega), k8 (12 + 2 + 3) (by omega) (by omega)]; exact hGC
      · rw [k8 4 (by omega) (by omega)] at q2
        exact (hC.2.1 q2).cong (by rw [k8 4 (by omega) (by omega)]) (k8 5 (by omega) (by omega)) (k8 6 (by omega) (by omega))
      · rw [k8 7 (by omega) (by omega)] at q2
        exact PTC.cong (c := c) (hC.2.2 q2) (fun j _ _ => by rw [k8 7 (by omega) (by omega)]) (k8 8 (by omega) (by omega)) (k8 9 (by omega) (by omega)) (k8 10 (by omega) (by omega)) (k8 11 (by omega) (by omega))
      · rw [e8, ms_ne _ _ (by omega), m31]; exact hL.1.1
      · rw [e8, ms_ne _ _ (by omega), m31]; exact hL.1.2.1
      · show M8 31 (2 + j) = ((if j = a then b else c.2.2.1 j : Nat) : Int)
        rw [e8]
        by_cases qj : j = a
        · rw [if_pos qj, qj, ms_self]; exact hb
        · rw [if_neg qj, ms_ne _ _ (by omega), m31]; exact hL.1.2.2.1 j hj
      · rw [e8, ms_ne _ _ (by omega), m31]; exact hL.1.2.2.2 r hr
    · exact wt_in_0 q' ⟨fun q2 => absurd rfl q2, fun _ => wp_in_1 q ⟨fun _ => wp_in_0 q' ⟨fun q2 => absurd rfl q2, fun _ => ⟨rfl, c, hV, hC, hL, hP, hI⟩⟩, fun q2 => absurd q2 (by decide)⟩⟩
  · exact wt_in_0 q ⟨fun q2 => absurd rfl q2, fun _ => wp_in_0 q ⟨fun q2 => absurd rfl q2, fun _ => ⟨rfl, c, hV, hC, hL, hP, hI⟩⟩⟩
theorem ok_count : op_count Inv := by
  intro M hM ⟨c, hV, hC, hL, hP, hI⟩ a1 _
  have hInv : Inv M := ⟨c, hV, hC, hL, hP, hI⟩
  obtain ⟨t0, t1, t2, hGC⟩ := hC.1
  obtain ⟨L, hL7, p2, p4, ps⟩ := hP
  obtain ⟨b0, b1, i1, i2, i3, i4, i5, i6, i7⟩ := hI
  unfold wp_T_count wp_M_count
  have out : (¬ (10 ≤ a1 ∧ a1 ≤ 13)) → ∀ {post : Int → Prop}, ((a1 = 0 → wp_M_many M post) ∧ (a1 = 1 → post (M 30 12)) ∧ (a1 = 2 → post (c.2.1 : Int)) ∧ (a1 = 3 → post (M 30 4)) ∧ (a1 = 4 → post ((b0 + 2 * b1 : Nat) : Int)) ∧ ((a1 < 0 ∨ 4 < a1) → post (-2))) → wp_M_in a1 10 13 (fun (r5 : Int) => (r5 = 0 → (a1 = 0 → wp_M_many M (fun (r61 : Int) => post r61)) ∧
    (a1 = 1 → post (M 30 12)) ∧
    (a1 = 2 → (0 ≤ (1 : Int) ∧ (1 : Int) < 5046) ∧ ∀ z3 : Int, z3 = M 31 ((1 : Int)).toNat → post z3) ∧
    (a1 = 3 → post (M 30 4)) ∧
    (a1 = 4 → (0 ≤ (0 : Int) ∧ (0 : Int) < 2) ∧ ∀ z5 : Int, z5 = M 33 ((0 : Int)).toNat → ∀ K96 : Int → Prop, (∀ (s0_96 : Int), ((0 ≤ (1 : Int) ∧ (1 : Int) < 2) ∧ ∀ z7 : Int, z7 = M 33 ((1 : Int)).toNat → (z7 = 0 → inR (s0_96 + 0) ∧ post (s0_96 + 0)) ∧
          (¬ z7 = 0 → inR (s0_96 + 2) ∧ post (s0_96 + 2))) →
        K96 s0_96) →
      ((z5 = 0 → K96 0) ∧
      (¬ z5 = 0 → K96 1))) ∧
    ((a1 < 0 ∨ 4 < a1) → post (-2))) ∧
  (¬ r5 = 0 → inR (2 + a1) ∧ inR ((2 + a1) - 10) ∧ (0 ≤ ((2 + a1) - 10) ∧ ((2 + a1) - 10) < 5046) ∧ ∀ z15 : Int, z15 = M 31 (((2 + a1) - 10)).toNat → post z15)) := by
    intro hq post ⟨o0, o1, o2, o3, o4, o5⟩
    refine wp_in_0 hq ⟨fun _ => ⟨o0, o1, fun a => ⟨⟨by decide, by decide⟩, fun z hz => ?_⟩, o3, fun a => ⟨⟨by decide, by decide⟩, fun z hz => ?_⟩, o5⟩, fun q2 => absurd rfl q2⟩
    · rw [show ((1 : Int)).toNat = 1 from rfl, hL.1.2.1] at hz
      rw [hz]; exact o2 a
    · rw [Int.toNat_zero, i4] at hz
      have o4' := o4 a
      intro K hK
      have go : ∀ s0 : Int, s0 = (b0 : Int) → K s0 := by
        intro s0 hs0
        refine hK s0 ⟨⟨by decide, by decide⟩, fun z7 hz7 => ?_⟩
        rw [show ((1 : Int)).toNat = 1 from rfl, i5] at hz7
        refine ⟨fun q3 => ⟨⟨by omega, by omega⟩, ?_⟩, fun q3 => ⟨⟨by omega, by omega⟩, ?_⟩⟩
        · rw [show s0 + 0 = ((b0 + 2 * b1 : Nat) : Int) by omega]; exact o4'
        · rw [show s0 + 2 = ((b0 + 2 * b1 : Nat) : Int) by omega]; exact o4'
      exact ⟨fun q3 => go 0 (by omega), fun q3 => go 1 (by omega)⟩
  refine ⟨fun q => ?_, fun q => ?_, fun q => ?_, fun q => ?_, fun q => ?_, fun q => ?_⟩
  · exact out (by omega) ⟨fun _ => sp_M_many hL.1.1 ⟨t0, hInv⟩, fun a => absurd a (by omega), fun a => absurd a (by omega), fun a => absurd a (by omega), fun a => absurd a (by omega), fun a => absurd a (by omega)⟩
  · exact out (by omega) ⟨fun a => absurd a (by omega), fun _ => ⟨size_eq hC.1 hL.2, hInv⟩, fun a => absurd a (by omega), fun a => absurd a (by omega), fun a => absurd a (by omega), fun a => absurd a (by omega)⟩
  · exact out (by omega) ⟨fun a => absurd a (by omega), fun a => absurd a (by omega), fun _ => ⟨t1, hInv⟩, fun a => absurd a (by omega), fun a => absurd a (by omega), fun a => absurd a (by omega)⟩
  · exact out (by omega) ⟨fun a => absurd a (by omega), fun a => absurd a (by omega), fun a => absurd a (by omega), fun _ => ⟨by rw [p2, p4], hInv⟩, fun a => absurd a (by omega), fun a => absurd a (by omega)⟩
  · exact out (by omega) ⟨fun a => absurd a (by omega), fun a => absurd a (by omega), fun a => absurd a (by omega), fun a => absurd a (by omega), fun _ => ⟨i3, hInv⟩, fun a => absurd a (by omega)⟩
  · by_cases q2 : 10 ≤ a1 ∧ a1 ≤ 13
    · refine wt_in_1 q2 ⟨fun a => absurd a (by decide), fun _ => ⟨⟨by omega, by omega⟩, ⟨by omega, by omega⟩, ?_⟩⟩
      intro z4 hz4
      obtain ⟨a, ha⟩ : ∃ a : Nat, a1 = 10 + (a : Int) := ⟨(a1 - 10).toNat, by omega⟩
      rw [show (a1 - 10).toNat = a by omega, t2 a (by omega)] at hz4
      refine wp_in_1 q2 ⟨fun a => absurd a (by decide), fun _ => ⟨⟨by omega, by omega⟩, ⟨by omega, by omega⟩, ⟨by omega, by omega⟩, ?_⟩⟩
      intro z15 hz15
      rw [show (2 + a1 - 10).toNat = 2 + a by omega, hL.1.2.2.1 a (by omega)] at hz15
      exact ⟨by rw [hz4, hz15], hInv⟩
    · exact wt_in_0 q2 ⟨fun _ => out q2 ⟨fun a => absurd a (by omega), fun a => absurd a (by omega), fun a => absurd a (by omega), fun a => absurd a (by omega), fun a => absurd a (by omega), fun _ => ⟨rfl, hInv⟩⟩, fun a => absurd rfl a⟩
