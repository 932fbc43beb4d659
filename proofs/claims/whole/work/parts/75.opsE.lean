/-! ===== of, kinds, by ===== -/
theorem layG {c : Cfg} {M1 : Mm} {pm : Mm → Prop} (hV : VC c) (i1 : Inv M1) (L1 : ML c M1) (h : ∀ (M2 : Mm) (A : Nat) (po lo sz : Nat → Nat), PT (Rel c.1 c.2.1 c.2.2.2) (c.2.1 ^ c.1) A po lo sz → HM c A po lo sz M2 → M2 30 12 = M1 30 12 → pm M2) : wp_M_layPatterns M1 pm := by
  obtain ⟨v1, v2, v3, v4, v5, hG⟩ := id hV
  obtain ⟨N, τ, hT⟩ := L1.2
  refine sp_M_layPatterns v1 v2 v3 v4 hG L1.1.1 L1.1.2.1 hT ?_
  intro M2 A po lo sz hPT hTM w2 f2
  have g : ∀ k, k ≠ 30 → k ≠ 44 → k ≠ 45 → k ≠ 46 → k ≠ 47 → k ≠ 48 → M2 k = M1 k := f2.1
  exact h M2 A po lo sz hPT ⟨i1.scr (fun k hk => g k (by omega) (by omega) (by omega) (by omega) (by omega) (by omega)) (g 31 (by omega) (by omega) (by omega) (by omega) (by omega) (by omega)) (g 32 (by omega) (by omega) (by omega) (by omega) (by omega) (by omega)) (g 33 (by omega) (by omega) (by omega) (by omega) (by omega) (by omega)) (g 34 (by omega) (by omega) (by omega) (by omega) (by omega) (by omega)) (g 39 (by omega) (by omega) (by omega) (by omega) (by omega) (by omega)) (f2.2 4 (by omega) (by omega)) (f2.2 12 (by omega) (by omega)), L1.cong (g 31 (by omega) (by omega) (by omega) (by omega) (by omega) (by omega)) (f2.2 12 (by omega) (by omega)) (g 39 (by omega) (by omega) (by omega) (by omega) (by omega) (by omega)), w2, hTM⟩ (f2.2 12 (by omega) (by omega))
theorem layP {c : Cfg} {M1 : Mm} {pm : Mm → Prop} {A : Nat} {po lo sz : Nat → Nat} (hV : VC c) (i1 : Inv M1) (L1 : ML c M1) (hPT : PT (Rel c.1 c.2.1 c.2.2.2) (c.2.1 ^ c.1) A po lo sz) (h : ∀ M2 : Mm, HM c A po lo sz M2 → M2 30 12 = M1 30 12 → pm M2) : wp_M_layPatterns M1 pm := by
  refine layG hV i1 L1 ?_
  intro M2 A' po' lo' sz' hPT' h2 e12
  obtain ⟨eA, eP, eL⟩ := PT_uniq (Rel_E hV.2.1 hV.2.2.1 hV.2.2.2.2.2) hPT hPT'
  subst eA
  have t := h2.2.2.2
  exact h M2 ⟨h2.1, h2.2.1, h2.2.2.1, t.1, t.2.1, fun x hx => by rw [t.2.2.1 x hx, eP x hx], fun a ha => by rw [(t.2.2.2 a ha).1, (t.2.2.2 a ha).2, (eL a ha).1, (eL a ha).2]; exact ⟨rfl, rfl⟩⟩ e12
theorem numM {c : Cfg} {M : Mm} {a1 : Int} {post : Int → Mm → Prop} (hV : VC c) (hInv : Inv M) (hL : ML c M) (h1 : (0 ≤ a1 ∧ a1 ≤ ((c.2.1 ^ c.1 : Nat) : Int) - 1) → ∀ M1 : Mm, Inv M1 → ML c M1 → M1 30 12 = M 30 12 → post 1 M1) (h0 : ¬ (0 ≤ a1 ∧ a1 ≤ ((c.2.1 ^ c.1 : Nat) : Int) - 1) → ∀ M1 : Mm, Inv M1 → post 0 M1) : wp_M_isNumber a1 M post := by
  obtain ⟨v1, v2, v3, v4, v5, hG⟩ := id hV
  have hQ := sn_le v2 v4
  unfold wp_M_isNumber
  refine sp_M_layWorths v2 v4 hL.1.1 hL.1.2.1 ?_
  intro M1 w1 f1 j1
  have i1 : Inv M1 := hInv.scr (fun k hk => f1 k (by omega) (by omega)) (f1 31 (by omega) (by omega)) (f1 32 (by omega) (by omega)) (f1 33 (by omega) (by omega)) (f1 34 (by omega) (by omega)) (f1 39 (by omega) (by omega)) (j1 4 (by omega)) (j1 12 (by omega))
  have L1 : ML c M1 := hL.cong (f1 31 (by omega) (by omega)) (j1 12 (by omega)) (f1 39 (by omega) (by omega))
  rw [w1.1]
  refine ⟨⟨by omega, by omega⟩, ?_⟩
  by_cases q : 0 ≤ a1 ∧ a1 ≤ ((c.2.1 ^ c.1 : Nat) : Int) - 1
  · exact wp_in_1 q ⟨Or.inr rfl, h1 q M1 i1 L1 (j1 12 (by omega))⟩
  · exact wp_in_0 q ⟨Or.inl rfl, h0 q M1 i1⟩
theorem numT {c : Cfg} {M : Mm} {a1 : Int} {post : Int → Prop} (hV : VC c) (hS : SC c 12 M) (h1 : (0 ≤ a1 ∧ a1 ≤ ((c.2.1 ^ c.1 : Nat) : Int) - 1) → post 1) (h0 : ¬ (0 ≤ a1 ∧ a1 ≤ ((c.2.1 ^ c.1 : Nat) : Int) - 1) → post 0) : wp_T_isNumber a1 M post := by
  obtain ⟨v1, v2, v3, v4, v5, hG⟩ := id hV
  have hQ := sn_le v2 v4
  unfold wp_T_isNumber
  refine sp_colourings (n := c.1) (s := c.2.1) v2 v4 hS.1 hS.2.1 ?_
  refine ⟨⟨by omega, by omega⟩, ?_⟩
  by_cases q : 0 ≤ a1 ∧ a1 ≤ ((c.2.1 ^ c.1 : Nat) : Int) - 1
  · exact wt_in_1 q ⟨Or.inr rfl, h1 q⟩
  · exact wt_in_0 q ⟨Or.inl rfl, h0 q⟩
theorem ok_of : op_of Inv := by
  intro M hM hInv a1 _ a2 _
  obtain ⟨c, hV, hC, hL, hP, hI⟩ := id hInv
  obtain ⟨v1, v2, v3, v4, v5, hG⟩ := id hV
  have hQ := sn_le v2 v4
  unfold wp_T_of
  refine numT hV hC.1 (fun q => ⟨fun a => absurd a (by decide), fun _ => ?_⟩) (fun q => ⟨fun _ => ?_, fun a => absurd rfl a⟩)
  · by_cases q2 : 0 ≤ a2 ∧ a2 ≤ 3
    · refine wt_in_1 q2 ⟨fun _ => ?_, fun a => absurd a (by decide)⟩
      obtain ⟨x, hx⟩ : ∃ x : Nat, a1 = (x : Int) := ⟨a1.toNat, by omega⟩
      have hxQ : x < c.2.1 ^ c.1 := by omega
      rw [hx]
      refine ⟨fun q3 => ?_, fun q3 => ?_⟩
      · refine both hInv hV hC hL hP hI ?_
        intro M1 A po lo sz st i1 s1 L1 hPT hTV lay
        have hpo := (hPT.1 x hxQ).1
        have hszp := (PT_sz (Rel_E v2 v3 hG) hPT hpo).2.1
        have mod : ∀ r1 : Int, (a2 = 0 → r1 = (po x : Int)) → (a2 = 1 → r1 = (lo (po x) : Int)) → (a2 = 2 → ∀ N : Nat, M1 30 12 = (N : Int) → r1 = ((N / sz (po x) : Nat) : Int)) → wp_M_of (x : Int) a2 M1 (fun (r2 : Int) (M2 : Mm) => r1 = r2 ∧ Inv M2) := by
          intro r1 g0 g1 g2
          unfold wp_M_of
          refine numM hV i1 L1 (fun _ M2 i2 L2 e2 => ⟨fun a => absurd a (by decide), fun _ => ?_⟩) (fun a => absurd (by omega) a)
          refine wp_in_1 q2 ⟨fun _ => ?_, fun a => absurd a (by decide)⟩
          refine layP hV i2 L2 hPT ?_
          intro M3 h3 e3
          have t3 := h3.2.2.2
          have hA := t3.2.1
          refine ⟨⟨by omega, by omega⟩, ?_⟩
          intro z6 hz6
          rw [Int.toNat_natCast, t3.2.2.1 x hxQ] at hz6
          rw [hz6, Int.toNat_natCast, (t3.2.2.2 _ hpo).1, (t3.2.2.2 _ hpo).2]
          refine ⟨fun q4 => ⟨fun q5 => ⟨fun q6 => absurd (by omega) q6, fun q6 => ⟨⟨by omega, by omega⟩, fun z hz => ?_⟩⟩, fun q5 => ⟨⟨by omega, by omega⟩, fun z hz => ⟨by rw [hz]; exact g1 q5, h3.1⟩⟩⟩, fun q4 => ⟨g0 q4, h3.1⟩⟩
          obtain ⟨N, τ, hT⟩ := L1.2
          rw [hz, e3, e2, hT.1]
          exact ⟨⟨by omega, by omega⟩, g2 q6 N hT.1, h3.1⟩
        refine sp_P_patternOf hQ hTV hxQ ?_
        refine ⟨fun q4 => ⟨fun q5 => ?_, fun q5 => ?_⟩, fun q4 => mod _ (fun _ => rfl) (fun a => absurd a (by omega)) (fun a => absurd a (by omega))⟩
        · obtain ⟨N, τ, hT⟩ := L1.2
          have hsize := size_eq s1 ⟨N, τ, hT⟩
          rw [hT.1] at hsize
          exact sp_P_keepersOf hQ hTV hxQ hpo hsize (mod _ (fun a => absurd a q4) (fun a => absurd a q5) (fun _ N' hN' => by
            have : N' = N := by rw [hT.1] at hN'; omega
            rw [this]))
        · exact sp_P_leastOf hQ hTV hpo (mod _ (fun a => absurd a q4) (fun _ => rfl) (fun a => absurd a (by omega)))
      · refine sp_mirrored v2 v3 v4 hC.1.1 hC.1.2.1 hxQ ?_
        unfold wp_M_of
        refine numM hV hInv hL (fun _ M2 i2 L2 e2 => ⟨fun a => absurd a (by decide), fun _ => ?_⟩) (fun a => absurd (by omega) a)
        refine wp_in_1 q2 ⟨fun _ => ?_, fun a => absurd a (by decide)⟩
        refine layG hV i2 L2 ?_
        intro M3 A po lo sz hPT h3 e3
        refine ⟨⟨by omega, by omega⟩, ?_⟩
        intro z6 hz6
        exact ⟨fun q4 => ⟨fun q5 => ⟨fun q6 => HM.m hV h3 (fun M' h' => ⟨rfl, h'.1⟩), fun q6 => absurd q6 (by omega)⟩, fun q5 => absurd q5 (by omega)⟩, fun q4 => absurd q4 (by omega)⟩
    · refine wt_in_0 q2 ⟨fun a => absurd rfl a, fun _ => ?_⟩
      unfold wp_M_of
      refine numM hV hInv hL (fun _ M2 i2 L2 e2 => ⟨fun a => absurd a (by decide), fun _ => ?_⟩) (fun a => absurd q a)
      exact wp_in_0 q2 ⟨fun a => absurd rfl a, fun _ => ⟨rfl, i2⟩⟩
  · unfold wp_M_of
    exact numM hV hInv hL (fun a => absurd a q) (fun _ M2 i2 => ⟨fun _ => ⟨rfl, i2⟩, fun a => absurd rfl a⟩)
def prK (c : Cfg) (po lo sz : Nat → Nat) (a1 : Int) (a : Nat) : Bool := if a1 = 0 then decide (¬ po (mirN c.1 c.2.1 (lo a)) = a) else if a1 = 1 then decide (pc7 (clN c.1 c.2.1 (lo a)) = c.2.1) else decide (sz a = 1)
theorem ok_kinds : op_kinds Inv := by
  intro M hM hInv a1 _
  obtain ⟨c, hV, hC, hL, hP, hI⟩ := id hInv
  obtain ⟨v1, v2, v3, v4, v5, hG⟩ := id hV
  have hQ := sn_le v2 v4
  unfold wp_T_kinds
  by_cases q : 0 ≤ a1 ∧ a1 ≤ 3
  · refine wt_in_1 q ⟨fun _ => ?_, fun q2 => absurd q2 (by decide)⟩
    refine both hInv hV hC hL hP hI ?_
    intro M1 A po lo sz st i1 s1 L1 hPT hTV lay
    have hA := hTV.2.2.2.2.1
    have hsz : ∀ a, a < A → sz a ≤ c.2.1 ^ c.1 := fun a ha => (PT_sz (Rel_E v2 v3 hG) hPT ha).2.2
    have mod : ∀ r1 : Int, (¬ a1 = 3 → r1 = (ctB (prK c po lo sz a1) A : Int)) → (a1 = 3 → r1 = (mxB sz A : Int)) → wp_M_kinds a1 M1 (fun (r2 : Int) (M2 : Mm) => r1 = r2 ∧ Inv M2) := by
      intro r1 g1 g2
      unfold wp_M_kinds
      refine wp_in_1 q ⟨fun _ => ?_, fun q2 => absurd q2 (by decide)⟩
      refine layP hV i1 L1 hPT ?_
      intro M2 h2 _
      refine ⟨fun t x y z M5 => ∃ i : Nat, i ≤ A ∧ t = A - i ∧ z = (i : Int) ∧ x = (ctB (prK c po lo sz a1) i : Int) ∧ y = (mxB sz i : Int) ∧ HM c A po lo sz M5, ⟨A, 0, by omega, rfl, rfl, rfl, rfl, h2⟩, ?_⟩
      rintro t x y z M5 ⟨i, hi, rfl, rfl, rfl, rfl, h5⟩
      rw [h5.2.2.2.1]
      have hcb := ctB_le (prK c po lo sz a1) i
      refine ⟨fun q2 => ?_, fun q2 => ?_⟩
      · have : i = A := by omega
        subst this
        exact ⟨fun q3 => ⟨g1 q3, h5.1⟩, fun q3 => ⟨g2 q3, h5.1⟩⟩
      · have hiA : i < A := by omega
        have go : ∀ (r37 : Int) (M6 : Mm), HM c A po lo sz M6 → (r37 = 0 ∧ prK c po lo sz a1 i = false) ∨ (r37 = 1 ∧ prK c po lo sz a1 i = true) → (∀ K48 : Int → Prop, (∀ (s1_48 : Int), (inR ((ctB (prK c po lo sz a1) i : Int) + s1_48) ∧ ∀ v2_49 : Int, v2_49 = ((ctB (prK c po lo sz a1) i : Int) + s1_48) → (0 ≤ (i : Int) ∧ (i : Int) < 16384) ∧ ∀ z8 : Int, z8 = M6 47 ((i : Int)).toNat → ∀ K72 : Int → Prop, (∀ (s0_72 : Int), (inR ((i : Int) + 1) ∧ ∀ v4_73 : Int, v4_73 = (i : Int) + 1 → ∃ k_9, k_9 < A - i ∧ ∃ i : Nat, i ≤ A ∧ k_9 = A - i ∧ v4_73 = (i : Int) ∧ v2_49 = (ctB (prK c po lo sz a1) i : Int) ∧ s0_72 = (mxB sz i : Int) ∧ HM c A po lo sz M6) →
                K72 s0_72) →
              ((z8 ≤ (mxB sz i : Int) → K72 (mxB sz i : Int)) ∧
              (¬ z8 ≤ (mxB sz i : Int) → (0 ≤ (i : Int) ∧ (i : Int) < 16384) ∧ ∀ z13 : Int, z13 = M6 47 ((i : Int)).toNat → K72 z13))) →
            K48 s1_48) →
          ((r37 = 0 → K48 0) ∧
          (¬ r37 = 0 → K48 1))) := by
          intro r37 M6 h6 hr K hK
          have t6 := (h6.2.2.2.2.2.2 i hiA).2
          have nxt : ∀ b : Bool, prK c po lo sz a1 i = b → K (if b then 1 else 0) := by
            intro b hb
            refine hK _ ⟨⟨by split <;> omega, by split <;> omega⟩, ?_⟩
            intro v2 hv2
            have hv2' : v2 = (ctB (prK c po lo sz a1) (i + 1) : Int) := by
              cases b with
              | true => rw [hv2, ctB_if.1 hb]; rfl
              | false => rw [hv2, ctB_if.2 hb, if_neg (by decide)]; omega
            refine ⟨⟨by omega, by omega⟩, ?_⟩
            intro z8 hz8
            rw [Int.toNat_natCast, t6] at hz8
            intro K2 hK2
            refine ⟨fun q3 => hK2 _ ?_, fun q3 => ⟨⟨by omega, by omega⟩, fun z13 hz13 => hK2 _ ?_⟩⟩
            · refine ⟨⟨by omega, by omega⟩, ?_⟩
              intro w hw
              exact ⟨A - (i + 1), by omega, i + 1, by omega, rfl, by omega, hv2', by rw [mxB, if_neg (by omega)], h6⟩
            · rw [Int.toNat_natCast, t6] at hz13
              refine ⟨⟨by omega, by omega⟩, ?_⟩
              intro w hw
              exact ⟨A - (i + 1), by omega, i + 1, by omega, rfl, by omega, hv2', by rw [mxB, if_pos (by omega)]; exact hz13, h6⟩
          rcases hr with ⟨a, b⟩ | ⟨a, b⟩
          · exact ⟨fun _ => nxt false b, fun q3 => absurd a q3⟩
          · exact ⟨fun q3 => absurd (a.symm.trans q3) (by decide), fun _ => nxt true b⟩
        unfold wp_M_isOf
        refine ⟨fun q3 => ?_, fun q3 => ⟨⟨by omega, by omega⟩, ?_⟩, fun q3 => ⟨⟨by omega, by omega⟩, ?_⟩⟩
        · refine HM.t hV h5 hiA ?_
          intro M6 h6
          refine ⟨fun q4 => go _ M6 h6 (Or.inl ⟨rfl, ?_⟩), fun q4 => go _ M6 h6 (Or.inr ⟨rfl, ?_⟩)⟩
          · unfold prK; rw [if_pos q3]; exact decide_eq_false (by omega)
          · unfold prK; rw [if_pos q3]; exact decide_eq_true (by omega)
        · intro z4 hz4
          rw [Int.toNat_natCast, (h5.2.2.2.2.2.2 i hiA).1] at hz4
          rw [hz4]
          refine HM.k hV h5 ?_
          intro M6 h6
          refine ⟨⟨by decide, by decide⟩, ?_⟩
          intro z7 hz7
          rw [show ((1 : Int)).toNat = 1 from rfl, h6.2.1.1.2.1] at hz7
          refine ⟨fun q4 => go _ M6 h6 (Or.inl ⟨rfl, ?_⟩), fun q4 => go _ M6 h6 (Or.inr ⟨rfl, ?_⟩)⟩
          · unfold prK; rw [if_neg (by omega), if_pos q3]; exact decide_eq_false (by omega)
          · unfold prK; rw [if_neg (by omega), if_pos q3]; exact decide_eq_true (by omega)
        · intro z10 hz10
          rw [Int.toNat_natCast, (h5.2.2.2.2.2.2 i hiA).2] at hz10
          refine ⟨fun q4 => go _ M5 h5 (Or.inl ⟨rfl, ?_⟩), fun q4 => go _ M5 h5 (Or.inr ⟨rfl, ?_⟩)⟩
          · unfold prK; rw [if_neg q3.1, if_neg q3.2]; exact decide_eq_false (by omega)
          · unfold prK; rw [if_neg q3.1, if_neg q3.2]; exact decide_eq_true (by omega)
    refine ⟨fun q2 => ?_, fun q2 => ?_, fun q2 => ?_, fun q2 => ?_⟩
    · refine sp_P_amountHanded v2 v3 v4 s1.1 s1.2.1 hPT hTV (mod _ (fun _ => ?_) (fun a => absurd a (by omega)))
      congr 1
      refine ctB_cong fun a _ => ?_
      unfold prK; rw [if_pos q2]
    · refine sp_P_amountOfAllColours v2 v3 v4 s1.1 s1.2.1 hTV (mod _ (fun _ => ?_) (fun a => absurd a (by omega)))
      congr 1
      refine ctB_cong fun a _ => ?_
      unfold prK; rw [if_neg (by omega), if_pos q2]
    · refine sp_P_amountAlone v2 v4 hTV (mod _ (fun _ => ?_) (fun a => absurd a (by omega)))
      congr 1
      refine ctB_cong fun a _ => ?_
      unfold prK; rw [if_neg (by omega), if_neg (by omega)]
    · exact sp_P_greatestSize v2 v4 hTV (mod _ (fun a => absurd (by omega) a) (fun _ => rfl))
  · refine wt_in_0 q ⟨fun q2 => absurd rfl q2, fun _ => ?_⟩
    unfold wp_M_kinds
    exact wp_in_0 q ⟨fun q2 => absurd rfl q2, fun _ => ⟨rfl, hInv⟩⟩
theorem ok_by : op_by Inv := by
  intro M hM hInv a1 _ a2 _
  obtain ⟨c, hV, hC, hL, hP, hI⟩ := id hInv
  obtain ⟨v1, v2, v3, v4, v5, hG⟩ := id hV
  have hQ := sn_le v2 v4
  unfold wp_T_by
  refine numT hV hC.1 (fun q => ⟨fun _ => ?_, fun a => absurd a (by decide)⟩) (fun q => ⟨fun a => absurd rfl a, fun _ => ?_⟩)
  · rw [hC.1.1]
    refine ⟨⟨by omega, by omega⟩, ?_⟩
    by_cases q2 : 0 ≤ a2 ∧ a2 ≤ (c.1 : Int) - 1
    · refine wt_in_1 q2 ⟨fun _ => ?_, fun a => absurd a (by decide)⟩
      obtain ⟨x, hx⟩ : ∃ x : Nat, a1 = (x : Int) := ⟨a1.toNat, by omega⟩
      obtain ⟨p, hp⟩ : ∃ p : Nat, a2 = (p : Int) := ⟨a2.toNat, by omega⟩
      have hxQ : x < c.2.1 ^ c.1 := by omega
      have hpn : p < c.1 := by omega
      rw [hx, hp]
      refine both hInv hV hC hL hP hI ?_
      intro M1 A po lo sz st i1 s1 L1 hPT hTV lay
      have hpo := (hPT.1 x hxQ).1
      refine sp_P_firstToLeast v2 v3 v4 hG s1.2.2.2 hPT hTV hxQ ?_
      intro t ht et hmin
      refine sp_goal (hG.1 t ht).1 (by omega) ?_
      unfold wp_M_by
      refine numM hV i1 L1 (fun _ M2 i2 L2 e2 => ⟨fun _ => ?_, fun a => absurd a (by decide)⟩) (fun a => absurd (by omega) a)
      unfold wp_M_isPoint
      refine sp_M_many L2.1.1 ?_
      refine ⟨⟨by omega, by omega⟩, ?_⟩
      refine wp_in_1 (by omega) ⟨Or.inr rfl, fun _ => ?_, fun a => absurd a (by decide)⟩
      refine layP hV i2 L2 hPT ?_
      intro M3 h3 e3
      have t3 := h3.2.2.2
      have hA := t3.2.1
      refine ⟨⟨by omega, by omega⟩, ?_⟩
      intro z6 hz6
      rw [Int.toNat_natCast, t3.2.2.1 x hxQ] at hz6
      rw [hz6, Int.toNat_natCast, (t3.2.2.2 _ hpo).1]
      refine ⟨⟨by omega, by omega⟩, ?_⟩
      intro z8 hz8
      rw [hz8]
      refine sp_M_layColours v2 v3 h3.2.1.1.1 h3.2.1.1.2.1 ?_
      intro M9 c9 f9
      have h9 := h3.col f9
      obtain ⟨N, τ, hT⟩ := h9.2.1.2
      have hN := TLn.le v1 v2 hG hT
      obtain ⟨k0, hk0, ek0⟩ := (hT.2.2.1 t).mp ht
      refine ⟨fun w y => ∃ k : Nat, k ≤ k0 ∧ w = k0 - k ∧ y = (k : Int), ⟨k0, 0, by omega, rfl, rfl⟩, ?_⟩
      rintro w y ⟨k, hk, rfl, rfl⟩
      refine sp_M_turned v1 v2 v3 v4 hG h9.2.1.1.1 c9 h9.2.2.1 hT (show k < N by omega) ?_
      refine ⟨fun q3 => ⟨⟨by omega, by omega⟩, ⟨by omega, by omega⟩, ⟨by omega, by omega⟩, ?_⟩, fun q3 => ⟨⟨by omega, by omega⟩, ?_⟩⟩
      · intro z14 hz14
        rw [show (7 * (k : Int) + (p : Int)).toNat = 7 * k + p by omega, hT.2.1 k (by omega) p hpn] at hz14
        have hkk : k = k0 := by
          by_cases q4 : k = k0
          · exact q4
          · have a := hT.2.2.2 k k0 (by omega) hk0
            have hPk : c.2.2.2 (τ k) := (hT.2.2.1 _).mpr ⟨k, by omega, rfl⟩
            have hP0 : c.2.2.2 (τ k0) := (hT.2.2.1 _).mpr ⟨k0, hk0, rfl⟩
            have b := rk_mono v1 v2 (hG.1 _ hPk) (hG.1 _ hP0) a
            have d := hmin _ hPk (by omega)
            omega
        rw [hz14, hkk, ek0]
        exact ⟨rfl, h9.1⟩
      · intro v hv
        have hkk : k ≠ k0 := fun e => q3 (by rw [e, ek0, et])
        exact ⟨k0 - (k + 1), by omega, k + 1, by omega, rfl, by omega⟩
    · refine wt_in_0 q2 ⟨fun a => absurd rfl a, fun _ => ?_⟩
      unfold wp_M_by
      refine numM hV hInv hL (fun _ M2 i2 L2 e2 => ⟨fun _ => ?_, fun a => absurd a (by decide)⟩) (fun a => absurd q a)
      unfold wp_M_isPoint
      refine sp_M_many L2.1.1 ?_
      exact ⟨⟨by omega, by omega⟩, wp_in_0 q2 ⟨Or.inl rfl, fun a => absurd rfl a, fun _ => ⟨rfl, i2⟩⟩⟩
  · unfold wp_M_by
    exact numM hV hInv hL (fun a => absurd a q) (fun _ M2 i2 => ⟨fun a => absurd rfl a, fun _ => ⟨rfl, i2⟩⟩)
