/-! ===== the calls that ask for patterns ===== -/
/-- both tables brought up, and they are one -/
theorem both {c : Cfg} {M : Mm} {post : Mm → Prop} (hInv : Inv M) (hV : VC c) (hC : CL c M) (hL : ML c M) (hP : PAD M) (hI : IMG M)
    (h : ∀ (M1 : Mm) (A : Nat) (po lo sz st : Nat → Nat), Inv M1 → SC c 12 M1 → ML c M1 → PT (Rel c.1 c.2.1 c.2.2.2) (c.2.1 ^ c.1) A po lo sz → PTV c.1 c.2.1 A po lo sz st M1 → (∀ {pm : Mm → Prop}, (∀ M2 : Mm, Inv M2 → ML c M2 → LW c.1 c.2.1 M2 → PTM c.1 c.2.1 A po lo sz M2 → pm M2) → wp_M_layPatterns M1 pm) → post M1) : wp_P_bringUp 12 M post := by
  obtain ⟨v1, v2, v3, v4, v5, hG⟩ := id hV
  refine sp_P_bringUp hV (Nat.le_refl 12) hC.1 hC.2.2 ?_
  intro M1 p1 fl k1
  have hC1 : CL c M1 := by
    refine ⟨hC.1.cong (fun i hi => k1 _ (by omega) (by omega) (by omega) (by omega) (by omega)), fun q4 => ?_, fun _ => p1⟩
    rw [k1 4 (by omega) (by omega) (by omega) (by omega) (by omega)] at q4
    exact (hC.2.1 q4).cong (by rw [k1 4 (by omega) (by omega) (by omega) (by omega) (by omega)]) (k1 5 (by omega) (by omega) (by omega) (by omega) (by omega)) (k1 6 (by omega) (by omega) (by omega) (by omega) (by omega))
  have b : ∀ k, k ≤ 3 ∨ 18 ≤ k → M1 k = M k := fun k hk => k1 k (by omega) (by omega) (by omega) (by omega) (by omega)
  have L1 : ML c M1 := hL.cong (b 31 (by omega)) (by rw [b 30 (by omega)]) (b 39 (by omega))
  have i1 : Inv M1 := ⟨c, hV, hC1, L1, hP.cong (by rw [b 2 (by omega)]) (b 3 (by omega)) (by rw [b 30 (by omega)]) (b 34 (by omega)), hI.cong (by rw [b 0 (by omega)]) (fun q a _ => b q (by omega)) (b 32 (by omega)) (b 33 (by omega))⟩
  obtain ⟨A, po, lo, sz, st, hPT, hTV⟩ := p1
  refine h M1 A po lo sz st i1 hC1.1 L1 hPT hTV ?_
  intro pm hpm
  obtain ⟨N, τ, hT⟩ := L1.2
  refine sp_M_layPatterns v1 v2 v3 v4 hG L1.1.1 L1.1.2.1 hT ?_
  intro M2 A' po' lo' sz' hPT' hTM w2 f2
  obtain ⟨eA, eP, eL⟩ := PT_uniq (Rel_E v2 v3 hG) hPT hPT'
  subst eA
  have g : ∀ k, k ≠ 30 → k ≠ 44 → k ≠ 45 → k ≠ 46 → k ≠ 47 → k ≠ 48 → M2 k = M1 k := f2.1
  refine hpm M2 (i1.scr (fun k hk => g k (by omega) (by omega) (by omega) (by omega) (by omega) (by omega)) (g 31 (by omega) (by omega) (by omega) (by omega) (by omega) (by omega)) (g 32 (by omega) (by omega) (by omega) (by omega) (by omega) (by omega)) (g 33 (by omega) (by omega) (by omega) (by omega) (by omega) (by omega)) (g 34 (by omega) (by omega) (by omega) (by omega) (by omega) (by omega)) (g 39 (by omega) (by omega) (by omega) (by omega) (by omega) (by omega)) (f2.2 4 (by omega) (by omega)) (f2.2 12 (by omega) (by omega))) (L1.cong (g 31 (by omega) (by omega) (by omega) (by omega) (by omega) (by omega)) (f2.2 12 (by omega) (by omega)) (g 39 (by omega) (by omega) (by omega) (by omega) (by omega) (by omega))) w2 ⟨hTM.1, hTM.2.1, fun x hx => by rw [hTM.2.2.1 x hx, eP x hx], fun a ha => by rw [(hTM.2.2.2 a ha).1, (hTM.2.2.2 a ha).2, (eL a ha).1, (eL a ha).2]; exact ⟨rfl, rfl⟩⟩
/-- what the reference holds while it answers; only the row of colours changes -/
def HM (c : Cfg) (A : Nat) (po lo sz : Nat → Nat) (M : Mm) : Prop := Inv M ∧ ML c M ∧ LW c.1 c.2.1 M ∧ PTM c.1 c.2.1 A po lo sz M
theorem HM.col {c : Cfg} {A : Nat} {po lo sz : Nat → Nat} {M M' : Mm} (h : HM c A po lo sz M) (f : ∀ k, k ≠ 44 → M' k = M k) : HM c A po lo sz M' := by
  refine ⟨h.1.scr (fun k hk => f k (by omega)) (f 31 (by omega)) (f 32 (by omega)) (f 33 (by omega)) (f 34 (by omega)) (f 39 (by omega)) (by rw [f 30 (by omega)]) (by rw [f 30 (by omega)]), h.2.1.cong (f 31 (by omega)) (by rw [f 30 (by omega)]) (f 39 (by omega)), ?_, ?_⟩
  · unfold LW; rw [f 30 (by omega), f 48 (by omega)]; exact h.2.2.1
  · unfold PTM; rw [f 30 (by omega), f 45 (by omega), f 46 (by omega), f 47 (by omega)]; exact h.2.2.2
theorem HM.w {c : Cfg} {A x : Nat} {po lo sz : Nat → Nat} {M : Mm} {post : Int → Mm → Prop} (hV : VC c) (h : HM c A po lo sz M) (hp : ∀ M' : Mm, HM c A po lo sz M' → post (wtN c.1 c.2.1 c.2.2.1 x : Int) M') : wp_M_weightOf (x : Int) M post :=
  sp_M_weightOf hV.2.1 hV.2.2.1 hV.2.2.2.1 h.2.1.1.1 h.2.1.1.2.1 h.2.1.1.2.2.1 hV.2.2.2.2.1 (fun M' f => hp M' (h.col f))
theorem HM.k {c : Cfg} {A x : Nat} {po lo sz : Nat → Nat} {M : Mm} {post : Int → Mm → Prop} (hV : VC c) (h : HM c A po lo sz M) (hp : ∀ M' : Mm, HM c A po lo sz M' → post (pc7 (clN c.1 c.2.1 x) : Int) M') : wp_M_coloursOf (x : Int) M post :=
  sp_M_coloursOf hV.2.1 hV.2.2.1 hV.2.2.2.1 h.2.1.1.1 h.2.1.1.2.1 (fun M' f => hp M' (h.col f))
theorem HM.m {c : Cfg} {A x : Nat} {po lo sz : Nat → Nat} {M : Mm} {post : Int → Mm → Prop} (hV : VC c) (h : HM c A po lo sz M) (hp : ∀ M' : Mm, HM c A po lo sz M' → post (mirN c.1 c.2.1 x : Int) M') : wp_M_mirrored (x : Int) M post :=
  sp_M_mirrored hV.2.1 hV.2.2.1 hV.2.2.2.1 h.2.1.1.1 h.2.1.1.2.1 h.2.2.1 (fun M' f => hp M' (h.col f))
theorem HM.t {c : Cfg} {A a : Nat} {po lo sz : Nat → Nat} {M : Mm} {post : Int → Mm → Prop} (hV : VC c) (h : HM c A po lo sz M) (ha : a < A) (hp : ∀ M' : Mm, HM c A po lo sz M' → post (po (mirN c.1 c.2.1 (lo a)) : Int) M') : wp_M_twin (a : Int) M post := by
  have hQ := sn_le hV.2.1 hV.2.2.2.1
  have hA := h.2.2.2.2.1
  unfold wp_M_twin
  refine ⟨⟨by omega, by omega⟩, ?_⟩
  intro z hz
  rw [Int.toNat_natCast, (h.2.2.2.2.2.2 a ha).1] at hz
  rw [hz]
  refine HM.m hV h ?_
  intro M' h'
  have hm := mirN_lt (n := c.1) (c := lo a) hV.2.2.1
  refine ⟨⟨by omega, by omega⟩, ?_⟩
  intro z5 hz5
  rw [Int.toNat_natCast, h'.2.2.2.2.2.1 _ hm] at hz5
  rw [hz5]; exact hp M' h'
theorem ok_patterns : op_patterns Inv := by
  intro M hM hInv a1 _
  obtain ⟨c, hV, hC, hL, hP, hI⟩ := id hInv
  obtain ⟨v1, v2, v3, v4, v5, hG⟩ := id hV
  have hQ := sn_le v2 v4
  unfold wp_T_patterns
  by_cases q : -1 ≤ a1 ∧ a1 ≤ 63
  · refine wt_in_1 q ⟨fun _ => ?_, fun q2 => absurd q2 (by decide)⟩
    refine both hInv hV hC hL hP hI ?_
    intro M1 A po lo sz st i1 s1 L1 hPT hTV lay
    have hA := hTV.2.2.2.2.1
    have mod : ∀ (r1 : Int), (a1 = -1 → r1 = (A : Int)) → (¬ a1 = -1 → r1 = (ctB (fun a => decide ((wtN c.1 c.2.1 c.2.2.1 (lo a) : Int) = a1)) A : Int)) → wp_M_patterns a1 M1 (fun (r2 : Int) (M2 : Mm) => r1 = r2 ∧ Inv M2) := by
      intro r1 hr hr2
      have hr3 : r1 = (ctB (fun a => decide (a1 = -1 ∨ (wtN c.1 c.2.1 c.2.2.1 (lo a) : Int) = a1)) A : Int) := by
        by_cases q3 : a1 = -1
        · rw [hr q3]
          have : ∀ n, ctB (fun a => decide (a1 = -1 ∨ (wtN c.1 c.2.1 c.2.2.1 (lo a) : Int) = a1)) n = n := by
            intro n
            induction n with
            | zero => rfl
            | succ n ih => rw [ctB_if.1 (decide_eq_true (Or.inl q3)), ih]
          rw [this]
        · rw [hr2 q3]
          congr 1
          refine ctB_cong fun a _ => decide_eq_decide.mpr ⟨Or.inr, fun h => h.elim (fun e => absurd e q3) id⟩
      unfold wp_M_patterns
      refine wp_in_1 q ⟨fun _ => ?_, fun q2 => absurd q2 (by decide)⟩
      refine lay ?_
      intro M2 i2 L2 w2 t2
      refine ⟨fun t x y M5 => ∃ i : Nat, i ≤ A ∧ t = A - i ∧ y = (i : Int) ∧ x = (ctB (fun a => decide (a1 = -1 ∨ (wtN c.1 c.2.1 c.2.2.1 (lo a) : Int) = a1)) i : Int) ∧ HM c A po lo sz M5, ⟨A, 0, by omega, rfl, rfl, rfl, i2, L2, w2, t2⟩, ?_⟩
      rintro t x y M5 ⟨i, hi, rfl, rfl, rfl, h5⟩
      have hcb := ctB_le (fun a => decide (a1 = -1 ∨ (wtN c.1 c.2.1 c.2.2.1 (lo a) : Int) = a1)) i
      rw [h5.2.2.2.1]
      refine ⟨fun q2 => ?_, fun q2 => ?_⟩
      · have : i = A := by omega
        subst this
        exact ⟨hr3, h5.1⟩
      · intro K hK
        have st : ∀ (M6 : Mm) (b : Bool), HM c A po lo sz M6 → decide (a1 = -1 ∨ (wtN c.1 c.2.1 c.2.2.1 (lo i) : Int) = a1) = b → K (if b then 1 else 0) M6 := by
          intro M6 b h6 hb
          refine hK _ _ ?_
          cases b with
          | true =>
            rw [if_pos rfl]
            refine ⟨⟨by omega, by omega⟩, ?_⟩
            intro v hv
            refine ⟨⟨by omega, by omega⟩, ?_⟩
            intro v2 hv2
            exact ⟨A - (i + 1), by omega, i + 1, by omega, rfl, by omega, by rw [ctB_if.1 hb]; omega, h6⟩
          | false =>
            rw [if_neg (by decide)]
            refine ⟨⟨by omega, by omega⟩, ?_⟩
            intro v hv
            refine ⟨⟨by omega, by omega⟩, ?_⟩
            intro v2 hv2
            exact ⟨A - (i + 1), by omega, i + 1, by omega, rfl, by omega, by rw [ctB_if.2 hb]; omega, h6⟩
        intro K2 hK2
        refine ⟨fun q3 => hK2 _ (st M5 true h5 (decide_eq_true (Or.inl q3))), fun q3 => ⟨⟨by omega, by omega⟩, ?_⟩⟩
        intro z9 hz9
        rw [Int.toNat_natCast, (h5.2.2.2.2.2.2 i (by omega)).1] at hz9
        rw [hz9]
        refine HM.w hV h5 ?_
        intro M6 h6
        exact ⟨fun q4 => st M6 false h6 (decide_eq_false (fun h => h.elim q3 q4)), fun q4 => hK2 _ (st M6 true h6 (decide_eq_true (Or.inr q4)))⟩
    refine ⟨fun q2 => ?_, fun q2 => ?_⟩
    · exact sp_P_amountOfWeight v2 v3 v4 s1.1 s1.2.1 s1.2.2.1 v5 hTV (mod _ (fun a => absurd a q2) (fun _ => rfl))
    · rw [hTV.2.2.2.1]
      exact mod _ (fun _ => rfl) (fun a => absurd q2 a)
  · refine wt_in_0 q ⟨fun q2 => absurd rfl q2, fun _ => ?_⟩
    unfold wp_M_patterns
    exact wp_in_0 q ⟨fun q2 => absurd rfl q2, fun _ => ⟨rfl, hInv⟩⟩
theorem ok_pattern : op_pattern Inv := by
  intro M hM hInv a1 _ a2 _
  obtain ⟨c, hV, hC, hL, hP, hI⟩ := id hInv
  obtain ⟨v1, v2, v3, v4, v5, hG⟩ := id hV
  have hQ := sn_le v2 v4
  unfold wp_T_pattern
  by_cases q : 0 ≤ a2 ∧ a2 ≤ 4
  · refine wt_in_1 q ⟨fun _ => ?_, fun q2 => absurd q2 (by decide)⟩
    refine both hInv hV hC hL hP hI ?_
    intro M1 A po lo sz st i1 s1 L1 hPT hTV lay
    have hA := hTV.2.2.2.2.1
    rw [hTV.2.2.2.1]
    refine ⟨⟨by omega, by omega⟩, ?_⟩
    by_cases q2 : 0 ≤ a1 ∧ a1 ≤ (A : Int) - 1
    · refine wt_in_1 q2 ⟨fun _ => ?_, fun q3 => absurd q3 (by decide)⟩
      obtain ⟨a, ha⟩ : ∃ a : Nat, a1 = (a : Int) := ⟨a1.toNat, by omega⟩
      have haA : a < A := by omega
      rw [ha]
      have mod : ∀ r1 : Int, (a2 = 0 → r1 = (lo a : Int)) → (a2 = 1 → r1 = (sz a : Int)) → (a2 = 2 → r1 = (wtN c.1 c.2.1 c.2.2.1 (lo a) : Int)) → (a2 = 3 → r1 = (po (mirN c.1 c.2.1 (lo a)) : Int)) → (3 < a2 → r1 = (pc7 (clN c.1 c.2.1 (lo a)) : Int)) → wp_M_pattern (a : Int) a2 M1 (fun (r2 : Int) (M2 : Mm) => r1 = r2 ∧ Inv M2) := by
        intro r1 g0 g1 g2 g3 g4
        unfold wp_M_pattern
        refine wp_in_1 q ⟨fun _ => ?_, fun q3 => absurd q3 (by decide)⟩
        refine lay ?_
        intro M2 i2 L2 w2 t2
        have h2 : HM c A po lo sz M2 := ⟨i2, L2, w2, t2⟩
        rw [t2.1, Int.toNat_natCast, (t2.2.2.2 a haA).1, (t2.2.2.2 a haA).2]
        refine ⟨⟨by omega, by omega⟩, ?_⟩
        refine wp_in_1 (by omega) ⟨fun _ => ?_, fun q3 => absurd q3 (by decide)⟩
        refine ⟨fun q3 => ⟨⟨by omega, by omega⟩, fun z hz => ⟨by rw [hz]; exact g0 q3, i2⟩⟩, fun q3 => ⟨⟨by omega, by omega⟩, fun z hz => ⟨by rw [hz]; exact g1 q3, i2⟩⟩, fun q3 => ⟨⟨by omega, by omega⟩, fun z hz => ?_⟩, fun q3 => ?_, fun q3 => ⟨⟨by omega, by omega⟩, fun z hz => ?_⟩⟩
        · rw [hz]; exact HM.w hV h2 (fun M' h' => ⟨g2 q3, h'.1⟩)
        · exact HM.t hV h2 haA (fun M' h' => ⟨g3 q3, h'.1⟩)
        · rw [hz]; exact HM.k hV h2 (fun M' h' => ⟨g4 (by omega), h'.1⟩)
      refine sp_P_leastOf hQ hTV haA ?_
      refine ⟨fun q3 => ?_, fun q3 => ?_, fun q3 => ?_, fun q3 => ?_, fun q3 => ?_⟩
      · exact mod _ (fun _ => rfl) (fun e => absurd e (by omega)) (fun e => absurd e (by omega)) (fun e => absurd e (by omega)) (fun e => absurd e (by omega))
      · exact sp_P_sizeOf hQ hTV haA (mod _ (fun e => absurd e (by omega)) (fun _ => rfl) (fun e => absurd e (by omega)) (fun e => absurd e (by omega)) (fun e => absurd e (by omega)))
      · exact sp_weightOf v2 v3 v4 s1.1 s1.2.1 s1.2.2.1 v5 (mod _ (fun e => absurd e (by omega)) (fun e => absurd e (by omega)) (fun _ => rfl) (fun e => absurd e (by omega)) (fun e => absurd e (by omega)))
      · exact sp_P_twinOf v2 v3 v4 s1.1 s1.2.1 hTV haA (hPT.2.1 a haA).1 (mod _ (fun e => absurd e (by omega)) (fun e => absurd e (by omega)) (fun e => absurd e (by omega)) (fun _ => rfl) (fun e => absurd e (by omega)))
      · exact sp_coloursOf v2 v3 v4 s1.1 s1.2.1 (mod _ (fun e => absurd e (by omega)) (fun e => absurd e (by omega)) (fun e => absurd e (by omega)) (fun e => absurd e (by omega)) (fun _ => rfl))
    · refine wt_in_0 q2 ⟨fun q3 => absurd rfl q3, fun _ => ?_⟩
      unfold wp_M_pattern
      refine wp_in_1 q ⟨fun _ => ?_, fun q3 => absurd q3 (by decide)⟩
      refine lay ?_
      intro M2 i2 L2 w2 t2
      rw [t2.1]
      exact ⟨⟨by omega, by omega⟩, wp_in_0 q2 ⟨fun q3 => absurd rfl q3, fun _ => ⟨rfl, i2⟩⟩⟩
  · refine wt_in_0 q ⟨fun q2 => absurd rfl q2, fun _ => ?_⟩
    unfold wp_M_pattern
    exact wp_in_0 q ⟨fun q2 => absurd rfl q2, fun _ => ⟨rfl, hInv⟩⟩
