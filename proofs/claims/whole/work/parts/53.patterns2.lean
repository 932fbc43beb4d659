/-! ===== the class's table of patterns: brought up, asked ===== -/
def PTV (n s A : Nat) (po lo sz st : Nat → Nat) (M : Mm) : Prop :=
  M 7 4 = (n : Int) ∧ M 7 5 = (s : Int) ∧ (∀ p, p < n → M 11 p = ((s ^ (n - 1 - p) : Nat) : Int)) ∧ M 7 7 = (A : Int) ∧ A ≤ s ^ n ∧ (∀ c, c < s ^ n → M 8 c = (po c : Int)) ∧ (∀ a, a < A → M 10 a = (st a : Int) ∧ st a < s ^ n ∧ M 9 (st a) = (lo a : Int) ∧ M 10 (a + 1) = ((st a + sz a : Nat) : Int) ∧ 1 ≤ sz a ∧ sz a ≤ s ^ n)
def PTC (c : Cfg) (M : Mm) : Prop := ∃ (A : Nat) (po lo sz st : Nat → Nat), PT (Rel c.1 c.2.1 c.2.2.2) (c.2.1 ^ c.1) A po lo sz ∧ PTV c.1 c.2.1 A po lo sz st M
theorem PTV.cong {n s A : Nat} {po lo sz st : Nat → Nat} {M M' : Mm} (h : PTV n s A po lo sz st M) (h7 : ∀ j, j ≠ 6 → j ≠ 8 → M' 7 j = M 7 j) (h8 : M' 8 = M 8) (h9 : M' 9 = M 9) (h10 : M' 10 = M 10) (h11 : M' 11 = M 11) : PTV n s A po lo sz st M' := by
  unfold PTV
  rw [h7 4 (by omega) (by omega), h7 5 (by omega) (by omega), h7 7 (by omega) (by omega), h8, h9, h10, h11]
  exact h
theorem PTC.cong {c : Cfg} {M M' : Mm} (h : PTC c M) (h7 : ∀ j, j ≠ 6 → j ≠ 8 → M' 7 j = M 7 j) (h8 : M' 8 = M 8) (h9 : M' 9 = M 9) (h10 : M' 10 = M 10) (h11 : M' 11 = M 11) : PTC c M' := by
  obtain ⟨A, po, lo, sz, st, h1, h2⟩ := h
  exact ⟨A, po, lo, sz, st, h1, h2.cong h7 h8 h9 h10 h11⟩
theorem ctB_mem {p : Nat → Bool} {i : Nat} (hp : p i = true) : ∀ {n : Nat}, i < n → 0 < ctB p n
  | 0, h => by omega
  | n + 1, h => by
    rw [ctB]
    by_cases q : i = n
    · rw [← q, if_pos hp]; omega
    · have := ctB_mem hp (show i < n by omega); omega
theorem PT_sz {R : Nat → Nat → Prop} {Q A : Nat} {po lo sz : Nat → Nat} (hE : EqR R Q) (h : PT R Q A po lo sz) {a : Nat} (ha : a < A) : po (lo a) = a ∧ 1 ≤ sz a ∧ sz a ≤ Q := by
  obtain ⟨e1, e2, e3, e4⟩ := hE
  have h1 := h.2.1 a ha
  have hp : po (lo a) = a := by
    obtain ⟨b1, b2⟩ := h.1 (lo a) h1.1
    have c1 := (h.2.1 _ b1).2 _ b2
    have c2 := h1.2 _ (e2 _ _ (h.2.1 _ b1).1 b2)
    rcases Nat.lt_trichotomy (po (lo a)) a with q | q | q
    · have := h.2.2.1 _ _ q ha; omega
    · exact q
    · have := h.2.2.1 _ _ q b1; omega
  refine ⟨hp, ?_, ?_⟩
  · rw [h.2.2.2 a ha]
    exact ctB_mem (i := lo a) (by simp [hp]) h1.1
  · rw [h.2.2.2 a ha]; exact ctB_le _ _
theorem sp_P_bringUp {u : Nat} {c : Cfg} {M : Mm} {post : Mm → Prop} (hV : VC c) (hu : 12 ≤ u) (hS : SC c u M) (hold : ¬ M 7 8 = 0 → PTC c M) (h : ∀ M' : Mm, PTC c M' → ¬ M' 7 8 = 0 → (∀ k, k ≠ 7 → k ≠ 8 → k ≠ 9 → k ≠ 10 → k ≠ 11 → M' k = M k) → post M') : wp_P_bringUp u M post := by
  obtain ⟨v1, v2, v3, v4, v5, hG⟩ := hV
  obtain ⟨t0, t1, t2, hC⟩ := hS
  have hE := Rel_E v2 v3 hG
  have hQ := sn_le v2 v4
  unfold wp_P_bringUp
  refine ⟨fun q => ?_, fun q => h M (hold q) q (fun _ _ _ _ _ _ => rfl)⟩
  refine sp_P_setPlaces hu v2 v1 v4 t0 t1 ?_
  intro M2 a4 a5 ap aj ak
  have eu : M2 u = M u := ak u (by omega) (by omega)
  refine sp_colourings (n := c.1) (s := c.2.1) v2 v4 (by rw [eu]; exact t0) (by rw [eu]; exact t1) ?_
  generalize hq : c.2.1 ^ c.1 = Q at *
  intro z3 hz3
  rw [if_neg (show ¬ (16384 : Int) < (Q : Int) by omega)] at hz3
  rw [hz3]
  refine ⟨fun t y M5 => ∃ i : Nat, i ≤ Q ∧ t = Q - i ∧ y = (i : Int) ∧ (∀ j, j < i → M5 8 j = -6) ∧ (∀ k, k ≠ 8 → M5 k = M2 k), ⟨Q, 0, by omega, rfl, rfl, fun j hj => by omega, fun _ _ => rfl⟩, ?_⟩
  rintro t y M5 ⟨i, hi, rfl, rfl, hm, fr⟩
  refine ⟨fun q2 => ?_, fun q2 => ?_⟩
  · have hiQ : i = Q := by omega
    subst hiQ
    intro M6 e6 M7' e7
    refine ⟨⟨by omega, by omega⟩, ?_⟩
    intro M7 e8
    rw [Int.toNat_zero] at e8
    have f7 : ∀ k, k ≠ 7 → k ≠ 10 → M7 k = M5 k := fun k hk hk2 => by rw [e8, ms_o _ _ _ hk2, e7, ms_o _ _ _ hk, e6, ms_o _ _ _ hk]
    have f77 : M7 7 = M7' 7 := by rw [e8]; exact ms_o _ _ _ (by omega)
    have g7 : ∀ j, j ≠ 6 → j ≠ 7 → M7 7 j = M2 7 j := fun j j6 j7 => by rw [f77, e7, ms_ne _ _ j7, e6, ms_ne _ _ j6, fr 7 (by omega)]
    have m8 : ∀ j, j < i → M7 8 j = -6 := fun j hj => by rw [f7 8 (by omega) (by omega)]; exact hm j hj
    refine ⟨fun t y M9 => ∃ (x A F : Nat) (lo st : Nat → Nat), x ≤ i ∧ t = i - x ∧ y = (x : Int) ∧ PI (Rel c.1 c.2.1 c.2.2.2) i x A lo (M9 8) ∧ M9 7 4 = (c.1 : Int) ∧ M9 7 5 = (c.2.1 : Int) ∧ (∀ p, p < c.1 → M9 11 p = ((c.2.1 ^ (c.1 - 1 - p) : Nat) : Int)) ∧ M9 7 7 = (A : Int) ∧ M9 7 6 = (F : Int) ∧ ctB (fun d => decide (0 ≤ M9 8 d)) i = F ∧ (∀ a, a < A → M9 10 a = (st a : Int) ∧ st a < F ∧ M9 9 (st a) = (lo a : Int) ∧ st a + ctB (fun d => decide (M9 8 d = (a : Int))) i = st (a + 1)) ∧ st A = F ∧ M9 10 A = (F : Int) ∧ (∀ k, k ≠ 7 → k ≠ 8 → k ≠ 9 → k ≠ 10 → k ≠ 11 → M9 k = M k), ⟨i, 0, 0, 0, fun _ => 0, fun _ => 0, by omega, rfl, rfl, PI_0 m8, by rw [g7 4 (by omega) (by omega)]; exact a4, by rw [g7 5 (by omega) (by omega)]; exact a5, fun p hp => by rw [f7 11 (by omega) (by omega), fr 11 (by omega)]; exact ap p hp, by rw [f77, e7, ms_self]; rfl, by rw [f77, e7, ms_ne _ _ (by omega), e6, ms_self]; rfl, ctB_zero (fun d hd => by show decide _ = false; rw [m8 d hd]; rfl), fun a ha => by omega, rfl, by rw [e8, ms_self]; rfl, fun k k7 k8 _ k10 k11 => by rw [f7 k k7 k10, fr k k8, ak k k7 k11]⟩, ?_⟩
    rintro t y M9 ⟨x, A, F, lo, st, hx, rfl, rfl, hI, b4, b5, bp, b7, b6, bF, bs, bA, b10, bk⟩
    have hA := PI_A hI
    have hF : F ≤ i := by rw [← bF]; exact ctB_le _ _
    refine ⟨fun q3 => ?_, fun q3 => ?_⟩
    · have : x = i := by omega
      subst this
      intro M11 e11
      have w10 : ∀ a, a ≤ A → M11 10 a = (st a : Int) := by
        intro a ha
        rw [e11, ms_o _ _ _ (by omega)]
        by_cases qa : a = A
        · rw [qa, bA]; exact b10
        · exact (bs a (by omega)).1
      have w7 : ∀ j, j ≠ 8 → M11 7 j = M9 7 j := fun j hj => by rw [e11, ms_ne _ _ hj]
      have wk : ∀ k, k ≠ 7 → k ≠ 10 → M11 k = M9 k := fun k k7 k10 => by rw [e11, ms_o _ _ _ k7]
      have hPT := PI_PT (sz := fun a => ctB (fun d => decide (M9 8 d = (a : Int))) x) hI (fun a _ => rfl)
      refine h M11 ⟨A, _, lo, _, st, by rw [hq]; exact hPT.1, by rw [w7 4 (by omega)]; exact b4, by rw [w7 5 (by omega)]; exact b5, fun p hp => by rw [wk 11 (by omega) (by omega)]; exact bp p hp, by rw [w7 7 (by omega)]; exact b7, by rw [hq]; exact hA, fun d hd => ?_, fun a ha => ?_⟩ (by rw [e11, ms_self]; decide) (fun k k7 k8 k9 k10 k11 => by rw [wk k k7 k10]; exact bk k k7 k8 k9 k10 k11)
      · rw [wk 8 (by omega) (by omega)]; exact hPT.2 d (by rw [hq] at hd; exact hd)
      · obtain ⟨c1, c2, c3, c4⟩ := bs a ha
        obtain ⟨_, s1, s2⟩ := PT_sz hE hPT.1 ha
        refine ⟨w10 a (by omega), by rw [hq]; omega, by rw [wk 9 (by omega) (by omega)]; exact c3, by rw [w10 (a + 1) (by omega), ← c4], s1, by rw [hq]; exact s2⟩
    · have hx' : x < i := by omega
      refine ⟨⟨by omega, by omega⟩, ?_⟩
      intro z11 hz11
      rw [Int.toNat_natCast] at hz11
      intro K hK
      refine ⟨fun q4 => hK _ ?_, fun q4 => ?_⟩
      · refine ⟨⟨by omega, by omega⟩, ?_⟩
        intro w hw
        exact ⟨i - (x + 1), by omega, x + 1, A, F, lo, st, by omega, rfl, by omega, PI_skip hx' hI (by rw [← hz11]; exact q4), b4, b5, bp, b7, b6, bF, bs, bA, b10, bk⟩
      · have hv6 : M9 8 x = -6 := by rw [← hz11]; exact q4
        have hCx : GCg c.1 c.2.2.2 (u + 2) M9 := by
          have r0 := bk (u + 2) (by omega) (by omega) (by omega) (by omega) (by omega)
          have r1 := bk (u + 2 + 1) (by omega) (by omega) (by omega) (by omega) (by omega)
          have r2 := bk (u + 2 + 2) (by omega) (by omega) (by omega) (by omega) (by omega)
          have r3 := bk (u + 2 + 3) (by omega) (by omega) (by omega) (by omega) (by omega)
          unfold GCg
          rw [r0, r1, r2, r3]; exact hC
        have hno : ∀ a, a < A → ¬ Rel c.1 c.2.1 c.2.2.2 (lo a) x := by
          rcases hI.2.2.2 x hx' with ⟨_, qq⟩ | ⟨a, _, qq, _⟩
          · exact qq
          · omega
        have hvx : ∀ d, Rel c.1 c.2.1 c.2.2.2 x d → M9 8 d = -6 := by
          intro d hd
          have hdQ : d < i := hE.2.2.2 _ _ hd
          rcases hI.2.2.2 d hdQ with ⟨qq, _⟩ | ⟨a, ha, _, qr⟩
          · exact qq
          · exact absurd (hE.2.2.1 _ _ _ qr (hE.2.1 _ _ hx' hd)) (hno a ha)
        refine sp_P_gather (A := A) (F := F) (G := c.2.2.2) v1 v2 v3 v4 hG (by omega) hCx b4 b5 bp b7 (by omega) b6 (by rw [hq]; exact bF) (fun d hd => ?_) (by rw [hq]; exact hx') hvx ?_
        · rcases hI.2.2.2 d (by rw [← hq]; exact hd) with ⟨qq, _⟩ | ⟨a, ha, qq, _⟩
          · omega
          · omega
        · rw [hq]
          intro M12 F' c1 c2 c3 c4 c5 c6 c7 c8 c9 c10 c11 c12
          refine hK _ ⟨⟨by omega, by omega⟩, ?_⟩
          intro w hw
          refine ⟨i - (x + 1), by omega, x + 1, A + 1, F', eX lo A x, eX st (A + 1) F', by omega, rfl, by omega, PI_new hE hx' hI hv6 c7, by rw [c4 4 (by omega) (by omega)]; exact b4, by rw [c4 5 (by omega) (by omega)]; exact b5, fun p hp => by rw [c12 11 (by omega) (by omega) (by omega) (by omega)]; exact bp p hp, c2, c3, c5, fun a ha => ?_, eX_at, c10, fun k k7 k8 k9 k10 k11 => by rw [c12 k k7 k8 k9 k10]; exact bk k k7 k8 k9 k10 k11⟩
          rw [eX_lt ha]
          by_cases qa : a = A
          · subst qa
            rw [eX_at, eX_at, bA]
            exact ⟨by rw [c11 a (by omega)]; exact b10, c1, c8, c6⟩
          · obtain ⟨d1, d2, d3, d4⟩ := bs a (by omega)
            rw [eX_lt (show a < A by omega), eX_lt (show a + 1 < A + 1 by omega)]
            refine ⟨by rw [c11 a (by omega)]; exact d1, by omega, by rw [c9 _ d2]; exact d3, ?_⟩
            rw [← d4]
            congr 1
            refine ctB_cong fun d hd => ?_
            show decide _ = decide _
            rcases c7 d hd with ⟨r1, r2⟩ | ⟨_, r2⟩
            · have r3 := hvx d r1
              exact decide_eq_decide.mpr (by omega)
            · rw [r2]
  · refine ⟨⟨by omega, by omega⟩, ?_⟩
    intro M6 e6
    rw [Int.toNat_natCast] at e6
    refine ⟨⟨by omega, by omega⟩, ?_⟩
    intro w hw
    refine ⟨Q - (i + 1), by omega, i + 1, by omega, rfl, by omega, fun j hj => ?_, fun k hk => by rw [e6, ms_o _ _ _ hk]; exact fr k hk⟩
    rw [e6]
    by_cases qj : j = i
    · rw [qj, ms_self]
    · rw [ms_ne _ _ qj]; exact hm j (by omega)
theorem sp_P_leastOf {n s A a : Nat} {po lo sz st : Nat → Nat} {M : Mm} {post : Int → Prop} (hQ : s ^ n ≤ 16384) (hT : PTV n s A po lo sz st M) (ha : a < A) (h : post (lo a : Int)) : wp_P_leastOf (a : Int) M post := by
  obtain ⟨t1, t2, t3, t4, t5, t6, t7⟩ := hT
  obtain ⟨c1, c2, c3, c4, c5, c6⟩ := t7 a ha
  unfold wp_P_leastOf
  rw [t4]
  refine ⟨⟨by omega, by omega⟩, wt_in_1 ⟨by omega, by omega⟩ ?_⟩
  intro K hK
  refine ⟨fun q => absurd q (by decide), fun _ => ⟨⟨by omega, by omega⟩, ?_⟩⟩
  intro z hz
  rw [Int.toNat_natCast, c1] at hz
  refine hK z ?_
  rw [hz]
  refine wt_in_1 ⟨by omega, by omega⟩ ⟨fun q => absurd q (by decide), fun _ => ⟨⟨by omega, by omega⟩, ?_⟩⟩
  intro z4 hz4
  rw [Int.toNat_natCast, c3] at hz4
  rw [hz4]; exact h
theorem sp_P_patternOf {n s A x : Nat} {po lo sz st : Nat → Nat} {M : Mm} {post : Int → Prop} (hQ : s ^ n ≤ 16384) (hT : PTV n s A po lo sz st M) (hx : x < s ^ n) (h : post (po x : Int)) : wp_P_patternOf (x : Int) M post := by
  unfold wp_P_patternOf
  refine wt_in_1 ⟨by omega, by omega⟩ ⟨fun q => absurd q (by decide), fun _ => ⟨⟨by omega, by omega⟩, ?_⟩⟩
  intro z hz
  rw [Int.toNat_natCast, hT.2.2.2.2.2.1 x hx] at hz
  rw [hz]; exact h
theorem sp_P_sizeOf {n s A a : Nat} {po lo sz st : Nat → Nat} {M : Mm} {post : Int → Prop} (hQ : s ^ n ≤ 16384) (hT : PTV n s A po lo sz st M) (ha : a < A) (h : post (sz a : Int)) : wp_P_sizeOf (a : Int) M post := by
  obtain ⟨t1, t2, t3, t4, t5, t6, t7⟩ := hT
  obtain ⟨c1, c2, c3, c4, c5, c6⟩ := t7 a ha
  unfold wp_P_sizeOf
  rw [t4]
  refine ⟨⟨by omega, by omega⟩, wt_in_1 ⟨by omega, by omega⟩ ⟨fun q => absurd q (by decide), fun _ => ⟨⟨by omega, by omega⟩, ⟨by omega, by omega⟩, ?_⟩⟩⟩
  intro z hz
  rw [show ((a : Int) + 1).toNat = a + 1 by omega, c4] at hz
  refine ⟨⟨by omega, by omega⟩, ?_⟩
  intro z5 hz5
  rw [Int.toNat_natCast, c1] at hz5
  rw [show z - z5 = (sz a : Int) by omega]
  exact ⟨⟨by omega, by omega⟩, h⟩
theorem sp_P_twinOf {u n s A a : Nat} {po lo sz st : Nat → Nat} {M : Mm} {post : Int → Prop} (h7 : n ≤ 7) (h1 : 1 ≤ s) (h4 : s ≤ 4) (hn : M u 0 = (n : Int)) (hs : M u 1 = (s : Int)) (hT : PTV n s A po lo sz st M) (ha : a < A) (hl : lo a < s ^ n) (h : post (po (mirN n s (lo a)) : Int)) : wp_P_twinOf u (a : Int) M post := by
  have hQ := sn_le h7 h4
  unfold wp_P_twinOf
  refine sp_P_leastOf hQ hT ha ?_
  refine sp_mirrored h7 h1 h4 hn hs hl ?_
  exact sp_P_patternOf hQ hT (mirN_lt (n := n) (c := lo a) h1) h
theorem sp_P_keepersOf {g n s A x N : Nat} {po lo sz st : Nat → Nat} {M : Mm} {post : Int → Prop} (hQ : s ^ n ≤ 16384) (hT : PTV n s A po lo sz st M) (hx : x < s ^ n) (hp : po x < A) (hN : M g 1 = (N : Int)) (h : post ((N / sz (po x) : Nat) : Int)) : wp_P_keepersOf g (x : Int) M post := by
  unfold wp_P_keepersOf
  refine sp_P_patternOf hQ hT hx ?_
  have hz1 := (hT.2.2.2.2.2.2 _ hp).2.2.2.2.1
  refine sp_P_sizeOf hQ hT hp ?_
  rw [hN]
  exact ⟨fun _ => ⟨⟨by omega, by omega⟩, h⟩, fun q => absurd q (by omega)⟩
theorem sp_P_firstToLeast {g n s A x : Nat} {G : Nat → Prop} {po lo sz st : Nat → Nat} {M : Mm} {post : Int → Prop} (h7 : n ≤ 7) (h1 : 1 ≤ s) (h4 : s ≤ 4) (hG : isGrp n G) (hC : GCg n G g M) (hP : PT (Rel n s G) (s ^ n) A po lo sz) (hT : PTV n s A po lo sz st M) (hx : x < s ^ n)
    (h : ∀ t, G t → act n s x t = lo (po x) → (∀ t', G t' → act n s x t' = lo (po x) → t ≤ t') → post (t : Int)) : wp_P_firstToLeast g (x : Int) M post := by
  have hQ := sn_le h7 h4
  have hE := Rel_E h7 h1 hG
  obtain ⟨N, c, e, mk, hL, o3, c12, p2, e0, hl, hmk, hgen⟩ := hC
  obtain ⟨l1, l2, l3, l4, l5⟩ := hL
  have hN : N ≤ 5040 := Ls_le (by decide) (Nat.le_refl 7) l3 l4
  obtain ⟨q1, q2⟩ := hP.1 x hx
  have hT' := hT
  obtain ⟨t1, t2, t3, t4, t5, t6, t7⟩ := hT'
  obtain ⟨t0, ht0, et0⟩ := hE.2.1 _ _ (hP.2.1 _ q1).1 q2
  unfold wp_P_firstToLeast
  refine sp_P_patternOf hQ hT hx ?_
  refine sp_P_leastOf hQ hT q1 ?_
  rw [l1]
  refine ⟨fun t y w => ∃ i : Nat, i ≤ N ∧ t = N - i ∧ w = (i : Int) ∧ ((y = -6 ∧ ∀ k, k < i → ¬ act n s x (e k) = lo (po x)) ∨ ∃ b : Nat, y = (b : Int) ∧ G b ∧ act n s x b = lo (po x) ∧ ∀ k, k < i → act n s x (e k) = lo (po x) → b ≤ e k), ⟨N, 0, by omega, rfl, rfl, Or.inl ⟨rfl, fun k hk => by omega⟩⟩, ?_⟩
  rintro t y w ⟨i, hi, rfl, rfl, hb⟩
  refine ⟨fun q => ?_, fun q => ?_⟩
  · have : i = N := by omega
    subst this
    obtain ⟨k0, hk0, ek0⟩ := (hl t0).mp ht0
    rcases hb with ⟨_, hb⟩ | ⟨b, rfl, b1, b2, b3⟩
    · exact absurd (by rw [ek0]; exact et0) (hb k0 hk0)
    · refine h b b1 b2 (fun t' ht' et' => ?_)
      obtain ⟨k, hk, ek⟩ := (hl t').mp ht'
      have := b3 k hk (by rw [ek]; exact et')
      omega
  · have hi' : i < N := by omega
    have hPe : isP n (e i) := hG.1 _ ((hl _).mpr ⟨i, hi', rfl⟩)
    refine ⟨⟨by omega, by omega⟩, ?_⟩
    intro z5 hz5
    rw [Int.toNat_natCast, l2 i hi'] at hz5
    rw [hz5]
    intro K hK
    have step : ∀ y2 : Int, ((y2 = -6 ∧ ∀ k, k < i + 1 → ¬ act n s x (e k) = lo (po x)) ∨ ∃ b : Nat, y2 = (b : Int) ∧ G b ∧ act n s x b = lo (po x) ∧ ∀ k, k < i + 1 → act n s x (e k) = lo (po x) → b ≤ e k) → K y2 := by
      intro y2 hy2
      refine hK y2 ⟨⟨by omega, by omega⟩, ?_⟩
      intro w hw
      exact ⟨N - (i + 1), by omega, i + 1, by omega, rfl, by omega, hy2⟩
    intro K2 hK2
    have body : (∀ b : Nat, y = (b : Int) → e i < b) → K2 := by
      intro hbb
      refine hK2 ?_
      refine sp_P_turned h7 h1 h4 t1 t2 t3 hPe ?_
      refine ⟨fun qa => step y ?_, fun qa => step (e i : Int) ?_⟩
      · have qa' : ¬ act n s x (e i) = lo (po x) := fun q4 => qa (by rw [q4])
        rcases hb with ⟨b0, hb⟩ | ⟨b, b0, b1, b2, b3⟩
        · refine Or.inl ⟨b0, fun k hk => ?_⟩
          by_cases qk : k = i
          · rw [qk]; exact qa'
          · exact hb k (by omega)
        · refine Or.inr ⟨b, b0, b1, b2, fun k hk ek => ?_⟩
          by_cases qk : k = i
          · rw [qk] at ek; exact absurd ek qa'
          · exact b3 k (by omega) ek
      · refine Or.inr ⟨e i, rfl, (hl _).mpr ⟨i, hi', rfl⟩, by omega, fun k hk ek => ?_⟩
        by_cases qk : k = i
        · rw [qk]; exact Nat.le_refl _
        · rcases hb with ⟨_, hb⟩ | ⟨b, b0, b1, b2, b3⟩
          · exact absurd ek (hb k (by omega))
          · have := b3 k (by omega) ek
            have := hbb b b0
            omega
    refine ⟨fun q3 => body (fun b hbb => by omega), fun q3 => ⟨fun q4 => step y ?_, fun q4 => body (fun b hbb => by omega)⟩⟩
    rcases hb with ⟨b0, _⟩ | ⟨b, b0, b1, b2, b3⟩
    · exact absurd b0 q3
    · refine Or.inr ⟨b, b0, b1, b2, fun k hk ek => ?_⟩
      by_cases qk : k = i
      · rw [qk]; omega
      · exact b3 k (by omega) ek
