/-! ===== the reference: colourings and patterns ===== -/
def LC (n s c : Nat) (M : Mm) : Prop := ∀ p, p < n → M 44 p = (cf s c (n - 1 - p) : Int)
def LW (n s : Nat) (M : Mm) : Prop := M 30 23 = ((s ^ n : Nat) : Int) ∧ ∀ p, p < n → M 48 p = ((s ^ (n - 1 - p) : Nat) : Int)
theorem e1 : ((1 : Int)).toNat = 1 := rfl
theorem sp_M_layColours {n s c : Nat} {M : Mm} {post : Mm → Prop} (h7 : n ≤ 7) (s1 : 1 ≤ s) (hn : M 31 0 = (n : Int)) (hs : M 31 1 = (s : Int)) (h : ∀ M' : Mm, LC n s c M' → (∀ k, k ≠ 44 → M' k = M k) → post M') : wp_M_layColours (c : Int) M post := by
  unfold wp_M_layColours
  refine sp_M_many hn ?_
  refine ⟨⟨by omega, by omega⟩, ?_⟩
  intro v hv
  rw [hv]
  refine ⟨fun t x y M5 => ∃ j : Nat, j ≤ n ∧ t = n - j ∧ y = (n : Int) - 1 - (j : Int) ∧ x = ((c / s ^ j : Nat) : Int) ∧ (∀ p, n ≤ p + j → p < n → M5 44 p = (cf s c (n - 1 - p) : Int)) ∧ (∀ k, k ≠ 44 → M5 k = M k), ⟨n, 0, by omega, rfl, by omega, by simp, fun p a b => by omega, fun _ _ => rfl⟩, ?_⟩
  rintro t x y M5 ⟨j, hj, rfl, rfl, rfl, hp, fr⟩
  have hs5 : M5 31 1 = (s : Int) := by rw [fr 31 (by omega)]; exact hs
  refine ⟨fun q => ?_, fun q => ?_⟩
  · have : j = n := by omega
    subst this
    exact h M5 (fun p hpn => hp p (by omega) hpn) fr
  · refine ⟨⟨by decide, by decide⟩, ?_⟩
    intro z4 hz4
    rw [e1, hs5] at hz4
    rw [hz4]
    refine ⟨⟨Int.natCast_nonneg _, by omega⟩, ⟨by omega, by omega⟩, ?_⟩
    intro M7 e7
    rw [show ((n : Int) - 1 - (j : Int)).toNat = n - 1 - j by omega] at e7
    refine ⟨⟨by decide, by decide⟩, ?_⟩
    intro z9 hz9
    rw [e1, e7, ms_o _ _ _ (by omega), hs5] at hz9
    rw [hz9]
    refine ⟨⟨Int.natCast_nonneg _, by omega⟩, ?_⟩
    intro w hw
    refine ⟨⟨by omega, by omega⟩, ?_⟩
    intro w2 hw2
    refine ⟨n - (j + 1), by omega, j + 1, by omega, rfl, by omega, ?_, fun p a b => ?_, fun k hk => by rw [e7, ms_o _ _ _ hk]; exact fr k hk⟩
    · rw [hw, ← div_pow_s]; rfl
    · rw [e7]
      by_cases q2 : p = n - 1 - j
      · rw [q2, ms_self, show n - 1 - (n - 1 - j) = j by omega]; rfl
      · rw [ms_ne _ _ q2]; exact hp p (by omega) b
theorem sp_M_layWorths {n s : Nat} {M : Mm} {post : Mm → Prop} (h7 : n ≤ 7) (s4 : s ≤ 4) (hn : M 31 0 = (n : Int)) (hs : M 31 1 = (s : Int)) (h : ∀ M' : Mm, LW n s M' → (∀ k, k ≠ 30 → k ≠ 48 → M' k = M k) → (∀ j, j ≠ 23 → M' 30 j = M 30 j) → post M') : wp_M_layWorths M post := by
  unfold wp_M_layWorths
  refine sp_M_many hn ?_
  refine ⟨⟨by omega, by omega⟩, ?_⟩
  intro v hv
  rw [hv]
  refine ⟨fun t x y M5 => ∃ j : Nat, j ≤ n ∧ t = n - j ∧ y = (n : Int) - 1 - (j : Int) ∧ x = ((s ^ j : Nat) : Int) ∧ (∀ p, n ≤ p + j → p < n → M5 48 p = ((s ^ (n - 1 - p) : Nat) : Int)) ∧ (∀ k, k ≠ 48 → M5 k = M k), ⟨n, 0, by omega, rfl, by omega, rfl, fun p a b => by omega, fun _ _ => rfl⟩, ?_⟩
  rintro t x y M5 ⟨j, hj, rfl, rfl, rfl, hp, fr⟩
  refine ⟨fun q => ?_, fun q => ?_⟩
  · have : j = n := by omega
    subst this
    intro M3 e3
    exact h M3 ⟨by rw [e3, ms_self], fun p hpn => by rw [e3, ms_o _ _ _ (by omega)]; exact hp p (by omega) hpn⟩ (fun k k30 k48 => by rw [e3, ms_o _ _ _ k30]; exact fr k k48) (fun i hi => by rw [e3, ms_ne _ _ hi, fr 30 (by omega)])
  · refine ⟨⟨by omega, by omega⟩, ?_⟩
    intro M6 e6
    rw [show ((n : Int) - 1 - (j : Int)).toNat = n - 1 - j by omega] at e6
    refine ⟨⟨by decide, by decide⟩, ?_⟩
    intro z7 hz7
    rw [e1, e6, ms_o _ _ _ (by omega), fr 31 (by omega), hs] at hz7
    rw [hz7, show ((s ^ j : Nat) : Int) * (s : Int) = ((s ^ (j + 1) : Nat) : Int) by rw [Nat.pow_succ]; rfl]
    have hb := sn_le (show j + 1 ≤ 7 by omega) s4
    refine ⟨⟨by omega, by omega⟩, ?_⟩
    intro w hw
    refine ⟨⟨by omega, by omega⟩, ?_⟩
    intro w2 hw2
    refine ⟨n - (j + 1), by omega, j + 1, by omega, rfl, by omega, hw, fun p a b => ?_, fun k hk => by rw [e6, ms_o _ _ _ hk]; exact fr k hk⟩
    rw [e6]
    by_cases q2 : p = n - 1 - j
    · rw [q2, ms_self, show n - 1 - (n - 1 - j) = j by omega]
    · rw [ms_ne _ _ q2]; exact hp p (by omega) b
theorem sp_M_turned {n s c N k : Nat} {G : Nat → Prop} {τ : Nat → Nat} {M : Mm} {post : Int → Prop} (h1 : 1 ≤ n) (h7 : n ≤ 7) (s1 : 1 ≤ s) (s4 : s ≤ 4) (hG : isGrp n G) (hn : M 31 0 = (n : Int)) (hC : LC n s c M) (hW : LW n s M) (hT : TLn n N G τ M) (hk : k < N) (h : post (act n s c (τ k) : Int)) : wp_M_turned (k : Int) M post := by
  have hN := TLn.le h1 h7 hG hT
  have ht : isP n (τ k) := hG.1 _ ((hT.2.2.1 _).mpr ⟨k, hk, rfl⟩)
  have hal := act_lt (c := c) h7 s1 ht
  have hQ := sn_le h7 s4
  unfold act at hal h
  unfold wp_M_turned
  refine ⟨fun t x y => ∃ p : Nat, p ≤ n ∧ t = n - p ∧ y = (p : Int) ∧ x = (smF (fun p => cf s c (n - 1 - p) * s ^ (n - 1 - dg (τ k) p)) p : Int), ⟨n, 0, by omega, rfl, rfl, rfl⟩, ?_⟩
  rintro t x y ⟨p, hp, rfl, rfl, rfl⟩
  refine sp_M_many hn ?_
  refine ⟨fun q => ?_, fun q => ?_⟩
  · have : p = n := by omega
    subst this
    exact h
  · have hpn : p < n := by omega
    have hd := ht.2.1 p hpn
    have hle := term_le (fun p => cf s c (n - 1 - p) * s ^ (n - 1 - dg (τ k) p)) hpn
    refine ⟨⟨by omega, by omega⟩, ?_⟩
    intro z3 hz3
    rw [Int.toNat_natCast, hC p hpn] at hz3
    refine ⟨⟨by omega, by omega⟩, ⟨by omega, by omega⟩, ⟨by omega, by omega⟩, ?_⟩
    intro z7 hz7
    rw [show (7 * (k : Int) + (p : Int)).toNat = 7 * k + p by omega, hT.2.1 k hk p hpn] at hz7
    rw [hz7]
    refine ⟨⟨by omega, by omega⟩, ?_⟩
    intro z9 hz9
    rw [Int.toNat_natCast, hW.2 _ hd] at hz9
    have e2 : z3 * z9 = ((cf s c (n - 1 - p) * s ^ (n - 1 - dg (τ k) p) : Nat) : Int) := by rw [hz3, hz9]; rfl
    rw [e2]
    refine ⟨⟨by omega, by omega⟩, ⟨by omega, by omega⟩, ?_⟩
    intro v hv
    refine ⟨⟨by omega, by omega⟩, ?_⟩
    intro v2 hv2
    exact ⟨n - (p + 1), by omega, p + 1, by omega, rfl, by omega, by rw [hv, smF]; omega⟩
def Hk (n s x : Nat) (τ : Nat → Nat) (k c : Nat) : Prop := ∃ i, i < k ∧ act n s x (τ i) = c
theorem Hk_s {n s x : Nat} {τ : Nat → Nat} {k c : Nat} : Hk n s x τ (k + 1) c ↔ Hk n s x τ k c ∨ act n s x (τ k) = c := by
  constructor
  · rintro ⟨i, hi, e⟩
    by_cases q : i = k
    · rw [q] at e; exact Or.inr e
    · exact Or.inl ⟨i, by omega, e⟩
  · rintro (⟨i, hi, e⟩ | e)
    · exact ⟨i, by omega, e⟩
    · exact ⟨k, by omega, e⟩
theorem sp_M_strike {n s x A N : Nat} {G : Nat → Prop} {τ : Nat → Nat} {M : Mm} {post : Mm → Prop} (h1 : 1 ≤ n) (h7 : n ≤ 7) (s1 : 1 ≤ s) (s4 : s ≤ 4) (hG : isGrp n G) (hn : M 31 0 = (n : Int)) (hs : M 31 1 = (s : Int)) (hW : LW n s M) (hT : TLn n N G τ M) (hA : M 30 22 = (A : Int)) (hA' : A < 16384) (hv : ∀ c, c < s ^ n → M 45 c < (A : Int)) (hvx : ∀ c, Rel n s G x c → M 45 c = -6) (h0 : M 47 A = 0)
    (h : ∀ M' : Mm, (∀ c, c < s ^ n → (Rel n s G x c ∧ M' 45 c = (A : Int)) ∨ (¬ Rel n s G x c ∧ M' 45 c = M 45 c)) → M' 47 A = (ctB (fun c => decide (M' 45 c = (A : Int))) (s ^ n) : Int) → (∀ j, j ≠ A → M' 47 j = M 47 j) → (∀ k, k ≠ 44 → k ≠ 45 → k ≠ 47 → M' k = M k) → post M') : wp_M_strike (x : Int) M post := by
  have hQ := sn_le h7 s4
  have hN := TLn.le h1 h7 hG hT
  unfold wp_M_strike
  refine sp_M_layColours h7 s1 hn hs ?_
  intro M1 c1 f1
  refine ⟨fun t y M5 => ∃ k : Nat, k ≤ N ∧ t = N - k ∧ y = (k : Int) ∧ (∀ c, c < s ^ n → (Hk n s x τ k c ∧ M5 45 c = (A : Int)) ∨ (¬ Hk n s x τ k c ∧ M5 45 c = M 45 c)) ∧ M5 47 A = (ctB (fun c => decide (M5 45 c = (A : Int))) (s ^ n) : Int) ∧ (∀ j, j ≠ A → M5 47 j = M 47 j) ∧ M5 44 = M1 44 ∧ (∀ k, k ≠ 44 → k ≠ 45 → k ≠ 47 → M5 k = M k), ⟨N, 0, by omega, rfl, rfl, fun c hc => Or.inr ⟨fun ⟨i, hi, _⟩ => by omega, by rw [f1 45 (by omega)]⟩, ?_, fun j _ => by rw [f1 47 (by omega)], rfl, fun k k44 _ _ => f1 k k44⟩, ?_⟩
  · rw [f1 47 (by omega), h0, f1 45 (by omega), ctB_zero (fun c hc => by show decide _ = false; exact decide_eq_false (by have := hv c hc; omega))]; rfl
  rintro t y M5 ⟨k, hk, rfl, rfl, hh, hz, hj, h44, fr⟩
  have f30 : M5 30 = M 30 := fr 30 (by omega) (by omega) (by omega)
  rw [f30, hT.1]
  refine ⟨fun q => ?_, fun q => ?_⟩
  · have : k = N := by omega
    subst this
    refine h M5 (fun c hc => ?_) hz hj fr
    have hiff : Hk n s x τ k c ↔ Rel n s G x c := ⟨fun ⟨i, hi, e⟩ => ⟨τ i, (hT.2.2.1 _).mpr ⟨i, hi, rfl⟩, e⟩, fun ⟨t, ht, e⟩ => by
      obtain ⟨i, hi, ei⟩ := (hT.2.2.1 t).mp ht
      exact ⟨i, hi, by rw [ei]; exact e⟩⟩
    rw [← hiff]
    exact hh c hc
  · have hkN : k < N := by omega
    have ht : isP n (τ k) := hG.1 _ ((hT.2.2.1 _).mpr ⟨k, hkN, rfl⟩)
    have hal := act_lt (c := x) h7 s1 ht
    have hRel : Rel n s G x (act n s x (τ k)) := ⟨τ k, (hT.2.2.1 _).mpr ⟨k, hkN, rfl⟩, rfl⟩
    have hv6 := hvx _ hRel
    have hhk := hh _ hal
    refine sp_M_turned (G := G) (τ := τ) (N := N) h1 h7 s1 s4 hG (by rw [fr 31 (by omega) (by omega) (by omega)]; exact hn) (fun p hp => by rw [h44]; exact c1 p hp) (by unfold LW; rw [f30, fr 48 (by omega) (by omega) (by omega)]; exact hW) ⟨by rw [f30]; exact hT.1, by rw [fr 39 (by omega) (by omega) (by omega)]; exact hT.2.1, hT.2.2⟩ hkN ?_
    refine ⟨⟨by omega, by omega⟩, ?_⟩
    intro z4 hz4
    rw [Int.toNat_natCast] at hz4
    intro K hK
    refine ⟨fun q2 => hK _ ?_, fun q2 => ?_⟩
    · refine ⟨⟨by omega, by omega⟩, ?_⟩
      intro w hw
      have hin : Hk n s x τ k (act n s x (τ k)) := by
        rcases hhk with ⟨a, _⟩ | ⟨_, a⟩
        · exact a
        · rw [a, hv6] at hz4; omega
      refine ⟨N - (k + 1), by omega, k + 1, by omega, rfl, by omega, fun c hc => ?_, hz, hj, h44, fr⟩
      have hiff : Hk n s x τ (k + 1) c ↔ Hk n s x τ k c := by
        rw [Hk_s]
        exact ⟨fun a => a.elim id (fun e => by rw [← e]; exact hin), Or.inl⟩
      rw [hiff]; exact hh c hc
    · have hnin : ¬ Hk n s x τ k (act n s x (τ k)) ∧ M5 45 (act n s x (τ k)) = -6 := by
        rcases hhk with ⟨_, a⟩ | ⟨a, b⟩
        · rw [a] at hz4; omega
        · exact ⟨a, by rw [b]; exact hv6⟩
      have hzle := ctB_le (fun c => decide (M5 45 c = (A : Int))) (s ^ n)
      refine ⟨⟨by omega, by omega⟩, ?_⟩
      intro M9 e9
      rw [Int.toNat_natCast, hA] at e9
      have g30 : M9 30 = M 30 := by rw [e9, ms_o _ _ _ (by omega)]; exact f30
      rw [g30, hA, Int.toNat_natCast]
      refine ⟨⟨by omega, by omega⟩, ?_⟩
      intro z11 hz11
      rw [e9, ms_o _ _ _ (by omega), hz] at hz11
      refine ⟨⟨by omega, by omega⟩, ⟨by omega, by omega⟩, ?_⟩
      intro M14 e14
      have r45 : ∀ c, c ≠ act n s x (τ k) → M14 45 c = M5 45 c := fun c hc => by rw [e14, ms_o _ _ _ (by omega), e9, ms_ne _ _ hc]
      have r45' : M14 45 (act n s x (τ k)) = (A : Int) := by rw [e14, ms_o _ _ _ (by omega), e9, ms_self]
      refine hK _ ⟨⟨by omega, by omega⟩, ?_⟩
      intro w hw
      refine ⟨N - (k + 1), by omega, k + 1, by omega, rfl, by omega, fun c hc => ?_, ?_, fun j hjA => by rw [e14, ms_ne _ _ hjA, e9, ms_o _ _ _ (by omega)]; exact hj j hjA, by rw [e14, ms_o _ _ _ (by omega), e9, ms_o _ _ _ (by omega)]; exact h44, fun q q44 q45 q47 => by rw [e14, ms_o _ _ _ q47, e9, ms_o _ _ _ q45]; exact fr q q44 q45 q47⟩
      · rw [Hk_s]
        by_cases q3 : act n s x (τ k) = c
        · rw [← q3]; exact Or.inl ⟨Or.inr rfl, r45'⟩
        · rw [r45 c (fun e => q3 e.symm)]
          rcases hh c hc with ⟨a, b⟩ | ⟨a, b⟩
          · exact Or.inl ⟨Or.inl a, b⟩
          · exact Or.inr ⟨fun d => d.elim a q3, b⟩
      · have h3 : M14 47 A = z11 + 1 := by rw [e14, ms_self]
        have h2 := ctB_upd (p := fun c => decide (M5 45 c = (A : Int))) (q := fun c => decide (M14 45 c = (A : Int))) (r := act n s x (τ k)) (by show decide _ = false; rw [hnin.2]; exact decide_eq_false (by omega)) (by show decide _ = true; rw [r45']; exact decide_eq_true rfl) (fun c hc => by show decide _ = decide _; rw [r45 c hc]) (s ^ n)
        rw [if_pos hal] at h2
        rw [h3, h2, hz11]
        omega
def PTM (n s A : Nat) (po lo sz : Nat → Nat) (M : Mm) : Prop := M 30 22 = (A : Int) ∧ A ≤ s ^ n ∧ (∀ c, c < s ^ n → M 45 c = (po c : Int)) ∧ (∀ a, a < A → M 46 a = (lo a : Int) ∧ M 47 a = (sz a : Int))
def FrP (M M' : Mm) : Prop := (∀ k, k ≠ 30 → k ≠ 44 → k ≠ 45 → k ≠ 46 → k ≠ 47 → k ≠ 48 → M' k = M k) ∧ (∀ j, j ≠ 22 → j ≠ 23 → M' 30 j = M 30 j)
theorem sp_M_layPatterns {n s N : Nat} {G : Nat → Prop} {τ : Nat → Nat} {M : Mm} {post : Mm → Prop} (h1 : 1 ≤ n) (h7 : n ≤ 7) (s1 : 1 ≤ s) (s4 : s ≤ 4) (hG : isGrp n G) (hn : M 31 0 = (n : Int)) (hs : M 31 1 = (s : Int)) (hT : TLn n N G τ M)
    (h : ∀ (M' : Mm) (A : Nat) (po lo sz : Nat → Nat), PT (Rel n s G) (s ^ n) A po lo sz → PTM n s A po lo sz M' → LW n s M' → FrP M M' → post M') : wp_M_layPatterns M post := by
  have hQ := sn_le h7 s4
  have hE := Rel_E h7 s1 hG
  unfold wp_M_layPatterns
  refine sp_M_layWorths h7 s4 hn hs ?_
  intro M1 w1 f1 j1
  intro M2 e2
  have f2 : ∀ k, k ≠ 30 → M2 k = M1 k := fun k hk => by rw [e2, ms_o _ _ _ hk]
  have w2 : LW n s M2 := ⟨by rw [e2, ms_ne _ _ (by omega)]; exact w1.1, by rw [f2 48 (by omega)]; exact w1.2⟩
  have p2 : FrP M M2 := ⟨fun k k30 _ _ _ _ k48 => by rw [f2 k k30]; exact f1 k k30 k48, fun j j22 j23 => by rw [e2, ms_ne _ _ j22]; exact j1 j j23⟩
  have a2 : M2 30 22 = 0 := by rw [e2, ms_self]
  refine ⟨fun t y M5 => ∃ i : Nat, i ≤ s ^ n ∧ t = s ^ n - i ∧ y = (i : Int) ∧ (∀ j, j < i → M5 45 j = -6) ∧ (∀ k, k ≠ 45 → M5 k = M2 k), ⟨s ^ n, 0, by omega, rfl, rfl, fun j hj => by omega, fun _ _ => rfl⟩, ?_⟩
  rintro t y M5 ⟨i, hi, rfl, rfl, hm, f5⟩
  rw [f5 30 (by omega), w2.1]
  refine ⟨fun q => ?_, fun q => ?_⟩
  · have hiQ : i = s ^ n := by omega
    subst hiQ
    have p5 : FrP M M5 := ⟨fun k k30 k44 k45 k46 k47 k48 => by rw [f5 k k45]; exact p2.1 k k30 k44 k45 k46 k47 k48, fun j j22 j23 => by rw [f5 30 (by omega)]; exact p2.2 j j22 j23⟩
    refine ⟨fun t y M9 => ∃ (x A : Nat) (lo : Nat → Nat), x ≤ s ^ n ∧ t = s ^ n - x ∧ y = (x : Int) ∧ PI (Rel n s G) (s ^ n) x A lo (M9 45) ∧ M9 30 22 = (A : Int) ∧ LW n s M9 ∧ (∀ a, a < A → M9 46 a = (lo a : Int) ∧ M9 47 a = (ctB (fun d => decide (M9 45 d = (a : Int))) (s ^ n) : Int)) ∧ FrP M M9, ⟨s ^ n, 0, 0, fun _ => 0, by omega, rfl, rfl, PI_0 hm, by rw [f5 30 (by omega)]; exact a2, by unfold LW; rw [f5 30 (by omega), f5 48 (by omega)]; exact w2, fun a ha => by omega, p5⟩, ?_⟩
    rintro t y M9 ⟨x, A, lo, hx, rfl, rfl, hI, b22, bw, bs, bf⟩
    have hA := PI_A hI
    rw [bw.1]
    refine ⟨fun q3 => ?_, fun q3 => ?_⟩
    · have : x = s ^ n := by omega
      rw [this] at hI hA
      have hPT := PI_PT (sz := fun a => ctB (fun d => decide (M9 45 d = (a : Int))) (s ^ n)) hI (fun a _ => rfl)
      exact h M9 A _ lo _ hPT.1 ⟨b22, hA, hPT.2, fun a ha => bs a ha⟩ bw bf
    · have hx' : x < s ^ n := by omega
      have hcase := hI.2.2.2 x hx'
      refine ⟨⟨by omega, by omega⟩, ?_⟩
      intro z6 hz6
      rw [Int.toNat_natCast] at hz6
      intro K hK
      refine ⟨fun q4 => hK _ ?_, fun q4 => ?_⟩
      · have hne : ¬ M9 45 x = -6 := fun e => by rw [e] at hz6; omega
        clear hcase
        refine ⟨⟨by omega, by omega⟩, ?_⟩
        intro w hw
        exact ⟨s ^ n - (x + 1), by omega, x + 1, A, lo, by omega, rfl, by omega, PI_skip hx' hI hne, b22, bw, bs, bf⟩
      · have hv6 : M9 45 x = -6 ∧ ∀ a, a < A → ¬ Rel n s G (lo a) x := by
          rcases hcase with a | ⟨a, _, e, _⟩
          · exact a
          · rw [e] at hz6; omega
        clear hcase
        have hvx : ∀ d, Rel n s G x d → M9 45 d = -6 := by
          intro d hd
          have hdQ : d < s ^ n := hE.2.2.2 _ _ hd
          rcases hI.2.2.2 d hdQ with ⟨qq, _⟩ | ⟨a, ha, _, qr⟩
          · exact qq
          · exact absurd (hE.2.2.1 _ _ _ qr (hE.2.1 _ _ hx' hd)) (hv6.2 a ha)
        have hvA : ∀ d, d < s ^ n → M9 45 d < (A : Int) := by
          intro d hd
          rcases hI.2.2.2 d hd with ⟨qq, _⟩ | ⟨a, ha, qq, _⟩
          · omega
          · omega
        rw [b22, Int.toNat_natCast]
        refine ⟨⟨by omega, by omega⟩, ?_⟩
        intro M11 e11
        have g30 : M11 30 = M9 30 := by rw [e11, ms_o _ _ _ (by omega)]
        rw [g30, b22, Int.toNat_natCast]
        refine ⟨⟨by omega, by omega⟩, ?_⟩
        intro M13 e13
        have g : ∀ k, k ≠ 46 → k ≠ 47 → M13 k = M9 k := fun k k46 k47 => by rw [e13, ms_o _ _ _ k47, e11, ms_o _ _ _ k46]
        have g46 : M13 46 = M11 46 := by rw [e13, ms_o _ _ _ (by omega)]
        have f31 : M9 31 = M 31 := bf.1 31 (by omega) (by omega) (by omega) (by omega) (by omega) (by omega)
        refine sp_M_strike (A := A) (G := G) (τ := τ) (N := N) h1 h7 s1 s4 hG (by rw [g 31 (by omega) (by omega), f31]; exact hn) (by rw [g 31 (by omega) (by omega), f31]; exact hs) (by unfold LW; rw [g 30 (by omega) (by omega), g 48 (by omega) (by omega)]; exact bw) ⟨by rw [g 30 (by omega) (by omega), bf.2 12 (by omega) (by omega)]; exact hT.1, by rw [g 39 (by omega) (by omega), bf.1 39 (by omega) (by omega) (by omega) (by omega) (by omega) (by omega)]; exact hT.2.1, hT.2.2⟩ (by rw [g 30 (by omega) (by omega)]; exact b22) (by omega) (by rw [g 45 (by omega) (by omega)]; exact hvA) (by rw [g 45 (by omega) (by omega)]; exact hvx) (by rw [e13, ms_self]) ?_
        intro M14 c1 c2 c3 c4
        rw [g 45 (by omega) (by omega)] at c1
        have h30 : M14 30 = M9 30 := by rw [c4 30 (by omega) (by omega) (by omega), g 30 (by omega) (by omega)]
        rw [h30, b22]
        refine ⟨⟨by omega, by omega⟩, ?_⟩
        intro M16 e16
        have k16 : ∀ k, k ≠ 30 → M16 k = M14 k := fun k hk => by rw [e16, ms_o _ _ _ hk]
        refine hK _ ⟨⟨by omega, by omega⟩, ?_⟩
        intro w hw
        refine ⟨s ^ n - (x + 1), by omega, x + 1, A + 1, eX lo A x, by omega, rfl, by omega, by rw [k16 45 (by omega)]; exact PI_new hE hx' hI hv6.1 c1, by rw [e16, ms_self]; omega, ⟨by rw [e16, ms_ne _ _ (by omega), h30]; exact bw.1, by rw [k16 48 (by omega), c4 48 (by omega) (by omega) (by omega), g 48 (by omega) (by omega)]; exact bw.2⟩, fun a ha => ?_, ⟨fun k k30 k44 k45 k46 k47 k48 => by rw [k16 k k30, c4 k k44 k45 k47, g k k46 k47]; exact bf.1 k k30 k44 k45 k46 k47 k48, fun j j22 j23 => by rw [e16, ms_ne _ _ j22, h30]; exact bf.2 j j22 j23⟩⟩
        rw [k16 46 (by omega), c4 46 (by omega) (by omega) (by omega), g46, k16 47 (by omega), k16 45 (by omega)]
        by_cases qa : a = A
        · rw [qa, eX_at]
          exact ⟨by rw [e11, ms_self], c2⟩
        · rw [eX_lt (by omega)]
          obtain ⟨d1, d2⟩ := bs a (by omega)
          refine ⟨by rw [e11, ms_ne _ _ qa]; exact d1, ?_⟩
          rw [c3 a qa, e13, ms_ne _ _ qa, e11, ms_o _ _ _ (by omega), d2]
          congr 1
          refine ctB_cong fun d hd => ?_
          show decide _ = decide _
          rcases c1 d hd with ⟨r1, r2⟩ | ⟨_, r2⟩
          · have r3 := hvx d r1
            exact decide_eq_decide.mpr (by omega)
          · rw [r2]
  · refine ⟨⟨by omega, by omega⟩, ?_⟩
    intro M6 e6
    rw [Int.toNat_natCast] at e6
    refine ⟨⟨by omega, by omega⟩, ?_⟩
    intro w hw
    refine ⟨s ^ n - (i + 1), by omega, i + 1, by omega, rfl, by omega, fun j hj => ?_, fun k hk => by rw [e6, ms_o _ _ _ hk]; exact f5 k hk⟩
    rw [e6]
    by_cases qj : j = i
    · rw [qj, ms_self]
    · rw [ms_ne _ _ qj]; exact hm j (by omega)
