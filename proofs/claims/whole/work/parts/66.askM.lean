/-! ===== the reference: what is asked of a colouring ===== -/
theorem sp_M_weightOf {n s c : Nat} {w : Nat → Nat} {M : Mm} {post : Int → Mm → Prop} (h7 : n ≤ 7) (s1 : 1 ≤ s) (s4 : s ≤ 4) (hn : M 31 0 = (n : Int)) (hs : M 31 1 = (s : Int)) (hw : ∀ j, j < 4 → M 31 (2 + j) = (w j : Int)) (hw9 : ∀ j, j < 4 → w j ≤ 9) (h : ∀ M' : Mm, (∀ k, k ≠ 44 → M' k = M k) → post (wtN n s w c : Int) M') : wp_M_weightOf (c : Int) M post := by
  unfold wp_M_weightOf
  refine sp_M_layColours h7 s1 hn hs ?_
  intro M1 c1 f1
  have f31 := f1 31 (by omega)
  have e0 : smF (fun p => w (cf s c (n - 1 - p))) n = wtN n s w c := smF_rev (fun p => w (cf s c p)) n
  refine ⟨fun t x y => ∃ p : Nat, p ≤ n ∧ t = n - p ∧ y = (p : Int) ∧ x = (smF (fun p => w (cf s c (n - 1 - p))) p : Int), ⟨n, 0, by omega, rfl, rfl, rfl⟩, ?_⟩
  rintro t x y ⟨p, hp, rfl, rfl, rfl⟩
  refine sp_M_many (n := n) (by rw [f31]; exact hn) ?_
  refine ⟨fun q => ?_, fun q => ?_⟩
  · have : p = n := by omega
    subst this
    rw [e0]; exact h M1 f1
  · have hc := cf_lt (c := c) (p := n - 1 - p) s1
    have hb := smF_le (f := fun p => w (cf s c (n - 1 - p))) (b := 9) p (fun k _ => hw9 _ (by have := cf_lt (c := c) (p := n - 1 - k) s1; omega))
    have h9 := hw9 (cf s c (n - 1 - p)) (by omega)
    refine ⟨⟨by omega, by omega⟩, ?_⟩
    intro z4 hz4
    rw [Int.toNat_natCast, c1 p (by omega)] at hz4
    rw [hz4]
    refine ⟨⟨by omega, by omega⟩, ⟨by omega, by omega⟩, ?_⟩
    intro z7 hz7
    rw [show (2 + (cf s c (n - 1 - p) : Int)).toNat = 2 + cf s c (n - 1 - p) by omega, f31, hw _ (by omega)] at hz7
    refine ⟨⟨by omega, by omega⟩, ?_⟩
    intro v hv
    refine ⟨⟨by omega, by omega⟩, ?_⟩
    intro v2 hv2
    exact ⟨n - (p + 1), by omega, p + 1, by omega, rfl, by omega, by rw [hv, smF]; omega⟩
theorem sp_M_coloursOf {n s c : Nat} {M : Mm} {post : Int → Mm → Prop} (h7 : n ≤ 7) (s1 : 1 ≤ s) (s4 : s ≤ 4) (hn : M 31 0 = (n : Int)) (hs : M 31 1 = (s : Int)) (h : ∀ M' : Mm, (∀ k, k ≠ 44 → M' k = M k) → post (pc7 (clN n s c) : Int) M') : wp_M_coloursOf (c : Int) M post := by
  unfold wp_M_coloursOf
  refine sp_M_layColours h7 s1 hn hs ?_
  intro M1 c1 f1
  have f31 := f1 31 (by omega)
  have e0 : orS (fun p => cf s c (n - 1 - p)) n = clN n s c := orS_eq (fun q => ⟨fun ⟨i, hi, e⟩ => ⟨n - 1 - i, by omega, e⟩, fun ⟨i, hi, e⟩ => ⟨n - 1 - i, by omega, by show cf s c (n - 1 - (n - 1 - i)) = q; rw [show n - 1 - (n - 1 - i) = i by omega]; exact e⟩⟩)
  refine ⟨fun t x y => ∃ p : Nat, p ≤ n ∧ t = n - p ∧ y = (p : Int) ∧ x = (orS (fun p => cf s c (n - 1 - p)) p : Int), ⟨n, 0, by omega, rfl, rfl, rfl⟩, ?_⟩
  rintro t x y ⟨p, hp, rfl, rfl, rfl⟩
  have hlt : orS (fun p => cf s c (n - 1 - p)) p < 2 ^ 4 := orS_lt (fun i hi => by have := cf_lt (c := c) (p := n - 1 - i) s1; omega)
  refine sp_M_many (n := n) (by rw [f31]; exact hn) ?_
  refine ⟨fun q => ?_, fun q => ?_⟩
  · have : p = n := by omega
    subst this
    rw [e0] at hlt ⊢
    generalize clN p s c = b at *
    have b0 : bAnd (b : Int) 1 = ((b % 2 : Nat) : Int) := by
      have h1 : bAnd (b : Int) ((1 : Nat) : Int) = _ := nat_bAnd (by omega)
      rw [Nat.and_one_is_mod] at h1
      exact h1
    have b1 : bAnd (bShr (b : Int) 1) 1 = ((b / 2 ^ 1 % 2 : Nat) : Int) := nat_bit (a := b) (k := 1) (by omega) (by omega)
    have b2 : bAnd (bShr (b : Int) 2) 1 = ((b / 2 ^ 2 % 2 : Nat) : Int) := nat_bit (a := b) (k := 2) (by omega) (by omega)
    have b3 : bAnd (bShr (b : Int) 3) 1 = ((b / 2 ^ 3 % 2 : Nat) : Int) := nat_bit (a := b) (k := 3) (by omega) (by omega)
    rw [b0, b1, b2, b3]
    refine ⟨⟨by omega, by omega⟩, ⟨by omega, by omega⟩, ⟨by omega, by omega⟩, ?_⟩
    have e : ((b % 2 : Nat) : Int) + ((b / 2 ^ 1 % 2 : Nat) : Int) + ((b / 2 ^ 2 % 2 : Nat) : Int) + ((b / 2 ^ 3 % 2 : Nat) : Int) = (pc7 b : Int) := by
      unfold pc7
      omega
    rw [e]; exact h M1 f1
  · have hc := cf_lt (c := c) (p := n - 1 - p) s1
    refine ⟨⟨by omega, by omega⟩, ?_⟩
    intro z7 hz7
    rw [Int.toNat_natCast, c1 p (by omega)] at hz7
    rw [hz7]
    intro v hv
    rw [bShl1 (by omega), nat_bOr (by omega) (by have := (p2_le (show cf s c (n - 1 - p) < 7 by omega)).2; omega)] at hv
    refine ⟨⟨by omega, by omega⟩, ?_⟩
    intro v2 hv2
    exact ⟨n - (p + 1), by omega, p + 1, by omega, rfl, by omega, hv⟩
theorem sp_M_mirrored {n s c : Nat} {M : Mm} {post : Int → Mm → Prop} (h7 : n ≤ 7) (s1 : 1 ≤ s) (s4 : s ≤ 4) (hn : M 31 0 = (n : Int)) (hs : M 31 1 = (s : Int)) (hW : LW n s M) (h : ∀ M' : Mm, (∀ k, k ≠ 44 → M' k = M k) → post (mirN n s c : Int) M') : wp_M_mirrored (c : Int) M post := by
  have hml := mirN_lt (n := n) (c := c) s1
  have hQ := sn_le h7 s4
  unfold wp_M_mirrored
  refine sp_M_layColours h7 s1 hn hs ?_
  intro M1 c1 f1
  have f31 := f1 31 (by omega)
  unfold mirN at hml h
  refine ⟨fun t x y => ∃ p : Nat, p ≤ n ∧ t = n - p ∧ y = (p : Int) ∧ x = (smF (fun i => cf s c i * s ^ (n - 1 - i)) p : Int), ⟨n, 0, by omega, rfl, rfl, rfl⟩, ?_⟩
  rintro t x y ⟨p, hp, rfl, rfl, rfl⟩
  refine sp_M_many (n := n) (by rw [f31]; exact hn) ?_
  refine ⟨fun q => ?_, fun q => ?_⟩
  · have : p = n := by omega
    subst this
    exact h M1 f1
  · have hpn : p < n := by omega
    have hle := term_le (fun i => cf s c i * s ^ (n - 1 - i)) hpn
    refine sp_M_many (n := n) (by rw [f31]; exact hn) ?_
    refine ⟨⟨by omega, by omega⟩, ⟨by omega, by omega⟩, ⟨by omega, by omega⟩, ?_⟩
    intro z6 hz6
    rw [show ((n : Int) - 1 - (p : Int)).toNat = n - 1 - p by omega, c1 (n - 1 - p) (by omega), show n - 1 - (n - 1 - p) = p by omega] at hz6
    refine ⟨⟨by omega, by omega⟩, ?_⟩
    intro z8 hz8
    rw [Int.toNat_natCast, f1 48 (by omega), hW.2 p hpn] at hz8
    have e2 : z6 * z8 = ((cf s c p * s ^ (n - 1 - p) : Nat) : Int) := by rw [hz6, hz8]; rfl
    rw [e2]
    refine ⟨⟨by omega, by omega⟩, ⟨by omega, by omega⟩, ?_⟩
    intro v hv
    refine ⟨⟨by omega, by omega⟩, ?_⟩
    intro v2 hv2
    exact ⟨n - (p + 1), by omega, p + 1, by omega, rfl, by omega, by rw [hv, smF]; omega⟩
theorem pc7_sum (x : Nat) : smF (fun i => x / 2 ^ i % 2) 7 = pc7 x := by
  simp only [smF, pc7]
  omega
theorem wp_in_1 {a b c : Int} {post : Int → Prop} (h : b ≤ a ∧ a ≤ c) (hp : post 1) : wp_M_in a b c post := by
  unfold wp_M_in
  exact ⟨fun q => absurd q (by omega), fun _ => ⟨fun q => absurd q (by omega), fun _ => hp⟩⟩
theorem wp_in_0 {a b c : Int} {post : Int → Prop} (h : ¬ (b ≤ a ∧ a ≤ c)) (hp : post 0) : wp_M_in a b c post := by
  unfold wp_M_in
  exact ⟨fun _ => hp, fun q => ⟨fun _ => hp, fun q2 => absurd ⟨by omega, by omega⟩ h⟩⟩
theorem sp_M_orbit {n N : Nat} {a1 a2 : Int} {G : Nat → Prop} {τ : Nat → Nat} {M : Mm} {post : Int → Prop} (h1 : 1 ≤ n) (h7 : n ≤ 7) (hG : isGrp n G) (hn : M 31 0 = (n : Int)) (hT : TLn n N G τ M) (hp1 : ¬ (0 ≤ a1 ∧ a1 ≤ (n : Int) - 1) → post (-1)) (hp2 : (0 ≤ a1 ∧ a1 ≤ (n : Int) - 1) → ¬ (0 ≤ a2 ∧ a2 ≤ 1) → post (-2)) (h0 : ∀ a : Nat, a < n → a1 = (a : Int) → a2 = 0 → post (pc7 (orS (fun k => dg (τ k) a) N) : Int)) (hh : ∀ a : Nat, a < n → a1 = (a : Int) → ¬ a2 = 0 → (0 ≤ a2 ∧ a2 ≤ 1) → post (ctB (fun k => decide (dg (τ k) a = a)) N : Int)) : wp_M_orbit a1 a2 M post := by
  have hN := TLn.le h1 h7 hG hT
  unfold wp_M_orbit wp_M_isPoint
  refine sp_M_many hn ?_
  refine ⟨⟨by omega, by omega⟩, ?_⟩
  by_cases c1 : 0 ≤ a1 ∧ a1 ≤ (n : Int) - 1
  · refine wp_in_1 c1 ⟨Or.inr rfl, fun _ => ?_, fun q => absurd q (by decide)⟩
    by_cases c2 : 0 ≤ a2 ∧ a2 ≤ 1
    · refine wp_in_1 c2 ⟨fun _ => ?_, fun q => absurd q (by decide)⟩
      obtain ⟨a, ha⟩ : ∃ a : Nat, a1 = (a : Int) := ⟨a1.toNat, by omega⟩
      have han : a < n := by omega
      have hlt : ∀ k, k ≤ N → orS (fun k => dg (τ k) a) k < 2 ^ 7 := fun k hk => orS_lt (fun i hi => by have := (hG.1 _ ((hT.2.2.1 _).mpr ⟨i, by omega, rfl⟩)).2.1 a han; omega)
      refine ⟨fun t x y z => ∃ k : Nat, k ≤ N ∧ t = N - k ∧ z = (k : Int) ∧ x = (orS (fun k => dg (τ k) a) k : Int) ∧ y = (ctB (fun k => decide (dg (τ k) a = a)) k : Int), ⟨N, 0, by omega, rfl, rfl, rfl, rfl⟩, ?_⟩
      rintro t x y z ⟨k, hk, rfl, rfl, rfl, rfl⟩
      have hl := hlt k hk
      have hcb := ctB_le (fun k => decide (dg (τ k) a = a)) k
      rw [hT.1]
      refine ⟨fun q => ?_, fun q => ?_⟩
      · have : k = N := by omega
        subst this
        refine ⟨fun t x y => ∃ i : Nat, i ≤ 7 ∧ t = 7 - i ∧ y = (i : Int) ∧ x = (smF (fun i => orS (fun k => dg (τ k) a) k / 2 ^ i % 2) i : Int), ⟨7, 0, by omega, rfl, rfl, rfl⟩, ?_⟩
        rintro t x y ⟨i, hi, rfl, rfl, rfl⟩
        refine ⟨fun q2 => ⟨fun q3 => hh a han ha q3 c2, fun q3 => ?_⟩, fun q2 => ?_⟩
        · have : i = 7 := by omega
          rw [this, pc7_sum]; exact h0 a han ha q3
        · have hb := smF_le (f := fun i => orS (fun k => dg (τ k) a) k / 2 ^ i % 2) (b := 1) i (fun j _ => by have := Nat.mod_lt (orS (fun k => dg (τ k) a) k / 2 ^ j) (show 0 < 2 by decide); omega)
          rw [nat_bit (by omega) (by omega)]
          have hm := Nat.mod_lt (orS (fun k => dg (τ k) a) k / 2 ^ i) (show 0 < 2 by decide)
          refine ⟨⟨by omega, by omega⟩, ?_⟩
          intro v hv
          refine ⟨⟨by omega, by omega⟩, ?_⟩
          intro v2 hv2
          exact ⟨7 - (i + 1), by omega, i + 1, by omega, rfl, by omega, by rw [hv, smF]; omega⟩
      · have hkN : k < N := by omega
        have hd := (hG.1 _ ((hT.2.2.1 _).mpr ⟨k, hkN, rfl⟩)).2.1 a han
        refine ⟨⟨by omega, by omega⟩, ⟨by omega, by omega⟩, ⟨by omega, by omega⟩, ?_⟩
        intro z12 hz12
        rw [show (7 * (k : Int) + a1).toNat = 7 * k + a by omega, hT.2.1 k hkN a han] at hz12
        rw [hz12]
        intro v3 hv3
        rw [bShl1 (by omega), nat_bOr (by omega) (by have := (p2_le (show dg (τ k) a < 7 by omega)).2; omega)] at hv3
        intro K hK
        refine ⟨fun q2 => hK _ ?_, fun q2 => hK _ ?_⟩
        · refine ⟨⟨by omega, by omega⟩, ?_⟩
          intro v4 hv4
          refine ⟨⟨by omega, by omega⟩, ?_⟩
          intro v5 hv5
          exact ⟨N - (k + 1), by omega, k + 1, by omega, rfl, by omega, hv3, by rw [ctB_if.2 (decide_eq_false (by omega))]; omega⟩
        · refine ⟨⟨by omega, by omega⟩, ?_⟩
          intro v4 hv4
          refine ⟨⟨by omega, by omega⟩, ?_⟩
          intro v5 hv5
          exact ⟨N - (k + 1), by omega, k + 1, by omega, rfl, by omega, hv3, by rw [ctB_if.1 (decide_eq_true (by omega))]; omega⟩
    · exact wp_in_0 c2 ⟨fun q => absurd rfl q, fun _ => hp2 c1 c2⟩
  · exact wp_in_0 c1 ⟨Or.inl rfl, fun q => absurd rfl q, fun _ => hp1 c1⟩
