/-! ===== sets as bits; counts ===== -/
def orS (f : Nat → Nat) : Nat → Nat
  | 0 => 0
  | k + 1 => orS f k ||| 2 ^ f k
theorem orS_bit (f : Nat → Nat) (q : Nat) : ∀ n, (orS f n).testBit q = true ↔ ∃ i, i < n ∧ f i = q
  | 0 => by simp [orS]
  | n + 1 => by
    rw [orS, Nat.testBit_or, Bool.or_eq_true, orS_bit f q n, Nat.testBit_two_pow, decide_eq_true_eq]
    constructor
    · rintro (⟨i, hi, e⟩ | e)
      · exact ⟨i, by omega, e⟩
      · exact ⟨n, by omega, e⟩
    · rintro ⟨i, hi, e⟩
      by_cases h : i = n
      · subst h; exact Or.inr e
      · exact Or.inl ⟨i, by omega, e⟩
theorem orS_lt {f : Nat → Nat} {m : Nat} : ∀ {n : Nat}, (∀ i, i < n → f i < m) → orS f n < 2 ^ m
  | 0, _ => Nat.two_pow_pos m
  | n + 1, h => Nat.or_lt_two_pow (orS_lt (fun i hi => h i (by omega))) (Nat.pow_lt_pow_right (by decide) (h n (by omega)))
theorem orS_eq {f g : Nat → Nat} {n m : Nat} (h : ∀ q, (∃ i, i < n ∧ f i = q) ↔ (∃ i, i < m ∧ g i = q)) : orS f n = orS g m := by
  refine Nat.eq_of_testBit_eq fun q => ?_
  have h1 := (orS_bit f q n).trans ((h q).trans (orS_bit g q m).symm)
  cases ha : (orS f n).testBit q <;> cases hb : (orS g m).testBit q <;> simp [ha, hb] at h1 <;> rfl
def ctB (p : Nat → Bool) : Nat → Nat
  | 0 => 0
  | k + 1 => ctB p k + (if p k then 1 else 0)
theorem ctB_list (p : Nat → Bool) : ∀ n, ctB p n = (List.range n).countP p
  | 0 => rfl
  | n + 1 => by rw [ctB, ctB_list p n, List.range_succ, List.countP_append]; simp [List.countP_cons]
theorem ctB_le (p : Nat → Bool) : ∀ n, ctB p n ≤ n
  | 0 => Nat.le_refl 0
  | n + 1 => by have := ctB_le p n; rw [ctB]; split <;> omega
theorem ctB_cong {p q : Nat → Bool} : ∀ {n : Nat}, (∀ i, i < n → p i = q i) → ctB p n = ctB q n
  | 0, _ => rfl
  | n + 1, h => by rw [ctB, ctB, ctB_cong (fun i hi => h i (by omega)), h n (by omega)]
/-- two lists of the same things, none twice: as many of each sort -/
theorem two_lists {e f : Nat → Nat} {N m : Nat} (he : ∀ i j, i < N → j < N → e i = e j → i = j) (hf : ∀ i j, i < m → j < m → f i = f j → i = j) (h : ∀ x, Ls e N x ↔ Ls f m x) : N = m ∧ ∀ Q : Nat → Bool, ctB (fun i => Q (e i)) N = ctB (fun i => Q (f i)) m := by
  have nd : ∀ {e : Nat → Nat} {N : Nat}, (∀ i j, i < N → j < N → e i = e j → i = j) → ((List.range N).map e).Nodup := fun {e N} he => List.pairwise_map.mpr (List.Pairwise.imp_of_mem (fun {i j} hi hj hne q => hne (he i j (List.mem_range.mp hi) (List.mem_range.mp hj) q)) List.nodup_range)
  have mm : ∀ {e : Nat → Nat} {N x : Nat}, x ∈ (List.range N).map e ↔ Ls e N x := by
    intro e N x
    rw [List.mem_map]
    exact ⟨fun ⟨i, hi, q⟩ => ⟨i, List.mem_range.mp hi, q⟩, fun ⟨i, hi, q⟩ => ⟨i, List.mem_range.mpr hi, q⟩⟩
  have hp : ((List.range N).map e).Perm ((List.range m).map f) := (List.perm_ext_iff_of_nodup (nd he) (nd hf)).mpr (fun x => mm.trans ((h x).trans mm.symm))
  refine ⟨by have := hp.length_eq; simpa using this, fun Q => ?_⟩
  have h2 := hp.countP_eq Q
  rw [List.countP_map, List.countP_map] at h2
  rw [ctB_list, ctB_list]
  exact h2
/-! ===== the class's group, asked ===== -/
theorem sp_reachFrom {g p N : Nat} {e : Nat → Nat} {M : Mm} {post : Int → Prop} (hL : LB N e (M g) (M (g + 1)) (M (g + 3))) (hp : p < 7) (h : post (pc7 (orS (fun i => dg (e i) p) N) : Int)) : wp_G_reachFrom g (p : Int) M post := by
  have hN : N ≤ 5040 := Ls_le (by decide) (Nat.le_refl 7) hL.2.2.1 hL.2.2.2.1
  have hlt : ∀ j, j ≤ N → orS (fun i => dg (e i) p) j < 2 ^ 7 := fun j hj => orS_lt (fun i hi => (hL.2.2.1 i (by omega)).2.1 p hp)
  unfold wp_G_reachFrom
  rw [hL.1]
  refine ⟨fun c x y => ∃ j : Nat, j ≤ N ∧ c = N - j ∧ y = (j : Int) ∧ x = (orS (fun i => dg (e i) p) j : Int), ⟨N, 0, by omega, rfl, rfl, rfl⟩, ?_⟩
  rintro c x y ⟨j, hj, rfl, rfl, rfl⟩
  refine ⟨fun q => ?_, fun q => ?_⟩
  · have : j = N := by omega
    subst this
    exact sp_bitCount (hlt j hj) h
  · refine ⟨⟨by omega, by omega⟩, ?_⟩
    intro z hz
    rw [Int.toNat_natCast, hL.2.1 j (by omega)] at hz
    rw [hz]
    have hd := (hL.2.2.1 j (by omega)).2.1 p hp
    refine sp_goal (hL.2.2.1 j (by omega)).1 (by omega) ?_
    intro v hv
    have := hlt j hj
    rw [bShl1 (by omega), nat_bOr (by omega) (by have := (p2_le hd).2; omega)] at hv
    refine ⟨⟨by omega, by omega⟩, ?_⟩
    intro v2 hv2
    exact ⟨N - (j + 1), by omega, j + 1, by omega, rfl, by omega, hv⟩
theorem sp_holding {g p N : Nat} {e : Nat → Nat} {M : Mm} {post : Int → Prop} (hL : LB N e (M g) (M (g + 1)) (M (g + 3))) (hp : p < 7) (h : post (ctB (fun i => decide (dg (e i) p = p)) N : Int)) : wp_G_holding g (p : Int) M post := by
  have hN : N ≤ 5040 := Ls_le (by decide) (Nat.le_refl 7) hL.2.2.1 hL.2.2.2.1
  unfold wp_G_holding
  rw [hL.1]
  refine ⟨fun c x y => ∃ j : Nat, j ≤ N ∧ c = N - j ∧ y = (j : Int) ∧ x = (ctB (fun i => decide (dg (e i) p = p)) j : Int), ⟨N, 0, by omega, rfl, rfl, rfl⟩, ?_⟩
  rintro c x y ⟨j, hj, rfl, rfl, rfl⟩
  have hle := ctB_le (fun i => decide (dg (e i) p = p)) j
  refine ⟨fun q => ?_, fun q => ?_⟩
  · have : j = N := by omega
    subst this
    exact h
  · refine ⟨⟨by omega, by omega⟩, ?_⟩
    intro z hz
    rw [Int.toNat_natCast, hL.2.1 j (by omega)] at hz
    rw [hz]
    refine sp_goal (hL.2.2.1 j (by omega)).1 (by omega) ?_
    intro K hK
    refine ⟨fun q2 => hK _ ⟨⟨by omega, by omega⟩, ?_⟩, fun q2 => ⟨⟨by omega, by omega⟩, ?_⟩⟩
    · intro v hv
      refine ⟨N - (j + 1), by omega, j + 1, by omega, rfl, by omega, ?_⟩
      have : ¬ dg (e j) p = p := by omega
      rw [ctB]; simp [this]
    · intro v2 hv2
      refine hK _ ⟨⟨by omega, by omega⟩, ?_⟩
      intro v hv
      refine ⟨N - (j + 1), by omega, j + 1, by omega, rfl, by omega, ?_⟩
      have : dg (e j) p = p := by omega
      rw [ctB]; simp [this]; omega
/-! ===== numbers of colourings ===== -/
theorem sp_colourings {u n s : Nat} {M : Mm} {post : Int → Prop} (h7 : n ≤ 7) (h4 : s ≤ 4) (hn : M u 0 = (n : Int)) (hs : M u 1 = (s : Int)) (h : post ((s ^ n : Nat) : Int)) : wp_S_colourings u M post := by
  unfold wp_S_colourings
  rw [hn, hs]
  refine ⟨fun c x y => ∃ j : Nat, j ≤ n ∧ c = n - j ∧ y = (j : Int) ∧ x = ((s ^ j : Nat) : Int), ⟨n, 0, by omega, rfl, rfl, rfl⟩, ?_⟩
  rintro c x y ⟨j, hj, rfl, rfl, rfl⟩
  refine ⟨fun q => ?_, fun q => ?_⟩
  · have : j = n := by omega
    subst this
    exact h
  · have h1 := sn_le (show j + 1 ≤ 7 by omega) h4
    rw [show ((s ^ j : Nat) : Int) * (s : Int) = ((s ^ (j + 1) : Nat) : Int) by rw [Nat.pow_succ]; rfl]
    refine ⟨⟨by omega, by omega⟩, ?_⟩
    intro v hv
    refine ⟨⟨by omega, by omega⟩, ?_⟩
    intro v2 hv2
    exact ⟨n - (j + 1), by omega, j + 1, by omega, rfl, by omega, hv⟩
def mirN (n s c : Nat) : Nat := smF (fun i => cf s c i * s ^ (n - 1 - i)) n
def mgo (s c : Nat) : Nat → Nat
  | 0 => 0
  | j + 1 => mgo s c j * s + cf s c j
theorem smF_mul (f : Nat → Nat) (k : Nat) : ∀ n, smF f n * k = smF (fun i => f i * k) n
  | 0 => by simp [smF]
  | n + 1 => by rw [smF, smF, Nat.add_mul, smF_mul f k n]
theorem mgo_eq (s c : Nat) : ∀ n, mgo s c n = mirN n s c
  | 0 => rfl
  | n + 1 => by
    rw [mgo, mgo_eq s c n]
    unfold mirN
    rw [smF_mul, smF, show n + 1 - 1 - n = 0 by omega, Nat.pow_zero, Nat.mul_one]
    congr 1
    refine smF_cong fun k hk => ?_
    rw [Nat.mul_assoc, ← Nat.pow_succ, show (n - 1 - k).succ = n + 1 - 1 - k by omega]
theorem mirN_num (n s c : Nat) : mirN n s c = num s (fun p => cf s c (n - 1 - p)) n := by
  unfold mirN num
  rw [← smF_rev (fun i => cf s c i * s ^ (n - 1 - i))]
  refine smF_cong fun k hk => ?_
  rw [show n - 1 - (n - 1 - k) = k by omega]
theorem mirN_lt {n s c : Nat} (hs : 1 ≤ s) : mirN n s c < s ^ n := by rw [mirN_num]; exact num_lt hs (fun p => cf_lt hs) n
theorem mgo_lt {s c : Nat} (hs : 1 ≤ s) (n : Nat) : mgo s c n < s ^ n := by rw [mgo_eq]; exact mirN_lt hs
theorem div_pow_s (c s j : Nat) : c / s ^ j / s = c / s ^ (j + 1) := by rw [Nat.div_div_eq_div_mul, Nat.pow_succ]
theorem sp_mirrored {u n s c : Nat} {M : Mm} {post : Int → Prop} (h7 : n ≤ 7) (h1 : 1 ≤ s) (h4 : s ≤ 4) (hn : M u 0 = (n : Int)) (hs : M u 1 = (s : Int)) (hc : c < s ^ n) (h : post (mirN n s c : Int)) : wp_S_mirrored u (c : Int) M post := by
  have hsn := sn_le h7 h4
  unfold wp_S_mirrored
  refine sp_readable h1 h4 hs ⟨fun _ => ?_, fun q => absurd q (by decide)⟩
  rw [hn, hs]
  refine ⟨fun k x y z => ∃ j : Nat, j ≤ n ∧ k = n - j ∧ z = (j : Int) ∧ x = ((c / s ^ j : Nat) : Int) ∧ y = (mgo s c j : Int), ⟨n, 0, by omega, rfl, rfl, by simp, rfl⟩, ?_⟩
  rintro k x y z ⟨j, hj, rfl, rfl, rfl, rfl⟩
  refine ⟨fun q => ?_, fun q => ?_⟩
  · have : j = n := by omega
    subst this
    rw [mgo_eq]; exact h
  · have h3 := mgo_lt (c := c) h1 j
    have h5 := mgo_lt (c := c) h1 (j + 1)
    have h6 := sn_le (show j + 1 ≤ 7 by omega) h4
    rw [mgo] at h5
    have e1 : ((mgo s c j : Nat) : Int) * (s : Int) = ((mgo s c j * s : Nat) : Int) := rfl
    have e2 : ((c / s ^ j : Nat) : Int) % (s : Int) = ((cf s c j : Nat) : Int) := rfl
    rw [e1, e2]
    refine ⟨⟨by omega, by omega⟩, ⟨Int.natCast_nonneg _, by omega⟩, ⟨by omega, by omega⟩, ?_⟩
    intro v hv
    refine ⟨⟨Int.natCast_nonneg _, by omega⟩, ?_⟩
    intro v2 hv2
    refine ⟨⟨by omega, by omega⟩, ?_⟩
    intro v3 hv3
    refine ⟨n - (j + 1), by omega, j + 1, by omega, rfl, by omega, ?_, ?_⟩
    · rw [hv2, ← div_pow_s]; rfl
    · rw [hv, mgo]; omega
def wtN (n s : Nat) (w : Nat → Nat) (c : Nat) : Nat := smF (fun p => w (cf s c p)) n
theorem smF_le {f : Nat → Nat} {b : Nat} : ∀ (n : Nat), (∀ k, k < n → f k ≤ b) → smF f n ≤ n * b
  | 0, _ => by simp [smF]
  | n + 1, h => by
    have h1 := smF_le n (fun k hk => h k (by omega))
    have h2 := h n (by omega)
    rw [smF, Nat.add_mul, Nat.one_mul]; omega
theorem sp_weightOf {u n s c : Nat} {w : Nat → Nat} {M : Mm} {post : Int → Prop} (h7 : n ≤ 7) (h1 : 1 ≤ s) (h4 : s ≤ 4) (hn : M u 0 = (n : Int)) (hs : M u 1 = (s : Int)) (hw : ∀ j, j < 4 → M (u + 1) j = (w j : Int)) (hw9 : ∀ j, j < 4 → w j ≤ 9) (h : post (wtN n s w c : Int)) : wp_S_weightOf u (c : Int) M post := by
  unfold wp_S_weightOf
  refine sp_readable h1 h4 hs ⟨fun _ => ?_, fun q => absurd q (by decide)⟩
  rw [hn, hs]
  refine ⟨fun k x y z => ∃ j : Nat, j ≤ n ∧ k = n - j ∧ z = (j : Int) ∧ x = ((c / s ^ j : Nat) : Int) ∧ y = (smF (fun p => w (cf s c p)) j : Int), ⟨n, 0, by omega, rfl, rfl, by simp, rfl⟩, ?_⟩
  rintro k x y z ⟨j, hj, rfl, rfl, rfl, rfl⟩
  refine ⟨fun q => ?_, fun q => ?_⟩
  · have : j = n := by omega
    subst this
    exact h
  · have hc := cf_lt (c := c) (p := j) h1
    have e2 : ((c / s ^ j : Nat) : Int) % (s : Int) = ((cf s c j : Nat) : Int) := rfl
    have hb := smF_le (f := fun p => w (cf s c p)) (b := 9) j (fun k _ => hw9 _ (by have := cf_lt (c := c) (p := k) h1; omega))
    rw [e2]
    refine ⟨⟨Int.natCast_nonneg _, by omega⟩, ⟨by omega, by omega⟩, ?_⟩
    intro z hz
    rw [Int.toNat_natCast, hw _ (by omega)] at hz
    have h9 := hw9 (cf s c j) (by omega)
    refine ⟨⟨by omega, by omega⟩, ?_⟩
    intro v hv
    refine ⟨⟨Int.natCast_nonneg _, by omega⟩, ?_⟩
    intro v2 hv2
    refine ⟨⟨by omega, by omega⟩, ?_⟩
    intro v3 hv3
    refine ⟨n - (j + 1), by omega, j + 1, by omega, rfl, by omega, ?_, ?_⟩
    · rw [hv2, ← div_pow_s]; rfl
    · rw [hv, smF]; omega
def clN (n s c : Nat) : Nat := orS (cf s c) n
theorem sp_coloursOf {u n s c : Nat} {M : Mm} {post : Int → Prop} (h7 : n ≤ 7) (h1 : 1 ≤ s) (h4 : s ≤ 4) (hn : M u 0 = (n : Int)) (hs : M u 1 = (s : Int)) (h : post (pc7 (clN n s c) : Int)) : wp_S_coloursOf u (c : Int) M post := by
  have hlt : ∀ j, orS (cf s c) j < 2 ^ 4 := fun j => orS_lt (fun i hi => by have := cf_lt (c := c) (p := i) h1; omega)
  unfold wp_S_coloursOf
  refine sp_readable h1 h4 hs ⟨fun _ => ?_, fun q => absurd q (by decide)⟩
  rw [hn, hs]
  refine ⟨fun k x y z => ∃ j : Nat, j ≤ n ∧ k = n - j ∧ z = (j : Int) ∧ x = ((c / s ^ j : Nat) : Int) ∧ y = (orS (cf s c) j : Int), ⟨n, 0, by omega, rfl, rfl, by simp, rfl⟩, ?_⟩
  rintro k x y z ⟨j, hj, rfl, rfl, rfl, rfl⟩
  have hj4 := hlt j
  refine ⟨fun q => ?_, fun q => ?_⟩
  · have : j = n := by omega
    subst this
    exact sp_bitCount (by omega) h
  · have hc := cf_lt (c := c) (p := j) h1
    have e2 : ((c / s ^ j : Nat) : Int) % (s : Int) = ((cf s c j : Nat) : Int) := rfl
    rw [e2]
    refine ⟨⟨Int.natCast_nonneg _, by omega⟩, ?_⟩
    intro v hv
    rw [bShl1 (by omega), nat_bOr (by omega) (by have := (p2_le (show cf s c j < 7 by omega)).2; omega)] at hv
    refine ⟨⟨Int.natCast_nonneg _, by omega⟩, ?_⟩
    intro v2 hv2
    refine ⟨⟨by omega, by omega⟩, ?_⟩
    intro v3 hv3
    exact ⟨n - (j + 1), by omega, j + 1, by omega, rfl, by omega, by rw [hv2, ← div_pow_s]; rfl, hv⟩
/-! ===== what the pad tells ===== -/
def Told (n : Nat) (len : Int) (sg : Nat → Int) (t : Nat) : Prop := len = (n : Int) ∧ isP n t ∧ ∀ j, j < n → sg j = 48 + (dg t j : Int)
theorem sp_toldTurn {n : Nat} {M : Mm} {post : Int → Prop} (h7 : n ≤ 7) (hsg : ∀ j, j < 7 → 0 ≤ M 3 j ∧ M 3 j ≤ 1000) (h1 : ∀ t, Told n (M 2 1) (M 3) t → post (t : Int)) (h0 : (¬ ∃ t, Told n (M 2 1) (M 3) t) → post (-7)) : wp_D_toldTurn (n : Int) M post := by
  unfold wp_D_toldTurn
  refine ⟨fun hlen => ?_, fun hlen => h0 (fun ⟨t, ht⟩ => hlen ht.1)⟩
  refine ⟨fun k x2 x3 x4 => ∃ p t m : Nat, p ≤ n ∧ k = n - p ∧ x4 = (p : Int) ∧ x2 = (t : Int) ∧ x3 = (m : Int) ∧ t < 2097152 ∧ (∀ j, j < p → M 3 j = 48 + (dg t j : Int) ∧ dg t j < n) ∧ (∀ j, p ≤ j → j < 7 → dg t j = j) ∧ (∀ i j, i < p → j < p → dg t i = dg t j → i = j) ∧ m = orS (dg t) p, ⟨n, 0, idc, 0, by omega, rfl, rfl, rfl, rfl, by decide, fun j hj => by omega, fun j _ hj => dg_idc hj, fun i j hi => by omega, rfl⟩, ?_⟩
  rintro k x2 x3 x4 ⟨p, t, m, hp, rfl, rfl, rfl, rfl, ht, h2, h3, h4, h5⟩
  have hm : m < 128 := by rw [h5]; exact orS_lt (m := 7) (fun i hi => by have := (h2 i hi).2; omega)
  refine ⟨fun q => ?_, fun q => ?_⟩
  · have : p = n := by omega
    subst this
    exact h1 t ⟨hlen, ⟨ht, fun i hi => (h2 i hi).2, h3, h4⟩, fun j hj => (h2 j hj).1⟩
  · refine ⟨⟨by omega, by omega⟩, ?_⟩
    intro z hz
    rw [Int.toNat_natCast] at hz
    have hb := hsg p (by omega)
    refine ⟨⟨by omega, by omega⟩, ?_⟩
    intro v hv
    refine ⟨fun a => h0 (fun ⟨t', a1, a2, a3⟩ => ?_), fun a => ⟨fun b => h0 (fun ⟨t', a1, a2, a3⟩ => ?_), fun b => ?_⟩⟩
    · have := a3 p (by omega); omega
    · have := a3 p (by omega)
      have := a2.2.1 p (by omega)
      omega
    · obtain ⟨d, hd⟩ : ∃ d : Nat, v = (d : Int) := ⟨v.toNat, by omega⟩
      rw [hd]
      have hdn : d < n := by omega
      rw [nat_bit (by omega) (by omega)]
      have hbit : m / 2 ^ d % 2 = 1 ↔ ∃ i, i < p ∧ dg t i = d := by
        rw [← orS_bit, ← h5, Nat.testBit_eq_decide_div_mod_eq, decide_eq_true_eq]
      refine ⟨fun e => ?_, fun e => ?_⟩
      · have hno : ¬ ∃ i, i < p ∧ dg t i = d := fun q => e (by have := hbit.mpr q; omega)
        intro v3 hv3
        rw [bShl1 (by omega), nat_bOr (by omega) (by have := (p2_le (show d < 7 by omega)).2; omega)] at hv3
        refine sp_withGoal ht (by omega) (by omega) ?_
        refine ⟨⟨by omega, by omega⟩, ?_⟩
        intro v4 hv4
        have hdg : ∀ i, i < 7 → dg (setd t p d) i = if i = p then d else dg t i := fun i hi => dg_setd ht (by omega) (by omega) hi
        refine ⟨n - (p + 1), by omega, p + 1, setd t p d, m ||| 2 ^ d, by omega, rfl, by omega, rfl, hv3, setd_lt ht (by omega) (by omega), fun j hj => ?_, fun j hj hj7 => ?_, fun i j hi hj e2 => ?_, ?_⟩
        · rw [hdg j (by omega)]
          by_cases hjp : j = p
          · subst hjp; rw [if_pos rfl]; exact ⟨by omega, hdn⟩
          · rw [if_neg hjp]; exact h2 j (by omega)
        · rw [hdg j hj7, if_neg (by omega)]; exact h3 j (by omega) hj7
        · rw [hdg i (by omega), hdg j (by omega)] at e2
          by_cases hip : i = p
          · by_cases hjp : j = p
            · omega
            · rw [if_pos hip, if_neg hjp] at e2
              exact absurd ⟨j, by omega, e2.symm⟩ hno
          · by_cases hjp : j = p
            · rw [if_neg hip, if_pos hjp] at e2
              exact absurd ⟨i, by omega, e2⟩ hno
            · rw [if_neg hip, if_neg hjp] at e2
              exact h4 i j (by omega) (by omega) e2
        · have e3 : orS (dg (setd t p d)) (p + 1) = orS (dg (setd t p d)) p ||| 2 ^ dg (setd t p d) p := rfl
          rw [e3, hdg p (by omega), if_pos rfl, h5]
          congr 1
          refine orS_eq fun q => ⟨fun ⟨i, hi, e4⟩ => ⟨i, hi, by rw [hdg i (by omega), if_neg (by omega)]; exact e4⟩, fun ⟨i, hi, e4⟩ => ⟨i, hi, by rw [hdg i (by omega), if_neg (by omega)] at e4; exact e4⟩⟩
      · obtain ⟨i, hi, e2⟩ := hbit.mp (by omega)
        refine h0 (fun ⟨t', a1, a2, a3⟩ => ?_)
        have e3 := a3 p (by omega)
        have e4 := a3 i (by omega)
        have e5 := (h2 i hi).1
        have := a2.2.2.2 i p (by omega) (by omega) (by omega)
        omega
