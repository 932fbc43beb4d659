/-! ===== the reference: rows and ranks ===== -/
theorem sp_M_many {n : Nat} {M : Mm} {post : Int → Prop} (hn : M 31 0 = (n : Int)) (h : post (n : Int)) : wp_M_many M post := by
  unfold wp_M_many
  refine ⟨⟨by decide, by decide⟩, ?_⟩
  intro z hz
  rw [Int.toNat_zero, hn] at hz
  rw [hz]; exact h
def RW (n t : Nat) (M : Mm) : Prop := ∀ p, p < n → M 35 p = (dg t p : Int)
theorem sp_M_layStill {n : Nat} {M : Mm} {post : Mm → Prop} (h7 : n ≤ 7) (hn : M 31 0 = (n : Int)) (h : ∀ M' : Mm, RW n idc M' → (∀ k, k ≠ 35 → M' k = M k) → post M') : wp_M_layStill M post := by
  unfold wp_M_layStill
  refine ⟨fun t x M5 => ∃ j : Nat, j ≤ n ∧ t = n - j ∧ x = (j : Int) ∧ (∀ p, p < j → M5 35 p = (p : Int)) ∧ (∀ k, k ≠ 35 → M5 k = M k), ⟨n, 0, by omega, rfl, rfl, fun p hp => by omega, fun _ _ => rfl⟩, ?_⟩
  rintro t x M5 ⟨j, hj, rfl, rfl, hp, fr⟩
  refine sp_M_many (n := n) (by rw [fr 31 (by omega)]; exact hn) ?_
  refine ⟨fun q => ?_, fun q => ?_⟩
  · have : j = n := by omega
    subst this
    exact h M5 (fun p hpn => by rw [hp p hpn, dg_idc (by omega)]) fr
  · refine ⟨⟨by omega, by omega⟩, ?_⟩
    intro M3 h3
    rw [Int.toNat_natCast] at h3
    refine ⟨⟨by omega, by omega⟩, ?_⟩
    intro v hv
    refine ⟨n - (j + 1), by omega, j + 1, by omega, rfl, by omega, fun p hpj => ?_, fun k hk => by rw [h3, ms_o _ _ _ hk]; exact fr k hk⟩
    rw [h3]
    by_cases q2 : p = j
    · rw [q2, ms_self]
    · rw [ms_ne _ _ q2]; exact hp p (by omega)
theorem cntL_le (t v : Nat) : ∀ k q, cntL t v q k ≤ k
  | 0, q => Nat.le_refl 0
  | k + 1, q => by
    have := cntL_le t v k (q + 1)
    rw [cntL]; split <;> omega
theorem sp_M_rank {n t : Nat} {M : Mm} {post : Int → Prop} (h7 : n ≤ 7) (hn : M 31 0 = (n : Int)) (hr : RW n t M) (h : post (rkF n t : Int)) : wp_M_rank M post := by
  unfold wp_M_rank
  refine ⟨fun c x y => ∃ p r : Nat, p ≤ n ∧ c = n - p ∧ x = (r : Int) ∧ y = (p : Int) ∧ r < 8 ^ p ∧ rkGo n t (n - p) p r = rkF n t, ⟨n, 0, 0, by omega, rfl, rfl, rfl, by decide, rfl⟩, ?_⟩
  rintro c x y ⟨p, r, hp, rfl, rfl, rfl, hb, hg⟩
  refine sp_M_many hn ?_
  refine ⟨fun q => ?_, fun q => ?_⟩
  · have : p = n := by omega
    subst this
    rw [Nat.sub_self, rkGo] at hg
    rw [hg]; exact h
  · have hpn : p < n := by omega
    rw [show n - p = (n - p - 1) + 1 by omega, rkGo] at hg
    refine ⟨⟨by omega, by omega⟩, ?_⟩
    intro v hv
    rw [hv]
    refine ⟨fun c x y => ∃ q k : Nat, p + 1 ≤ q ∧ q ≤ n ∧ c = n - q ∧ x = (k : Int) ∧ y = (q : Int) ∧ k + cntL t (dg t p) q (n - q) = cntL t (dg t p) (p + 1) (n - p - 1), ⟨n - (p + 1), p + 1, 0, by omega, by omega, rfl, rfl, by omega, by rw [show n - (p + 1) = n - p - 1 by omega, Nat.zero_add]⟩, ?_⟩
    rintro c x y ⟨q2, k, a1, a2, rfl, rfl, rfl, hk⟩
    have hc := cntL_le t (dg t p) (n - p - 1) (p + 1)
    refine sp_M_many hn ?_
    refine ⟨fun q3 => ?_, fun q3 => ?_⟩
    · have : q2 = n := by omega
      rw [this, Nat.sub_self, cntL, Nat.add_zero] at hk
      refine sp_M_many hn ?_
      have hb2 : r * (n - p) + k < 8 ^ (p + 1) := by
        have w1 : (r + 1) * (n - p) ≤ 8 ^ p * (n - p) := Nat.mul_le_mul_right _ hb
        have w2 : 8 ^ p * (n - p) ≤ 8 ^ p * 8 := Nat.mul_le_mul_left _ (by omega)
        rw [Nat.add_mul, Nat.one_mul] at w1
        rw [Nat.pow_succ]
        omega
      have hb3 : 8 ^ (p + 1) ≤ 8 ^ 7 := Nat.pow_le_pow_right (by decide) (by omega)
      rw [show (n : Int) - (p : Int) = ((n - p : Nat) : Int) by omega, show (r : Int) * ((n - p : Nat) : Int) = ((r * (n - p) : Nat) : Int) from rfl]
      have hb5 : r * (n - p) + k < 2097152 := Nat.lt_of_lt_of_le hb2 hb3
      refine ⟨⟨by omega, by omega⟩, ⟨by omega, by omega⟩, ⟨by omega, by omega⟩, ?_⟩
      intro v1 hv1
      refine ⟨⟨by omega, by omega⟩, ?_⟩
      intro v2 hv2
      exact ⟨n - (p + 1), by omega, p + 1, r * (n - p) + k, by omega, rfl, by omega, by omega, hb2, by rw [show n - (p + 1) = n - p - 1 by omega, hk]; exact hg⟩
    · have hq2 : q2 < n := by omega
      refine ⟨⟨by omega, by omega⟩, ?_⟩
      intro z10 hz10
      rw [Int.toNat_natCast, hr q2 hq2] at hz10
      refine ⟨⟨by omega, by omega⟩, ?_⟩
      intro z12 hz12
      rw [Int.toNat_natCast, hr p hpn] at hz12
      rw [show n - q2 = (n - q2 - 1) + 1 by omega, cntL] at hk
      intro K hK
      refine ⟨fun q4 => hK _ ?_, fun q4 => hK _ ?_⟩
      · rw [if_neg (by omega)] at hk
        refine ⟨⟨by omega, by omega⟩, ?_⟩
        intro v3 hv3
        refine ⟨⟨by omega, by omega⟩, ?_⟩
        intro v4 hv4
        exact ⟨n - (q2 + 1), by omega, q2 + 1, k, by omega, by omega, rfl, by omega, by omega, by rw [show n - (q2 + 1) = n - q2 - 1 by omega]; omega⟩
      · rw [if_pos (by omega)] at hk
        refine ⟨⟨by omega, by omega⟩, ?_⟩
        intro v3 hv3
        refine ⟨⟨by omega, by omega⟩, ?_⟩
        intro v4 hv4
        exact ⟨n - (q2 + 1), by omega, q2 + 1, k + 1, by omega, by omega, rfl, by omega, by omega, by rw [show n - (q2 + 1) = n - q2 - 1 by omega]; omega⟩
theorem unB_mono (t p : Nat) {i : Nat} : ∀ {j : Nat}, i ≤ j → unB t p i ≤ unB t p j
  | 0, h => by rw [show i = 0 by omega]; exact Nat.le_refl _
  | j + 1, h => by
    by_cases q : i = j + 1
    · rw [q]; exact Nat.le_refl _
    · have := unB_mono t p (show i ≤ j by omega)
      rw [unB]; omega
theorem unB_s (t p v : Nat) : ((∃ i, i < p ∧ dg t i = v) → unB t p (v + 1) = unB t p v) ∧ ((¬ ∃ i, i < p ∧ dg t i = v) → unB t p (v + 1) = unB t p v + 1) := by
  refine ⟨fun h => ?_, fun h => ?_⟩
  · obtain ⟨i, hi, e⟩ := h
    rw [unB, if_neg]
    · rfl
    · intro q
      have := List.all_eq_true.mp q i (List.mem_range.mpr hi)
      simp [e] at this
  · rw [unB, if_pos]
    rw [List.all_eq_true]
    intro i hi
    simp
    exact fun e => h ⟨i, List.mem_range.mp hi, e⟩
theorem lehmer {n t p : Nat} (h1 : 1 ≤ n) (h7 : n ≤ 7) (ht : isP n t) (hp : p < n) : rkF n t / fc (n - 1 - p) % (n - p) = cntL t (dg t p) (p + 1) (n - p - 1) ∧ unB t p (dg t p) = cntL t (dg t p) (p + 1) (n - p - 1) := by
  have h := okL_at h1 h7 ht
  unfold okL at h
  have h2 := List.all_eq_true.mp h p (List.mem_range.mpr hp)
  simpa using h2
theorem sp_M_layRank {n t : Nat} {M : Mm} {post : Mm → Prop} (h1 : 1 ≤ n) (h7 : n ≤ 7) (hn : M 31 0 = (n : Int)) (ht : isP n t) (h : ∀ M' : Mm, RW n t M' → (∀ k, k ≠ 35 → k ≠ 36 → M' k = M k) → post M') : wp_M_layRank (rkF n t : Int) M post := by
  unfold wp_M_layRank
  refine sp_M_many hn ?_
  refine ⟨⟨by omega, by omega⟩, ?_⟩
  intro v hv
  rw [hv]
  refine ⟨fun c x y M5 => ∃ j : Nat, j ≤ n ∧ c = n - j ∧ y = (n : Int) - 1 - (j : Int) ∧ x = ((rkF n t / fc j : Nat) : Int) ∧ (∀ p, n ≤ p + j → p < n → M5 35 p = (cntL t (dg t p) (p + 1) (n - p - 1) : Int) ∧ M5 36 p = 0) ∧ (∀ k, k ≠ 35 → k ≠ 36 → M5 k = M k), ⟨n, 0, by omega, rfl, by omega, by simp [fc], fun p a b => by omega, fun _ _ _ => rfl⟩, ?_⟩
  rintro c x y M5 ⟨j, hj, rfl, rfl, rfl, hL, fr⟩
  have hn5 : M5 31 0 = (n : Int) := by rw [fr 31 (by omega) (by omega)]; exact hn
  refine ⟨fun q => ?_, fun q => ?_⟩
  · have hjn : j = n := by omega
    subst hjn
    refine ⟨fun c x M6 => ∃ p : Nat, p ≤ j ∧ c = j - p ∧ x = (p : Int) ∧ (∀ i, i < p → M6 35 i = (dg t i : Int)) ∧ (∀ i, p ≤ i → i < j → M6 35 i = (cntL t (dg t i) (i + 1) (j - i - 1) : Int)) ∧ (∀ v, v < j → ((∃ i, i < p ∧ dg t i = v) ∧ ¬ M6 36 v = 0) ∨ ((¬ ∃ i, i < p ∧ dg t i = v) ∧ M6 36 v = 0)) ∧ (∀ k, k ≠ 35 → k ≠ 36 → M6 k = M k), ⟨j, 0, by omega, rfl, rfl, fun i hi => by omega, fun i _ hi => (hL i (by omega) hi).1, fun v hv => Or.inr ⟨fun ⟨i, hi, _⟩ => by omega, (hL v (by omega) hv).2⟩, fr⟩, ?_⟩
    rintro c x M6 ⟨p, hp, rfl, rfl, hd, hl, hu, fr6⟩
    refine sp_M_many (n := j) (by rw [fr6 31 (by omega) (by omega)]; exact hn) ?_
    refine ⟨fun q2 => ?_, fun q2 => ?_⟩
    · have : p = j := by omega
      subst this
      exact h M6 hd fr6
    · have hpj : p < j := by omega
      obtain ⟨_, le2⟩ := lehmer h1 h7 ht hpj
      have hdp := ht.2.1 p hpj
      refine ⟨⟨by omega, by omega⟩, ?_⟩
      intro z5 hz5
      rw [Int.toNat_natCast, hl p (Nat.le_refl p) hpj, ← le2] at hz5
      rw [hz5]
      have hb0 := cntL_le t (dg t p) (j - p - 1) (p + 1)
      refine ⟨fun c x y => ∃ v : Nat, v ≤ dg t p ∧ c = 8 - v ∧ x = (unB t p (dg t p) : Int) - (unB t p v : Int) ∧ y = (v : Int), ⟨8, 0, by omega, rfl, by simp [unB], rfl⟩, ?_⟩
      rintro c x y ⟨v, hv2, rfl, rfl, rfl⟩
      have hm := unB_mono t p hv2
      have hs := unB_s t p v
      refine ⟨⟨by omega, by omega⟩, ?_⟩
      intro z7 hz7
      rw [Int.toNat_natCast] at hz7
      intro K hK
      have hu2 := hu v (by omega)
      have hne : v = dg t p → M6 36 v = 0 := fun e => by
        rcases hu2 with ⟨⟨i, hi, ei⟩, _⟩ | ⟨_, q3⟩
        · have := ht.2.2.2 i p (by omega) hpj (by omega)
          omega
        · exact q3
      have go : (¬ M6 36 v = 0 ∨ ¬ v = dg t p) → K := by
        intro hor
        have hv3 : v < dg t p := by
          by_cases q3 : v = dg t p
          · have := hne q3
            rcases hor with a | a
            · exact absurd this a
            · exact absurd q3 a
          · omega
        have hm3 := unB_mono t p (show v + 1 ≤ dg t p from hv3)
        refine hK ⟨⟨by omega, by omega⟩, ?_⟩
        intro z9 hz9
        rw [Int.toNat_natCast] at hz9
        intro K2 hK2
        refine ⟨fun q4 => hK2 _ ?_, fun q4 => hK2 _ ?_⟩
        · have hx : unB t p (v + 1) = unB t p v + 1 := by
            rcases hu2 with ⟨_, q5⟩ | ⟨q5, _⟩
            · exact absurd (hz9.symm.trans q4) q5
            · exact hs.2 q5
          clear hu2 hs
          refine ⟨⟨by omega, by omega⟩, ?_⟩
          intro v4 hv4
          refine ⟨⟨by omega, by omega⟩, ?_⟩
          intro v5 hv5
          exact ⟨8 - (v + 1), by omega, v + 1, by omega, rfl, by omega, by omega⟩
        · have hx : unB t p (v + 1) = unB t p v := by
            rcases hu2 with ⟨q5, _⟩ | ⟨_, q5⟩
            · exact hs.1 q5
            · exact absurd (hz9.trans q5) q4
          clear hu2 hs
          refine ⟨⟨by omega, by omega⟩, ?_⟩
          intro v4 hv4
          refine ⟨⟨by omega, by omega⟩, ?_⟩
          intro v5 hv5
          exact ⟨8 - (v + 1), by omega, v + 1, by omega, rfl, by omega, by omega⟩
      refine ⟨fun q3 => go (Or.inl (by rw [← hz7]; exact q3)), fun q3 => ⟨fun q4 => ?_, fun q4 => go (Or.inr (fun e => by rw [e] at q4; omega))⟩⟩
      have hve : v = dg t p := by
        by_cases q5 : v = dg t p
        · exact q5
        · have hx : unB t p (v + 1) = unB t p v + 1 := by
            rcases hu2 with ⟨_, q6⟩ | ⟨q6, _⟩
            · exact absurd (hz7.symm.trans q3) q6
            · exact hs.2 q6
          clear hu2 hs
          have hm3 := unB_mono t p (show v + 1 ≤ dg t p by omega)
          omega
      clear hu2 hs
      refine ⟨⟨by omega, by omega⟩, ?_⟩
      intro M7 e7
      rw [Int.toNat_natCast] at e7
      refine ⟨⟨by omega, by omega⟩, ?_⟩
      intro M8 e8
      rw [Int.toNat_natCast] at e8
      refine ⟨⟨by omega, by omega⟩, ?_⟩
      intro w hw
      refine ⟨j - (p + 1), by omega, p + 1, by omega, rfl, by omega, fun i hi => ?_, fun i hi hi2 => ?_, fun u hu3 => ?_, fun k k1 k2 => by rw [e8, ms_o _ _ _ k1, e7, ms_o _ _ _ k2]; exact fr6 k k1 k2⟩
      · rw [e8]
        by_cases q5 : i = p
        · rw [q5, ms_self, hve]
        · rw [ms_ne _ _ q5, e7, ms_o _ _ _ (by omega)]; exact hd i (by omega)
      · rw [e8, ms_ne _ _ (by omega), e7, ms_o _ _ _ (by omega)]; exact hl i (by omega) hi2
      · rw [e8, ms_o _ _ _ (by omega), e7]
        by_cases q5 : u = v
        · rw [q5, ms_self]
          exact Or.inl ⟨⟨p, by omega, hve.symm⟩, by decide⟩
        · rw [ms_ne _ _ q5]
          rcases hu u hu3 with ⟨⟨i, hi, ei⟩, q6⟩ | ⟨q6, q7⟩
          · exact Or.inl ⟨⟨i, by omega, ei⟩, q6⟩
          · refine Or.inr ⟨fun ⟨i, hi, ei⟩ => ?_, q7⟩
            by_cases q8 : i = p
            · rw [q8] at ei; omega
            · exact q6 ⟨i, by omega, ei⟩
  · have hj' : j < n := by omega
    obtain ⟨le1, _⟩ := lehmer h1 h7 ht (show n - 1 - j < n by omega)
    rw [show n - 1 - (n - 1 - j) = j by omega, show n - (n - 1 - j) = j + 1 by omega] at le1
    refine sp_M_many hn5 ?_
    rw [show (n : Int) - ((n : Int) - 1 - (j : Int)) = ((j + 1 : Nat) : Int) by omega, show ((n : Int) - 1 - (j : Int)).toNat = n - 1 - j by omega]
    refine ⟨⟨by omega, by omega⟩, ⟨Int.natCast_nonneg _, by omega⟩, ⟨by omega, by omega⟩, ?_⟩
    intro M6 e6
    refine sp_M_many (n := n) (by rw [e6, ms_o _ _ _ (by omega)]; exact hn5) ?_
    rw [show (n : Int) - ((n : Int) - 1 - (j : Int)) = ((j + 1 : Nat) : Int) by omega]
    refine ⟨⟨by omega, by omega⟩, ⟨Int.natCast_nonneg _, by omega⟩, ?_⟩
    intro v2 hv2
    refine ⟨⟨by omega, by omega⟩, ?_⟩
    intro M7 e7
    refine ⟨⟨by omega, by omega⟩, ?_⟩
    intro v3 hv3
    refine ⟨n - (j + 1), by omega, j + 1, by omega, rfl, by omega, ?_, fun p a b => ?_, fun k k1 k2 => by rw [e7, ms_o _ _ _ k2, e6, ms_o _ _ _ k1]; exact fr k k1 k2⟩
    · rw [hv2, fc, Nat.mul_comm, ← Nat.div_div_eq_div_mul]; rfl
    · by_cases q2 : p = n - 1 - j
      · refine ⟨?_, by rw [e7, q2, ms_self]⟩
        rw [e7, ms_o _ _ _ (by omega), e6, q2, ms_self]
        rw [show j + 1 - 1 = j by omega] at le1
        rw [show n - (n - 1 - j) - 1 = j by omega, ← le1]; rfl
      · have := hL p (by omega) b
        exact ⟨by rw [e7, ms_o _ _ _ (by omega), e6, ms_ne _ _ q2]; exact this.1, by rw [e7, ms_ne _ _ q2, e6, ms_o _ _ _ (by omega)]; exact this.2⟩
