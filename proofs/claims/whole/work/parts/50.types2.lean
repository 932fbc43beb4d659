/-! ===== the class's table of types ===== -/
theorem TS_15 {cn : Nat → Nat} {n A : Nat} {f c : Nat → Nat} (h1 : 1 ≤ n) (h7 : n ≤ 7) (h : TS cn A f c) (hc : ∀ v, 0 < cn v → v ∈ tysOf n) : A ≤ 15 := by
  have nd : ((List.range A).map f).Nodup := List.pairwise_map.mpr (List.Pairwise.imp_of_mem (fun {i j} hi hj hne q => by
    have hi := List.mem_range.mp hi
    have hj := List.mem_range.mp hj
    rcases (show i < j ∨ j < i by omega) with q2 | q2
    · have := h.1 i j q2 hj; omega
    · have := h.1 j i q2 hi; omega) List.nodup_range)
  have hs : (List.range A).map f ⊆ tysOf n := by
    intro x hx
    obtain ⟨i, hi, rfl⟩ := List.mem_map.mp hx
    exact hc _ ((h.2.1 _).mpr ⟨i, List.mem_range.mp hi, rfl⟩)
  have := nd.length_le_of_subset hs
  have h15 := (tys_le h1 h7).2
  simp at this
  omega
/-- what the methods of the table leave alone -/
def FrY (M M' : Mm) : Prop := (∀ k, k ≠ 4 → k ≠ 5 → k ≠ 6 → M' k = M k) ∧ (∀ j, j ≠ 2 → M' 4 j = M 4 j)
theorem FrY.rf (M : Mm) : FrY M M := ⟨fun _ _ _ _ => rfl, fun _ _ => rfl⟩
theorem FrY.tr {M M1 M2 : Mm} (h1 : FrY M M1) (h2 : FrY M1 M2) : FrY M M2 := ⟨fun k a b c => (h2.1 k a b c).trans (h1.1 k a b c), fun j a => (h2.2 j a).trans (h1.2 j a)⟩
def YR (M : Mm) (A : Nat) (f c : Nat → Nat) : Prop := M 4 2 = (A : Int) ∧ (∀ i, i < A → M 5 i = (f i : Int)) ∧ (∀ i, i < A → M 6 i = (c i : Int))
theorem sp_Y_insert {k v A : Nat} {f c : Nat → Nat} {M : Mm} {post : Mm → Prop} (hA : A < 15) (hk : k ≤ A) (hR : YR M A f c) (h : ∀ M' : Mm, YR M' (A + 1) (insF f k v) (insF c k 1) → FrY M M' → post M') : wp_Y_insert (k : Int) (v : Int) M post := by
  obtain ⟨r1, r2, r3⟩ := hR
  unfold wp_Y_insert
  intro v3 hv3
  rw [r1] at hv3
  rw [hv3]
  refine ⟨fun t x M5 => ∃ i : Nat, k ≤ i ∧ i ≤ A ∧ t = i - k ∧ x = (i : Int) ∧ (∀ j, j < i → M5 5 j = (f j : Int)) ∧ (∀ j, i < j → j ≤ A → M5 5 j = (f (j - 1) : Int)) ∧ (∀ j, j < i → M5 6 j = (c j : Int)) ∧ (∀ j, i < j → j ≤ A → M5 6 j = (c (j - 1) : Int)) ∧ (∀ q, q ≠ 5 → q ≠ 6 → M5 q = M q), ⟨A - k, A, hk, Nat.le_refl A, rfl, rfl, r2, fun j _ _ => by omega, r3, fun j _ _ => by omega, fun _ _ _ => rfl⟩, ?_⟩
  rintro t x M5 ⟨i, hki, hiA, rfl, rfl, f1, f2, c1, c2, fr⟩
  refine ⟨fun q => ?_, fun q => ?_⟩
  · have : i = k := by omega
    subst this
    refine ⟨⟨by omega, by omega⟩, ?_⟩
    intro M3 h3
    rw [Int.toNat_natCast] at h3
    refine ⟨⟨by omega, by omega⟩, ?_⟩
    intro M6 h6
    rw [Int.toNat_natCast] at h6
    have e4 : M6 4 = M 4 := by rw [h6, ms_o _ _ _ (by omega), h3, ms_o _ _ _ (by omega)]; exact fr 4 (by omega) (by omega)
    rw [e4, r1]
    refine ⟨⟨by omega, by omega⟩, ?_⟩
    intro M7 h7
    refine h M7 ⟨by rw [h7, ms_self]; omega, fun j hj => ?_, fun j hj => ?_⟩ ⟨fun q q4 q5 q6 => ?_, fun j hj => ?_⟩
    · rw [h7, ms_o _ _ _ (by omega), h6, ms_o _ _ _ (by omega), h3]
      unfold insF
      by_cases a : j < i
      · rw [ms_ne _ _ (by omega), if_pos a]; exact f1 j a
      · rw [if_neg a]
        by_cases b : j = i
        · rw [if_pos b, b, ms_self]
        · rw [if_neg b, ms_ne _ _ b]; exact f2 j (by omega) (by omega)
    · rw [h7, ms_o _ _ _ (by omega), h6]
      unfold insF
      by_cases a : j < i
      · rw [ms_ne _ _ (by omega), if_pos a, h3, ms_o _ _ _ (by omega)]; exact c1 j a
      · rw [if_neg a]
        by_cases b : j = i
        · rw [if_pos b, b, ms_self]; rfl
        · rw [if_neg b, ms_ne _ _ b, h3, ms_o _ _ _ (by omega)]; exact c2 j (by omega) (by omega)
    · rw [h7, ms_o _ _ _ q4, h6, ms_o _ _ _ q6, h3, ms_o _ _ _ q5]; exact fr q q5 q6
    · rw [h7, ms_ne _ _ hj, e4]
  · have hi1 : ((i : Int) - 1).toNat = i - 1 := by omega
    refine ⟨⟨by omega, by omega⟩, ⟨by omega, by omega⟩, ?_⟩
    intro z10 hz10
    rw [hi1, f1 (i - 1) (by omega)] at hz10
    refine ⟨⟨by omega, by omega⟩, ?_⟩
    intro M12 h12
    rw [Int.toNat_natCast, hz10] at h12
    refine ⟨⟨by omega, by omega⟩, ⟨by omega, by omega⟩, ?_⟩
    intro z15 hz15
    rw [hi1, h12, ms_o _ _ _ (by omega), c1 (i - 1) (by omega)] at hz15
    refine ⟨⟨by omega, by omega⟩, ?_⟩
    intro M17 h17
    rw [Int.toNat_natCast, hz15] at h17
    refine ⟨⟨by omega, by omega⟩, ?_⟩
    intro w hw
    refine ⟨i - 1 - k, by omega, i - 1, by omega, by omega, rfl, by omega, fun j hj => ?_, fun j hj hjA => ?_, fun j hj => ?_, fun j hj hjA => ?_, fun q q5 q6 => ?_⟩
    · rw [h17, ms_o _ _ _ (by omega), h12, ms_ne _ _ (by omega)]; exact f1 j (by omega)
    · rw [h17, ms_o _ _ _ (by omega), h12]
      by_cases b : j = i
      · rw [b, ms_self]
      · rw [ms_ne _ _ b]; exact f2 j (by omega) hjA
    · rw [h17, ms_ne _ _ (by omega), h12, ms_o _ _ _ (by omega)]; exact c1 j (by omega)
    · rw [h17]
      by_cases b : j = i
      · rw [b, ms_self]
      · rw [ms_ne _ _ b, h12, ms_o _ _ _ (by omega)]; exact c2 j (by omega) hjA
    · rw [h17, ms_o _ _ _ q6, h12, ms_o _ _ _ q5]; exact fr q q5 q6
theorem sp_Y_add {v A n : Nat} {cn f c : Nat → Nat} {M : Mm} {post : Mm → Prop} (h1 : 1 ≤ n) (h7 : n ≤ 7) (hT : TS cn A f c) (hc : ∀ v, 0 < cn v → v ∈ tysOf n) (hv : v ∈ tysOf n) (hb : ∀ v, cn v ≤ 5040) (hR : YR M A f c)
    (h : ∀ (M' : Mm) (A' : Nat) (f' c' : Nat → Nat), TS (bump cn v) A' f' c' → YR M' A' f' c' → FrY M M' → post M') : wp_Y_add (v : Int) M post := by
  have hA := TS_15 h1 h7 hT hc
  have hR' := hR
  obtain ⟨r1, r2, r3⟩ := hR
  unfold wp_Y_add
  rw [r1]
  refine ⟨fun t x => ∃ k : Nat, k ≤ A ∧ t = A - k ∧ x = (k : Int) ∧ ∀ i, i < k → v < f i, ⟨A, 0, by omega, rfl, rfl, fun i hi => by omega⟩, ?_⟩
  rintro t x ⟨k, hk, rfl, rfl, hlo⟩
  have key : (∀ i, k ≤ i → i < A → f i ≤ v) → (∀ K57 : Prop, (((15 : Int) ≤ (A : Int) → post M) ∧ (¬ (15 : Int) ≤ (A : Int) → wp_Y_insert (k : Int) (v : Int) M (fun (M_2 : Mm) => post M_2)) → K57) → (((A : Int) ≤ (k : Int) → K57) ∧ (¬ (A : Int) ≤ (k : Int) → (0 ≤ (k : Int) ∧ (k : Int) < 15) ∧ ∀ z5 : Int, z5 = M 5 ((k : Int)).toNat → (¬ z5 = (v : Int) → K57) ∧ (z5 = (v : Int) → (0 ≤ (k : Int) ∧ (k : Int) < 15) ∧ ∀ z8 : Int, z8 = M 6 ((k : Int)).toNat → inR (z8 + 1) ∧ (0 ≤ (k : Int) ∧ (k : Int) < 15) ∧ ∀ M_11 : Mm, M_11 = ms M 6 ((k : Int)).toNat (z8 + 1) → post M_11)))) := by
    intro hup K57 hK57
    have hins : (∀ i, k ≤ i → i < A → f i < v) → K57 := by
      intro hlt
      have hT2 := TS_ins hT hk hlo hlt
      have hA2 := TS_15 h1 h7 hT2 (fun x hx => by
        unfold bump at hx
        by_cases q : x = v
        · rw [q]; exact hv
        · rw [if_neg q] at hx; exact hc x (by omega))
      refine hK57 ⟨fun q => absurd q (by omega), fun _ => ?_⟩
      exact sp_Y_insert (by omega) hk hR' (fun M' hM' hF => h M' _ _ _ hT2 hM' hF)
    refine ⟨fun q => hins (fun i a b => by omega), fun q => ⟨⟨by omega, by omega⟩, ?_⟩⟩
    intro z5 hz5
    rw [Int.toNat_natCast, r2 k (by omega)] at hz5
    refine ⟨fun q2 => hins (fun i a b => ?_), fun q2 => ⟨⟨by omega, by omega⟩, ?_⟩⟩
    · have h3 := hup k (Nat.le_refl k) (by omega)
      by_cases q3 : i = k
      · subst q3; omega
      · have := hT.1 k i (by omega) b; omega
    · intro z8 hz8
      rw [Int.toNat_natCast, r3 k (by omega), hT.2.2 k (by omega)] at hz8
      have := hb (f k)
      refine ⟨⟨by omega, by omega⟩, ⟨by omega, by omega⟩, ?_⟩
      intro M11 h11
      rw [Int.toNat_natCast, hz8] at h11
      have hT2 := TS_hit hT (show k < A by omega) (show f k = v by omega)
      refine h M11 A f _ hT2 ⟨by rw [h11, ms_o _ _ _ (by omega)]; exact r1, fun i hi => by rw [h11, ms_o _ _ _ (by omega)]; exact r2 i hi, fun i hi => ?_⟩ ⟨fun q q4 q5 q6 => by rw [h11, ms_o _ _ _ q6], fun j hj => by rw [h11, ms_o _ _ _ (by omega)]⟩
      show M11 6 i = ((if i = k then c k + 1 else c i : Nat) : Int)
      rw [h11]
      by_cases b : i = k
      · rw [b, ms_self, if_pos rfl, hT.2.2 k (by omega)]; omega
      · rw [ms_ne _ _ b, if_neg b]; exact r3 i hi
  intro K26 hK26
  refine ⟨fun q => hK26 (key (fun i a b => by omega)), fun q => ⟨⟨by omega, by omega⟩, ?_⟩⟩
  intro z14 hz14
  rw [Int.toNat_natCast, r2 k (by omega)] at hz14
  refine ⟨fun q2 => hK26 (key (fun i a b => ?_)), fun q2 => ⟨⟨by omega, by omega⟩, ?_⟩⟩
  · by_cases q3 : i = k
    · subst q3; omega
    · have := hT.1 k i (by omega) b; omega
  · intro w hw
    refine ⟨A - (k + 1), by omega, k + 1, by omega, rfl, by omega, fun i hi => ?_⟩
    by_cases q3 : i = k
    · subst q3; omega
    · exact hlo i (by omega)
/-- the table as it is due for a group -/
def cnT (n : Nat) (e : Nat → Nat) (N v : Nat) : Nat := ctB (fun i => decide (typF n (e i) = v)) N
theorem cnT_s (n : Nat) (e : Nat → Nat) (N : Nat) : cnT n e (N + 1) = bump (cnT n e N) (typF n (e N)) := by
  funext v
  unfold cnT bump
  rw [ctB]
  by_cases h : v = typF n (e N)
  · rw [if_pos h, if_pos (by simp [h])]
  · rw [if_neg h, if_neg (by simp; exact fun q => h q.symm)]
theorem ctB_pos {p : Nat → Bool} : ∀ {n : Nat}, 0 < ctB p n → ∃ i, i < n ∧ p i = true
  | 0, h => by simp [ctB] at h
  | n + 1, h => by
    rw [ctB] at h
    by_cases q : p n = true
    · exact ⟨n, by omega, q⟩
    · rw [if_neg q] at h
      obtain ⟨i, hi, e⟩ := ctB_pos (show 0 < ctB p n by omega)
      exact ⟨i, by omega, e⟩
theorem cnT_in {n N v : Nat} {e : Nat → Nat} (h1 : 1 ≤ n) (h7 : n ≤ 7) (hP : ∀ i, i < N → isP n (e i)) (h : 0 < cnT n e N v) : v ∈ tysOf n := by
  obtain ⟨i, hi, q⟩ := ctB_pos h
  simp at q
  rw [← q]; exact typ_in h1 h7 (hP i hi)
def YT (n : Nat) (G : Nat → Prop) (M : Mm) : Prop := ∃ (N : Nat) (e : Nat → Nat) (A : Nat) (f c : Nat → Nat), (∀ x, G x ↔ Ls e N x) ∧ (∀ i j, i < N → j < N → e i = e j → i = j) ∧ TS (cnT n e N) A f c ∧ YR M A f c
theorem sp_Y_bringUp {u : Nat} {c : Cfg} {M : Mm} {post : Mm → Prop} (hV : VC c) (hu : 7 ≤ u) (hS : SC c u M) (hold : ¬ M 4 3 = 0 → YT c.1 c.2.2.2 M) (h : ∀ M' : Mm, YT c.1 c.2.2.2 M' → (M' 4 3 = 0 ∨ M' 4 3 = 1 ∨ M' 4 3 = M 4 3) → ¬ M' 4 3 = 0 → (∀ k, k ≠ 4 → k ≠ 5 → k ≠ 6 → M' k = M k) → post M') : wp_Y_bringUp u M post := by
  obtain ⟨v1, v2, v3, v4, v5, hG⟩ := hV
  obtain ⟨s0, s1, s2, N, cc, e, mk, hL, o3, c12, p2, e0, hl, hmk, hgen⟩ := hS
  obtain ⟨l1, l2, l3, l4, l5⟩ := hL
  have hN : N ≤ 5040 := Ls_le (by decide) (Nat.le_refl 7) l3 l4
  have hP : ∀ i, i < N → isP c.1 (e i) := fun i hi => hG.1 _ ((hl _).mpr ⟨i, hi, rfl⟩)
  unfold wp_Y_bringUp
  refine ⟨fun q => ?_, fun q => h M (hold q) (Or.inr (Or.inr rfl)) q (fun _ _ _ _ => rfl)⟩
  intro M2 h2
  have b2 : ∀ k, k ≠ 4 → M2 k = M k := fun k hk => by rw [h2]; exact ms_o M _ _ hk
  refine ⟨fun t x M5 => ∃ (i A : Nat) (f ct : Nat → Nat), i ≤ N ∧ t = N - i ∧ x = (i : Int) ∧ TS (cnT c.1 e i) A f ct ∧ YR M5 A f ct ∧ (∀ k, k ≠ 4 → k ≠ 5 → k ≠ 6 → M5 k = M k), ⟨N, 0, 0, fun _ => 0, fun _ => 0, by omega, rfl, rfl, ⟨fun i j _ hj => by omega, fun v => ⟨fun a => by simp [cnT, ctB] at a, fun ⟨i, hi, _⟩ => by omega⟩, fun i hi => by omega⟩, ⟨by rw [h2, ms_self]; rfl, fun i hi => by omega, fun i hi => by omega⟩, fun k k4 _ _ => b2 k k4⟩, ?_⟩
  rintro t x M5 ⟨i, A, f, ct, hi, rfl, rfl, hT, hR, fr⟩
  have f2 : M5 (u + 2) = M (u + 2) := fr _ (by omega) (by omega) (by omega)
  have f3 : M5 (u + 2 + 1) = M (u + 2 + 1) := fr _ (by omega) (by omega) (by omega)
  have f0 : M5 u = M u := fr _ (by omega) (by omega) (by omega)
  rw [f2, l1]
  refine ⟨fun a => ?_, fun a => ?_⟩
  · have : i = N := by omega
    subst this
    intro M4 h4
    refine h M4 ⟨i, e, A, f, ct, hl, l4, hT, ⟨by rw [h4, ms_ne _ _ (by omega)]; exact hR.1, fun j hj => by rw [h4, ms_o _ _ _ (by omega)]; exact hR.2.1 j hj, fun j hj => by rw [h4, ms_o _ _ _ (by omega)]; exact hR.2.2 j hj⟩⟩ (Or.inr (Or.inl (by rw [h4, ms_self]))) (by rw [h4, ms_self]; decide) (fun k k4 k5 k6 => by rw [h4, ms_o _ _ _ k4]; exact fr k k4 k5 k6)
  · refine ⟨⟨by omega, by omega⟩, ?_⟩
    intro z hz
    rw [Int.toNat_natCast, f3, l2 i (by omega)] at hz
    rw [hz, f0, s0]
    refine sp_typeOf v1 v2 (hP i (by omega)) ?_
    refine sp_Y_add v1 v2 hT (fun v hv => cnT_in v1 v2 (fun j hj => hP j (by omega)) hv) (typ_in v1 v2 (hP i (by omega))) (fun v => Nat.le_trans (ctB_le _ _) (by omega)) hR ?_
    intro M' A' f' c' hT' hR' hF
    refine ⟨⟨by omega, by omega⟩, ?_⟩
    intro w hw
    exact ⟨N - (i + 1), by omega, i + 1, A', f', c', by omega, rfl, by omega, by rw [cnT_s]; exact hT', hR', fun k k4 k5 k6 => by rw [hF.1 k k4 k5 k6]; exact fr k k4 k5 k6⟩
