/-! ===== copies ===== -/
theorem mc_in {M : Mm} {k1 k2 n b : Nat} (h : b < n) : mc M k1 0 k2 0 n k2 b = M k1 b := by
  unfold mc
  rw [if_pos rfl]
  show (if 0 ≤ b ∧ b < 0 + n then M k1 (0 + (b - 0)) else M k2 b) = _
  rw [if_pos ⟨by omega, by omega⟩, Nat.zero_add, Nat.sub_zero]
theorem sp_G_copyFrom {g g1 n : Nat} {G : Nat → Prop} {M : Mm} {post : Mm → Prop} (hne : ∀ i j, i ≤ 3 → j ≤ 3 → g + i ≠ g1 + j) (hC : GCg n G g1 M) (h : ∀ M' : Mm, GCg n G g M' → FrG g M M' → post M') : wp_G_copyFrom g g1 M post := by
  obtain ⟨N, c, e, mk, hL, o3, c12, p2, e0, hl, hmk, hgen⟩ := hC
  obtain ⟨l1, l2, l3, l4, l5⟩ := hL
  have hN : N ≤ 5040 := Ls_le (by decide) (Nat.le_refl 7) l3 l4
  have a00 := hne 0 0 (by omega) (by omega)
  have a01 := hne 0 1 (by omega) (by omega)
  have a02 := hne 0 2 (by omega) (by omega)
  have a03 := hne 0 3 (by omega) (by omega)
  have a10 := hne 1 0 (by omega) (by omega)
  have a12 := hne 1 2 (by omega) (by omega)
  have a13 := hne 1 3 (by omega) (by omega)
  have a20 := hne 2 0 (by omega) (by omega)
  have a23 := hne 2 3 (by omega) (by omega)
  unfold wp_G_copyFrom
  refine ⟨⟨by omega, by omega, by omega, by omega, by omega⟩, ?_⟩
  intro M1 h1 M3 h3
  have e5040 : (5040 : Int).toNat = 5040 := rfl
  rw [Int.toNat_zero, e5040] at h1
  have b1 : M1 g1 = M g1 := by rw [h1]; exact mc_o M _ _ _ _ (by omega)
  rw [b1, l1] at h3
  have b3 : M3 g1 = M g1 := by rw [h3, ms_o _ _ _ (by omega)]; exact b1
  refine ⟨⟨by omega, by omega, by omega, by omega, by omega⟩, ?_⟩
  intro M4 h4 M6 h6
  have e12 : (12 : Int).toNat = 12 := rfl
  rw [Int.toNat_zero, e12] at h4
  have b4 : M4 g1 = M g1 := by rw [h4, mc_o _ _ _ _ _ (by omega)]; exact b3
  rw [b4, o3] at h6
  refine ⟨⟨by omega, by omega, by omega, by omega, by omega⟩, ?_⟩
  intro M7 h7
  rw [Int.toNat_zero] at h7
  have e158 : (158 : Int).toNat = 158 := rfl
  rw [e158] at h7
  have r0 : ∀ j, j ≠ 1 → j ≠ 3 → M7 g j = M g j := by
    intro j j1 j3
    rw [h7, mc_o _ _ _ _ _ (by omega), h6, ms_ne _ _ j3, h4, mc_o _ _ _ _ _ (by omega), h3, ms_ne _ _ j1, h1, mc_o _ _ _ _ _ (by omega)]
  have rf : ∀ k, k ≠ g → k ≠ g + 1 → k ≠ g + 2 → k ≠ g + 3 → M7 k = M k := by
    intro k k0 k1 k2 k3
    rw [h7, mc_o _ _ _ _ _ k3, h6, ms_o _ _ _ k0, h4, mc_o _ _ _ _ _ k2, h3, ms_o _ _ _ k0, h1, mc_o _ _ _ _ _ k1]
  refine h M7 ⟨N, c, e, mk, ⟨?_, fun i hi => ?_, l3, l4, fun r hr => ?_⟩, ?_, c12, p2, e0, hl, fun i hi => ⟨?_, (hmk i hi).2⟩, hgen⟩ ⟨rf, r0⟩
  · rw [h7, mc_o _ _ _ _ _ (by omega), h6, ms_ne _ _ (by omega), h4, mc_o _ _ _ _ _ (by omega), h3, ms_self]
  · rw [h7, mc_o _ _ _ _ _ (by omega), h6, ms_o _ _ _ (by omega), h4, mc_o _ _ _ _ _ (by omega), h3, ms_o _ _ _ (by omega), h1, mc_in (show i < 5040 by omega)]; exact l2 i hi
  · rw [h7, mc_in (by omega), h6, ms_o _ _ _ (by omega), h4, mc_o _ _ _ _ _ (by omega), h3, ms_o _ _ _ (by omega), h1, mc_o _ _ _ _ _ (by omega)]; exact l5 r hr
  · rw [h7, mc_o _ _ _ _ _ (by omega), h6, ms_self]
  · rw [h7, mc_o _ _ _ _ _ (by omega), h6, ms_o _ _ _ (by omega), h4, mc_in (show i < 12 by omega), h3, ms_o _ _ _ (by omega), h1, mc_o _ _ _ _ _ (by omega)]; exact (hmk i hi).1
/-! ===== settings ===== -/
abbrev Cfg : Type := Nat × Nat × (Nat → Nat) × (Nat → Prop)
def VC (c : Cfg) : Prop := 1 ≤ c.1 ∧ c.1 ≤ 7 ∧ 1 ≤ c.2.1 ∧ c.2.1 ≤ 4 ∧ (∀ j, j < 4 → c.2.2.1 j ≤ 9) ∧ isGrp c.1 c.2.2.2
def SC (c : Cfg) (u : Nat) (M : Mm) : Prop := M u 0 = (c.1 : Int) ∧ M u 1 = (c.2.1 : Int) ∧ (∀ j, j < 4 → M (u + 1) j = (c.2.2.1 j : Int)) ∧ GCg c.1 c.2.2.2 (u + 2) M
theorem SC.cong {c : Cfg} {u : Nat} {M M' : Mm} (h : SC c u M) (q : ∀ i, i ≤ 5 → M' (u + i) = M (u + i)) : SC c u M' := by
  have q0 : M' u = M u := q 0 (by omega)
  have q1 := q 1 (by omega)
  have q2 := q 2 (by omega)
  have q3 : M' (u + 2 + 1) = M (u + 2 + 1) := q 3 (by omega)
  have q4 : M' (u + 2 + 2) = M (u + 2 + 2) := q 4 (by omega)
  have q5 : M' (u + 2 + 3) = M (u + 2 + 3) := q 5 (by omega)
  unfold SC GCg
  rw [q0, q1, q2, q3, q4, q5]
  exact h
theorem sp_S_copyFrom {u u1 : Nat} {c : Cfg} {M : Mm} {post : Mm → Prop} (hne : ∀ i j, i ≤ 5 → j ≤ 5 → u + i ≠ u1 + j) (hS : SC c u1 M) (h : ∀ M' : Mm, SC c u M' → (∀ k, (∀ i, i ≤ 5 → k ≠ u + i) → M' k = M k) → post M') : wp_S_copyFrom u u1 M post := by
  obtain ⟨s0, s1, s2, s3⟩ := hS
  have a00 := hne 0 0 (by omega) (by omega)
  have a01 := hne 0 1 (by omega) (by omega)
  have a10 := hne 1 0 (by omega) (by omega)
  unfold wp_S_copyFrom
  intro M1 h1 M2 h2
  have b1 : M1 u1 = M u1 := by rw [h1]; exact ms_o M _ _ (by omega)
  refine ⟨⟨by omega, by omega, by omega, by omega, by omega⟩, ?_⟩
  intro M3 h3
  rw [Int.toNat_zero] at h3
  have e4 : (4 : Int).toNat = 4 := rfl
  rw [e4] at h3
  have k3 : ∀ k, k ≠ u → k ≠ u + 1 → M3 k = M k := by
    intro k k0 k1
    rw [h3, mc_o _ _ _ _ _ k1, h2, ms_o _ _ _ k0, h1, ms_o _ _ _ k0]
  have g3 : GCg c.1 c.2.2.2 (u1 + 2) M3 := by
    have q : ∀ i, i ≤ 3 → M3 (u1 + 2 + i) = M (u1 + 2 + i) := fun i hi => k3 _ (fun e => hne 0 (2 + i) (by omega) (by omega) (by omega)) (fun e => hne 1 (2 + i) (by omega) (by omega) (by omega))
    have q0 := q 0 (by omega)
    unfold GCg
    rw [Nat.add_zero] at q0
    rw [q0, q 1 (by omega), q 2 (by omega), q 3 (by omega)]
    exact s3
  refine sp_G_copyFrom (fun i j hi hj e => hne (2 + i) (2 + j) (by omega) (by omega) (by omega)) g3 ?_
  intro M5 g5 f5
  have z0 : M5 u = M3 u := f5.1 u (by omega) (by omega) (by omega) (by omega)
  have z1 : M5 (u + 1) = M3 (u + 1) := f5.1 (u + 1) (by omega) (by omega) (by omega) (by omega)
  refine h M5 ⟨?_, ?_, fun j hj => ?_, g5⟩ ?_
  · rw [z0, h3, mc_o _ _ _ _ _ (by omega), h2, ms_ne _ _ (by omega), h1, ms_self]; exact s0
  · rw [z0, h3, mc_o _ _ _ _ _ (by omega), h2, ms_self, b1]; exact s1
  · rw [z1, h3, mc_in hj, h2, ms_o _ _ _ (by omega), h1, ms_o _ _ _ (by omega)]; exact s2 j hj
  · intro k hk
    have n0 := hk 0 (by omega)
    rw [f5.1 k (by have := hk 2 (by omega); omega) (by have := hk 3 (by omega); omega) (by have := hk 4 (by omega); omega) (by have := hk 5 (by omega); omega)]
    exact k3 k (by omega) (hk 1 (by omega))
/-! ===== the table of types: types by falling numbers, with how many ===== -/
def TS (cn : Nat → Nat) (A : Nat) (fg ct : Nat → Nat) : Prop := (∀ i j, i < j → j < A → fg j < fg i) ∧ (∀ v, 0 < cn v ↔ ∃ i, i < A ∧ fg i = v) ∧ (∀ i, i < A → ct i = cn (fg i))
/-- two such tables of the same counts are one -/
theorem TS_uniq {cn : Nat → Nat} {A B : Nat} {f g c d : Nat → Nat} (h1 : TS cn A f c) (h2 : TS cn B g d) : A = B ∧ ∀ i, i < A → f i = g i ∧ c i = d i := by
  have key : ∀ {A B : Nat} {f g c d : Nat → Nat}, TS cn A f c → TS cn B g d → ∀ i, i < A → i < B ∧ f i = g i := by
    intro A B f g c d h1 h2 i
    induction i using Nat.strongRecOn with
    | _ i ih =>
      intro hi
      obtain ⟨j, hj, e⟩ := (h2.2.1 (f i)).mp ((h1.2.1 (f i)).mpr ⟨i, hi, rfl⟩)
      have hij : i ≤ j := by
        by_cases q : i ≤ j
        · exact q
        · have := ih j (by omega) (by omega)
          have h3 := h1.1 j i (by omega) hi
          omega
      refine ⟨by omega, ?_⟩
      by_cases q : i = j
      · subst q; exact e.symm
      · obtain ⟨k, hk, e2⟩ := (h1.2.1 (g i)).mp ((h2.2.1 (g i)).mpr ⟨i, by omega, rfl⟩)
        have h3 := h2.1 i j (by omega) hj
        have h4 : ¬ k < i := fun q2 => by
          have := ih k q2 hk
          have h5 := h2.1 k i q2 (by omega)
          omega
        by_cases q3 : k = i
        · subst q3; omega
        · have := h1.1 i k (by omega) hk
          omega
  have hA : A = B := by
    by_cases q : A ≤ B
    · by_cases q2 : B ≤ A
      · omega
      · have := (key h2 h1 A (by omega)).1; omega
    · have := (key h1 h2 B (by omega)).1; omega
  refine ⟨hA, fun i hi => ?_⟩
  obtain ⟨_, e⟩ := key h1 h2 i hi
  exact ⟨e, by rw [h1.2.2 i hi, h2.2.2 i (by omega), e]⟩
def bump (cn : Nat → Nat) (v : Nat) : Nat → Nat := fun x => cn x + (if x = v then 1 else 0)
theorem TS_hit {cn : Nat → Nat} {A v k : Nat} {f c : Nat → Nat} (h : TS cn A f c) (hk : k < A) (e : f k = v) : TS (bump cn v) A f (fun i => if i = k then c k + 1 else c i) := by
  refine ⟨h.1, fun x => ?_, fun i hi => ?_⟩
  · unfold bump
    by_cases q : x = v
    · rw [if_pos q]; exact ⟨fun _ => ⟨k, hk, by rw [q]; exact e⟩, fun _ => by omega⟩
    · rw [if_neg q, Nat.add_zero]; exact h.2.1 x
  · unfold bump
    show (if i = k then c k + 1 else c i) = _
    by_cases q : i = k
    · rw [if_pos q, q, if_pos e, h.2.2 k hk]
    · rw [if_neg q]
      have : ¬ f i = v := fun e2 => by
        rcases (show i < k ∨ k < i by omega) with q2 | q2
        · have := h.1 i k q2 hk; omega
        · have := h.1 k i q2 hi; omega
      rw [if_neg this, h.2.2 i hi, Nat.add_zero]
/-- put in at k: those above stay, those from k on go one on -/
def insF (f : Nat → Nat) (k v : Nat) : Nat → Nat := fun i => if i < k then f i else if i = k then v else f (i - 1)
theorem TS_ins {cn : Nat → Nat} {A v k : Nat} {f c : Nat → Nat} (h : TS cn A f c) (hk : k ≤ A) (hb : ∀ i, i < k → v < f i) (ha : ∀ i, k ≤ i → i < A → f i < v) : TS (bump cn v) (A + 1) (insF f k v) (insF c k 1) := by
  have hv : cn v = 0 := by
    refine Classical.byContradiction fun q => ?_
    obtain ⟨i, hi, e⟩ := (h.2.1 v).mp (by omega)
    by_cases q2 : i < k
    · have := hb i q2; omega
    · have := ha i (by omega) hi; omega
  refine ⟨fun i j hij hj => ?_, fun x => ?_, fun i hi => ?_⟩
  · unfold insF
    by_cases a : i < k
    · rw [if_pos a]
      by_cases b : j < k
      · rw [if_pos b]; exact h.1 i j hij (by omega)
      · rw [if_neg b]
        by_cases d : j = k
        · rw [if_pos d]; exact hb i a
        · rw [if_neg d]; exact h.1 i (j - 1) (by omega) (by omega)
    · rw [if_neg a, if_neg (by omega : ¬ j < k), if_neg (by omega : ¬ j = k)]
      by_cases d : i = k
      · rw [if_pos d]; exact ha (j - 1) (by omega) (by omega)
      · rw [if_neg d]; exact h.1 (i - 1) (j - 1) (by omega) (by omega)
  · unfold bump
    by_cases q : x = v
    · rw [if_pos q]
      exact ⟨fun _ => ⟨k, by omega, by unfold insF; rw [if_neg (by omega), if_pos rfl, q]⟩, fun _ => by omega⟩
    · rw [if_neg q, Nat.add_zero, h.2.1 x]
      constructor
      · rintro ⟨i, hi, e⟩
        by_cases a : i < k
        · exact ⟨i, by omega, by unfold insF; rw [if_pos a]; exact e⟩
        · exact ⟨i + 1, by omega, by unfold insF; rw [if_neg (by omega), if_neg (by omega), show i + 1 - 1 = i by omega]; exact e⟩
      · rintro ⟨i, hi, e⟩
        unfold insF at e
        by_cases a : i < k
        · rw [if_pos a] at e; exact ⟨i, by omega, e⟩
        · rw [if_neg a] at e
          by_cases d : i = k
          · rw [if_pos d] at e; exact absurd e.symm q
          · rw [if_neg d] at e; exact ⟨i - 1, by omega, e⟩
  · unfold bump insF
    by_cases a : i < k
    · rw [if_pos a, if_pos a, if_neg (by have := hb i a; omega), Nat.add_zero]; exact h.2.2 i (by omega)
    · rw [if_neg a, if_neg a]
      by_cases d : i = k
      · rw [if_pos d, if_pos d, if_pos rfl, hv]
      · rw [if_neg d, if_neg d, if_neg (by have := ha (i - 1) (by omega) (by omega); omega), Nat.add_zero]; exact h.2.2 (i - 1) (by omega)
