/-! ===== bits of the class's row of members ===== -/
theorem bt_one : ∀ i, i < 32 → bt 1 i = decide (i = 0) := by decide +kernel
theorem and1_toInt (y : Int32) : (y &&& 1).toInt = if bt y 0 then 1 else 0 := by
  have h : y &&& 1 = if bt y 0 then 1 else 0 := by
    apply b_ext
    intro i hi
    rw [b_and, bt_one i hi]
    by_cases h0 : i = 0
    · subst h0
      cases hb : bt y 0 <;> simp <;> decide
    · cases hb : bt y 0
      · simp [h0, b_0]
      · simp [h0, bt_one i hi]
  rw [h]
  split <;> rfl
theorem bit_z {z : Int} {j : Nat} (hj : j < 32) : bAnd (bShr z (j : Int)) 1 = if bt (iI z) j then 1 else 0 := by
  unfold bAnd bShr
  rw [iI_of, iI_nat]
  have e1 : iI 1 = (1 : Int32) := rfl
  have h2 : bt (iI z >>> (nI j &&& 31)) 0 = bt (iI z) j := by rw [b_sshr j hj _ (by decide), if_pos (by omega), Nat.add_zero]
  rw [e1, and1_toInt, h2]
theorem bt_set {z : Int} {i j : Nat} (hi : i < 32) (hj : j < 32) : bt (iI (bOr z (bShl 1 (j : Int)))) i = (bt (iI z) i || decide (i = j)) := by
  unfold bOr bShl
  have e1 : iI 1 = (1 : Int32) := rfl
  rw [iI_of, iI_of, iI_nat, e1, b_or, b_shl j hj _ hi, bt_one _ (by omega)]
  congr 1
  by_cases h1 : j ≤ i
  · simp only [h1, decide_true, Bool.true_and]
    congr 1
    exact propext ⟨fun _ => by omega, fun _ => by omega⟩
  · have : ¬ i = j := by omega
    simp [h1, this]
theorem shr5 {r : Nat} (h : r < 5040) : bShr (r : Int) 5 = ((r / 32 : Nat) : Int) := by
  have : bShr (r : Int) ((5 : Nat) : Int) = _ := nat_bShr (by decide) (by omega)
  exact this
theorem and31 {r : Nat} (h : r < 5040) : bAnd (r : Int) 31 = ((r % 32 : Nat) : Int) := by
  have h1 : bAnd (r : Int) ((31 : Nat) : Int) = _ := nat_bAnd (by omega)
  refine Eq.trans h1 ?_
  rw [show (31 : Nat) = 2 ^ 5 - 1 from rfl, Nat.and_two_pow_sub_one_eq_mod]
theorem sp_has {g x : Nat} {M : Mm} {U : Nat → Prop} {post : Int → Prop} (hx : isP 7 x) (hB : BM U (M (g + 3))) (hU : ∀ y, U y → isP 7 y) (h1 : U x → post 1) (h0 : ¬ U x → post 0) : wp_G_has g (x : Int) M post := by
  unfold wp_G_has
  refine sp_rank hx ?_
  have hr := rk_lt (by decide) (Nat.le_refl 7) hx
  refine sp_isRank hr ⟨fun q => absurd q (by decide), fun _ => ?_⟩
  rw [shr5 hr, and31 hr]
  refine ⟨⟨by omega, by omega⟩, ?_⟩
  intro z hz
  rw [Int.toNat_natCast] at hz
  rw [bit_z (by omega)]
  have hb := hB _ hr
  rw [← hz] at hb
  have hu : (∃ y, U y ∧ rkF 7 y = rkF 7 x) ↔ U x := ⟨fun ⟨y, hy, e⟩ => by rw [← rk_inj (by decide) (Nat.le_refl 7) (hU y hy) hx e]; exact hy, fun h => ⟨x, h, rfl⟩⟩
  rw [hu] at hb
  by_cases hc : bt (iI z) (rkF 7 x % 32) = true
  · rw [if_pos hc]
    exact ⟨fun q => absurd rfl q, fun _ => h1 (hb.mp hc)⟩
  · rw [if_neg hc]
    exact ⟨fun _ => h0 (fun q => hc (hb.mpr q)), fun q => absurd q (by decide)⟩
/-! ===== one more ===== -/
def eX (e : Nat → Nat) (N x : Nat) : Nat → Nat := fun i => if i = N then x else e i
theorem eX_lt {e : Nat → Nat} {N x i : Nat} (h : i < N) : eX e N x i = e i := by unfold eX; rw [if_neg (by omega)]
theorem eX_at {e : Nat → Nat} {N x : Nat} : eX e N x N = x := by unfold eX; rw [if_pos rfl]
theorem Ls_X {e : Nat → Nat} {N x y : Nat} : Ls (eX e N x) (N + 1) y ↔ Ls e N y ∨ y = x := by
  constructor
  · rintro ⟨i, hi, rfl⟩
    by_cases h : i = N
    · subst h; right; exact eX_at
    · left; exact ⟨i, by omega, (eX_lt (by omega)).symm⟩
  · rintro (⟨i, hi, rfl⟩ | rfl)
    · exact ⟨i, by omega, eX_lt hi⟩
    · exact ⟨N, by omega, eX_at⟩
theorem eX_d {e : Nat → Nat} {N x : Nat} (hd : ∀ i j, i < N → j < N → e i = e j → i = j) (hn : ¬ Ls e N x) : ∀ i j, i < N + 1 → j < N + 1 → eX e N x i = eX e N x j → i = j := by
  intro i j hi hj q
  by_cases h1 : i = N
  · by_cases h2 : j = N
    · omega
    · rw [h1, eX_at, eX_lt (by omega)] at q
      exact absurd ⟨j, by omega, q.symm⟩ hn
  · by_cases h2 : j = N
    · rw [h2, eX_at, eX_lt (by omega)] at q
      exact absurd ⟨i, by omega, q⟩ hn
    · rw [eX_lt (by omega), eX_lt (by omega)] at q
      exact hd i j (by omega) (by omega) q
theorem sp_add {g x N : Nat} {e : Nat → Nat} {M : Mm} {post : Mm → Prop} (hL : LB N e (M g) (M (g + 1)) (M (g + 3))) (hx : isP 7 x) (hn : ¬ Ls e N x)
    (h : ∀ M' : Mm, LB (N + 1) (eX e N x) (M' g) (M' (g + 1)) (M' (g + 3)) → (∀ k, k ≠ g → k ≠ g + 1 → k ≠ g + 3 → M' k = M k) → (∀ j, j ≠ 1 → M' g j = M g j) → post M') : wp_G_add g (x : Int) M post := by
  obtain ⟨l1, l2, l3, l4, l5⟩ := hL
  have hd := eX_d l4 hn
  have hP : ∀ i, i < N + 1 → isP 7 (eX e N x i) := by
    intro i hi
    by_cases q : i = N
    · rw [q, eX_at]; exact hx
    · rw [eX_lt (by omega)]; exact l3 i (by omega)
  have hN : N + 1 ≤ 5040 := Ls_le (by decide) (Nat.le_refl 7) hP hd
  have hr := rk_lt (by decide) (Nat.le_refl 7) hx
  unfold wp_G_add
  refine sp_rank hx ?_
  rw [l1]
  refine ⟨fun q => absurd q (by omega), fun _ => ?_⟩
  refine sp_isRank hr ⟨fun q => absurd q (by decide), fun _ => ?_⟩
  rw [shr5 hr, and31 hr]
  refine ⟨⟨by omega, by omega⟩, ?_⟩
  intro z hz
  refine ⟨⟨by omega, by omega⟩, ?_⟩
  intro M5 h5
  rw [Int.toNat_natCast] at hz h5
  have e5 : M5 g = M g := by rw [h5]; exact ms_o M _ _ (by omega)
  rw [e5, l1]
  refine ⟨⟨by omega, by omega⟩, ?_⟩
  intro M7 h7
  rw [Int.toNat_natCast] at h7
  have e7 : M7 g = M g := by rw [h7, ms_o _ _ _ (by omega)]; exact e5
  rw [e7, l1]
  refine ⟨⟨by omega, by omega⟩, ?_⟩
  intro M9 h9
  refine h M9 ⟨?_, ?_, hP, hd, ?_⟩ ?_ ?_
  · rw [h9, ms_self]; omega
  · intro i hi
    rw [h9, ms_o _ _ _ (by omega), h7]
    by_cases q : i = N
    · rw [q, ms_self, eX_at]
    · rw [ms_ne _ _ q, h5, ms_o _ _ _ (by omega), eX_lt (by omega)]
      exact l2 i (by omega)
  · intro r hr2
    rw [h9, ms_o _ _ _ (by omega), h7, ms_o _ _ _ (by omega), h5]
    have hb := l5 r hr2
    have hex : (∃ y, Ls (eX e N x) (N + 1) y ∧ rkF 7 y = r) ↔ (∃ y, Ls e N y ∧ rkF 7 y = r) ∨ rkF 7 x = r := by
      constructor
      · rintro ⟨y, hy, q⟩
        rcases Ls_X.mp hy with hy | rfl
        · exact Or.inl ⟨y, hy, q⟩
        · exact Or.inr q
      · rintro (⟨y, hy, q⟩ | q)
        · exact ⟨y, Ls_X.mpr (Or.inl hy), q⟩
        · exact ⟨x, Ls_X.mpr (Or.inr rfl), q⟩
    rw [hex, ← hb]
    by_cases q : r / 32 = rkF 7 x / 32
    · rw [q, ms_self, bt_set (by omega) (by omega), hz]
      simp only [Bool.or_eq_true, decide_eq_true_eq]
      constructor
      · rintro (a | a)
        · exact Or.inl a
        · exact Or.inr (by omega)
      · rintro (a | a)
        · exact Or.inl a
        · exact Or.inr (by rw [a])
    · rw [ms_ne _ _ q]
      exact ⟨Or.inl, fun a => a.elim id (fun b => absurd (by rw [b]) q)⟩
  · intro k k1 k2 k3
    rw [h9, ms_o _ _ _ k1, h7, ms_o _ _ _ k2, h5, ms_o _ _ _ k3]
  · intro j hj
    rw [h9, ms_ne _ _ hj, e7]
/-! ===== the group that is still ===== -/
theorem sp_makeStill {g n : Nat} {M : Mm} {post : Mm → Prop}
    (h : ∀ M' : Mm, GC n (fun x => x = idc) (M' g) (M' (g + 1)) (M' (g + 2)) (M' (g + 3)) → (∀ k, k ≠ g → k ≠ g + 1 → k ≠ g + 3 → M' k = M k) → (∀ j, j ≠ 1 → j ≠ 3 → M' g j = M g j) → post M') : wp_G_makeStill g M post := by
  unfold wp_G_makeStill
  refine ⟨fun c x M2 => ∃ i : Nat, i ≤ 158 ∧ c = 158 - i ∧ x = (i : Int) ∧ (∀ j, j < i → M2 (g + 3) j = 0) ∧ (∀ k, k ≠ g + 3 → M2 k = M k), ⟨158, 0, by omega, rfl, rfl, fun j hj => by omega, fun _ _ => rfl⟩, ?_⟩
  rintro c x M2 ⟨i, hi, rfl, rfl, h0, hk⟩
  refine ⟨fun q => ?_, fun q => ?_⟩
  · intro M3 h3 M4 h4
    have hL : LB 0 (fun _ => 0) (M4 g) (M4 (g + 1)) (M4 (g + 3)) := by
      refine ⟨by rw [h4, ms_self]; rfl, fun i hi => by omega, fun i hi => by omega, fun i j hi => by omega, fun r hr => ?_⟩
      rw [h4, ms_o _ _ _ (by omega), h3, ms_o _ _ _ (by omega), h0 (r / 32) (by omega)]
      constructor
      · intro a
        rw [show iI 0 = (0 : Int32) from rfl, b_0] at a
        cases a
      · rintro ⟨y, ⟨i, hi, _⟩, _⟩
        omega
    refine sp_add (x := idc) hL (isP_id (Nat.le_refl 7)) (fun ⟨i, hi, _⟩ => by omega) ?_
    intro M' hL' hf hs
    refine h M' ⟨1, 0, eX (fun _ => 0) 0 idc, fun _ => 0, hL', ?_, by omega, by decide, eX_at, ?_, fun i hi => by omega, ?_⟩ ?_ ?_
    · rw [hs 3 (by omega), h4, ms_ne _ _ (by omega), h3, ms_self]; rfl
    · intro x
      constructor
      · rintro rfl; exact ⟨0, by omega, eX_at⟩
      · rintro ⟨i, hi, rfl⟩
        have : i = 0 := by omega
        subst this; exact eX_at
    · rintro x rfl; exact Cl_id _
    · intro k k1 k2 k3
      rw [hf k k1 k2 k3, h4, ms_o _ _ _ k1, h3, ms_o _ _ _ k1, hk k k3]
    · intro j j1 j3
      rw [hs j j1, h4, ms_ne _ _ j1, h3, ms_ne _ _ j3, hk g (by omega)]
  · refine ⟨⟨by omega, by omega⟩, ?_⟩
    intro M6 h6
    rw [Int.toNat_natCast] at h6
    refine ⟨⟨by omega, by omega⟩, ?_⟩
    intro v hv
    refine ⟨158 - (i + 1), by omega, i + 1, by omega, rfl, by omega, fun j hj => ?_, fun k k3 => ?_⟩
    · rw [h6]
      by_cases a : j = i
      · rw [a, ms_self]
      · rw [ms_ne _ _ a]; exact h0 j (by omega)
    · rw [h6, ms_o _ _ _ k3]; exact hk k k3
/-! ===== a copy ===== -/
def eC (e : Nat → Nat) (N x : Nat) : Nat → Nat := fun i => if i < N then e i else cmp (e (i - N)) x
theorem eC_lt {e : Nat → Nat} {N x i : Nat} (h : i < N) : eC e N x i = e i := by unfold eC; rw [if_pos h]
theorem eC_ge {e : Nat → Nat} {N x : Nat} (i : Nat) : eC e N x (N + i) = cmp (e i) x := by
  unfold eC; rw [if_neg (by omega), show N + i - N = i by omega]
theorem LB.congr {N : Nat} {e e' : Nat → Nat} {o t b : Nat → Int} (h : LB N e o t b) (q : ∀ i, i < N → e' i = e i) : LB N e' o t b := by
  obtain ⟨l1, l2, l3, l4, l5⟩ := h
  refine ⟨l1, fun i hi => by rw [q i hi]; exact l2 i hi, fun i hi => by rw [q i hi]; exact l3 i hi, fun i j hi hj a => l4 i j hi hj (by rw [← q i hi, ← q j hj]; exact a), fun r hr => ?_⟩
  rw [l5 r hr]
  constructor
  · rintro ⟨x, ⟨i, hi, rfl⟩, a⟩; exact ⟨_, ⟨i, hi, q i hi⟩, a⟩
  · rintro ⟨x, ⟨i, hi, rfl⟩, a⟩; exact ⟨_, ⟨i, hi, (q i hi).symm⟩, a⟩
theorem sp_addCopy {g x N part : Nat} {e : Nat → Nat} {M : Mm} {post : Mm → Prop} (hL : LB N e (M g) (M (g + 1)) (M (g + 3))) (hp : part ≤ N) (hx : isP 7 x)
    (ha : ∀ i j, i < part → j < N → cmp (e i) x ≠ e j)
    (h : ∀ M' : Mm, LB (N + part) (eC e N x) (M' g) (M' (g + 1)) (M' (g + 3)) → (∀ k, k ≠ g → k ≠ g + 1 → k ≠ g + 3 → M' k = M k) → (∀ j, j ≠ 1 → M' g j = M g j) → post M') : wp_G_addCopy g (part : Int) (x : Int) M post := by
  have hN : N ≤ 5040 := Ls_le (by decide) (Nat.le_refl 7) hL.2.2.1 hL.2.2.2.1
  unfold wp_G_addCopy
  refine ⟨fun c y M2 => ∃ i : Nat, i ≤ part ∧ c = part - i ∧ y = (i : Int) ∧ LB (N + i) (eC e N x) (M2 g) (M2 (g + 1)) (M2 (g + 3)) ∧ (∀ k, k ≠ g → k ≠ g + 1 → k ≠ g + 3 → M2 k = M k) ∧ (∀ j, j ≠ 1 → M2 g j = M g j), ⟨part, 0, by omega, rfl, rfl, hL.congr (fun i hi => eC_lt hi), fun _ _ _ _ => rfl, fun _ _ => rfl⟩, ?_⟩
  rintro c y M2 ⟨i, hi, rfl, rfl, hL2, hf, hs⟩
  refine ⟨fun q => ?_, fun q => ?_⟩
  · have : i = part := by omega
    subst this
    exact h M2 hL2 hf hs
  · refine ⟨⟨by omega, by omega⟩, ?_⟩
    intro z hz
    rw [Int.toNat_natCast, hL2.2.1 i (by omega), eC_lt (show i < N by omega)] at hz
    rw [hz]
    have hei : isP 7 (e i) := hL.2.2.1 i (by omega)
    refine sp_oto hei hx.1 ?_
    have hnew : ¬ Ls (eC e N x) (N + i) (cmp (e i) x) := by
      rintro ⟨j, hj, a⟩
      by_cases b : j < N
      · rw [eC_lt b] at a
        exact ha i j (by omega) b a.symm
      · rw [show j = N + (j - N) by omega, eC_ge] at a
        have := hL.2.2.2.1 _ _ (by omega) (by omega) (cancel_r (hL.2.2.1 _ (by omega)) hei hx a)
        omega
    refine sp_add hL2 (isP_cmp (Nat.le_refl 7) hei hx) hnew ?_
    intro M4 hL4 hf4 hs4
    refine ⟨⟨by omega, by omega⟩, ?_⟩
    intro v hv
    refine ⟨part - (i + 1), by omega, i + 1, by omega, rfl, by omega, hL4.congr (fun j hj => ?_), fun k k1 k2 k3 => by rw [hf4 k k1 k2 k3, hf k k1 k2 k3], fun j hj => by rw [hs4 j hj, hs j hj]⟩
    by_cases b : j = N + i
    · rw [b, eX_at, eC_ge]
    · rw [eX_lt (by omega)]
