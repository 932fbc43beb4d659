/-! ===== ranks: what the checks say ===== -/
theorem n17 {n : Nat} (h1 : 1 ≤ n) (h7 : n ≤ 7) : n = 1 ∨ n = 2 ∨ n = 3 ∨ n = 4 ∨ n = 5 ∨ n = 6 ∨ n = 7 := by omega
theorem chA {n : Nat} (h1 : 1 ≤ n) (h7 : n ≤ 7) : chI n 0 0 (cdA n) = true := by
  rcases n17 h1 h7 with rfl | rfl | rfl | rfl | rfl | rfl | rfl
  · rw [cl_eq_1]; exact okI_1
  · rw [cl_eq_2]; exact okI_2
  · rw [cl_eq_3]; exact okI_3
  · rw [cl_eq_4]; exact okI_4
  · rw [cl_eq_5]; exact okI_5
  · rw [cl_eq_6]; exact okI_6
  · rw [cl_eq_7]; exact okI_7
theorem rk_at {n t : Nat} (h1 : 1 ≤ n) (h7 : n ≤ 7) (h : isP n t) : (cdA n)[rkF n t]? = some t := by
  obtain ⟨j, hj⟩ := List.getElem?_of_mem (cdA_mem h7 h)
  have := (chI_rk (chA h1 h7) j t hj).1
  rw [this, Nat.zero_add]; exact hj
theorem rk_inj {n a b : Nat} (h1 : 1 ≤ n) (h7 : n ≤ 7) (ha : isP n a) (hb : isP n b) (e : rkF n a = rkF n b) : a = b := by
  have h2 := rk_at h1 h7 ha
  rw [e, rk_at h1 h7 hb] at h2
  exact (Option.some.inj h2).symm
theorem rk_mono {n a b : Nat} (h1 : 1 ≤ n) (h7 : n ≤ 7) (ha : isP n a) (hb : isP n b) (e : rkF n a < rkF n b) : a < b :=
  chI_lt (chA h1 h7) _ _ _ _ (rk_at h1 h7 ha) (rk_at h1 h7 hb) e
theorem chI_len {n : Nat} : ∀ {l : List Nat} {k z N : Nat}, chI n k z l = true → (∀ t ∈ l, rkF n t < N) → l.length ≤ N := by
  intro l k z N h hN
  cases hl : l.length with
  | zero => omega
  | succ m =>
    have hm : m < l.length := by omega
    have h2 : l[m]? = some l[m] := List.getElem?_eq_getElem hm
    have := (chI_rk h m _ h2).1
    have := hN _ (List.getElem_mem hm)
    omega
theorem cdA_len : ∀ n, 1 ≤ n → n ≤ 7 → (cdA n).length ≤ 5040 := by
  intro n h1 h7
  rcases n17 h1 h7 with rfl | rfl | rfl | rfl | rfl | rfl | rfl
  · rw [cl_eq_1]; simp only [cl_1, List.length_append, okN_1_0]; decide
  · rw [cl_eq_2]; simp only [cl_2, List.length_append, okN_2_0]; decide
  · rw [cl_eq_3]; simp only [cl_3, List.length_append, okN_3_0]; decide
  · rw [cl_eq_4]; simp only [cl_4, List.length_append, okN_4_0]; decide
  · rw [cl_eq_5]; simp only [cl_5, List.length_append, okN_5_0]; decide
  · rw [cl_eq_6]; simp only [cl_6, List.length_append, okN_6_0, okN_6_1, okN_6_2]; decide
  · rw [cl_eq_7]; simp only [cl_7, List.length_append, okN_7_0, okN_7_1, okN_7_2, okN_7_3, okN_7_4, okN_7_5, okN_7_6, okN_7_7, okN_7_8, okN_7_9, okN_7_10, okN_7_11, okN_7_12, okN_7_13, okN_7_14, okN_7_15, okN_7_16, okN_7_17, okN_7_18, okN_7_19, okN_7_20]; decide
theorem rk_lt {n t : Nat} (h1 : 1 ≤ n) (h7 : n ≤ 7) (h : isP n t) : rkF n t < 5040 := by
  have h2 := (List.getElem?_eq_some_iff.mp (rk_at h1 h7 h)).1
  have := cdA_len n h1 h7
  omega
theorem okT_at {n t : Nat} (h1 : 1 ≤ n) (h7 : n ≤ 7) (h : isP n t) : okT n t = true := by
  rcases n17 h1 h7 with rfl | rfl | rfl | rfl | rfl | rfl | rfl
  · exact cdA_all h7 okT_1 h
  · exact cdA_all h7 okT_2 h
  · exact cdA_all h7 okT_3 h
  · exact cdA_all h7 okT_4 h
  · exact cdA_all h7 okT_5 h
  · exact cdA_all h7 okT_6 h
  · exact cdA_all h7 okT_7 h
theorem okL_at {n t : Nat} (h1 : 1 ≤ n) (h7 : n ≤ 7) (h : isP n t) : okL n t = true := by
  rcases n17 h1 h7 with rfl | rfl | rfl | rfl | rfl | rfl | rfl
  · exact cdA_all h7 okL_1 h
  · exact cdA_all h7 okL_2 h
  · exact cdA_all h7 okL_3 h
  · exact cdA_all h7 okL_4 h
  · exact cdA_all h7 okL_5 h
  · exact cdA_all h7 okL_6 h
  · exact cdA_all h7 okL_7 h
theorem okU_at {n t : Nat} (h1 : 1 ≤ n) (h7 : n ≤ 7) (h : isP n t) : okU n t = true := by
  rcases n17 h1 h7 with rfl | rfl | rfl | rfl | rfl | rfl | rfl
  · exact cdA_all h7 okU_1 h
  · exact cdA_all h7 okU_2 h
  · exact cdA_all h7 okU_3 h
  · exact cdA_all h7 okU_4 h
  · exact cdA_all h7 okU_5 h
  · exact cdA_all h7 okU_6 h
  · exact cdA_all h7 okU_7 h
/-- the order of a turn -/
def orF (t : Nat) : Nat := lcmF 8 1 (typF 7 t)
theorem or_go {n t : Nat} (h1 : 1 ≤ n) (h7 : n ≤ 7) (h : isP n t) : orGo t 12 t 1 = some (lcmF 8 1 (typF n t)) := by
  have := okT_at h1 h7 h
  simp only [okT, Bool.and_eq_true, beq_iff_eq] at this
  exact this.1.2
theorem or_eq {n t : Nat} (h1 : 1 ≤ n) (h7 : n ≤ 7) (h : isP n t) : lcmF 8 1 (typF n t) = orF t := by
  have a := or_go h1 h7 h
  rw [or_go (by decide) (Nat.le_refl 7) (h.to7 h7)] at a
  exact (Option.some.inj a).symm
/-! ===== one turn behind the other ===== -/
def preF (f : Nat → Nat) : Nat → Nat
  | 0 => 0
  | j + 1 => preF f j * 8 + f j
theorem preF_lt {f : Nat → Nat} (hf : ∀ i, i < 7 → f i < 8) : ∀ j, j ≤ 7 → preF f j < 8 ^ j
  | 0, _ => by show 0 < 1; decide
  | j + 1, h => by
    have h1 := preF_lt hf j (by omega)
    have h2 := hf j (by omega)
    rw [preF, Nat.pow_succ]
    omega
theorem preF_7 (f : Nat → Nat) : preF f 7 = mkc f := by
  simp only [preF, mkc]; omega
theorem or8 {x d : Nat} (hd : d < 8) (hx : x < 8 ^ 7) : bOr (bShl (x : Int) 3) (d : Int) = ((x * 8 + d : Nat) : Int) := by
  have h1 : bShl (x : Int) ((3 : Nat) : Int) = _ := nat_bShl (by decide) (by omega)
  have h2 : bShl (x : Int) 3 = ((x * 2 ^ 3 : Nat) : Int) := h1
  rw [h2, nat_bOr (by omega) (by omega), Nat.mul_comm x, ← Nat.two_pow_add_eq_or_of_lt (show d < 2 ^ 3 by omega)]
theorem sp_oto {a b : Nat} {post : Int → Prop} (ha : isP 7 a) (hb : b < 2097152) (h : post (cmp a b : Int)) : wp_U_oneThenOther (a : Int) (b : Int) post := by
  unfold wp_U_oneThenOther
  have hf : ∀ i, i < 7 → dg b (dg a i) < 8 := fun i _ => dg_lt _ _
  refine ⟨fun n x y => ∃ j : Nat, j ≤ 7 ∧ n = 7 - j ∧ y = (j : Int) ∧ x = (preF (fun i => dg b (dg a i)) j : Int), ⟨7, 0, by omega, rfl, rfl, rfl⟩, ?_⟩
  rintro n x y ⟨j, hj, rfl, rfl, rfl⟩
  refine ⟨fun h7 => ?_, fun h7 => ?_⟩
  · have : j = 7 := by omega
    subst this
    rw [preF_7]; exact h
  · refine sp_goal ha.1 (by omega) (sp_goal hb (by have := ha.2.1 j (by omega); omega) ?_)
    have hl := preF_lt hf j hj
    have hl2 : 8 ^ j ≤ 8 ^ 7 := Nat.pow_le_pow_right (by decide) hj
    intro v hv
    rw [or8 (dg_lt _ _) (by omega)] at hv
    refine ⟨⟨by omega, by omega⟩, ?_⟩
    intro w hw
    exact ⟨7 - (j + 1), by omega, j + 1, by omega, rfl, by omega, hv⟩
/-! ===== the rank ===== -/
theorem bShl1 {d : Nat} (hd : d < 31) : bShl 1 (d : Int) = ((2 ^ d : Nat) : Int) := by
  have h2 : 2 ^ d < 2 ^ 31 := Nat.pow_lt_pow_right (by decide) hd
  have h1 : bShl ((1 : Nat) : Int) (d : Int) = _ := nat_bShl (by omega) (by rw [Nat.one_mul]; exact h2)
  rw [Nat.one_mul] at h1
  exact h1
theorem p2_le {d : Nat} (hd : d < 7) : 1 ≤ 2 ^ d ∧ 2 ^ d ≤ 64 := by
  rcases i7 hd with rfl | rfl | rfl | rfl | rfl | rfl | rfl <;> decide
theorem sp_rank {t : Nat} {post : Int → Prop} (ht : isP 7 t) (h : post (rkF 7 t : Int)) : wp_U_rank (t : Int) post := by
  have hc : crGo t 7 0 0 0 = some (rkF 7 t) := by
    have := cdA_all (Nat.le_refl 7) okC_7 ht
    simpa using this
  unfold wp_U_rank
  refine ⟨fun n x1 x2 x3 => ∃ p r met : Nat, p ≤ 7 ∧ n = 7 - p ∧ x1 = (r : Int) ∧ x2 = (met : Int) ∧ x3 = (p : Int) ∧ crGo t (7 - p) p r met = some (rkF 7 t), ⟨7, 0, 0, 0, by omega, rfl, rfl, rfl, rfl, hc⟩, ?_⟩
  rintro n x1 x2 x3 ⟨p, r, met, hp, rfl, rfl, rfl, rfl, hg⟩
  refine ⟨fun h7 => ?_, fun h7 => ?_⟩
  · have : p = 7 := by omega
    subst this
    simp only [Nat.sub_self, crGo] at hg
    rw [Option.some.inj hg]; exact h
  · have e : 7 - p = (6 - p) + 1 := by omega
    rw [e, crGo] at hg
    split at hg
    case isFalse => cases hg
    case isTrue hq =>
    obtain ⟨h1, h2, h3⟩ := hq
    have hd := ht.2.1 p (by omega)
    have hp2 := p2_le hd
    refine sp_goal ht.1 (by omega) ?_
    rw [bShl1 (by omega)]
    refine ⟨⟨by omega, by omega⟩, ?_⟩
    have e1 : ((2 ^ dg t p : Nat) : Int) - 1 = ((2 ^ dg t p - 1 : Nat) : Int) := by omega
    rw [e1, nat_bAnd (by omega), Nat.and_two_pow_sub_one_eq_mod]
    have hm : met % 2 ^ dg t p ≤ met := Nat.mod_le _ _
    refine sp_bitCount (by omega) ?_
    refine ⟨⟨by omega, by omega⟩, ?_⟩
    intro v hv
    have hr : r * (7 - p) ≤ 5040 * 7 := Nat.mul_le_mul (by omega) (by omega)
    have e2 : (r : Int) * (7 - (p : Int)) = ((r * (7 - p) : Nat) : Int) := by
      rw [show (7 : Int) - (p : Int) = ((7 - p : Nat) : Int) by omega]; rfl
    rw [e2]
    refine ⟨⟨by omega, by omega⟩, ⟨by omega, by omega⟩, ⟨by omega, by omega⟩, ?_⟩
    intro v1 hv1 v2 hv2
    refine ⟨⟨by omega, by omega⟩, ?_⟩
    intro v3 hv3
    rw [nat_bOr (by omega) (by omega)] at hv2
    exact ⟨7 - (p + 1), by omega, p + 1, r * (7 - p) + (dg t p - pc7 (met % 2 ^ dg t p)), met ||| 2 ^ dg t p, by omega, rfl, by omega, hv2, by omega, by rw [show 7 - (p + 1) = 6 - p by omega]; exact hg⟩
/-! ===== how often till still ===== -/
theorem sp_times {t : Nat} {post : Int → Prop} (ht : isP 7 t) (h : post (orF t : Int)) : wp_U_timesTillStill (t : Int) post := by
  have hg := or_go (by decide) (Nat.le_refl 7) ht
  unfold wp_U_timesTillStill
  refine ⟨fun n x1 x2 => ∃ pw k : Nat, isP 7 pw ∧ x1 = (pw : Int) ∧ x2 = (k : Int) ∧ orGo t n pw k = some (orF t), ⟨12, t, 1, ht, rfl, rfl, hg⟩, ?_⟩
  rintro n x1 x2 ⟨pw, k, hpw, rfl, rfl, hk⟩
  cases n with
  | zero => cases hk
  | succ n =>
    rw [orGo] at hk
    refine ⟨fun e => ?_, fun e => ?_⟩
    · have e1 : pw = idc := by unfold idc; omega
      rw [if_pos e1] at hk
      rw [Option.some.inj hk]; exact h
    · have e1 : ¬ pw = idc := by unfold idc; omega
      rw [if_neg e1] at hk
      by_cases h12 : 12 ≤ k
      · rw [if_pos h12] at hk; cases hk
      · rw [if_neg h12] at hk
        refine ⟨fun q => absurd q (by omega), fun _ => ?_⟩
        refine sp_oto hpw ht.1 ?_
        refine ⟨⟨by omega, by omega⟩, ?_⟩
        intro v hv
        exact ⟨n, by omega, cmp pw t, k + 1, isP_cmp (Nat.le_refl 7) hpw ht, rfl, by omega, hk⟩
