/-! ===== cycles ===== -/
theorem ln_some {n t : Nat} (h1 : 1 ≤ n) (h7 : n ≤ 7) (h : isP n t) : lnGo t n 0 0 = some (lens n t) := by
  have := okT_at h1 h7 h
  simp only [okT, Bool.and_eq_true] at this
  have h2 := this.1.1.1.1
  unfold lens
  cases hc : lnGo t n 0 0 with
  | none => rw [hc] at h2; cases h2
  | some l => rfl
theorem tal_lt {n t : Nat} (h1 : 1 ≤ n) (h7 : n ≤ 7) (h : isP n t) : tal (lens n t) < 1000000000 := by
  have := okU_at h1 h7 h
  simp only [okU, fzL_eq, fz_eq, Bool.and_eq_true, decide_eq_true_eq] at this
  exact this.1
theorem tal_ct {n t k : Nat} (h1 : 1 ≤ n) (h7 : n ≤ 7) (h : isP n t) (hk : k < 7) : tal (lens n t) / 16 ^ (k + 1) % 16 = (lens n t).count (k + 1) := by
  have := okU_at h1 h7 h
  simp only [okU, fzL_eq, fz_eq, Bool.and_eq_true, decide_eq_true_eq] at this
  simpa using List.all_eq_true.mp this.2 k (List.mem_range.mpr hk)
theorem p16 (k : Nat) : 2 ^ (4 * k) = 16 ^ k := by rw [Nat.pow_mul]
theorem sp_tally {n t : Nat} {post : Int → Prop} (h1 : 1 ≤ n) (h7 : n ≤ 7) (ht : isP n t) (h : post (tal (lens n t) : Int)) : wp_U_tallyCycles (t : Int) (n : Int) post := by
  have hl := ln_some h1 h7 ht
  have hT := tal_lt h1 h7 ht
  unfold wp_U_tallyCycles
  refine ⟨fun c x2 x3 x4 => ∃ (p met T : Nat) (l : List Nat), p ≤ n ∧ c = n - p ∧ x2 = (T : Int) ∧ x3 = (met : Int) ∧ x4 = (p : Int) ∧ lnGo t (n - p) p met = some l ∧ T + tal l = tal (lens n t) ∧ met < 128, ⟨n, 0, 0, 0, lens n t, by omega, rfl, rfl, rfl, rfl, hl, by omega, by omega⟩, ?_⟩
  rintro c x2 x3 x4 ⟨p, met, T, l, hp, rfl, rfl, rfl, rfl, hg, hs, hm⟩
  refine ⟨fun e => ?_, fun e => ?_⟩
  · have e1 : p = n := by omega
    subst e1
    rw [Nat.sub_self] at hg
    simp only [lnGo] at hg
    have e2 := Option.some.inj hg
    subst e2
    simp only [tal, Nat.add_zero] at hs
    rw [hs]; exact h
  · have e1 : n - p = (n - p - 1) + 1 := by omega
    rw [e1, lnGo] at hg
    cases hc : cyGo t 9 met 0 p with
    | none => rw [hc] at hg; cases hg
    | some w =>
      obtain ⟨met', len⟩ := w
      rw [hc] at hg
      dsimp only at hg
      split at hg
      case isFalse => cases hg
      case isTrue hm' =>
      cases hc2 : lnGo t (n - p - 1) (p + 1) met' with
      | none => rw [hc2] at hg; cases hg
      | some l' =>
        rw [hc2] at hg
        have e3 := Option.some.inj hg
        subst e3
        simp only [tal] at hs
        refine ⟨fun m x3 x5 x6 => ∃ mt ln at_ : Nat, at_ < 7 ∧ mt < 128 ∧ ln ≤ 7 ∧ x3 = (mt : Int) ∧ x5 = (ln : Int) ∧ x6 = (at_ : Int) ∧ cyGo t m mt ln at_ = some (met', len), ⟨9, met, 0, p, by omega, hm, by omega, rfl, rfl, rfl, hc⟩, ?_⟩
        rintro m y3 y5 y6 ⟨mt, ln, at_, ha, hmt, hln, rfl, rfl, rfl, hcy⟩
        intro K57 hK57
        rw [nat_bit (by omega) (by omega)]
        cases m with
        | zero => cases hcy
        | succ m =>
          rw [cyGo] at hcy
          refine ⟨fun hb => ?_, fun hb => ?_⟩
          · have hb1 : mt / 2 ^ at_ % 2 = 1 := by omega
            rw [if_pos hb1] at hcy
            have e4 := Option.some.inj hcy
            have e5 : mt = met' := congrArg Prod.fst e4
            have e6 : ln = len := congrArg Prod.snd e4
            subst e5; subst e6
            refine hK57 ?_
            intro K71 hK71
            refine ⟨fun h0 => ?_, fun h0 => ?_⟩
            · have e7 : ln = 0 := by omega
              refine hK71 _ ⟨⟨by omega, by omega⟩, ?_⟩
              intro v hv
              exact ⟨n - (p + 1), by omega, p + 1, mt, T, l', by omega, rfl, rfl, rfl, by omega, by rw [show n - (p + 1) = n - p - 1 by omega]; exact hc2, by rw [if_pos e7] at hs; omega, hmt⟩
            · have e7 : ¬ ln = 0 := by omega
              rw [if_neg e7] at hs
              refine ⟨⟨by omega, by omega⟩, ?_⟩
              have e8 : bShl 1 (4 * (ln : Int)) = ((16 ^ ln : Nat) : Int) := by
                rw [show 4 * (ln : Int) = ((4 * ln : Nat) : Int) by omega, bShl1 (by omega), p16]
              rw [e8]
              clear e8
              generalize 16 ^ ln = z at hs ⊢
              refine ⟨⟨by omega, by omega⟩, ?_⟩
              intro v hv
              refine hK71 _ ⟨⟨by omega, by omega⟩, ?_⟩
              intro v2 hv2
              exact ⟨n - (p + 1), by omega, p + 1, mt, T + z, l', by omega, rfl, by omega, rfl, by omega, by rw [show n - (p + 1) = n - p - 1 by omega]; exact hc2, by omega, hmt⟩
          · have hb1 : ¬ mt / 2 ^ at_ % 2 = 1 := by omega
            rw [if_neg hb1] at hcy
            by_cases h77 : 7 ≤ ln
            · rw [if_pos h77] at hcy; cases hcy
            · rw [if_neg h77] at hcy
              refine ⟨fun q => absurd q (by omega), fun _ => ?_⟩
              intro v3 hv3
              rw [bShl1 (by omega), nat_bOr (by omega) (by have := (p2_le ha).2; omega)] at hv3
              refine sp_goal ht.1 (by omega) ?_
              refine ⟨⟨by omega, by omega⟩, ?_⟩
              intro v5 hv5
              exact ⟨m, by omega, mt ||| 2 ^ at_, ln + 1, dg t at_, ht.lt7 h7 ha, Nat.or_lt_two_pow (n := 7) hmt (Nat.pow_lt_pow_right (by decide) ha), by omega, hv3, by omega, rfl, hcy⟩
/-! ===== types ===== -/
theorem repF_mono (v L : Nat) : ∀ {i c : Nat}, i ≤ c → repF v L i ≤ repF v L c := by
  intro i c h
  induction c with
  | zero => rw [show i = 0 by omega]; exact Nat.le_refl _
  | succ c ih =>
    by_cases h1 : i = c + 1
    · subst h1; exact Nat.le_refl _
    · have := ih (by omega)
      rw [repF]
      omega
theorem figF_ge (l : List Nat) : ∀ k v, v ≤ figF l k v
  | 0, v => Nat.le_refl v
  | k + 1, v => by
    rw [figF]
    exact Nat.le_trans (repF_mono v (k + 1) (Nat.zero_le (l.count (k + 1)))) (figF_ge l k _)
theorem figF_skip {l : List Nat} {n : Nat} (hl : ∀ x ∈ l, x ≤ n) (v : Nat) : ∀ d, figF l (n + d) v = figF l n v
  | 0 => rfl
  | d + 1 => by
    have h0 : l.count (n + d + 1) = 0 := List.count_eq_zero.mpr (fun h => by have := hl _ h; omega)
    rw [← Nat.add_assoc, figF, h0, repF]
    exact figF_skip hl v d
theorem lens_le {n t : Nat} (h1 : 1 ≤ n) (h7 : n ≤ 7) (h : isP n t) : ∀ x ∈ lens n t, x ≤ n := by
  have := okT_at h1 h7 h
  simp only [okT, Bool.and_eq_true] at this
  intro x hx
  simpa using List.all_eq_true.mp this.1.1.1.2 x hx
theorem typ_in {n t : Nat} (h1 : 1 ≤ n) (h7 : n ≤ 7) (h : isP n t) : typF n t ∈ tysOf n := by
  have := okT_at h1 h7 h
  simp only [okT, Bool.and_eq_true] at this
  simpa using this.2
theorem tys_le {n : Nat} (h1 : 1 ≤ n) (h7 : n ≤ 7) : (∀ x ∈ tysOf n, x ≤ 1111111) ∧ (tysOf n).length ≤ 15 := by
  rcases n17 h1 h7 with rfl | rfl | rfl | rfl | rfl | rfl | rfl <;> decide
theorem typ_le {n t : Nat} (h1 : 1 ≤ n) (h7 : n ≤ 7) (h : isP n t) : typF n t ≤ 1111111 := (tys_le h1 h7).1 _ (typ_in h1 h7 h)
theorem typ_n {n t : Nat} (h1 : 1 ≤ n) (h7 : n ≤ 7) (h : isP n t) : figF (lens n t) n 0 = typF n t := by
  unfold typF
  rw [← figF_skip (lens_le h1 h7 h) 0 (7 - n), show n + (7 - n) = 7 by omega]
theorem sp_typeOf {n t : Nat} {post : Int → Prop} (h1 : 1 ≤ n) (h7 : n ≤ 7) (ht : isP n t) (h : post (typF n t : Int)) : wp_U_typeOf (t : Int) (n : Int) post := by
  unfold wp_U_typeOf
  refine sp_tally h1 h7 ht ?_
  have hT := tal_lt h1 h7 ht
  have hle := typ_le h1 h7 ht
  refine ⟨fun L x3 x4 => ∃ v : Nat, L ≤ 7 ∧ x4 = (L : Int) ∧ x3 = (v : Int) ∧ figF (lens n t) L v = typF n t, ⟨n, 0, h7, rfl, rfl, typ_n h1 h7 ht⟩, ?_⟩
  rintro L x3 x4 ⟨v, hL, rfl, rfl, hf⟩
  refine ⟨fun e => ?_, fun e => ?_⟩
  · have e1 : L = 0 := by omega
    subst e1
    rw [figF] at hf
    rw [hf]; exact h
  · obtain ⟨k, rfl⟩ : ∃ k, L = k + 1 := ⟨L - 1, by omega⟩
    rw [figF] at hf
    refine ⟨⟨by omega, by omega⟩, ?_⟩
    intro v5 hv5
    have e2 : v5 = ((lens n t).count (k + 1) : Int) := by
      rw [hv5, show 4 * ((k + 1 : Nat) : Int) = ((4 * (k + 1) : Nat) : Int) by omega, nat_bShr (by omega) (by omega)]
      have h15 : bAnd ((tal (lens n t) / 2 ^ (4 * (k + 1)) : Nat) : Int) ((15 : Nat) : Int) = _ := nat_bAnd (Nat.lt_of_le_of_lt (Nat.div_le_self _ _) (by omega))
      refine Eq.trans h15 ?_
      rw [show (15 : Nat) = 2 ^ 4 - 1 from rfl, Nat.and_two_pow_sub_one_eq_mod, p16, ← tal_ct h1 h7 ht (by omega)]
    have hc16 : (lens n t).count (k + 1) < 16 := by rw [← tal_ct h1 h7 ht (by omega)]; exact Nat.mod_lt _ (by decide)
    have hge := figF_ge (lens n t) k (repF v (k + 1) ((lens n t).count (k + 1)))
    rw [hf] at hge
    refine ⟨fun c x3 x6 => ∃ i : Nat, i ≤ (lens n t).count (k + 1) ∧ c = (lens n t).count (k + 1) - i ∧ x6 = (i : Int) ∧ x3 = (repF v (k + 1) i : Int), ⟨_, 0, by omega, rfl, rfl, rfl⟩, ?_⟩
    rintro c y3 y6 ⟨i, hi, rfl, rfl, rfl⟩
    refine ⟨fun e3 => ?_, fun e3 => ?_⟩
    · have e4 : i = (lens n t).count (k + 1) := by omega
      refine ⟨⟨by omega, by omega⟩, ?_⟩
      intro w hw
      exact ⟨k, by omega, repF v (k + 1) i, by omega, by omega, rfl, by rw [e4]; exact hf⟩
    · have hm := repF_mono v (k + 1) (show i + 1 ≤ (lens n t).count (k + 1) by omega)
      rw [repF] at hm
      refine ⟨⟨by omega, by omega⟩, ⟨by omega, by omega⟩, ?_⟩
      intro w hw
      refine ⟨⟨by omega, by omega⟩, ?_⟩
      intro w2 hw2
      exact ⟨(lens n t).count (k + 1) - (i + 1), by omega, i + 1, by omega, rfl, by omega, by rw [repF]; omega⟩
/-! ===== rounds and flips of things ===== -/
def thF (t f g : Nat) : Nat → Nat
  | 0 => t
  | i + 1 => setd (thF t f g i) (f + i) (g + i)
theorem thF_lt {t f g w : Nat} (ht : t < 2097152) (hf : f + w ≤ 7) (hg : g + w ≤ 7) : ∀ i, i ≤ w → thF t f g i < 2097152
  | 0, _ => ht
  | i + 1, h => setd_lt (thF_lt ht hf hg i (by omega)) (by omega) (by omega)
theorem sp_withThing {t f g w : Nat} {post : Int → Prop} (ht : t < 2097152) (hf : f + w ≤ 7) (hg : g + w ≤ 7) (h : post (thF t f g w : Int)) : wp_U_withThing (t : Int) (f : Int) (g : Int) (w : Int) post := by
  unfold wp_U_withThing
  refine ⟨fun c x4 x5 => ∃ i : Nat, i ≤ w ∧ c = w - i ∧ x5 = (i : Int) ∧ x4 = (thF t f g i : Int), ⟨_, 0, by omega, rfl, rfl, rfl⟩, ?_⟩
  rintro c x4 x5 ⟨i, hi, rfl, rfl, rfl⟩
  refine ⟨fun e => ?_, fun e => ?_⟩
  · have e1 : i = w := by omega
    subst e1; exact h
  · refine ⟨⟨by omega, by omega⟩, ⟨by omega, by omega⟩, ?_⟩
    rw [show (f : Int) + (i : Int) = ((f + i : Nat) : Int) by omega, show (g : Int) + (i : Int) = ((g + i : Nat) : Int) by omega]
    refine sp_withGoal (thF_lt ht hf hg i hi) (by omega) (by omega) ?_
    refine ⟨⟨by omega, by omega⟩, ?_⟩
    intro v hv
    exact ⟨w - (i + 1), by omega, i + 1, by omega, rfl, by omega, rfl⟩
def rdF (a b w : Nat) : Nat → Nat
  | 0 => idc
  | j + 1 => thF (rdF a b w j) (a + j * w) (a + (if j + 1 < b then j + 1 else 0) * w) w
def flF (a b w : Nat) : Nat → Nat
  | 0 => idc
  | j + 1 => thF (flF a b w j) (a + j * w) (a + (b - 1 - j) * w) w
theorem in7 {a b w j : Nat} (h : a + b * w ≤ 7) (hj : j < b) : a + j * w + w ≤ 7 := by
  have : (j + 1) * w ≤ b * w := Nat.mul_le_mul_right w hj
  rw [Nat.add_mul, Nat.one_mul] at this
  omega
theorem rdF_lt {a b w : Nat} (h : a + b * w ≤ 7) : ∀ j, j ≤ b → rdF a b w j < 2097152
  | 0, _ => by show idc < 2097152; decide
  | j + 1, hj => by
    rw [rdF]
    refine thF_lt (w := w) (rdF_lt h j (by omega)) (in7 h (by omega)) ?_ w (Nat.le_refl w)
    split
    · exact in7 h (by omega)
    · exact in7 h (show 0 < b by omega)
theorem flF_lt {a b w : Nat} (h : a + b * w ≤ 7) : ∀ j, j ≤ b → flF a b w j < 2097152
  | 0, _ => by show idc < 2097152; decide
  | j + 1, hj => by
    rw [flF]
    exact thF_lt (w := w) (flF_lt h j (by omega)) (in7 h (by omega)) (in7 h (by omega)) w (Nat.le_refl w)
theorem sp_roundTurn {a b w : Nat} {post : Int → Prop} (hab : a + b * w ≤ 7) (hb : b ≤ 7) (h : post (rdF a b w b : Int)) : wp_U_roundTurn (a : Int) (b : Int) (w : Int) post := by
  unfold wp_U_roundTurn
  refine ⟨fun c x3 x4 => ∃ j : Nat, j ≤ b ∧ c = b - j ∧ x4 = (j : Int) ∧ x3 = (rdF a b w j : Int), ⟨_, 0, by omega, rfl, rfl, rfl⟩, ?_⟩
  rintro c x3 x4 ⟨j, hj, rfl, rfl, rfl⟩
  refine ⟨fun e => ?_, fun e => ?_⟩
  · have e1 : j = b := by omega
    subst e1; exact h
  · have hjw := in7 hab (show j < b by omega)
    have h0w := in7 hab (show 0 < b by omega)
    refine ⟨⟨by omega, by omega⟩, ?_⟩
    have key : ∀ k : Nat, k < b → (inR ((j : Int) * w) ∧ inR ((a : Int) + ((j : Int) * w)) ∧ inR ((k : Int) * w) ∧ inR ((a : Int) + ((k : Int) * w)) ∧ (k = (if j + 1 < b then j + 1 else 0) → wp_U_withThing (rdF a b w j : Int) ((a : Int) + ((j : Int) * w)) ((a : Int) + ((k : Int) * w)) (w : Int) (fun (r44 : Int) => inR ((j : Int) + 1) ∧ ∀ v4_48 : Int, v4_48 = (j : Int) + 1 → ∃ k_7, k_7 < b - j ∧ ∃ j : Nat, j ≤ b ∧ k_7 = b - j ∧ v4_48 = (j : Int) ∧ r44 = (rdF a b w j : Int)))) := by
      intro k hk
      have hkw := in7 hab hk
      rw [show (j : Int) * (w : Int) = ((j * w : Nat) : Int) from rfl, show (k : Int) * (w : Int) = ((k * w : Nat) : Int) from rfl]
      refine ⟨⟨by omega, by omega⟩, ⟨by omega, by omega⟩, ⟨by omega, by omega⟩, ⟨by omega, by omega⟩, fun hke => ?_⟩
      rw [show (a : Int) + ((j * w : Nat) : Int) = ((a + j * w : Nat) : Int) by omega, show (a : Int) + ((k * w : Nat) : Int) = ((a + k * w : Nat) : Int) by omega]
      refine sp_withThing (rdF_lt hab j hj) hjw hkw ?_
      refine ⟨⟨by omega, by omega⟩, ?_⟩
      intro v hv
      refine ⟨b - (j + 1), by omega, j + 1, by omega, rfl, by omega, ?_⟩
      rw [rdF, ← hke]
    intro K hK
    refine ⟨fun e2 => ?_, fun e2 => ?_⟩
    · obtain ⟨q1, q2, q3, q4, q5⟩ := key 0 (by omega)
      exact hK 0 ⟨q1, q2, q3, q4, q5 (by rw [if_neg (by omega)])⟩
    · refine ⟨⟨by omega, by omega⟩, ?_⟩
      obtain ⟨q1, q2, q3, q4, q5⟩ := key (j + 1) (by omega)
      exact hK _ ⟨q1, q2, q3, q4, q5 (by rw [if_pos (by omega)])⟩
theorem sp_flipTurn {a b w : Nat} {post : Int → Prop} (hab : a + b * w ≤ 7) (hb : b ≤ 7) (h : post (flF a b w b : Int)) : wp_U_flipTurn (a : Int) (b : Int) (w : Int) post := by
  unfold wp_U_flipTurn
  refine ⟨fun c x3 x4 => ∃ j : Nat, j ≤ b ∧ c = b - j ∧ x4 = (j : Int) ∧ x3 = (flF a b w j : Int), ⟨_, 0, by omega, rfl, rfl, rfl⟩, ?_⟩
  rintro c x3 x4 ⟨j, hj, rfl, rfl, rfl⟩
  refine ⟨fun e => ?_, fun e => ?_⟩
  · have e1 : j = b := by omega
    subst e1; exact h
  · have hjw := in7 hab (show j < b by omega)
    have hkw := in7 hab (show b - 1 - j < b by omega)
    have ek : (b : Int) - 1 - (j : Int) = ((b - 1 - j : Nat) : Int) := by omega
    rw [ek, show (j : Int) * (w : Int) = ((j * w : Nat) : Int) from rfl, show ((b - 1 - j : Nat) : Int) * (w : Int) = (((b - 1 - j) * w : Nat) : Int) from rfl]
    refine ⟨⟨by omega, by omega⟩, ⟨by omega, by omega⟩, ⟨by omega, by omega⟩, ⟨by omega, by omega⟩, ⟨by omega, by omega⟩, ⟨by omega, by omega⟩, ?_⟩
    rw [show (a : Int) + ((j * w : Nat) : Int) = ((a + j * w : Nat) : Int) by omega, show (a : Int) + (((b - 1 - j) * w : Nat) : Int) = ((a + (b - 1 - j) * w : Nat) : Int) by omega]
    refine sp_withThing (flF_lt hab j hj) hjw hkw ?_
    refine ⟨⟨by omega, by omega⟩, ?_⟩
    intro v hv
    exact ⟨b - (j + 1), by omega, j + 1, by omega, rfl, by omega, rfl⟩
