/-! ===== the reference: types ===== -/
theorem cyGo_len {t : Nat} : ∀ {f met len at_ : Nat} {r : Nat × Nat}, len ≤ 7 → cyGo t f met len at_ = some r → r.2 ≤ 7
  | 0, met, len, at_, r, _, h => by cases h
  | f + 1, met, len, at_, r, hl, h => by
    rw [cyGo] at h
    split at h
    · rw [← Option.some.inj h]; exact hl
    · split at h
      · cases h
      · exact cyGo_len (by omega) h
theorem sp_M_typeOfRow {n t : Nat} {M : Mm} {post : Int → Mm → Prop} (h1 : 1 ≤ n) (h7 : n ≤ 7) (hn : M 31 0 = (n : Int)) (ht : isP n t) (hr : RW n t M) (h : ∀ M' : Mm, (∀ k, k ≠ 41 → M' k = M k) → post (typF n t : Int) M') : wp_M_typeOfRow M post := by
  have hl := ln_some h1 h7 ht
  have hle := typ_le h1 h7 ht
  unfold wp_M_typeOfRow
  refine ⟨fun k x M5 => ∃ j : Nat, j ≤ 8 ∧ k = 8 - j ∧ x = (j : Int) ∧ (∀ i, i < j → M5 41 i = 0) ∧ (∀ k, k ≠ 41 → M5 k = M k), ⟨8, 0, by omega, rfl, rfl, fun i hi => by omega, fun _ _ => rfl⟩, ?_⟩
  rintro k x M5 ⟨j, hj, rfl, rfl, hz, f5⟩
  refine ⟨fun q => ?_, fun q => ?_⟩
  · have : j = 8 := by omega
    subst this
    refine ⟨fun k x y M6 => ∃ (p met : Nat) (l0 l : List Nat), p ≤ n ∧ k = n - p ∧ x = (met : Int) ∧ y = (p : Int) ∧ met < 128 ∧ lnGo t (n - p) p met = some l ∧ l0 ++ l = lens n t ∧ (∀ i, i < 8 → M6 41 i = (l0.count i : Int)) ∧ l0.length = p ∧ (∀ k, k ≠ 41 → M6 k = M k), ⟨n, 0, 0, [], lens n t, by omega, rfl, rfl, rfl, by omega, hl, rfl, fun i hi => by rw [hz i hi]; simp, rfl, f5⟩, ?_⟩
    rintro k x y M6 ⟨p, met, l0, l, hp, rfl, rfl, rfl, hm, hg, hs, hc, hlen, f6⟩
    refine sp_M_many (n := n) (by rw [f6 31 (by omega)]; exact hn) ?_
    refine ⟨fun q2 => ?_, fun q2 => ?_⟩
    · have : p = n := by omega
      subst this
      rw [Nat.sub_self, lnGo] at hg
      rw [← Option.some.inj hg, List.append_nil] at hs
      rw [hs] at hc
      refine ⟨fun L x3 x4 => ∃ v : Nat, L ≤ 7 ∧ x4 = (L : Int) ∧ x3 = (v : Int) ∧ figF (lens p t) L v = typF p t, ⟨7, 0, Nat.le_refl 7, rfl, rfl, rfl⟩, ?_⟩
      rintro L x3 x4 ⟨v, hL, rfl, rfl, hf⟩
      refine ⟨fun e => ?_, fun e => ?_⟩
      · have e1 : L = 0 := by omega
        subst e1
        rw [figF] at hf
        rw [hf]; exact h M6 f6
      · obtain ⟨k, rfl⟩ : ∃ k, L = k + 1 := ⟨L - 1, by omega⟩
        rw [figF] at hf
        have hge := figF_ge (lens p t) k (repF v (k + 1) ((lens p t).count (k + 1)))
        rw [hf] at hge
        refine ⟨fun c x3 x6 => ∃ i : Nat, i ≤ (lens p t).count (k + 1) ∧ c = (lens p t).count (k + 1) - i ∧ x6 = (i : Int) ∧ x3 = (repF v (k + 1) i : Int), ⟨_, 0, by omega, rfl, rfl, rfl⟩, ?_⟩
        rintro c y3 y6 ⟨i, hi, rfl, rfl, rfl⟩
        refine ⟨⟨by omega, by omega⟩, ?_⟩
        intro z5 hz5
        rw [Int.toNat_natCast, hc (k + 1) (by omega)] at hz5
        have hcl : (lens p t).count (k + 1) ≤ p := by
          have e9 := hlen
          rw [hs] at e9
          exact Nat.le_trans List.count_le_length (Nat.le_of_eq e9)
        refine ⟨fun e3 => ?_, fun e3 => ?_⟩
        · have e4 : i = (lens p t).count (k + 1) := by omega
          refine ⟨⟨by omega, by omega⟩, ?_⟩
          intro w hw
          exact ⟨k, by omega, repF v (k + 1) i, by omega, by omega, rfl, by rw [e4]; exact hf⟩
        · have hm := repF_mono v (k + 1) (show i + 1 ≤ (lens p t).count (k + 1) by omega)
          rw [repF] at hm
          refine ⟨⟨by omega, by omega⟩, ⟨by omega, by omega⟩, ?_⟩
          intro w hw
          refine ⟨⟨by omega, by omega⟩, ?_⟩
          intro w2 hw2
          exact ⟨(lens p t).count (k + 1) - (i + 1), by omega, i + 1, by omega, rfl, by omega, by rw [repF]; omega⟩
    · have e1 : n - p = (n - p - 1) + 1 := by omega
      rw [e1, lnGo] at hg
      cases hcy0 : cyGo t 9 met 0 p with
      | none => rw [hcy0] at hg; cases hg
      | some w =>
        obtain ⟨met', len⟩ := w
        rw [hcy0] at hg
        dsimp only at hg
        split at hg
        case isFalse => cases hg
        case isTrue hm' =>
        cases hc2 : lnGo t (n - p - 1) (p + 1) met' with
        | none => rw [hc2] at hg; cases hg
        | some l' =>
          rw [hc2] at hg
          have e3 := Option.some.inj hg
          subst e3
          have hlen7 : len ≤ 7 := cyGo_len (Nat.zero_le 7) hcy0
          refine ⟨fun m x3 x5 x6 => ∃ mt ln at_ : Nat, at_ < n ∧ mt < 128 ∧ ln ≤ 7 ∧ x3 = (mt : Int) ∧ x5 = (ln : Int) ∧ x6 = (at_ : Int) ∧ cyGo t m mt ln at_ = some (met', len), ⟨9, met, 0, p, by omega, hm, by omega, rfl, rfl, rfl, hcy0⟩, ?_⟩
          rintro m y3 y5 y6 ⟨mt, ln, at_, ha, hmt, hln, rfl, rfl, rfl, hcy⟩
          rw [nat_bit (by omega) (by omega)]
          cases m with
          | zero => cases hcy
          | succ m =>
            rw [cyGo] at hcy
            refine ⟨fun hb => ?_, fun hb => ?_⟩
            · have hb1 : mt / 2 ^ at_ % 2 = 1 := by omega
              rw [if_pos hb1] at hcy
              have e4 := Option.some.inj hcy
              have e5 : mt = met' := congrArg Prod.fst e4
              have e6 : ln = len := congrArg Prod.snd e4
              subst e5; subst e6
              have hcl : l0.count ln ≤ p := by rw [← hlen]; exact List.count_le_length
              refine ⟨⟨by omega, by omega⟩, ?_⟩
              intro z15 hz15
              rw [Int.toNat_natCast, hc ln (by omega)] at hz15
              refine ⟨⟨by omega, by omega⟩, ⟨by omega, by omega⟩, ?_⟩
              intro M18 e18
              rw [Int.toNat_natCast, hz15] at e18
              refine ⟨⟨by omega, by omega⟩, ?_⟩
              intro v hv
              refine ⟨n - (p + 1), by omega, p + 1, mt, l0 ++ [ln], l', by omega, rfl, rfl, by omega, hmt, by rw [show n - (p + 1) = n - p - 1 by omega]; exact hc2, by rw [List.append_assoc]; exact hs, fun i hi => ?_, by simp [hlen], fun k hk => by rw [e18, ms_o _ _ _ hk]; exact f6 k hk⟩
              rw [e18, List.count_append]
              by_cases qi : i = ln
              · rw [qi, ms_self]; simp
              · rw [ms_ne _ _ qi, hc i hi, List.count_singleton]
                have : (ln == i) = false := by simp; omega
                rw [this]; simp
            · have hb1 : ¬ mt / 2 ^ at_ % 2 = 1 := by omega
              rw [if_neg hb1] at hcy
              by_cases h77 : 7 ≤ ln
              · rw [if_pos h77] at hcy; cases hcy
              · rw [if_neg h77] at hcy
                intro v3 hv3
                rw [bShl1 (by omega), nat_bOr (by omega) (by have := (p2_le (show at_ < 7 by omega)).2; omega)] at hv3
                refine ⟨⟨by omega, by omega⟩, ?_⟩
                intro v5 hv5
                refine ⟨⟨by omega, by omega⟩, ?_⟩
                intro z22 hz22
                rw [Int.toNat_natCast, f6 35 (by omega), hr at_ ha] at hz22
                exact ⟨m, by omega, mt ||| 2 ^ at_, ln + 1, dg t at_, ht.2.1 at_ ha, Nat.or_lt_two_pow (n := 7) hmt (Nat.pow_lt_pow_right (by decide) (by omega)), by omega, hv3, by omega, hz22, hcy⟩
  · refine ⟨⟨by omega, by omega⟩, ?_⟩
    intro M6 e6
    rw [Int.toNat_natCast] at e6
    refine ⟨⟨by omega, by omega⟩, ?_⟩
    intro v hv
    refine ⟨8 - (j + 1), by omega, j + 1, by omega, rfl, by omega, fun i hi => ?_, fun k hk => by rw [e6, ms_o _ _ _ hk]; exact f5 k hk⟩
    rw [e6]
    by_cases q2 : i = j
    · rw [q2, ms_self]
    · rw [ms_ne _ _ q2]; exact hz i (by omega)
theorem sp_M_common {a b : Nat} {post : Int → Prop} (h : post (Nat.gcd a b : Int)) : wp_M_common (a : Int) (b : Int) post := by
  unfold wp_M_common
  refine ⟨fun k x y => ∃ u v : Nat, k = v ∧ x = (u : Int) ∧ y = (v : Int) ∧ Nat.gcd u v = Nat.gcd a b, ⟨b, a, b, rfl, rfl, rfl, rfl⟩, ?_⟩
  rintro k x y ⟨u, v, rfl, rfl, rfl, hg⟩
  refine ⟨fun q => ?_, fun q => ?_⟩
  · have : k = 0 := by omega
    rw [this, Nat.gcd_zero_right] at hg
    rw [hg]; exact h
  · refine ⟨⟨by omega, by omega⟩, ?_⟩
    intro w hw
    exact ⟨u % k, Nat.mod_lt _ (by omega), k, u % k, rfl, rfl, hw, by rw [Nat.gcd_comm, ← Nat.gcd_rec, Nat.gcd_comm]; exact hg⟩
def okO : Nat → Nat → Nat → Bool
  | 0, _, rest => rest == 0
  | f + 1, n, rest => rest == 0 || (decide (1 ≤ n) && decide (n ≤ 1000) && decide (1 ≤ rest % 10) && okO f (n / Nat.gcd n (rest % 10) * (rest % 10)) (rest / 10))
theorem okO_all {n : Nat} (h1 : 1 ≤ n) (h7 : n ≤ 7) : (tysOf n).all (okO 8 1) = true := by
  rcases n17 h1 h7 with rfl | rfl | rfl | rfl | rfl | rfl | rfl <;> decide +kernel
theorem sp_M_orderOf {T : Nat} {post : Int → Prop} (hT : okO 8 1 T = true) (h : post (lcmF 8 1 T : Int)) : wp_M_orderOf (T : Int) post := by
  unfold wp_M_orderOf
  refine ⟨fun f x y => ∃ n r : Nat, x = (n : Int) ∧ y = (r : Int) ∧ okO f n r = true ∧ lcmF f n r = lcmF 8 1 T, ⟨8, 1, T, rfl, rfl, hT, rfl⟩, ?_⟩
  rintro f x y ⟨n, r, rfl, rfl, ho, hl⟩
  refine ⟨fun q => ?_, fun q => ?_⟩
  · have : r = 0 := by omega
    subst this
    cases f with
    | zero => rw [lcmF] at hl; rw [hl]; exact h
    | succ f => rw [lcmF, if_pos rfl] at hl; rw [hl]; exact h
  · have hr : ¬ r = 0 := by omega
    cases f with
    | zero => rw [okO] at ho; exact absurd (by simpa using ho) hr
    | succ f =>
      rw [lcmF, if_neg hr] at hl
      rw [okO] at ho
      have hrb : (r == 0) = false := by simpa using hr
      rw [hrb, Bool.false_or] at ho
      simp only [Bool.and_eq_true, decide_eq_true_eq] at ho
      obtain ⟨⟨⟨o1, o2⟩, o3⟩, o4⟩ := ho
      refine ⟨⟨by omega, by decide⟩, ?_⟩
      rw [show (r : Int) % 10 = ((r % 10 : Nat) : Int) from rfl]
      refine sp_M_common ?_
      have hg : 0 < Nat.gcd n (r % 10) := Nat.gcd_pos_of_pos_left _ (by omega)
      have hd : n / Nat.gcd n (r % 10) ≤ n := Nat.div_le_self _ _
      have hm : n / Nat.gcd n (r % 10) * (r % 10) ≤ 1000 * 10 := Nat.mul_le_mul (by omega) (by omega)
      have e1 : (n : Int) / ((Nat.gcd n (r % 10) : Nat) : Int) * ((r % 10 : Nat) : Int) = ((n / Nat.gcd n (r % 10) * (r % 10) : Nat) : Int) := rfl
      rw [e1]
      refine ⟨⟨by omega, by omega⟩, ⟨by omega, by decide⟩, ⟨by omega, by omega⟩, ?_⟩
      intro v1 hv1
      refine ⟨⟨by omega, by decide⟩, ?_⟩
      intro v2 hv2
      exact ⟨f, by omega, _, r / 10, hv1, hv2, o4, hl⟩
def MR (M : Mm) (A : Nat) (f c : Nat → Nat) : Prop := M 30 17 = (A : Int) ∧ (∀ i, i < A → M 42 i = (f i : Int)) ∧ (∀ i, i < A → M 43 i = (c i : Int))
def FrT (M M' : Mm) : Prop := (∀ k, k ≠ 30 → k ≠ 35 → k ≠ 41 → k ≠ 42 → k ≠ 43 → M' k = M k) ∧ (∀ j, j ≠ 17 → M' 30 j = M 30 j)
theorem FrT.rf (M : Mm) : FrT M M := ⟨fun _ _ _ _ _ _ => rfl, fun _ _ => rfl⟩
theorem FrT.tr {M M1 M2 : Mm} (h1 : FrT M M1) (h2 : FrT M1 M2) : FrT M M2 := ⟨fun k a b c d e => (h2.1 k a b c d e).trans (h1.1 k a b c d e), fun j a => (h2.2 j a).trans (h1.2 j a)⟩
theorem sp_M_addType {v A n : Nat} {cn f c : Nat → Nat} {M : Mm} {post : Mm → Prop} (h1 : 1 ≤ n) (h7 : n ≤ 7) (hT : TS cn A f c) (hc : ∀ v, 0 < cn v → v ∈ tysOf n) (hv : v ∈ tysOf n) (hb : ∀ v, cn v ≤ 5040) (hR : MR M A f c)
    (h : ∀ (M' : Mm) (A' : Nat) (f' c' : Nat → Nat), TS (bump cn v) A' f' c' → MR M' A' f' c' → FrT M M' → post M') : wp_M_addType (v : Int) M post := by
  have hA := TS_15 h1 h7 hT hc
  obtain ⟨r1, r2, r3⟩ := hR
  unfold wp_M_addType
  intro v2 hv2
  rw [hv2, r1]
  refine ⟨fun t x => ∃ k : Nat, k ≤ A ∧ t = k ∧ x = (k : Int) ∧ ∀ i, k ≤ i → i < A → f i < v, ⟨A, A, Nat.le_refl A, rfl, rfl, fun i a b => by omega⟩, ?_⟩
  rintro t x ⟨k, hk, rfl, rfl, hhi⟩
  intro K27 hK27
  have key : (0 < t → v ≤ f (t - 1)) → K27 := by
    intro hlo
    refine hK27 ?_
    intro K56 hK56
    have hins : (0 < t → v < f (t - 1)) → K56 := by
      intro hlt
      have hbf : ∀ i, i < t → v < f i := by
        intro i hi
        by_cases q : i = t - 1
        · rw [q]; exact hlt (by omega)
        · have := hT.1 i (t - 1) (by omega) (by omega)
          have := hlt (by omega)
          omega
      have hT2 := TS_ins hT hk hbf hhi
      have hA2 := TS_15 h1 h7 hT2 (fun x hx => by
        unfold bump at hx
        by_cases q : x = v
        · rw [q]; exact hv
        · rw [if_neg q] at hx; exact hc x (by omega))
      refine hK56 ?_
      intro v3 hv3
      rw [hv3]
      refine ⟨fun w x M5 => ∃ i : Nat, t ≤ i ∧ i ≤ A ∧ w = i - t ∧ x = (i : Int) ∧ (∀ j, j < i → M5 42 j = (f j : Int)) ∧ (∀ j, i < j → j ≤ A → M5 42 j = (f (j - 1) : Int)) ∧ (∀ j, j < i → M5 43 j = (c j : Int)) ∧ (∀ j, i < j → j ≤ A → M5 43 j = (c (j - 1) : Int)) ∧ (∀ q, q ≠ 42 → q ≠ 43 → M5 q = M q), ⟨A - t, A, hk, Nat.le_refl A, rfl, rfl, r2, fun j _ _ => by omega, r3, fun j _ _ => by omega, fun _ _ _ => rfl⟩, ?_⟩
      rintro w x M5 ⟨i, hki, hiA, rfl, rfl, f1, f2, c1, c2, fr⟩
      refine ⟨fun q => ?_, fun q => ?_⟩
      · have : i = t := by omega
        subst this
        refine ⟨⟨by omega, by omega⟩, ?_⟩
        intro M3 h3
        rw [Int.toNat_natCast] at h3
        refine ⟨⟨by omega, by omega⟩, ?_⟩
        intro M6 h6
        rw [Int.toNat_natCast] at h6
        have e30 : M6 30 = M 30 := by rw [h6, ms_o _ _ _ (by omega), h3, ms_o _ _ _ (by omega)]; exact fr 30 (by omega) (by omega)
        rw [e30, r1]
        refine ⟨⟨by omega, by omega⟩, ?_⟩
        intro M7 h7'
        refine h M7 _ _ _ hT2 ⟨by rw [h7', ms_self]; omega, fun j hj => ?_, fun j hj => ?_⟩ ⟨fun q q30 _ _ q42 q43 => ?_, fun j hj => ?_⟩
        · rw [h7', ms_o _ _ _ (by omega), h6, ms_o _ _ _ (by omega), h3]
          unfold insF
          by_cases a : j < i
          · rw [ms_ne _ _ (by omega), if_pos a]; exact f1 j a
          · rw [if_neg a]
            by_cases b : j = i
            · rw [if_pos b, b, ms_self]
            · rw [if_neg b, ms_ne _ _ b]; exact f2 j (by omega) (by omega)
        · rw [h7', ms_o _ _ _ (by omega), h6]
          unfold insF
          by_cases a : j < i
          · rw [ms_ne _ _ (by omega), if_pos a, h3, ms_o _ _ _ (by omega)]; exact c1 j a
          · rw [if_neg a]
            by_cases b : j = i
            · rw [if_pos b, b, ms_self]; rfl
            · rw [if_neg b, ms_ne _ _ b, h3, ms_o _ _ _ (by omega)]; exact c2 j (by omega) (by omega)
        · rw [h7', ms_o _ _ _ q30, h6, ms_o _ _ _ q43, h3, ms_o _ _ _ q42]; exact fr q q42 q43
        · rw [h7', ms_ne _ _ hj, e30]
      · have hi1 : ((i : Int) - 1).toNat = i - 1 := by omega
        refine ⟨⟨by omega, by omega⟩, ⟨by omega, by omega⟩, ?_⟩
        intro z10 hz10
        rw [hi1, f1 (i - 1) (by omega)] at hz10
        refine ⟨⟨by omega, by omega⟩, ?_⟩
        intro M12 h12
        rw [Int.toNat_natCast, hz10] at h12
        refine ⟨⟨by omega, by omega⟩, ⟨by omega, by omega⟩, ?_⟩
        intro z15 hz15
        rw [hi1, h12, ms_o _ _ _ (by omega), c1 (i - 1) (by omega)] at hz15
        refine ⟨⟨by omega, by omega⟩, ?_⟩
        intro M17 h17
        rw [Int.toNat_natCast, hz15] at h17
        refine ⟨⟨by omega, by omega⟩, ?_⟩
        intro w hw
        refine ⟨i - 1 - t, by omega, i - 1, by omega, by omega, rfl, by omega, fun j hj => ?_, fun j hj hjA => ?_, fun j hj => ?_, fun j hj hjA => ?_, fun q q5 q6 => ?_⟩
        · rw [h17, ms_o _ _ _ (by omega), h12, ms_ne _ _ (by omega)]; exact f1 j (by omega)
        · rw [h17, ms_o _ _ _ (by omega), h12]
          by_cases b : j = i
          · rw [b, ms_self]
          · rw [ms_ne _ _ b]; exact f2 j (by omega) hjA
        · rw [h17, ms_ne _ _ (by omega), h12, ms_o _ _ _ (by omega)]; exact c1 j (by omega)
        · rw [h17]
          by_cases b : j = i
          · rw [b, ms_self]
          · rw [ms_ne _ _ b, h12, ms_o _ _ _ (by omega)]; exact c2 j (by omega) hjA
        · rw [h17, ms_o _ _ _ q6, h12, ms_o _ _ _ q5]; exact fr q q5 q6
    refine ⟨fun q => hins (fun a => by omega), fun q => ⟨⟨by omega, by omega⟩, ⟨by omega, by omega⟩, ?_⟩⟩
    have ht1 : ((t : Int) - 1).toNat = t - 1 := by omega
    have hlo2 := hlo (by omega)
    intro z23 hz23
    rw [ht1, r2 (t - 1) (by omega)] at hz23
    refine ⟨fun q2 => hins (fun _ => by omega), fun q2 => ⟨⟨by omega, by omega⟩, ⟨by omega, by omega⟩, ?_⟩⟩
    intro z27 hz27
    rw [ht1, r3 (t - 1) (by omega), hT.2.2 (t - 1) (by omega)] at hz27
    have := hb (f (t - 1))
    refine ⟨⟨by omega, by omega⟩, ⟨by omega, by omega⟩, ?_⟩
    intro M30 h30
    rw [ht1, hz27] at h30
    have hT2 := TS_hit hT (show t - 1 < A by omega) (show f (t - 1) = v by omega)
    refine h M30 A f _ hT2 ⟨by rw [h30, ms_o _ _ _ (by omega)]; exact r1, fun i hi => by rw [h30, ms_o _ _ _ (by omega)]; exact r2 i hi, fun i hi => ?_⟩ ⟨fun q _ _ _ _ q43 => by rw [h30, ms_o _ _ _ q43], fun j hj => by rw [h30, ms_o _ _ _ (by omega)]⟩
    show M30 43 i = ((if i = t - 1 then c (t - 1) + 1 else c i : Nat) : Int)
    rw [h30]
    by_cases b : i = t - 1
    · rw [b, ms_self, if_pos rfl, hT.2.2 (t - 1) (by omega)]; omega
    · rw [ms_ne _ _ b, if_neg b]; exact r3 i hi
  refine ⟨fun q => key (fun a => by omega), fun q => ⟨⟨by omega, by omega⟩, ⟨by omega, by omega⟩, ?_⟩⟩
  intro z34 hz34
  rw [show ((t : Int) - 1).toNat = t - 1 by omega, r2 (t - 1) (by omega)] at hz34
  refine ⟨fun q2 => key (fun _ => by omega), fun q2 => ⟨⟨by omega, by omega⟩, ?_⟩⟩
  intro w hw
  refine ⟨t - 1, by omega, t - 1, by omega, rfl, by omega, fun i a b => ?_⟩
  by_cases q3 : i = t - 1
  · rw [q3]; omega
  · exact hhi i (by omega) b
theorem sp_M_layTurn {n N k : Nat} {G : Nat → Prop} {τ : Nat → Nat} {M : Mm} {post : Mm → Prop} (h7 : n ≤ 7) (hn : M 31 0 = (n : Int)) (hT : TLn n N G τ M) (hN : N ≤ 5040) (hk : k < N) (h : ∀ M' : Mm, RW n (τ k) M' → (∀ q, q ≠ 35 → M' q = M q) → post M') : wp_M_layTurn (k : Int) M post := by
  unfold wp_M_layTurn
  refine ⟨fun c x M5 => ∃ p : Nat, p ≤ n ∧ c = n - p ∧ x = (p : Int) ∧ (∀ i, i < p → M5 35 i = (dg (τ k) i : Int)) ∧ (∀ q, q ≠ 35 → M5 q = M q), ⟨n, 0, by omega, rfl, rfl, fun i hi => by omega, fun _ _ => rfl⟩, ?_⟩
  rintro c x M5 ⟨p, hp, rfl, rfl, hd, fr⟩
  refine sp_M_many (n := n) (by rw [fr 31 (by omega)]; exact hn) ?_
  refine ⟨fun q => ?_, fun q => ?_⟩
  · have : p = n := by omega
    subst this
    exact h M5 hd fr
  · refine ⟨⟨by omega, by omega⟩, ⟨by omega, by omega⟩, ⟨by omega, by omega⟩, ?_⟩
    intro z5 hz5
    rw [show (7 * (k : Int) + (p : Int)).toNat = 7 * k + p by omega, fr 39 (by omega), hT.2.1 k hk p (by omega)] at hz5
    refine ⟨⟨by omega, by omega⟩, ?_⟩
    intro M7 e7
    rw [Int.toNat_natCast, hz5] at e7
    refine ⟨⟨by omega, by omega⟩, ?_⟩
    intro w hw
    refine ⟨n - (p + 1), by omega, p + 1, by omega, rfl, by omega, fun i hi => ?_, fun q hq => by rw [e7, ms_o _ _ _ hq]; exact fr q hq⟩
    rw [e7]
    by_cases q2 : i = p
    · rw [q2, ms_self]
    · rw [ms_ne _ _ q2]; exact hd i (by omega)
theorem TLn.le {n N : Nat} {G : Nat → Prop} {τ : Nat → Nat} {M : Mm} (h1 : 1 ≤ n) (h7 : n ≤ 7) (hG : isGrp n G) (h : TLn n N G τ M) : N ≤ 5040 :=
  Ls_le h1 h7 (fun i hi => hG.1 _ ((h.2.2.1 _).mpr ⟨i, hi, rfl⟩)) (TL.inj h)
theorem sp_M_layTypes {n N : Nat} {G : Nat → Prop} {τ : Nat → Nat} {M : Mm} {post : Mm → Prop} (h1 : 1 ≤ n) (h7 : n ≤ 7) (hG : isGrp n G) (hn : M 31 0 = (n : Int)) (hT : TLn n N G τ M) (h : ∀ (M' : Mm) (A : Nat) (f c : Nat → Nat), TS (cnT n τ N) A f c → MR M' A f c → FrT M M' → post M') : wp_M_layTypes M post := by
  have hN := TLn.le h1 h7 hG hT
  have hP : ∀ i, i < N → isP n (τ i) := fun i hi => hG.1 _ ((hT.2.2.1 _).mpr ⟨i, hi, rfl⟩)
  unfold wp_M_layTypes
  intro M1 e1
  refine ⟨fun t x M5 => ∃ (i A : Nat) (f ct : Nat → Nat), i ≤ N ∧ t = N - i ∧ x = (i : Int) ∧ TS (cnT n τ i) A f ct ∧ MR M5 A f ct ∧ FrT M M5, ⟨N, 0, 0, fun _ => 0, fun _ => 0, by omega, rfl, rfl, ⟨fun i j _ hj => by omega, fun v => ⟨fun a => by simp [cnT, ctB] at a, fun ⟨i, hi, _⟩ => by omega⟩, fun i hi => by omega⟩, ⟨by rw [e1, ms_self]; rfl, fun i hi => by omega, fun i hi => by omega⟩, ⟨fun k k30 _ _ _ _ => by rw [e1, ms_o _ _ _ k30], fun j hj => by rw [e1, ms_ne _ _ hj]⟩⟩, ?_⟩
  rintro t x M5 ⟨i, A, f, ct, hi, rfl, rfl, hTS, hR, fr⟩
  have t12 : M5 30 12 = (N : Int) := by rw [fr.2 12 (by omega)]; exact hT.1
  have hn5 : M5 31 0 = (n : Int) := by rw [fr.1 31 (by omega) (by omega) (by omega) (by omega) (by omega)]; exact hn
  rw [t12]
  refine ⟨fun a => ?_, fun a => ?_⟩
  · have : i = N := by omega
    subst this
    exact h M5 A f ct hTS hR fr
  · have hT5 : TLn n N G τ M5 := ⟨t12, by rw [fr.1 39 (by omega) (by omega) (by omega) (by omega) (by omega)]; exact hT.2.1, hT.2.2⟩
    refine sp_M_layTurn h7 hn5 hT5 hN (show i < N by omega) ?_
    intro M6 r6 f6
    refine sp_M_typeOfRow h1 h7 (by rw [f6 31 (by omega)]; exact hn5) (hP i (by omega)) r6 ?_
    intro M7 f7
    have hR7 : MR M7 A f ct := by
      unfold MR
      rw [f7 30 (by omega), f7 42 (by omega), f7 43 (by omega), f6 30 (by omega), f6 42 (by omega), f6 43 (by omega)]
      exact hR
    have fr7 : FrT M M7 := fr.tr ⟨fun k _ k35 k41 _ _ => by rw [f7 k k41, f6 k k35], fun j _ => by rw [f7 30 (by omega), f6 30 (by omega)]⟩
    refine sp_M_addType h1 h7 hTS (fun v hv => cnT_in h1 h7 (fun j hj => hP j (by omega)) hv) (typ_in h1 h7 (hP i (by omega))) (fun v => Nat.le_trans (ctB_le _ _) (by omega)) hR7 ?_
    intro M8 A' f' c' hT' hR' hF
    refine ⟨⟨by omega, by omega⟩, ?_⟩
    intro w hw
    exact ⟨N - (i + 1), by omega, i + 1, A', f', c', by omega, rfl, by omega, by rw [cnT_s]; exact hT', hR', fr7.tr hF⟩
