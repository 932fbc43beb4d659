/-! ===== the reference: the pad; joining ===== -/
theorem surj_inj {n : Nat} {d : Nat → Nat} (hs : ∀ q, q < n → ∃ i, i < n ∧ d i = q) (hd : ∀ i, i < n → d i < n) : ∀ i j, i < n → j < n → d i = d j → i = j := by
  intro i j hi hj e
  refine Classical.byContradiction fun hne => ?_
  have hex : ∀ q, ∃ k, q < n → k < n ∧ d k = q := fun q => by
    by_cases h : q < n
    · obtain ⟨k, hk⟩ := hs q h
      exact ⟨k, fun _ => hk⟩
    · exact ⟨0, fun h2 => absurd h2 h⟩
  have hg : ∀ q, q < n → Classical.choose (hex q) < n ∧ d (Classical.choose (hex q)) = q := fun q => Classical.choose_spec (hex q)
  generalize hgd : (fun q => Classical.choose (hex q)) = g at *
  have hg2 : ∀ q, q < n → g q < n ∧ d (g q) = q := by rw [← hgd]; exact hg
  obtain ⟨x, hx, hxd, hxg⟩ : ∃ x, x < n ∧ d x = d i ∧ g (d i) ≠ x := by
    by_cases q : g (d i) = i
    · exact ⟨j, hj, e.symm, by omega⟩
    · exact ⟨i, hi, rfl, q⟩
  have hno : ∀ q, q < n → g q ≠ x := fun q hq eq => by
    have := (hg2 q hq).2
    rw [eq, hxd] at this
    rw [← this] at eq
    exact hxg eq
  have := fb_holes (n - 1) n (fun q => if g q < x then g q else g q - 1) (fun q hq => by
    have a := (hg2 q hq).1
    have b := hno q hq
    try dsimp only
    split <;> omega) (fun p q hpq hq => by
    have a := hg2 p (by omega)
    have b := hg2 q hq
    have c := hno p (by omega)
    have f := hno q hq
    have r : g p ≠ g q := fun eq => by
      have h1 := a.2
      rw [eq, b.2] at h1
      omega
    try dsimp only
    split <;> split <;> omega)
  omega
theorem full_bits {n : Nat} {d : Nat → Nat} (hd : ∀ i, i < n → d i < n) : orS d n = 2 ^ n - 1 ↔ ∀ q, q < n → ∃ i, i < n ∧ d i = q := by
  refine ⟨fun h q hq => ?_, fun h => ?_⟩
  · rw [← orS_bit, h, Nat.testBit_two_pow_sub_one]; exact decide_eq_true hq
  · refine Nat.eq_of_testBit_eq fun q => ?_
    rw [Nat.testBit_two_pow_sub_one]
    by_cases hq : q < n
    · rw [decide_eq_true hq, orS_bit]; exact h q hq
    · rw [decide_eq_false hq]
      cases hb : (orS d n).testBit q with
      | false => rfl
      | true =>
        obtain ⟨i, hi, e⟩ := (orS_bit d q n).mp hb
        have := hd i hi
        omega
theorem orS_cong {f g : Nat → Nat} {n : Nat} (h : ∀ i, i < n → f i = g i) : orS f n = orS g n :=
  orS_eq (fun q => ⟨fun ⟨i, hi, e⟩ => ⟨i, hi, by rw [← h i hi]; exact e⟩, fun ⟨i, hi, e⟩ => ⟨i, hi, by rw [h i hi]; exact e⟩⟩)
theorem sp_M_layPad {n L : Nat} {M : Mm} {post : Int → Mm → Prop} (h7 : n ≤ 7) (hn : M 31 0 = (n : Int)) (hL : M 30 4 = (L : Int)) (hL7 : L ≤ 7) (hsg : ∀ j, j < 7 → 0 ≤ M 34 j ∧ M 34 j ≤ 1000) (hyes : ∀ (t : Nat) (M' : Mm), Told n (M 30 4) (M 34) t → RW n t M' → (∀ k, k ≠ 35 → M' k = M k) → post 1 M') (hno : (¬ ∃ t, Told n (M 30 4) (M 34) t) → ∀ M' : Mm, (∀ k, k ≠ 35 → M' k = M k) → post 0 M') : wp_M_layPad M post := by
  unfold wp_M_layPad
  refine ⟨fun k x1 x2 M4 => ∃ (i : Nat) (d : Nat → Nat), i ≤ L ∧ k = L - i ∧ x2 = (i : Int) ∧ x1 = (orS d i : Int) ∧ (∀ j, j < i → M 34 j = 48 + (d j : Int) ∧ d j < n) ∧ (∀ j, j < i → M4 35 j = (d j : Int)) ∧ (∀ k, k ≠ 35 → M4 k = M k), ⟨L, 0, fun _ => 0, by omega, rfl, rfl, rfl, fun j hj => by omega, fun j hj => by omega, fun _ _ => rfl⟩, ?_⟩
  rintro k x1 x2 M4 ⟨i, d, hi, rfl, rfl, rfl, h2, h3, fr⟩
  have hn4 : M4 31 0 = (n : Int) := by rw [fr 31 (by omega)]; exact hn
  have hm : orS d i < 128 := orS_lt (m := 7) (fun j hj => by have := (h2 j hj).2; omega)
  rw [fr 30 (by omega), hL]
  refine ⟨fun q => ?_, fun q => ?_⟩
  · have hiL : i = L := by omega
    subst hiL
    refine sp_M_many hn4 ?_
    refine ⟨fun q2 => hno (fun ⟨t, a, _⟩ => q2 (by rw [← hL]; exact a)) M4 fr, fun q2 => ?_⟩
    have hin : i = n := by omega
    subst hin
    refine sp_M_many hn4 ?_
    rw [bShl1 (by omega)]
    have hp : 1 ≤ 2 ^ i ∧ 2 ^ i ≤ 2 ^ 7 := ⟨Nat.one_le_two_pow, Nat.pow_le_pow_right (by decide) h7⟩
    have hd : ∀ j, j < i → d j < i := fun j hj => (h2 j hj).2
    have hfb := full_bits hd
    refine ⟨⟨by omega, by omega⟩, fun q3 => ?_, fun q3 => ?_⟩
    · refine hno (fun ⟨t, a1, a2, a3⟩ => q3 ?_) M4 fr
      have : orS d i = 2 ^ i - 1 := hfb.mpr (fun q hq => by
        have b := (inv_P h7 a2).2.1 q hq
        refine ⟨dg (inv t) q, b, ?_⟩
        have c := dg_inv h7 a2 hq
        have e1 := a3 _ b
        have e2 := (h2 _ b).1
        omega)
      omega
    · have hs := hfb.mp (by omega)
      have hinj := surj_inj hs hd
      have hdt : ∀ j, j < 7 → dg (mkc (fun j => if j < i then d j else j)) j = if j < i then d j else j := fun j hj => dg_mkc (fun j hj => by
        try dsimp only
        split
        · have := hd j (by assumption); omega
        · omega) hj
      refine hyes (mkc (fun j => if j < i then d j else j)) M4 ⟨hL, ⟨mkc_lt (fun j hj => by
        try dsimp only
        split
        · have := hd j (by assumption); omega
        · omega), fun j hj => ?_, fun j hj hj7 => ?_, fun a b ha hb e => ?_⟩, fun j hj => ?_⟩ (fun p hp2 => ?_) fr
      · rw [hdt j (by omega), if_pos hj]; exact hd j hj
      · rw [hdt j hj7, if_neg (by omega)]
      · rw [hdt a (by omega), hdt b (by omega), if_pos ha, if_pos hb] at e; exact hinj a b ha hb e
      · rw [hdt j (by omega), if_pos hj]; exact (h2 j hj).1
      · rw [hdt p (by omega), if_pos hp2]; exact h3 p hp2
  · refine ⟨⟨by omega, by omega⟩, ?_⟩
    intro z6 hz6
    rw [Int.toNat_natCast, fr 34 (by omega)] at hz6
    have hb := hsg i (by omega)
    refine ⟨⟨by omega, by omega⟩, ?_⟩
    intro v3 hv3
    refine sp_M_many hn4 ?_
    have hout : (¬ (0 ≤ v3 ∧ v3 < (n : Int))) → ∀ M' : Mm, (∀ k, k ≠ 35 → M' k = M k) → post 0 M' := fun hv => hno (fun ⟨t, a1, a2, a3⟩ => hv (by
      have e1 := a3 i (by omega)
      have e2 := a2.2.1 i (by omega)
      omega))
    unfold wp_M_in
    refine ⟨⟨by omega, by omega⟩, fun q2 => ⟨fun a => absurd rfl a, fun _ => hout (by omega) M4 fr⟩, fun q2 => ⟨fun q3 => ⟨fun a => absurd rfl a, fun _ => hout (by omega) M4 fr⟩, fun q3 => ⟨fun _ => ?_, fun a => absurd a (by decide)⟩⟩⟩
    obtain ⟨e, he⟩ : ∃ e : Nat, v3 = (e : Int) := ⟨v3.toNat, by omega⟩
    rw [he]
    have hen : e < n := by omega
    refine ⟨⟨by omega, by omega⟩, ?_⟩
    intro M11 e11
    rw [Int.toNat_natCast] at e11
    intro v1 hv1
    rw [bShl1 (by omega), nat_bOr (by omega) (by have := (p2_le (show e < 7 by omega)).2; omega)] at hv1
    refine ⟨⟨by omega, by omega⟩, ?_⟩
    intro v2 hv2
    refine ⟨L - (i + 1), by omega, i + 1, eX d i e, by omega, rfl, by omega, ?_, fun j hj => ?_, fun j hj => ?_, fun k hk => by rw [e11, ms_o _ _ _ hk]; exact fr k hk⟩
    · rw [hv1]
      have e3 : orS (eX d i e) (i + 1) = orS (eX d i e) i ||| 2 ^ eX d i e i := rfl
      rw [e3, eX_at, orS_cong (fun j hj => eX_lt hj)]
    · by_cases q4 : j = i
      · rw [q4, eX_at]; exact ⟨by omega, hen⟩
      · rw [eX_lt (by omega)]; exact h2 j (by omega)
    · rw [e11]
      by_cases q4 : j = i
      · rw [q4, eX_at, ms_self]
      · rw [eX_lt (by omega), ms_ne _ _ q4]; exact h3 j (by omega)
theorem Ls_dbl2 {n : Nat} {G G' : Nat → Prop} {e e' : Nat → Nat} {N N' x : Nat} (h1 : 1 ≤ n) (h7 : n ≤ 7) (hG : isGrp n G) (hl : ∀ y, G y ↔ Ls e N y) (hd : ∀ i j, i < N → j < N → e i = e j → i = j) (hx : isP n x) (hn : ¬ G x) (hG' : isGrp n G') (hs : ∀ y, G y → G' y) (hx' : G' x) (hl' : ∀ y, G' y ↔ Ls e' N' y) : 2 * N ≤ N' := by
  obtain ⟨a1, a2⟩ := Ls_two h1 h7 hG hl hd hx hn
  have hGe : ∀ i, i < N → G (e i) := fun i hi => (hl _).mpr ⟨i, hi, rfl⟩
  have hex : ∀ i, ∃ k, i < 2 * N → k < N' ∧ e' k = (if i < N then e i else cmp (e (i - N)) x) := fun i => by
    by_cases h : i < 2 * N
    · have : Ls e' N' (if i < N then e i else cmp (e (i - N)) x) := (hl' _).mp (by
        split
        · exact hs _ (hGe i (by assumption))
        · exact hG'.2.2 _ _ (hs _ (hGe _ (by omega))) hx')
      obtain ⟨k, hk⟩ := this
      exact ⟨k, fun _ => hk⟩
    · exact ⟨0, fun h2 => absurd h2 h⟩
  refine fb_holes N' (2 * N) (fun i => Classical.choose (hex i)) (fun i hi => (Classical.choose_spec (hex i) hi).1) (fun i j hij hj q => ?_)
  have b1 := (Classical.choose_spec (hex i) (by omega)).2
  have b2 := (Classical.choose_spec (hex j) hj).2
  rw [show Classical.choose (hex i) = Classical.choose (hex j) from q, b2] at b1
  by_cases c1 : i < N
  · rw [if_pos c1] at b1
    by_cases c2 : j < N
    · rw [if_pos c2] at b1
      have := hd _ _ c2 c1 b1
      omega
    · rw [if_neg c2] at b1
      exact a1 _ _ (by omega) c1 b1
  · rw [if_neg c1, if_neg (by omega)] at b1
    have := a2 _ _ (by omega) (by omega) b1
    omega
def FrJ (M M' : Mm) : Prop := (∀ k, k < 30 → M' k = M k) ∧ M' 32 = M 32 ∧ M' 33 = M 33 ∧ M' 34 = M 34 ∧ M' 30 4 = M 30 4 ∧ (∀ j, j < 6 → M' 31 j = M 31 j)
theorem FrJ.rf (M : Mm) : FrJ M M := ⟨fun _ _ => rfl, rfl, rfl, rfl, rfl, fun _ _ => rfl⟩
theorem FrJ.tr {M M1 M2 : Mm} (h1 : FrJ M M1) (h2 : FrJ M1 M2) : FrJ M M2 :=
  ⟨fun k a => (h2.1 k a).trans (h1.1 k a), h2.2.1.trans h1.2.1, h2.2.2.1.trans h1.2.2.1, h2.2.2.2.1.trans h1.2.2.2.1, h2.2.2.2.2.1.trans h1.2.2.2.2.1, fun j a => (h2.2.2.2.2.2 j a).trans (h1.2.2.2.2.2 j a)⟩
theorem FrC.J {M M' : Mm} (h : FrC M M') : FrJ M M' :=
  ⟨fun k a => h.1 k (by omega) (by omega) (by omega) (by omega) (by omega) (by omega), h.1 32 (by omega) (by omega) (by omega) (by omega) (by omega) (by omega), h.1 33 (by omega) (by omega) (by omega) (by omega) (by omega) (by omega), h.1 34 (by omega) (by omega) (by omega) (by omega) (by omega) (by omega), h.2.1 4 (by omega) (by omega), h.2.2⟩
theorem FrK.J {M M' : Mm} (h : FrK M M') : FrJ M M' := by
  have h31 := h.1 31 (by omega) (by omega) (by omega) (by omega)
  exact ⟨fun k a => h.1 k (by omega) (by omega) (by omega) (by omega), h.1 32 (by omega) (by omega) (by omega) (by omega), h.1 33 (by omega) (by omega) (by omega) (by omega), h.1 34 (by omega) (by omega) (by omega) (by omega), h.2 4 (by omega), fun j _ => by rw [h31]⟩
theorem TL.inj {n N : Nat} {G : Nat → Prop} {τ : Nat → Nat} {M : Mm} (h : TLn n N G τ M) : ∀ i j, i < N → j < N → τ i = τ j → i = j := by
  intro i j hi hj e
  rcases Nat.lt_trichotomy i j with q | q | q
  · have := h.2.2.2 i j q hj
    rw [e] at this; omega
  · exact q
  · have := h.2.2.2 j i q hi
    rw [e] at this; omega
theorem sp_M_join {n L : Nat} {G : Nat → Prop} {M : Mm} {post : Int → Mm → Prop} (h1 : 1 ≤ n) (h7 : n ≤ 7) (hG : isGrp n G) (hn : M 31 0 = (n : Int)) (hI : IS n G (M 31)) (hL : M 30 4 = (L : Int)) (hL7 : L ≤ 7) (hsg : ∀ j, j < 7 → 0 ≤ M 34 j ∧ M 34 j ≤ 1000)
    (hyes : ∀ (t : Nat) (M' : Mm), Told n (M 30 4) (M 34) t → IS n (Cl (fun y => G y ∨ y = t)) (M' 31) → TL n (Cl (fun y => G y ∨ y = t)) M' → M' 30 4 = 0 → (∀ k, k < 30 → M' k = M k) → M' 32 = M 32 → M' 33 = M 33 → M' 34 = M 34 → (∀ j, j < 6 → M' 31 j = M 31 j) → post (M' 30 12) M') (hno : (¬ ∃ t, Told n (M 30 4) (M 34) t) → ∀ M' : Mm, (∀ k, k ≠ 35 → M' k = M k) → post (-7) M') : wp_M_join M post := by
  unfold wp_M_join
  refine sp_M_layPad h7 hn hL hL7 hsg (fun t M1 hT r1 f1 => ?_) (fun hT M1 f1 => ⟨fun q => absurd rfl q, fun _ => hno hT M1 f1⟩)
  refine ⟨fun _ => ?_, fun q => absurd q (by decide)⟩
  have ht := hT.2.1
  have hn1 : M1 31 0 = (n : Int) := by rw [f1 31 (by omega)]; exact hn
  refine sp_M_rank h7 hn1 r1 ?_
  have j1 : FrJ M M1 := ⟨fun k a => f1 k (by omega), f1 32 (by omega), f1 33 (by omega), f1 34 (by omega), by rw [f1 30 (by omega)], fun j _ => by rw [f1 31 (by omega)]⟩
  refine ⟨fun k x M5 => ∃ r : Nat, r ≤ 5040 ∧ k = 5040 - r ∧ x = (r : Int) ∧ (∀ i, i < r → M5 40 i = M 31 (6 + i)) ∧ (∀ k, k ≠ 40 → M5 k = M1 k), ⟨5040, 0, by omega, rfl, rfl, fun i hi => by omega, fun _ _ => rfl⟩, ?_⟩
  rintro k x M5 ⟨r, hr, rfl, rfl, hh, f5⟩
  refine ⟨fun q => ?_, fun q => ?_⟩
  · have hr5 : r = 5040 := by omega
    subst hr5
    have j5 : FrJ M M5 := j1.tr ⟨fun k a => f5 k (by omega), f5 32 (by omega), f5 33 (by omega), f5 34 (by omega), by rw [f5 30 (by omega)], fun j _ => by rw [f5 31 (by omega)]⟩
    unfold wp_M_beginGroup
    intro M6 e6
    have f6 : ∀ k, k ≠ 30 → M6 k = M5 k := fun k hk => by rw [e6, ms_o _ _ _ hk]
    have j6 : FrJ M M6 := j5.tr ⟨fun k a => f6 k (by omega), f6 32 (by omega), f6 33 (by omega), f6 34 (by omega), by rw [e6, ms_ne _ _ (by omega)], fun j _ => by rw [f6 31 (by omega)]⟩
    have nn : ∀ {M' : Mm}, FrJ M M' → M' 31 0 = (n : Int) := fun hf => by rw [hf.2.2.2.2.2 0 (by omega)]; exact hn
    have m6 : MK n 0 (fun _ => 0) M6 := ⟨by rw [e6, ms_self]; rfl, by omega, fun m hm => by omega⟩
    refine sp_M_layRank h1 h7 (nn j6) ht ?_
    intro M7 r7 f7
    have j7 : FrJ M M7 := j6.tr (FrC.of f7).J
    refine sp_M_addMaker h7 (nn j7) (m6.cong (by rw [f7 30 (by omega) (by omega)]) (f7 37 (by omega) (by omega))) (by omega) ht r7 ?_
    intro M8 m8 f8 g8
    have k8 : FrK M7 M8 := ⟨fun k a _ _ b => f8 k a b, g8⟩
    have j8 := j7.tr k8.J
    refine sp_M_closeGroup h1 h7 (nn j8) m8 ?_
    intro M9 i9 t9 m9 f9
    have j9 := j8.tr f9.J
    have had9 : ∀ i, i < 5040 → (M9 40 i = 1 ∧ inK n G i) ∨ (M9 40 i = 0 ∧ ¬ inK n G i) := fun i hi => by
      rw [f9.1 40 (by omega) (by omega) (by omega) (by omega) (by omega) (by omega), f8 40 (by omega) (by omega), f7 40 (by omega) (by omega), f6 40 (by omega), hh i hi]
      exact hI i hi
    refine ⟨fun k x M10 => ∃ (r c : Nat) (mk : Nat → Nat), r ≤ 5040 ∧ k = 5040 - r ∧ x = (r : Int) ∧ c ≤ 14 ∧ MK n (c + 1) mk M10 ∧ IS n (Cl (Ls mk (c + 1))) (M10 31) ∧ (∃ N τ, TLn n N (Cl (Ls mk (c + 1))) τ M10 ∧ 2 ^ c ≤ N) ∧ FrJ M M10 ∧ M10 40 = M9 40 ∧ (∀ y, Ls mk (c + 1) y → G y ∨ y = t) ∧ Ls mk (c + 1) t ∧ (∀ y, G y → rkF n y < r → Cl (Ls mk (c + 1)) y), ⟨5040, 0, 0, _, by omega, rfl, rfl, by omega, m9, i9, ?_, j9, rfl, fun y hy => ?_, Ls_X.mpr (Or.inr rfl), fun y _ hy => by omega⟩, ?_⟩
    · obtain ⟨N, τ, h9⟩ := t9
      refine ⟨N, τ, h9, ?_⟩
      obtain ⟨i, hi, _⟩ := (h9.2.2.1 idc).mp (Cl_id _)
      show 1 ≤ N
      omega
    · rcases Ls_X.mp hy with ⟨i, hi, _⟩ | hy
      · omega
      · exact Or.inr hy
    rintro k x M10 ⟨r, c, mk, hr, rfl, rfl, hc, m10, i10, ⟨N, τ, t10, p10⟩, j10, a10, hS, hT2, hD⟩
    have hSP : ∀ y, Ls mk (c + 1) y → isP n y := fun y hy => (hS y hy).elim (fun a => hG.1 y a) (fun a => by rw [a]; exact ht)
    have hgr := Cl_grp h7 hSP
    have hN : N ≤ 5040 := Ls_le h1 h7 (fun i hi => hgr.1 _ ((t10.2.2.1 _).mpr ⟨i, hi, rfl⟩)) (TL.inj t10)
    refine ⟨fun q2 => ?_, fun q2 => ?_⟩
    · have hr5 : r = 5040 := by omega
      subst hr5
      intro M11 e11
      have f11 : ∀ k, k ≠ 30 → M11 k = M10 k := fun k hk => by rw [e11, ms_o _ _ _ hk]
      have heq : ∀ y, Cl (fun y => G y ∨ y = t) y ↔ Cl (Ls mk (c + 1)) y := Cl_iff h7 (fun y hy => hy.elim (fun a => hG.1 y a) (fun a => by rw [a]; exact ht)) hSP (fun y hy => by
        rcases hy with hy | hy
        · exact hD y hy (rk_lt h1 h7 (hG.1 y hy))
        · rw [hy]; exact Cl_in (ht.to7 h7) hT2) (fun y hy => Cl_in ((hSP y hy).to7 h7) (hS y hy))
      refine hyes t M11 hT (by rw [f11 31 (by omega)]; exact i10.congr heq) ⟨N, τ, by rw [e11, ms_ne _ _ (by omega)]; exact t10.1, by rw [f11 39 (by omega)]; exact t10.2.1, fun y => (heq y).trans (t10.2.2.1 y), t10.2.2.2⟩ (by rw [e11, ms_self]) (fun k hk => by rw [f11 k (by omega)]; exact j10.1 k hk) (by rw [f11 32 (by omega)]; exact j10.2.1) (by rw [f11 33 (by omega)]; exact j10.2.2.1) (by rw [f11 34 (by omega)]; exact j10.2.2.2.1) (fun j hj => by rw [f11 31 (by omega)]; exact j10.2.2.2.2.2 j hj)
    · have hr' : r < 5040 := by omega
      refine ⟨⟨by omega, by omega⟩, ?_⟩
      intro z11 hz11
      rw [Int.toNat_natCast, a10] at hz11
      have hh9 := had9 r hr'
      have hi10 := i10 r hr'
      intro K hK
      have step : ((∀ y, G y → rkF n y = r → Cl (Ls mk (c + 1)) y)) → K M10 := by
        intro hyr
        refine hK _ ⟨⟨by omega, by omega⟩, ?_⟩
        intro v hv
        refine ⟨5040 - (r + 1), by omega, r + 1, c, mk, by omega, rfl, by omega, hc, m10, i10, ⟨N, τ, t10, p10⟩, j10, a10, hS, hT2, fun y hy hyl => ?_⟩
        by_cases q5 : rkF n y = r
        · exact hyr y hy q5
        · exact hD y hy (by omega)
      refine ⟨fun q3 => step (fun y hy hyr => ?_), fun q3 => ?_⟩
      · rcases hh9 with ⟨a, _⟩ | ⟨_, a⟩
        · exact absurd (hz11.trans a) q3
        · exact absurd ⟨y, hy, hyr⟩ a
      · have hin : inK n G r := by
          rcases hh9 with ⟨_, a⟩ | ⟨a, _⟩
          · exact a
          · rw [a] at hz11; rw [hz11] at q3; exact absurd q3 (by decide)
        refine ⟨⟨by omega, by omega⟩, ⟨by omega, by omega⟩, ?_⟩
        intro z17 hz17
        rw [show (6 + (r : Int)).toNat = 6 + r by omega] at hz17
        refine ⟨fun q4 => step (fun y hy hyr => ?_), fun q4 => ?_⟩
        · rcases hi10 with ⟨_, a⟩ | ⟨a, _⟩
          · rw [← hyr] at a
            exact (inK_iff h1 h7 hgr.1 (hG.1 y hy)).mp a
          · exact absurd (hz17.trans a) q4
        · have hnin : ¬ inK n (Cl (Ls mk (c + 1))) r := by
            rcases hi10 with ⟨a, _⟩ | ⟨_, a⟩
            · rw [a] at hz17; rw [hz17] at q4; exact absurd q4 (by decide)
            · exact a
          clear hi10 hh9
          obtain ⟨y, hy, hyr⟩ := hin
          have hPy := hG.1 y hy
          have hny : ¬ Cl (Ls mk (c + 1)) y := fun a => hnin ⟨y, a, hyr⟩
          have hdb := Ls_dbl h1 h7 hgr t10.2.2.1 (TL.inj t10) hPy hny
          have hc12 : c ≤ 11 := by
            by_cases q5 : c ≤ 11
            · exact q5
            · have : 2 ^ 12 ≤ 2 ^ c := Nat.pow_le_pow_right (by decide) (by omega)
              omega
          rw [← hyr]
          refine sp_M_layRank h1 h7 (nn j10) hPy ?_
          intro M11 r11 f11
          have j11 := j10.tr (FrC.of f11).J
          refine sp_M_addMaker h7 (nn j11) (m10.cong (by rw [f11 30 (by omega) (by omega)]) (f11 37 (by omega) (by omega))) (by omega) hPy r11 ?_
          intro M12 m12 f12 g12
          have k12 : FrK M11 M12 := ⟨fun k a _ _ b => f12 k a b, g12⟩
          have j12 := j11.tr k12.J
          refine sp_M_closeGroup h1 h7 (nn j12) m12 ?_
          intro M13 i13 t13 m13 f13
          have j13 := j12.tr f13.J
          refine hK _ ⟨⟨by omega, by omega⟩, ?_⟩
          intro v hv
          obtain ⟨N', τ', t13⟩ := t13
          have hS' : ∀ z, Ls (eX mk (c + 1) y) (c + 1 + 1) z → G z ∨ z = t := fun z hz => (Ls_X.mp hz).elim (fun a => hS z a) (fun a => Or.inl (by rw [a]; exact hy))
          have hSP' : ∀ z, Ls (eX mk (c + 1) y) (c + 1 + 1) z → isP n z := fun z hz => (hS' z hz).elim (fun a => hG.1 z a) (fun a => by rw [a]; exact ht)
          have hgr' := Cl_grp h7 hSP'
          have hsub : ∀ z, Cl (Ls mk (c + 1)) z → Cl (Ls (eX mk (c + 1) y) (c + 1 + 1)) z := fun z hz => Cl_le hgr' (fun w hw => Cl_in ((hSP w hw).to7 h7) (Ls_X.mpr (Or.inl hw))) hz
          have hyin : Cl (Ls (eX mk (c + 1) y) (c + 1 + 1)) y := Cl_in (hPy.to7 h7) (Ls_X.mpr (Or.inr rfl))
          have hdb2 := Ls_dbl2 h1 h7 hgr t10.2.2.1 (TL.inj t10) hPy hny hgr' hsub hyin t13.2.2.1
          refine ⟨5040 - (rkF n y + 1), by omega, rkF n y + 1, c + 1, eX mk (c + 1) y, by omega, rfl, by omega, by omega, m13, i13, ⟨N', τ', t13, by rw [Nat.pow_succ]; omega⟩, j13, by rw [f13.1 40 (by omega) (by omega) (by omega) (by omega) (by omega) (by omega), f12 40 (by omega) (by omega), f11 40 (by omega) (by omega)]; exact a10, hS', Ls_X.mpr (Or.inl hT2), fun z hz hzl => ?_⟩
          by_cases q5 : rkF n z = rkF n y
          · rw [rk_inj h1 h7 (hG.1 z hz) hPy q5]; exact hyin
          · exact hsub z (hD z hz (by omega))
  · refine ⟨⟨by omega, by omega⟩, ⟨by omega, by omega⟩, ?_⟩
    intro z24 hz24
    rw [show (6 + (r : Int)).toNat = 6 + r by omega, f5 31 (by omega), f1 31 (by omega)] at hz24
    refine ⟨⟨by omega, by omega⟩, ?_⟩
    intro M6 e6
    rw [Int.toNat_natCast] at e6
    refine ⟨⟨by omega, by omega⟩, ?_⟩
    intro v hv
    refine ⟨5040 - (r + 1), by omega, r + 1, by omega, rfl, by omega, fun i hi => ?_, fun k hk => by rw [e6, ms_o _ _ _ hk]; exact f5 k hk⟩
    rw [e6]
    by_cases q2 : i = r
    · rw [q2, ms_self]; exact hz24
    · rw [ms_ne _ _ q2]; exact hh i (by omega)
