/-! ===== the reference: the group that makers make ===== -/
def inK (n : Nat) (U : Nat → Prop) (r : Nat) : Prop := ∃ t, U t ∧ rkF n t = r
def IS (n : Nat) (U : Nat → Prop) (f : Nat → Int) : Prop := ∀ r, r < 5040 → (f (6 + r) = 1 ∧ inK n U r) ∨ (f (6 + r) = 0 ∧ ¬ inK n U r)
theorem IS.congr {n : Nat} {U U' : Nat → Prop} {f : Nat → Int} (h : IS n U f) (e : ∀ x, U' x ↔ U x) : IS n U' f := by
  have : U' = U := funext fun x => propext (e x)
  rw [this]; exact h
theorem inK_iff {n t : Nat} {U : Nat → Prop} (h1 : 1 ≤ n) (h7 : n ≤ 7) (hU : ∀ x, U x → isP n x) (ht : isP n t) : inK n U (rkF n t) ↔ U t :=
  ⟨fun ⟨x, hx, e⟩ => by rw [← rk_inj h1 h7 (hU x hx) ht e]; exact hx, fun h => ⟨t, h, rfl⟩⟩
def FrC (M M' : Mm) : Prop := (∀ k, k ≠ 30 → k ≠ 31 → k ≠ 35 → k ≠ 36 → k ≠ 38 → k ≠ 39 → M' k = M k) ∧ (∀ j, j ≠ 10 → j ≠ 12 → M' 30 j = M 30 j) ∧ (∀ j, j < 6 → M' 31 j = M 31 j)
theorem FrC.rf (M : Mm) : FrC M M := ⟨fun _ _ _ _ _ _ _ => rfl, fun _ _ _ => rfl, fun _ _ => rfl⟩
theorem FrC.tr {M M1 M2 : Mm} (h1 : FrC M M1) (h2 : FrC M1 M2) : FrC M M2 :=
  ⟨fun k a b c d e f => (h2.1 k a b c d e f).trans (h1.1 k a b c d e f), fun j a b => (h2.2.1 j a b).trans (h1.2.1 j a b), fun j a => (h2.2.2 j a).trans (h1.2.2 j a)⟩
theorem FrC.of {M M' : Mm} (h : ∀ k, k ≠ 35 → k ≠ 36 → M' k = M k) : FrC M M' :=
  ⟨fun k _ _ a b _ _ => h k a b, fun j _ _ => by rw [h 30 (by omega) (by omega)], fun j _ => by rw [h 31 (by omega) (by omega)]⟩
def WV (n W : Nat) (e : Nat → Nat) (M : Mm) : Prop := M 30 10 = (W : Int) ∧ (∀ i, i < W → M 38 i = (rkF n (e i) : Int) ∧ isP n (e i)) ∧ (∀ i j, i < W → j < W → e i = e j → i = j) ∧ IS n (Ls e W) (M 31)
theorem WV.cong {n W : Nat} {e : Nat → Nat} {M M' : Mm} (h : WV n W e M) (h0 : M' 30 10 = M 30 10) (h1 : M' 31 = M 31) (h2 : M' 38 = M 38) : WV n W e M' := by
  unfold WV
  rw [h0, h1, h2]; exact h
theorem WV.W {n W : Nat} {e : Nat → Nat} {M : Mm} (h1 : 1 ≤ n) (h7 : n ≤ 7) (h : WV n W e M) : W ≤ 5040 := Ls_le h1 h7 (fun i hi => (h.2.1 i hi).2) h.2.2.1
theorem sp_M_meet {n t W : Nat} {e : Nat → Nat} {M : Mm} {post : Mm → Prop} (h1 : 1 ≤ n) (h7 : n ≤ 7) (ht : isP n t) (hW : WV n W e M) (hin : Ls e W t → post M) (hnew : ¬ Ls e W t → ∀ M' : Mm, WV n (W + 1) (eX e W t) M' → FrC M M' → post M') : wp_M_meet (rkF n t : Int) M post := by
  have hr := rk_lt h1 h7 ht
  have hU : ∀ x, Ls e W x → isP n x := fun x ⟨i, hi, ex⟩ => by rw [← ex]; exact (hW.2.1 i hi).2
  have hk := inK_iff h1 h7 hU ht
  unfold wp_M_meet
  rw [show (6 + (rkF n t : Int)).toNat = 6 + rkF n t by omega]
  refine ⟨⟨by omega, by omega⟩, ⟨by omega, by omega⟩, ?_⟩
  intro z hz
  have hI := hW.2.2.2 _ hr
  refine ⟨fun q => hin ?_, fun q => ?_⟩
  · rcases hI with ⟨_, a⟩ | ⟨a, _⟩
    · exact hk.mp a
    · exact absurd (hz.trans a) q
  · have hn : ¬ Ls e W t := by
      rcases hI with ⟨a, _⟩ | ⟨_, a⟩
      · rw [a] at hz; rw [hz] at q; exact absurd q (by decide)
      · exact fun b => a (hk.mpr b)
    have hd := eX_d hW.2.2.1 hn
    have hW5 : W + 1 ≤ 5040 := Ls_le h1 h7 (fun i hi => by
      by_cases q2 : i = W
      · rw [q2, eX_at]; exact ht
      · rw [eX_lt (by omega)]; exact (hW.2.1 i (by omega)).2) hd
    refine ⟨⟨by omega, by omega⟩, ⟨by omega, by omega⟩, ?_⟩
    intro M7 e7
    have a7 : M7 30 = M 30 := by rw [e7]; exact ms_o _ _ _ (by omega)
    rw [a7, hW.1, Int.toNat_natCast]
    refine ⟨⟨by omega, by omega⟩, ?_⟩
    intro M9 e9
    have a9 : M9 30 = M 30 := by rw [e9, ms_o _ _ _ (by omega)]; exact a7
    rw [a9, hW.1]
    refine ⟨⟨by omega, by omega⟩, ?_⟩
    intro M11 e11
    have b31 : M11 31 = M7 31 := by rw [e11, ms_o _ _ _ (by omega), e9, ms_o _ _ _ (by omega)]
    refine hnew hn M11 ⟨by rw [e11, ms_self]; omega, fun i hi => ?_, hd, fun r hr2 => ?_⟩ ⟨fun k k30 k31 _ _ k38 _ => by rw [e11, ms_o _ _ _ k30, e9, ms_o _ _ _ k38, e7, ms_o _ _ _ k31], fun j j10 _ => by rw [e11, ms_ne _ _ j10, a9], fun j hj => by rw [b31, e7, ms_ne _ _ (by omega)]⟩
    · rw [e11, ms_o _ _ _ (by omega), e9]
      by_cases q2 : i = W
      · rw [q2, ms_self, eX_at]; exact ⟨rfl, ht⟩
      · rw [ms_ne _ _ q2, eX_lt (by omega), e7, ms_o _ _ _ (by omega)]; exact hW.2.1 i (by omega)
    · rw [b31, e7]
      by_cases q2 : r = rkF n t
      · rw [q2, ms_self]
        exact Or.inl ⟨rfl, t, Ls_X.mpr (Or.inr rfl), rfl⟩
      · rw [ms_ne _ _ (by omega)]
        rcases hW.2.2.2 r hr2 with ⟨a, x, hx, ex⟩ | ⟨a, b⟩
        · exact Or.inl ⟨a, x, Ls_X.mpr (Or.inl hx), ex⟩
        · refine Or.inr ⟨a, fun ⟨x, hx, ex⟩ => ?_⟩
          rcases Ls_X.mp hx with hx | hx
          · exact b ⟨x, hx, ex⟩
          · rw [hx] at ex; exact q2 ex.symm
def TLn (n N : Nat) (G : Nat → Prop) (τ : Nat → Nat) (M : Mm) : Prop := M 30 12 = (N : Int) ∧ (∀ k, k < N → ∀ p, p < n → M 39 (7 * k + p) = (dg (τ k) p : Int)) ∧ (∀ x, G x ↔ Ls τ N x) ∧ (∀ i j, i < j → j < N → rkF n (τ i) < rkF n (τ j))
def TL (n : Nat) (G : Nat → Prop) (M : Mm) : Prop := ∃ (N : Nat) (τ : Nat → Nat), TLn n N G τ M
theorem TL.cong {n : Nat} {G : Nat → Prop} {M M' : Mm} (h : TL n G M) (h0 : M' 30 12 = M 30 12) (h1 : M' 39 = M 39) : TL n G M' := by
  unfold TL TLn
  rw [h0, h1]; exact h
theorem sp_M_layTurns {n : Nat} {G : Nat → Prop} {M : Mm} {post : Mm → Prop} (h1 : 1 ≤ n) (h7 : n ≤ 7) (hn : M 31 0 = (n : Int)) (hP : ∀ t, G t → isP n t) (hI : IS n G (M 31)) (h : ∀ M' : Mm, TL n G M' → (∀ k, k ≠ 30 → k ≠ 35 → k ≠ 36 → k ≠ 39 → M' k = M k) → (∀ j, j ≠ 12 → M' 30 j = M 30 j) → post M') : wp_M_layTurns M post := by
  unfold wp_M_layTurns
  intro M1 e1
  refine ⟨fun c x M5 => ∃ (r N : Nat) (τ : Nat → Nat), r ≤ 5040 ∧ c = 5040 - r ∧ x = (r : Int) ∧ TLn n N (fun t => G t ∧ rkF n t < r) τ M5 ∧ (∀ k, k ≠ 30 → k ≠ 35 → k ≠ 36 → k ≠ 39 → M5 k = M k) ∧ (∀ j, j ≠ 12 → M5 30 j = M 30 j), ⟨5040, 0, 0, fun _ => 0, by omega, rfl, rfl, ⟨by rw [e1, ms_self]; rfl, fun k hk => by omega, fun x => ⟨fun a => absurd a.2 (by omega), fun ⟨i, hi, _⟩ => by omega⟩, fun i j _ hj => by omega⟩, fun k k30 _ _ _ => by rw [e1, ms_o _ _ _ k30], fun j hj => by rw [e1, ms_ne _ _ hj]⟩, ?_⟩
  rintro c x M5 ⟨r, N, τ, hr, rfl, rfl, ⟨t1, t2, t3, t4⟩, fr, fj⟩
  have f31 := fr 31 (by omega) (by omega) (by omega) (by omega)
  have hNr : N ≤ r := fb_holes r N (fun i => rkF n (τ i)) (fun i hi => ((t3 _).mpr ⟨i, hi, rfl⟩).2) (fun i j hij hj => by have := t4 i j hij hj; omega)
  refine ⟨fun q => ?_, fun q => ?_⟩
  · refine h M5 ⟨N, τ, t1, t2, fun x => ⟨fun hx => (t3 x).mp ⟨hx, ?_⟩, fun hx => ((t3 x).mpr hx).1⟩, t4⟩ fr fj
    have := rk_lt h1 h7 (hP x hx)
    omega
  · have hr' : r < 5040 := by omega
    refine ⟨⟨by omega, by omega⟩, ⟨by omega, by omega⟩, ?_⟩
    intro z hz
    rw [show (6 + (r : Int)).toNat = 6 + r by omega, f31] at hz
    intro K hK
    have hIr := hI r hr'
    refine ⟨fun q2 => hK _ ?_, fun q2 => ?_⟩
    · have hno : ¬ inK n G r := by
        rcases hIr with ⟨a, _⟩ | ⟨_, a⟩
        · exact absurd (hz.trans a) q2
        · exact a
      clear hIr
      refine ⟨⟨by omega, by omega⟩, ?_⟩
      intro w hw
      refine ⟨5040 - (r + 1), by omega, r + 1, N, τ, by omega, rfl, by omega, ⟨t1, t2, fun x => ?_, t4⟩, fr, fj⟩
      rw [← t3 x]
      refine ⟨fun a => ⟨a.1, ?_⟩, fun a => ⟨a.1, by omega⟩⟩
      have b := a.2
      by_cases q3 : rkF n x = r
      · exact absurd ⟨x, a.1, q3⟩ hno
      · omega
    · have hyes : inK n G r := by
        rcases hIr with ⟨_, a⟩ | ⟨a, _⟩
        · exact a
        · rw [a] at hz; rw [hz] at q2; exact absurd q2 (by decide)
      clear hIr
      obtain ⟨t, ht, et⟩ := hyes
      rw [← et]
      refine sp_M_layRank h1 h7 (by rw [f31]; exact hn) (hP t ht) ?_
      intro M6 r6 f6
      have hN5 : N < 5040 := by omega
      refine ⟨fun c x M7 => ∃ p : Nat, p ≤ n ∧ c = n - p ∧ x = (p : Int) ∧ (∀ i, i < p → M7 39 (7 * N + i) = (dg t i : Int)) ∧ (∀ b, b < 7 * N → M7 39 b = M6 39 b) ∧ (∀ k, k ≠ 39 → M7 k = M6 k), ⟨n, 0, by omega, rfl, rfl, fun i hi => by omega, fun _ _ => rfl, fun _ _ => rfl⟩, ?_⟩
      rintro c x M7 ⟨p, hp, rfl, rfl, hd, hb, f7⟩
      have c30 : M7 30 = M5 30 := by rw [f7 30 (by omega), f6 30 (by omega) (by omega)]
      refine sp_M_many (n := n) (by rw [f7 31 (by omega), f6 31 (by omega) (by omega), f31]; exact hn) ?_
      refine ⟨fun q3 => ?_, fun q3 => ?_⟩
      · have : p = n := by omega
        subst this
        rw [c30, t1]
        refine ⟨⟨by omega, by omega⟩, ?_⟩
        intro M8 e8
        refine hK _ ⟨⟨by omega, by omega⟩, ?_⟩
        intro w hw
        have g39 : M8 39 = M7 39 := by rw [e8]; exact ms_o _ _ _ (by omega)
        refine ⟨5040 - (rkF p t + 1), by omega, rkF p t + 1, N + 1, eX τ N t, by omega, rfl, by omega, ⟨by rw [e8, ms_self]; omega, fun k hk i hi => ?_, fun x => ?_, fun i j hij hj => ?_⟩, fun k k30 k35 k36 k39 => by rw [e8, ms_o _ _ _ k30, f7 k k39, f6 k k35 k36]; exact fr k k30 k35 k36 k39, fun j hj => by rw [e8, ms_ne _ _ hj, c30]; exact fj j hj⟩
        · rw [g39]
          by_cases q4 : k = N
          · rw [q4, eX_at]; exact hd i hi
          · rw [eX_lt (by omega), hb _ (by omega), f6 39 (by omega) (by omega)]; exact t2 k (by omega) i hi
        · rw [Ls_X, ← t3 x]
          refine ⟨fun a => ?_, fun a => ?_⟩
          · by_cases q4 : rkF p x = rkF p t
            · exact Or.inr (rk_inj h1 h7 (hP x a.1) (hP t ht) q4)
            · exact Or.inl ⟨a.1, by have := a.2; omega⟩
          · rcases a with a | a
            · exact ⟨a.1, by have := a.2; omega⟩
            · rw [a]; exact ⟨ht, by omega⟩
        · rw [eX_lt (by omega)]
          by_cases q4 : j = N
          · rw [q4, eX_at]
            have := ((t3 _).mpr ⟨i, by omega, rfl⟩).2
            omega
          · rw [eX_lt (by omega)]; exact t4 i j hij (by omega)
      · have hpn : p < n := by omega
        rw [c30, t1]
        refine ⟨⟨by omega, by omega⟩, ⟨by omega, by omega⟩, ⟨by omega, by omega⟩, ?_⟩
        intro z16 hz16
        rw [Int.toNat_natCast, f7 35 (by omega), r6 p hpn] at hz16
        refine ⟨⟨by omega, by omega⟩, ?_⟩
        intro M8 e8
        rw [show (7 * (N : Int) + (p : Int)).toNat = 7 * N + p by omega] at e8
        refine ⟨⟨by omega, by omega⟩, ?_⟩
        intro w hw
        refine ⟨n - (p + 1), by omega, p + 1, by omega, rfl, by omega, fun i hi => ?_, fun b hb2 => by rw [e8, ms_ne _ _ (by omega)]; exact hb b hb2, fun k hk => by rw [e8, ms_o _ _ _ hk]; exact f7 k hk⟩
        rw [e8]
        by_cases q4 : i = p
        · rw [q4, ms_self]; exact hz16
        · rw [ms_ne _ _ (by omega)]; exact hd i (by omega)
def MK (n c : Nat) (mk : Nat → Nat) (M : Mm) : Prop := M 30 8 = (c : Int) ∧ c ≤ 60 ∧ ∀ m, m < c → isP n (mk m) ∧ ∀ p, p < n → M 37 (7 * m + p) = (dg (mk m) p : Int)
theorem MK.cong {n c : Nat} {mk : Nat → Nat} {M M' : Mm} (h : MK n c mk M) (h0 : M' 30 8 = M 30 8) (h1 : M' 37 = M 37) : MK n c mk M' := by
  unfold MK
  rw [h0, h1]; exact h
theorem sp_M_addMaker {n c t : Nat} {mk : Nat → Nat} {M : Mm} {post : Mm → Prop} (h7 : n ≤ 7) (hn : M 31 0 = (n : Int)) (hm : MK n c mk M) (hc : c < 60) (ht : isP n t) (hr : RW n t M) (h : ∀ M' : Mm, MK n (c + 1) (eX mk c t) M' → (∀ k, k ≠ 30 → k ≠ 37 → M' k = M k) → (∀ j, j ≠ 8 → M' 30 j = M 30 j) → post M') : wp_M_addMaker M post := by
  obtain ⟨m1, m2, m3⟩ := hm
  unfold wp_M_addMaker
  refine ⟨fun k x M7 => ∃ p : Nat, p ≤ n ∧ k = n - p ∧ x = (p : Int) ∧ (∀ i, i < p → M7 37 (7 * c + i) = (dg t i : Int)) ∧ (∀ b, b < 7 * c → M7 37 b = M 37 b) ∧ (∀ k, k ≠ 37 → M7 k = M k), ⟨n, 0, by omega, rfl, rfl, fun i hi => by omega, fun _ _ => rfl, fun _ _ => rfl⟩, ?_⟩
  rintro k x M7 ⟨p, hp, rfl, rfl, hd, hb, f7⟩
  have c30 : M7 30 = M 30 := f7 30 (by omega)
  refine sp_M_many (n := n) (by rw [f7 31 (by omega)]; exact hn) ?_
  rw [c30, m1]
  refine ⟨fun q3 => ?_, fun q3 => ?_⟩
  · have : p = n := by omega
    subst this
    refine ⟨⟨by omega, by omega⟩, ?_⟩
    intro M8 e8
    have g37 : M8 37 = M7 37 := by rw [e8]; exact ms_o _ _ _ (by omega)
    refine h M8 ⟨by rw [e8, ms_self]; omega, by omega, fun m hm => ?_⟩ (fun k k30 k37 => by rw [e8, ms_o _ _ _ k30]; exact f7 k k37) (fun j hj => by rw [e8, ms_ne _ _ hj, c30])
    by_cases q4 : m = c
    · rw [q4, eX_at, g37]; exact ⟨ht, hd⟩
    · rw [eX_lt (by omega), g37]
      exact ⟨(m3 m (by omega)).1, fun i hi => by rw [hb _ (by omega)]; exact (m3 m (by omega)).2 i hi⟩
  · have hpn : p < n := by omega
    refine ⟨⟨by omega, by omega⟩, ⟨by omega, by omega⟩, ⟨by omega, by omega⟩, ?_⟩
    intro z16 hz16
    rw [Int.toNat_natCast, f7 35 (by omega), hr p hpn] at hz16
    refine ⟨⟨by omega, by omega⟩, ?_⟩
    intro M8 e8
    rw [show (7 * (c : Int) + (p : Int)).toNat = 7 * c + p by omega] at e8
    refine ⟨⟨by omega, by omega⟩, ?_⟩
    intro w hw
    refine ⟨n - (p + 1), by omega, p + 1, by omega, rfl, by omega, fun i hi => ?_, fun b hb2 => by rw [e8, ms_ne _ _ (by omega)]; exact hb b hb2, fun k hk => by rw [e8, ms_o _ _ _ hk]; exact f7 k hk⟩
    rw [e8]
    by_cases q4 : i = p
    · rw [q4, ms_self]; exact hz16
    · rw [ms_ne _ _ (by omega)]; exact hd i (by omega)
theorem sp_M_closeGroup {n c : Nat} {mk : Nat → Nat} {M : Mm} {post : Mm → Prop} (h1 : 1 ≤ n) (h7 : n ≤ 7) (hn : M 31 0 = (n : Int)) (hm : MK n c mk M) (h : ∀ M' : Mm, IS n (Cl (Ls mk c)) (M' 31) → TL n (Cl (Ls mk c)) M' → MK n c mk M' → FrC M M' → post M') : wp_M_closeGroup M post := by
  have hS : ∀ y, Ls mk c y → isP n y := fun y ⟨i, hi, e⟩ => by rw [← e]; exact (hm.2.2 i hi).1
  unfold wp_M_closeGroup
  refine ⟨fun k x M5 => ∃ r : Nat, r ≤ 5040 ∧ k = 5040 - r ∧ x = (r : Int) ∧ (∀ i, i < r → M5 31 (6 + i) = 0) ∧ (∀ j, j < 6 → M5 31 j = M 31 j) ∧ (∀ k, k ≠ 31 → M5 k = M k), ⟨5040, 0, by omega, rfl, rfl, fun i hi => by omega, fun _ _ => rfl, fun _ _ => rfl⟩, ?_⟩
  rintro k x M5 ⟨r, hr, rfl, rfl, hz, hj, fr⟩
  refine ⟨fun q => ?_, fun q => ?_⟩
  · have hr5 : r = 5040 := by omega
    subst hr5
    intro M2 e2
    have f2 : FrC M M2 := ⟨fun k k30 k31 _ _ _ _ => by rw [e2, ms_o _ _ _ k30]; exact fr k k31, fun j j10 _ => by rw [e2, ms_ne _ _ j10, fr 30 (by omega)], fun j hj6 => by rw [e2, ms_o _ _ _ (by omega)]; exact hj j hj6⟩
    have z2 : ∀ i, i < 5040 → M2 31 (6 + i) = 0 := fun i hi => by rw [e2, ms_o _ _ _ (by omega)]; exact hz i hi
    have nn : ∀ {M' : Mm}, FrC M M' → M' 31 0 = (n : Int) := fun hf => by rw [hf.2.2 0 (by omega)]; exact hn
    have mm : ∀ {M' : Mm}, FrC M M' → MK n c mk M' := fun hf => hm.cong (hf.2.1 8 (by omega) (by omega)) (hf.1 37 (by omega) (by omega) (by omega) (by omega) (by omega) (by omega))
    refine sp_M_layStill h7 (nn f2) ?_
    intro M3 r3 g3
    have f3 : FrC M M3 := f2.tr (FrC.of (fun k a b => g3 k a))
    refine sp_M_rank h7 (nn f3) r3 ?_
    have w3 : WV n 0 (fun _ => 0) M3 := ⟨by rw [g3 30 (by omega), e2, ms_self]; rfl, fun i hi => by omega, fun i j hi => by omega, fun r hr => Or.inr ⟨by rw [g3 31 (by omega)]; exact z2 r hr, fun ⟨t, ⟨i, hi, _⟩, _⟩ => by omega⟩⟩
    refine sp_M_meet h1 h7 (isP_id h7) w3 (fun ⟨i, hi, _⟩ => by omega) ?_
    intro _ M4 w4 g4
    have f4 := f3.tr g4
    refine ⟨fun k x M6 => ∃ (i W : Nat) (e : Nat → Nat), i ≤ W ∧ k = 5040 - i ∧ x = (i : Int) ∧ WV n W e M6 ∧ FrC M M6 ∧ (∀ j, j < W → Cl (Ls mk c) (e j)) ∧ Ls e W idc ∧ (∀ j, j < i → ∀ m, m < c → Ls e W (cmp (e j) (mk m))), ⟨5040, 0, 1, _, by omega, rfl, rfl, w4, f4, fun j hj => ?_, ⟨0, by omega, eX_at⟩, fun j hj => by omega⟩, ?_⟩
    · rw [show j = 0 by omega, eX_at]; exact Cl_id _
    rintro k x M6 ⟨i, W, e, hi, rfl, rfl, w6, f6, hs, h0, hc⟩
    have hW := WV.W h1 h7 w6
    rw [w6.1]
    refine ⟨fun q2 => ?_, fun q2 => ?_⟩
    · have : i = W := by omega
      subst this
      have hcl : ∀ x, Cl (Ls mk c) x ↔ Ls e i x := fun x => ⟨fun hx => Cl_ind (P := fun x => Ls e i x) h0 (fun a b ha hb => by
        obtain ⟨j, hj, rfl⟩ := ha
        obtain ⟨m, hm2, rfl⟩ := hb
        exact hc j hj m hm2) hx, fun ⟨j, hj, ex⟩ => by rw [← ex]; exact hs j hj⟩
      refine sp_M_layTurns (G := Cl (Ls mk c)) h1 h7 (nn f6) (fun t ht => Cl_P h7 hS ht) (w6.2.2.2.congr hcl) ?_
      intro M7 t7 g7 j7
      have f7 : FrC M6 M7 := ⟨fun k k30 k31 k35 k36 k38 k39 => g7 k k30 k35 k36 k39, fun j _ j12 => j7 j j12, fun j _ => by rw [g7 31 (by omega) (by omega) (by omega) (by omega)]⟩
      have f8 := f6.tr f7
      exact h M7 (by rw [g7 31 (by omega) (by omega) (by omega) (by omega)]; exact w6.2.2.2.congr hcl) t7 (mm f8) f8
    · have hiW : i < W := by omega
      have hPi := (w6.2.1 i hiW).2
      refine ⟨fun k x M7 => ∃ (m W2 : Nat) (e2 : Nat → Nat), m ≤ c ∧ k = c - m ∧ x = (m : Int) ∧ i < W2 ∧ e2 i = e i ∧ WV n W2 e2 M7 ∧ FrC M M7 ∧ (∀ j, j < W2 → Cl (Ls mk c) (e2 j)) ∧ Ls e2 W2 idc ∧ (∀ j, j < i → ∀ m, m < c → Ls e2 W2 (cmp (e2 j) (mk m))) ∧ (∀ m', m' < m → Ls e2 W2 (cmp (e i) (mk m'))), ⟨c, 0, W, e, by omega, rfl, rfl, hiW, rfl, w6, f6, hs, h0, hc, fun m' hm' => by omega⟩, ?_⟩
      rintro k x M7 ⟨m, W2, e2, hmc, rfl, rfl, hi2, he2, w7, f7, hs2, h02, hc2, hcm⟩
      have mk7 := mm f7
      rw [mk7.1]
      refine ⟨fun q3 => ?_, fun q3 => ?_⟩
      · have : m = c := by omega
        subst this
        refine ⟨⟨by omega, by omega⟩, ?_⟩
        intro v hv
        refine ⟨5040 - (i + 1), by omega, i + 1, W2, e2, by omega, rfl, by omega, w7, f7, hs2, h02, fun j hj2 m' hm' => ?_⟩
        by_cases q4 : j = i
        · rw [q4, he2]; exact hcm m' hm'
        · exact hc2 j (by omega) m' hm'
      · have hm' : m < c := by omega
        have hc60 := mk7.2.1
        refine ⟨⟨by omega, by omega⟩, ?_⟩
        intro z11 hz11
        rw [Int.toNat_natCast, (w7.2.1 i hi2).1, he2] at hz11
        rw [hz11]
        refine sp_M_layRank h1 h7 (nn f7) hPi ?_
        intro M8 r8 g8
        have f8 : FrC M M8 := f7.tr (FrC.of g8)
        refine ⟨fun k x M9 => ∃ p : Nat, p ≤ n ∧ k = n - p ∧ x = (p : Int) ∧ (∀ a, a < p → M9 35 a = (dg (mk m) (dg (e i) a) : Int)) ∧ (∀ a, p ≤ a → a < n → M9 35 a = (dg (e i) a : Int)) ∧ (∀ k, k ≠ 35 → M9 k = M8 k), ⟨n, 0, by omega, rfl, rfl, fun a ha => by omega, fun a _ ha => r8 a ha, fun _ _ => rfl⟩, ?_⟩
        rintro k x M9 ⟨p, hp, rfl, rfl, hA, hB, g9⟩
        have f9 : FrC M M9 := f8.tr (FrC.of (fun k a b => g9 k a))
        have w9 : WV n W2 e2 M9 := w7.cong (by rw [g9 30 (by omega), g8 30 (by omega) (by omega)]) (by rw [g9 31 (by omega), g8 31 (by omega) (by omega)]) (by rw [g9 38 (by omega), g8 38 (by omega) (by omega)])
        refine sp_M_many (nn f9) ?_
        have hPm := (hm.2.2 m hm').1
        refine ⟨fun q4 => ?_, fun q4 => ?_⟩
        · have : p = n := by omega
          subst this
          have hPc := isP_cmp h7 hPi hPm
          refine sp_M_rank (t := cmp (e i) (mk m)) h7 (nn f9) (fun a ha => by rw [dg_cmp _ _ (by omega)]; exact hA a ha) ?_
          refine sp_M_meet h1 h7 hPc w9 (fun hin => ?_) (fun hnin M10 w10 g10 => ?_)
          · refine ⟨⟨by omega, by omega⟩, ?_⟩
            intro v hv
            refine ⟨c - (m + 1), by omega, m + 1, W2, e2, by omega, rfl, by omega, hi2, he2, w9, f9, hs2, h02, hc2, fun m' hm2 => ?_⟩
            by_cases q5 : m' = m
            · rw [q5]; exact hin
            · exact hcm m' (by omega)
          · refine ⟨⟨by omega, by omega⟩, ?_⟩
            intro v hv
            refine ⟨c - (m + 1), by omega, m + 1, W2 + 1, _, by omega, rfl, by omega, by omega, by rw [eX_lt hi2]; exact he2, w10, f9.tr g10, fun j hj2 => ?_, Ls_X.mpr (Or.inl h02), fun j hj2 m' hm2 => ?_, fun m' hm2 => ?_⟩
            · by_cases q5 : j = W2
              · rw [q5, eX_at]; exact Cl_step (by rw [← he2]; exact hs2 i hi2) ⟨m, hm', rfl⟩
              · rw [eX_lt (by omega)]; exact hs2 j (by omega)
            · rw [eX_lt (by omega)]; exact Ls_X.mpr (Or.inl (hc2 j hj2 m' hm2))
            · by_cases q5 : m' = m
              · rw [q5]; exact Ls_X.mpr (Or.inr rfl)
              · exact Ls_X.mpr (Or.inl (hcm m' (by omega)))
        · have hpn : p < n := by omega
          have hdp := hPi.2.1 p hpn
          have mk9 := mm f9
          refine ⟨⟨by omega, by omega⟩, ⟨by omega, by omega⟩, ?_⟩
          intro z19 hz19
          rw [Int.toNat_natCast, hB p (Nat.le_refl p) hpn] at hz19
          rw [hz19]
          refine ⟨⟨by omega, by omega⟩, ⟨by omega, by omega⟩, ?_⟩
          intro z22 hz22
          rw [show (7 * (m : Int) + (dg (e i) p : Int)).toNat = 7 * m + dg (e i) p by omega, (mk9.2.2 m hm').2 _ hdp] at hz22
          refine ⟨⟨by omega, by omega⟩, ?_⟩
          intro M10 e10
          rw [Int.toNat_natCast, hz22] at e10
          refine ⟨⟨by omega, by omega⟩, ?_⟩
          intro v hv
          refine ⟨n - (p + 1), by omega, p + 1, by omega, rfl, by omega, fun a ha => ?_, fun a ha ha2 => by rw [e10, ms_ne _ _ (by omega)]; exact hB a (by omega) ha2, fun k hk => by rw [e10, ms_o _ _ _ hk]; exact g9 k hk⟩
          rw [e10]
          by_cases q5 : a = p
          · rw [q5, ms_self]
          · rw [ms_ne _ _ q5]; exact hA a (by omega)
  · refine ⟨⟨by omega, by omega⟩, ⟨by omega, by omega⟩, ?_⟩
    intro M6 e6
    rw [show (6 + (r : Int)).toNat = 6 + r by omega] at e6
    refine ⟨⟨by omega, by omega⟩, ?_⟩
    intro v hv
    refine ⟨5040 - (r + 1), by omega, r + 1, by omega, rfl, by omega, fun i hi => ?_, fun j hj6 => by rw [e6, ms_ne _ _ (by omega)]; exact hj j hj6, fun k hk => by rw [e6, ms_o _ _ _ hk]; exact fr k hk⟩
    rw [e6]
    by_cases q2 : i = r
    · rw [q2, ms_self]
    · rw [ms_ne _ _ (by omega)]; exact hz i (by omega)
