/-! ===== the class's table of patterns ===== -/
theorem term_le (f : Nat → Nat) {i n : Nat} (h : i < n) : smF f i + f i ≤ smF f n := smF_mono f (show i + 1 ≤ n by omega)
theorem sp_P_turned {n s c t : Nat} {M : Mm} {post : Int → Prop} (h7 : n ≤ 7) (h1 : 1 ≤ s) (h4 : s ≤ 4) (hn : M 7 4 = (n : Int)) (hs : M 7 5 = (s : Int)) (hp : ∀ p, p < n → M 11 p = ((s ^ (n - 1 - p) : Nat) : Int)) (ht : isP n t) (h : post (act n s c t : Int)) : wp_P_turned (c : Int) (t : Int) M post := by
  have hsn := sn_le h7 h4
  have hal := act_lt (c := c) h7 h1 ht
  have e0 : act n s c t = smF (fun j => cf s c j * s ^ (n - 1 - dg t (n - 1 - j))) n := by
    unfold act
    rw [← smF_rev]
    refine smF_cong fun k hk => ?_
    rw [show n - 1 - (n - 1 - k) = k by omega]
  have ht7 : t < 2097152 := (ht.to7 h7).1
  unfold wp_P_turned
  rw [hn, hs]
  refine ⟨fun _ => ?_, fun q => absurd (show (1 : Int) ≤ (s : Int) by omega) q⟩
  refine ⟨⟨by omega, by omega⟩, ?_⟩
  intro v hv
  rw [hv]
  refine ⟨fun k x y z => ∃ j : Nat, j ≤ n ∧ k = n - j ∧ z = (n : Int) - 1 - (j : Int) ∧ x = ((c / s ^ j : Nat) : Int) ∧ y = (smF (fun j => cf s c j * s ^ (n - 1 - dg t (n - 1 - j))) j : Int), ⟨n, 0, by omega, rfl, by omega, by simp, rfl⟩, ?_⟩
  rintro k x y z ⟨j, hj, rfl, rfl, rfl, rfl⟩
  refine ⟨fun q => ?_, fun q => ?_⟩
  · have : j = n := by omega
    subst this
    rw [← e0]; exact h
  · have hj' : j < n := by omega
    refine ⟨⟨Int.natCast_nonneg _, by omega⟩, ?_⟩
    rw [show (n : Int) - 1 - (j : Int) = ((n - 1 - j : Nat) : Int) by omega]
    refine sp_goal ht7 (by omega) ?_
    have hd := ht.2.1 (n - 1 - j) (by omega)
    refine ⟨⟨by omega, by omega⟩, ?_⟩
    intro z5 hz5
    rw [Int.toNat_natCast, hp _ hd] at hz5
    have hle := term_le (fun j => cf s c j * s ^ (n - 1 - dg t (n - 1 - j))) hj'
    have e2 : ((c / s ^ j : Nat) : Int) % (s : Int) * z5 = ((cf s c j * s ^ (n - 1 - dg t (n - 1 - j)) : Nat) : Int) := by rw [hz5]; rfl
    rw [e2]
    refine ⟨⟨by omega, by omega⟩, ⟨by omega, by omega⟩, ?_⟩
    intro v4 hv4
    refine ⟨⟨Int.natCast_nonneg _, by omega⟩, ?_⟩
    intro v3 hv3
    refine ⟨⟨by omega, by omega⟩, ?_⟩
    intro v5 hv5
    refine ⟨n - (j + 1), by omega, j + 1, by omega, rfl, by omega, ?_, ?_⟩
    · rw [hv3, ← div_pow_s]; rfl
    · rw [hv4, smF]; omega
theorem sp_P_setPlaces {u n s : Nat} {M : Mm} {post : Mm → Prop} (hu : 12 ≤ u) (h7 : n ≤ 7) (h1 : 1 ≤ n) (h4 : s ≤ 4) (hn : M u 0 = (n : Int)) (hs : M u 1 = (s : Int))
    (h : ∀ M' : Mm, M' 7 4 = (n : Int) → M' 7 5 = (s : Int) → (∀ p, p < n → M' 11 p = ((s ^ (n - 1 - p) : Nat) : Int)) → (∀ j, j ≠ 4 → j ≠ 5 → M' 7 j = M 7 j) → (∀ k, k ≠ 7 → k ≠ 11 → M' k = M k) → post M') : wp_P_setPlaces u M post := by
  unfold wp_P_setPlaces
  intro z1 hz1 M1 e1 M2 e2
  have b1 : M1 u = M u := by rw [e1]; exact ms_o M _ _ (by omega)
  rw [hn, if_neg (show ¬ (7 : Int) < (n : Int) by omega)] at hz1
  rw [hz1] at e1
  rw [b1, hs] at e2
  have c4 : M2 7 4 = (n : Int) := by rw [e2, ms_ne _ _ (by omega), e1, ms_self]
  have c5 : M2 7 5 = (s : Int) := by rw [e2, ms_self]
  have cj : ∀ j, j ≠ 4 → j ≠ 5 → M2 7 j = M 7 j := fun j j4 j5 => by rw [e2, ms_ne _ _ j5, e1, ms_ne _ _ j4]
  have ck : ∀ k, k ≠ 7 → M2 k = M k := fun k hk => by rw [e2, ms_o _ _ _ hk, e1, ms_o _ _ _ hk]
  rw [c4]
  refine ⟨⟨by omega, by omega⟩, ?_⟩
  intro v hv
  rw [hv]
  refine ⟨fun t x y M5 => ∃ j : Nat, j ≤ n ∧ t = n - j ∧ y = (n : Int) - 1 - (j : Int) ∧ x = ((s ^ j : Nat) : Int) ∧ (∀ p, n ≤ p + j → p < n → M5 11 p = ((s ^ (n - 1 - p) : Nat) : Int)) ∧ (∀ k, k ≠ 11 → M5 k = M2 k), ⟨n, 0, by omega, rfl, by omega, rfl, fun p a b => by omega, fun _ _ => rfl⟩, ?_⟩
  rintro t x y M5 ⟨j, hj, rfl, rfl, rfl, hp, fr⟩
  refine ⟨fun q => ?_, fun q => ?_⟩
  · have : j = n := by omega
    subst this
    have f7 := fr 7 (by omega)
    exact h M5 (by rw [f7]; exact c4) (by rw [f7]; exact c5) (fun p hpn => hp p (by omega) hpn) (fun i i4 i5 => by rw [f7]; exact cj i i4 i5) (fun k k7 k11 => by rw [fr k k11]; exact ck k k7)
  · have ht : ((n : Int) - 1 - (j : Int)).toNat = n - 1 - j := by omega
    refine ⟨⟨by omega, by omega⟩, ?_⟩
    intro M6 h6
    rw [ht] at h6
    have f7 : M6 7 5 = (s : Int) := by rw [h6, ms_o _ _ _ (by omega), fr 7 (by omega)]; exact c5
    rw [f7, show ((s ^ j : Nat) : Int) * (s : Int) = ((s ^ (j + 1) : Nat) : Int) by rw [Nat.pow_succ]; rfl]
    have hb := sn_le (show j + 1 ≤ 7 by omega) h4
    refine ⟨⟨by omega, by omega⟩, ?_⟩
    intro w hw
    refine ⟨⟨by omega, by omega⟩, ?_⟩
    intro w2 hw2
    refine ⟨n - (j + 1), by omega, j + 1, by omega, rfl, by omega, hw, fun p a b => ?_, fun k hk => ?_⟩
    · rw [h6]
      by_cases q2 : p = n - 1 - j
      · rw [q2, ms_self, show n - 1 - (n - 1 - j) = j by omega]
      · rw [ms_ne _ _ q2]; exact hp p (by omega) b
    · rw [h6, ms_o _ _ _ hk]; exact fr k hk
def GI (Rx : Nat → Prop) (Q A F x : Nat) (M0 : Mm) (F' : Nat) (M : Mm) : Prop :=
  M 7 6 = (F' : Int) ∧ (∀ j, j ≠ 6 → M 7 j = M0 7 j) ∧ F ≤ F' ∧ ctB (fun c => decide (0 ≤ M 8 c)) Q = F' ∧ F + ctB (fun c => decide (M 8 c = (A : Int))) Q = F' ∧ (∀ i, F ≤ i → i < F' → ∃ d : Nat, M 9 i = (d : Int) ∧ Rx d ∧ M 8 d = (A : Int)) ∧ (∀ c, c < Q → (M 8 c = (A : Int) ∧ Rx c ∧ ∃ i, F ≤ i ∧ i < F' ∧ M 9 i = (c : Int)) ∨ (M 8 c = M0 8 c ∧ ¬ M0 8 c = (A : Int))) ∧ (F < F' → M 9 F = (x : Int)) ∧ (∀ i, i < F → M 9 i = M0 9 i) ∧ (∀ k, k ≠ 7 → k ≠ 8 → k ≠ 9 → M k = M0 k)
theorem sp_gput {Rx : Nat → Prop} {Q A F x F' r : Nat} {M0 M : Mm} {post : Mm → Prop} (hQ : Q ≤ 16384) (hA : M0 7 7 = (A : Int)) (hG : GI Rx Q A F x M0 F' M) (hr : r < Q) (hR : Rx r) (hv : M 8 r = -6) (hx : F' = F → r = x)
    (h : ∀ M' : Mm, GI Rx Q A F x M0 (F' + 1) M' → (∀ c, M 8 c = (A : Int) → M' 8 c = (A : Int)) → M' 8 r = (A : Int) → (∀ i, i < F' → M' 9 i = M 9 i) → post M') : wp_P_put (r : Int) M post := by
  obtain ⟨g1, g2, g3, g4, g5, g6, g7, g8, g9, g10⟩ := hG
  have hF : F' < Q := by
    have h2 := ctB_upd (p := fun c => decide (0 ≤ M 8 c)) (q := fun c => decide (0 ≤ M 8 c) || decide (c = r)) (r := r) (by show decide (0 ≤ M 8 r) = false; rw [hv]; rfl) (by simp) (fun c hc => by simp [hc]) Q
    rw [g4, if_pos hr] at h2
    have := ctB_le (fun c => decide (0 ≤ M 8 c) || decide (c = r)) Q
    omega
  have a7 : M 7 7 = (A : Int) := by rw [g2 7 (by omega)]; exact hA
  unfold wp_P_put
  refine wt_in_1 ⟨by omega, by omega⟩ ⟨fun q => absurd q (by decide), fun _ => ⟨⟨by omega, by omega⟩, ?_⟩⟩
  intro z3 hz3
  rw [Int.toNat_natCast, hv] at hz3
  refine ⟨fun q => absurd hz3 q, fun _ => ⟨fun q => absurd q (by rw [g1]; omega), fun _ => ?_⟩⟩
  rw [a7, Int.toNat_natCast]
  refine ⟨⟨by omega, by omega⟩, ?_⟩
  intro M2 e2
  have b7 : M2 7 = M 7 := by rw [e2]; exact ms_o M _ _ (by omega)
  rw [b7, g1, Int.toNat_natCast]
  refine ⟨⟨by omega, by omega⟩, ?_⟩
  intro M4 e4
  have d7 : M4 7 = M 7 := by rw [e4, ms_o _ _ _ (by omega)]; exact b7
  rw [d7, g1]
  refine ⟨⟨by omega, by omega⟩, ?_⟩
  intro M6 e6
  have r8 : ∀ c, c ≠ r → M6 8 c = M 8 c := fun c hc => by rw [e6, ms_o _ _ _ (by omega), e4, ms_o _ _ _ (by omega), e2, ms_ne _ _ hc]
  have r8' : M6 8 r = (A : Int) := by rw [e6, ms_o _ _ _ (by omega), e4, ms_o _ _ _ (by omega), e2, ms_self]
  have r9 : ∀ i, i ≠ F' → M6 9 i = M 9 i := fun i hi => by rw [e6, ms_o _ _ _ (by omega), e4, ms_ne _ _ hi, e2, ms_o _ _ _ (by omega)]
  have r9' : M6 9 F' = (r : Int) := by rw [e6, ms_o _ _ _ (by omega), e4, ms_self]
  have r7 : ∀ j, j ≠ 6 → M6 7 j = M 7 j := fun j hj => by rw [e6, ms_ne _ _ hj, d7]
  have mono : ∀ c, M 8 c = (A : Int) → M6 8 c = (A : Int) := fun c hc => by
    by_cases q : c = r
    · rw [q]; exact r8'
    · rw [r8 c q]; exact hc
  refine h M6 ⟨by rw [e6, ms_self]; omega, fun j hj => (r7 j hj).trans (g2 j hj), by omega, ?_, ?_, fun i h1 h2 => ?_, fun c hc => ?_, fun _ => ?_, fun i hi => ?_, fun k k7 k8 k9 => ?_⟩ mono r8' (fun i hi => r9 i (by omega))
  · have h2 := ctB_upd (p := fun c => decide (0 ≤ M 8 c)) (q := fun c => decide (0 ≤ M6 8 c)) (r := r) (by show decide (0 ≤ M 8 r) = false; rw [hv]; rfl) (by show decide (0 ≤ M6 8 r) = true; rw [r8']; exact decide_eq_true (by omega)) (fun c hc => by show decide _ = decide _; rw [r8 c hc]) Q
    rw [g4, if_pos hr] at h2
    exact h2
  · have h2 := ctB_upd (p := fun c => decide (M 8 c = (A : Int))) (q := fun c => decide (M6 8 c = (A : Int))) (r := r) (by show decide (M 8 r = (A : Int)) = false; rw [hv]; exact decide_eq_false (by omega)) (by show decide (M6 8 r = (A : Int)) = true; rw [r8']; exact decide_eq_true rfl) (fun c hc => by show decide _ = decide _; rw [r8 c hc]) Q
    rw [if_pos hr] at h2
    omega
  · by_cases q : i = F'
    · exact ⟨r, by rw [q]; exact r9', hR, r8'⟩
    · obtain ⟨d, d1, d2, d3⟩ := g6 i h1 (by omega)
      exact ⟨d, by rw [r9 i q]; exact d1, d2, mono d d3⟩
  · by_cases q : c = r
    · rw [q]; exact Or.inl ⟨r8', hR, F', g3, by omega, r9'⟩
    · rw [r8 c q]
      rcases g7 c hc with ⟨c1, c2, i, i1, i2, i3⟩ | c1
      · exact Or.inl ⟨c1, c2, i, i1, by omega, by rw [r9 i (by omega)]; exact i3⟩
      · exact Or.inr c1
  · by_cases q : F = F'
    · rw [q, r9', hx q.symm]
    · rw [r9 F q]; exact g8 (by omega)
  · rw [r9 i (by omega)]; exact g9 i hi
  · rw [e6, ms_o _ _ _ k7, e4, ms_o _ _ _ k9, e2, ms_o _ _ _ k8]; exact g10 k k7 k8 k9
theorem sp_gskip {r : Nat} {M : Mm} {post : Mm → Prop} (hr : r < 16384) (hv : ¬ M 8 r = -6) (hp : post M) : wp_P_put (r : Int) M post := by
  unfold wp_P_put
  refine wt_in_1 ⟨by omega, by omega⟩ ⟨fun q => absurd q (by decide), fun _ => ⟨⟨by omega, by omega⟩, ?_⟩⟩
  intro z3 hz3
  rw [Int.toNat_natCast] at hz3
  exact ⟨fun _ => hp, fun q => absurd (hz3.symm.trans q) hv⟩
theorem sp_P_gather {g n s x A F : Nat} {G : Nat → Prop} {M : Mm} {post : Mm → Prop} (h1 : 1 ≤ n) (h7 : n ≤ 7) (s1 : 1 ≤ s) (s4 : s ≤ 4) (hG : isGrp n G) (hg : 12 ≤ g) (hC : GCg n G g M) (hn : M 7 4 = (n : Int)) (hs : M 7 5 = (s : Int)) (hp : ∀ p, p < n → M 11 p = ((s ^ (n - 1 - p) : Nat) : Int)) (hA : M 7 7 = (A : Int)) (hA' : A < 16384) (hF : M 7 6 = (F : Int)) (hFc : ctB (fun c => decide (0 ≤ M 8 c)) (s ^ n) = F) (hv : ∀ c, c < s ^ n → M 8 c < (A : Int)) (hx : x < s ^ n) (hvx : ∀ c, Rel n s G x c → M 8 c = -6)
    (h : ∀ (M' : Mm) (F' : Nat), F < F' → M' 7 7 = ((A + 1 : Nat) : Int) → M' 7 6 = (F' : Int) → (∀ j, j ≠ 6 → j ≠ 7 → M' 7 j = M 7 j) → ctB (fun c => decide (0 ≤ M' 8 c)) (s ^ n) = F' → F + ctB (fun c => decide (M' 8 c = (A : Int))) (s ^ n) = F' → (∀ c, c < s ^ n → (Rel n s G x c ∧ M' 8 c = (A : Int)) ∨ (¬ Rel n s G x c ∧ M' 8 c = M 8 c)) → M' 9 F = (x : Int) → (∀ i, i < F → M' 9 i = M 9 i) → M' 10 (A + 1) = (F' : Int) → (∀ j, j ≠ A + 1 → M' 10 j = M 10 j) → (∀ k, k ≠ 7 → k ≠ 8 → k ≠ 9 → k ≠ 10 → M' k = M k) → post M') : wp_P_gather g (x : Int) M post := by
  have hQ := sn_le h7 s4
  have hE := Rel_E h7 s1 hG
  obtain ⟨N, cc, e, mk, hL, o3, c12, p2, e0, hl, hmk, hgen⟩ := hC
  unfold wp_P_gather
  rw [hA, hF]
  refine ⟨fun _ => ?_, fun q => absurd (show (A : Int) < 16384 by omega) q⟩
  intro vF hvF
  rw [hvF]
  have g0 : GI (Rel n s G x) (s ^ n) A F x M F M := by
    refine ⟨hF, fun _ _ => rfl, Nat.le_refl _, hFc, ?_, fun i a b => by omega, fun c hc => Or.inr ⟨rfl, by have := hv c hc; omega⟩, fun q => by omega, fun _ _ => rfl, fun _ _ _ _ => rfl⟩
    rw [ctB_zero (fun c hc => by show decide _ = false; exact decide_eq_false (by have := hv c hc; omega))]
    rfl
  refine sp_gput hQ hA g0 hx (hE.1 x hx) (hvx x (hE.1 x hx)) (fun _ => rfl) ?_
  intro M3 g3 _ _ _
  have hfr : ∀ {F' : Nat} {M' : Mm}, GI (Rel n s G x) (s ^ n) A F x M F' M' → M' 7 7 = (A : Int) ∧ M' 7 4 = (n : Int) ∧ M' 7 5 = (s : Int) ∧ M' 11 = M 11 ∧ M' g = M g ∧ M' (g + 2) = M (g + 2) ∧ M' 10 = M 10 := by
    intro F' M' hg'
    have q := hg'.2.1
    have k := hg'.2.2.2.2.2.2.2.2.2
    exact ⟨by rw [q 7 (by omega)]; exact hA, by rw [q 4 (by omega)]; exact hn, by rw [q 5 (by omega)]; exact hs, k 11 (by omega) (by omega) (by omega), k g (by omega) (by omega) (by omega), k (g + 2) (by omega) (by omega) (by omega), k 10 (by omega) (by omega) (by omega)⟩
  refine ⟨fun t y M5 => ∃ i F' : Nat, F ≤ i ∧ i ≤ F' ∧ F < F' ∧ t = s ^ n - i ∧ y = (i : Int) ∧ GI (Rel n s G x) (s ^ n) A F x M F' M5 ∧ (∀ k, F ≤ k → k < i → ∀ d : Nat, M5 9 k = (d : Int) → ∀ m, m < cc → M5 8 (act n s d (mk m)) = (A : Int)), ⟨s ^ n - F, F, F + 1, Nat.le_refl F, by omega, by omega, rfl, rfl, g3, fun k a b => by omega⟩, ?_⟩
  rintro t y M5 ⟨i, F', i1, i2, i3, rfl, rfl, g5, cl⟩
  have hFQ : F' ≤ s ^ n := by rw [← g5.2.2.2.1]; exact ctB_le _ _
  obtain ⟨k7, k4, k5, k11, kg, kg2, k10⟩ := hfr g5
  intro K hK
  rw [g5.1]
  refine ⟨fun q => hK ?_, fun q => ⟨fun q2 => absurd q2 (by omega), fun _ => ?_⟩⟩
  · have hi : i = F' := by omega
    subst hi
    rw [k7]
    refine ⟨⟨by omega, by omega⟩, ?_⟩
    intro M7 e7
    have e77 : M7 7 7 = ((A + 1 : Nat) : Int) := by rw [e7, ms_self]; omega
    have e76 : M7 7 6 = (i : Int) := by rw [e7, ms_ne _ _ (by omega)]; exact g5.1
    rw [e77, e76, Int.toNat_natCast]
    refine ⟨⟨by omega, by omega⟩, ?_⟩
    intro M8 e8
    have r8 : M8 8 = M5 8 := by rw [e8, ms_o _ _ _ (by omega), e7]; exact ms_o _ _ _ (by omega)
    have r9 : M8 9 = M5 9 := by rw [e8, ms_o _ _ _ (by omega), e7]; exact ms_o _ _ _ (by omega)
    have r7 : M8 7 = M7 7 := by rw [e8]; exact ms_o _ _ _ (by omega)
    have r10 : ∀ j, j ≠ A + 1 → M8 10 j = M 10 j := fun j hj => by rw [e8, ms_ne _ _ hj, e7, ms_o _ _ _ (by omega), k10]
    obtain ⟨w1, w2, w3, w4, w5, w6, w7, w8, w9, w10⟩ := g5
    have hin : ∀ d : Nat, Rel n s G x d → M5 8 d = (A : Int) := by
      rintro d ⟨y, hy, rfl⟩
      have hP := Cl_ind (P := fun y => isP n y ∧ M5 8 (act n s x y) = (A : Int)) (S := Ls mk cc) ⟨isP_id h7, ?_⟩ ?_ (hgen y hy)
      · exact hP.2
      · rw [act_id h7 s1 hx]
        obtain ⟨d, d1, d2, d3⟩ := w6 F (Nat.le_refl F) i3
        have : d = x := by have := w8 i3; omega
        rw [← this]; exact d3
      · rintro a b ⟨a1, a2⟩ ⟨m, hm, rfl⟩
        have hb := hG.1 _ (hmk m hm).2
        refine ⟨isP_cmp h7 a1 hb, ?_⟩
        rw [← act_act h7 s1 a1 hb]
        rcases w7 _ (act_lt (c := x) h7 s1 a1) with ⟨_, _, k, v1, v2, v3⟩ | ⟨v1, v2⟩
        · exact cl k v1 v2 _ v3 m hm
        · rw [v1] at a2; exact absurd a2 v2
    refine h M8 i i3 (by rw [r7]; exact e77) (by rw [r7]; exact e76) (fun j j6 j7 => by rw [r7, e7, ms_ne _ _ j7, w2 j j6]) (by rw [r8]; exact w4) (by rw [r8]; exact w5) (fun c hc => ?_) (by rw [r9]; exact w8 i3) (fun j hj => by rw [r9, w9 j hj]) (by rw [e8, ms_self]) r10 (fun k q7 q8 q9 q10 => by rw [e8, ms_o _ _ _ q10, e7, ms_o _ _ _ q7, w10 k q7 q8 q9])
    rw [r8]
    by_cases qr : Rel n s G x c
    · exact Or.inl ⟨qr, hin c qr⟩
    · refine Or.inr ⟨qr, ?_⟩
      rcases w7 c hc with ⟨_, v, _⟩ | ⟨v, _⟩
      · exact absurd v qr
      · exact v
  · obtain ⟨d, d1, d2, d3⟩ := g5.2.2.2.2.2.1 i i1 (by omega)
    have hd := hE.2.2.2 _ _ d2
    refine ⟨fun t y M6 => ∃ m F2 : Nat, m ≤ cc ∧ t = cc - m ∧ y = (m : Int) ∧ F' ≤ F2 ∧ GI (Rel n s G x) (s ^ n) A F x M F2 M6 ∧ (∀ k, F ≤ k → k < i → ∀ d : Nat, M6 9 k = (d : Int) → ∀ m, m < cc → M6 8 (act n s d (mk m)) = (A : Int)) ∧ M6 9 i = (d : Int) ∧ (∀ m', m' < m → M6 8 (act n s d (mk m')) = (A : Int)), ⟨cc, 0, F', by omega, rfl, rfl, Nat.le_refl _, g5, cl, d1, fun m' hm => by omega⟩, ?_⟩
    rintro t y M6 ⟨m, F2, m1, rfl, rfl, m2, g6, cl6, d6, cm⟩
    obtain ⟨j7, j4, j5, j11, jg, jg2, j10⟩ := hfr g6
    have hF2 : F2 ≤ s ^ n := by rw [← g6.2.2.2.1]; exact ctB_le _ _
    rw [jg, o3]
    refine ⟨fun q3 => ?_, fun q3 => ?_⟩
    · have : m = cc := by omega
      subst this
      refine ⟨⟨by omega, by omega⟩, ?_⟩
      intro w hw
      refine ⟨s ^ n - (i + 1), by omega, i + 1, F2, by omega, by omega, by omega, rfl, by omega, g6, fun k a b d' hd' m' hm' => ?_⟩
      by_cases q4 : k = i
      · rw [q4] at hd'
        have : d' = d := by omega
        rw [this]; exact cm m' hm'
      · exact cl6 k a (by omega) d' hd' m' hm'
    · have hm : m < cc := by omega
      refine ⟨⟨by omega, by omega⟩, ?_⟩
      intro z14 hz14
      rw [Int.toNat_natCast, d6] at hz14
      refine ⟨⟨by omega, by omega⟩, ?_⟩
      intro z16 hz16
      rw [Int.toNat_natCast, jg2, (hmk m hm).1] at hz16
      rw [hz14, hz16]
      have hP := hG.1 _ (hmk m hm).2
      have hal := act_lt (c := d) h7 s1 hP
      refine sp_P_turned h7 s1 s4 j4 j5 (fun p hpn => by rw [j11]; exact hp p hpn) hP ?_
      have hRr : Rel n s G x (act n s d (mk m)) := d2.tr h7 s1 hG ⟨mk m, (hmk m hm).2, rfl⟩
      by_cases q4 : M6 8 (act n s d (mk m)) = -6
      · refine sp_gput hQ hA g6 hal hRr q4 (fun q5 => by omega) ?_
        intro M8 g8 mono new old
        refine ⟨⟨by omega, by omega⟩, ?_⟩
        intro w hw
        refine ⟨cc - (m + 1), by omega, m + 1, F2 + 1, by omega, rfl, by omega, by omega, g8, fun k a b d' hd' m' hm' => mono _ (cl6 k a b d' (by rw [← old k (by omega)]; exact hd') m' hm'), by rw [old i (by omega)]; exact d6, fun m' hm' => ?_⟩
        by_cases q5 : m' = m
        · rw [q5]; exact new
        · exact mono _ (cm m' (by omega))
      · refine sp_gskip (by omega) q4 ?_
        refine ⟨⟨by omega, by omega⟩, ?_⟩
        intro w hw
        refine ⟨cc - (m + 1), by omega, m + 1, F2, by omega, rfl, by omega, m2, g6, cl6, d6, fun m' hm' => ?_⟩
        by_cases q5 : m' = m
        · rw [q5]
          rcases g6.2.2.2.2.2.2.1 _ hal with ⟨v, _⟩ | ⟨v, _⟩
          · exact v
          · rw [hvx _ hRr] at v
            exact absurd v q4
        · exact cm m' (by omega)
