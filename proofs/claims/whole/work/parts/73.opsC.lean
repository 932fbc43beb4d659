/-! ===== images ===== -/
theorem SR.cong {c : Cfg} {f f' : Nat → Int} (h : SR c f) (e : ∀ i, i < 5046 → f' i = f i) : SR c f' :=
  ⟨by rw [e 0 (by omega)]; exact h.1, by rw [e 1 (by omega)]; exact h.2.1, fun j hj => by rw [e (2 + j) (by omega)]; exact h.2.2.1 j hj, fun r hr => by rw [e (6 + r) (by omega)]; exact h.2.2.2 r hr⟩
theorem or_bit : ∀ b0, b0 ≤ 1 → ∀ b1, b1 ≤ 1 → (b0 + 2 * b1 ||| 2 ^ 0) = 1 + 2 * b1 ∧ (b0 + 2 * b1 ||| 2 ^ 1) = b0 + 2 * 1 := by decide
theorem get_bit : ∀ b0, b0 ≤ 1 → ∀ b1, b1 ≤ 1 → (b0 + 2 * b1) / 2 ^ 0 % 2 = b0 ∧ (b0 + 2 * b1) / 2 ^ 1 % 2 = b1 := by decide
theorem ok_image : op_image Inv := by
  intro M hM hInv a1 _
  obtain ⟨c, hV, hC, hL, hP, hI⟩ := id hInv
  unfold wp_T_image wp_M_image
  by_cases q : 0 ≤ a1 ∧ a1 ≤ 1
  · refine wt_in_1 q ⟨fun _ => ⟨⟨by omega, by omega⟩, ?_⟩, fun q2 => absurd q2 (by decide)⟩
    obtain ⟨k, hk⟩ : ∃ k : Nat, a1 = (k : Int) := ⟨a1.toNat, by omega⟩
    have hk1 : k ≤ 1 := by omega
    rw [hk, Int.toNat_natCast]
    refine sp_S_copyFrom (c := c) (fun i j hi hj => by omega) hC.1 ?_
    intro M3 s3 f3
    intro M4 e4
    obtain ⟨b0, b1, i1, i2, i3, i4, i5, i6, i7⟩ := hI
    have m0 : M3 0 = M 0 := f3 0 (fun i hi => by omega)
    have hp2 : 2 ^ k ≤ 2 := by rcases (show k = 0 ∨ k = 1 by omega) with e | e <;> rw [e] <;> decide
    rw [m0, i3, bShl1 (by omega), nat_bOr (by omega) (by omega)] at e4
    have k4 : ∀ w, w ≠ 0 → (∀ i, i ≤ 5 → w ≠ 18 + 6 * k + i) → M4 w = M w := fun w hw hw2 => by rw [e4, ms_o _ _ _ hw]; exact f3 w hw2
    have s4 : SC c (18 + 6 * k) M4 := s3.cong (fun i hi => by rw [e4, ms_o _ _ _ (by omega)])
    refine wp_in_1 (by omega) ⟨fun _ => ?_, fun q2 => absurd q2 (by decide)⟩
    refine ⟨fun t x M5 => ∃ j : Nat, j ≤ 5046 ∧ t = 5046 - j ∧ x = (j : Int) ∧ (∀ i, i < j → M5 32 (5046 * k + i) = M 31 i) ∧ (∀ b, (∀ i, i < 5046 → b ≠ 5046 * k + i) → M5 32 b = M 32 b) ∧ (∀ w, w ≠ 32 → M5 w = M4 w), ⟨5046, 0, by omega, rfl, rfl, fun i hi => by omega, fun b _ => by rw [k4 32 (by omega) (fun i hi => by omega)], fun _ _ => rfl⟩, ?_⟩
    rintro t x M5 ⟨j, hj, rfl, rfl, hcp, hot, f5⟩
    refine ⟨fun q2 => ?_, fun q2 => ?_⟩
    · have hj5 : j = 5046 := by omega
      subst hj5
      refine ⟨⟨by omega, by omega⟩, ?_⟩
      intro M6 e6
      have k6 : ∀ w, w ≠ 0 → w ≠ 32 → w ≠ 33 → (∀ i, i ≤ 5 → w ≠ 18 + 6 * k + i) → M6 w = M w := fun w w0 w32 w33 hw => by rw [e6, ms_o _ _ _ w33, f5 w w32]; exact k4 w w0 hw
      have m32 : M6 32 = M5 32 := by rw [e6, ms_o _ _ _ (by omega)]
      have m0' : M6 0 2 = ((b0 + 2 * b1 ||| 2 ^ k : Nat) : Int) := by rw [e6, ms_o _ _ _ (by omega), f5 0 (by omega), e4, ms_self]
      have s6 : IMk k M6 := ⟨c, hV, s4.cong (fun i hi => by rw [e6, ms_o _ _ _ (by omega), f5 _ (by omega)]), hL.1.cong (fun i hi => by show M6 32 (5046 * k + i) = M 31 i; rw [m32]; exact hcp i hi)⟩
      have m33 : M5 33 = M 33 := by rw [f5 33 (by omega)]; exact k4 33 (by omega) (fun i hi => by omega)
      have other : ∀ l, l ≤ 1 → l ≠ k → IMk l M → IMk l M6 := by
        intro l hl hlk ⟨c', V', S', R'⟩
        refine ⟨c', V', S'.cong (fun i hi => k6 _ (by omega) (by omega) (by omega) (fun i' hi' => by omega)), R'.cong (fun i hi => ?_)⟩
        show M6 32 (5046 * l + i) = M 32 (5046 * l + i)
        rw [m32]
        exact hot _ (fun i' hi' => by omega)
      refine ⟨rfl, c, hV, hC.cong (fun w a b => k6 w (by omega) (by omega) (by omega) (fun i hi => by omega)), hL.cong (k6 31 (by omega) (by omega) (by omega) (fun i hi => by omega)) (by rw [k6 30 (by omega) (by omega) (by omega) (fun i hi => by omega)]) (k6 39 (by omega) (by omega) (by omega) (fun i hi => by omega)), hP.cong (by rw [k6 2 (by omega) (by omega) (by omega) (fun i hi => by omega)]) (k6 3 (by omega) (by omega) (by omega) (fun i hi => by omega)) (by rw [k6 30 (by omega) (by omega) (by omega) (fun i hi => by omega)]) (k6 34 (by omega) (by omega) (by omega) (fun i hi => by omega)), ?_⟩
      obtain ⟨o1, o2⟩ := or_bit b0 i1 b1 i2
      rcases (show k = 0 ∨ k = 1 by omega) with e | e
      · subst e
        exact ⟨1, b1, by omega, i2, by rw [m0', o1], by rw [e6, ms_self]; rfl, by rw [e6, ms_ne _ _ (by omega), m33]; exact i5, fun _ => s6, fun w => other 1 (by omega) (by omega) (i7 w)⟩
      · subst e
        exact ⟨b0, 1, i1, by omega, by rw [m0', o2], by rw [e6, ms_ne _ _ (by omega), m33]; exact i4, by rw [e6, ms_self]; rfl, fun w => other 0 (by omega) (by omega) (i6 w), fun _ => s6⟩
    · refine ⟨⟨by omega, by omega⟩, ⟨by omega, by omega⟩, ⟨by omega, by omega⟩, ?_⟩
      intro z8 hz8
      rw [Int.toNat_natCast, f5 31 (by omega), k4 31 (by omega) (fun i hi => by omega)] at hz8
      refine ⟨⟨by omega, by omega⟩, ?_⟩
      intro M10 e10
      rw [show (5046 * (k : Int) + (j : Int)).toNat = 5046 * k + j by omega] at e10
      refine ⟨⟨by omega, by omega⟩, ?_⟩
      intro v hv
      refine ⟨5046 - (j + 1), by omega, j + 1, by omega, rfl, by omega, fun i hi => ?_, fun b hb => by rw [e10, ms_ne _ _ (hb j (by omega))]; exact hot b hb, fun w hw => by rw [e10, ms_o _ _ _ hw]; exact f5 w hw⟩
      rw [e10]
      by_cases q3 : i = j
      · rw [q3, ms_self]; exact hz8
      · rw [ms_ne _ _ (by omega)]; exact hcp i (by omega)
  · exact wt_in_0 q ⟨fun q2 => absurd rfl q2, fun _ => wp_in_0 q ⟨fun q2 => absurd rfl q2, fun _ => ⟨rfl, hInv⟩⟩⟩
theorem ok_restore : op_restore Inv := by
  intro M hM hInv a1 _
  obtain ⟨c, hV, hC, hL, hP, hI⟩ := id hInv
  unfold wp_T_restore wp_M_restore
  by_cases q : 0 ≤ a1 ∧ a1 ≤ 1
  · refine wt_in_1 q ⟨fun _ => ?_, fun q2 => absurd q2 (by decide)⟩
    obtain ⟨k, hk⟩ : ∃ k : Nat, a1 = (k : Int) := ⟨a1.toNat, by omega⟩
    have hk1 : k ≤ 1 := by omega
    obtain ⟨b0, b1, i1, i2, i3, i4, i5, i6, i7⟩ := id hI
    rw [hk, i3, nat_bit (by omega) (by omega)]
    obtain ⟨b, hb1, hbit, h33, him⟩ : ∃ b : Nat, b ≤ 1 ∧ (b0 + 2 * b1) / 2 ^ k % 2 = b ∧ M 33 k = (b : Int) ∧ (b = 1 → IMk k M) := by
      obtain ⟨o1, o2⟩ := get_bit b0 i1 b1 i2
      rcases (show k = 0 ∨ k = 1 by omega) with e | e
      · subst e; exact ⟨b0, i1, o1, i4, i6⟩
      · subst e; exact ⟨b1, i2, o2, i5, i7⟩
    rw [hbit]
    refine ⟨fun q2 => ⟨⟨by omega, by omega⟩, ?_⟩, fun q2 => ?_⟩
    · obtain ⟨c', V', S', R'⟩ := him (by omega)
      rw [Int.toNat_natCast]
      refine sp_S_copyFrom (c := c') (fun i j hi hj => by omega) S' ?_
      intro M4 s4 f4
      unfold wp_T_forgetGroup
      intro M5 e5 M6 e6
      obtain ⟨hC6, k6⟩ := CL_forget s4 e5 e6
      have k6' : ∀ w, w ≤ 3 ∨ 18 ≤ w → M6 w = M w := fun w hw => by rw [k6 w (by omega) (by omega)]; exact f4 w (fun i hi => by omega)
      refine wp_in_1 (by omega) ⟨fun _ => ⟨⟨by omega, by omega⟩, ?_⟩, fun q3 => absurd q3 (by decide)⟩
      intro z3 hz3
      rw [k6' 33 (by omega), h33] at hz3
      refine ⟨fun q3 => ?_, fun q3 => absurd q3 (by omega)⟩
      refine ⟨fun t x M7 => ∃ j : Nat, j ≤ 5046 ∧ t = 5046 - j ∧ x = (j : Int) ∧ (∀ i, i < j → M7 31 i = M 32 (5046 * k + i)) ∧ (∀ w, w ≠ 31 → M7 w = M6 w), ⟨5046, 0, by omega, rfl, rfl, fun i hi => by omega, fun _ _ => rfl⟩, ?_⟩
      rintro t x M7 ⟨j, hj, rfl, rfl, hcp, f7⟩
      refine ⟨fun q4 => ?_, fun q4 => ?_⟩
      · have hj5 : j = 5046 := by omega
        subst hj5
        have R7 : SR c' (M7 31) := R'.cong (fun i hi => hcp i hi)
        refine sp_M_layTurns (G := c'.2.2.2) V'.1 V'.2.1 R7.1 V'.2.2.2.2.2.1 R7.2.2.2 ?_
        intro M8 t8 f8 j8
        have k8 : ∀ w, w ≠ 30 → w ≠ 31 → w ≠ 35 → w ≠ 36 → w ≠ 39 → M8 w = M6 w := fun w a b c d e => by rw [f8 w a c d e, f7 w b]
        obtain ⟨p8, r8⟩ := keep (M8 := M8) k6' (fun w hw => k8 w (by omega) (by omega) (by omega) (by omega) (by omega)) (k8 32 (by omega) (by omega) (by omega) (by omega) (by omega)) (k8 33 (by omega) (by omega) (by omega) (by omega) (by omega)) (k8 34 (by omega) (by omega) (by omega) (by omega) (by omega)) (by rw [j8 4 (by omega), f7 30 (by omega)]) hP hI
        exact ⟨rfl, c', V', hC6.cong (fun w _ hw => k8 w (by omega) (by omega) (by omega) (by omega) (by omega)), ⟨by rw [f8 31 (by omega) (by omega) (by omega) (by omega)]; exact R7, t8⟩, p8, r8⟩
      · refine ⟨⟨by omega, by omega⟩, ⟨by omega, by omega⟩, ⟨by omega, by omega⟩, ?_⟩
        intro z10 hz10
        rw [show (5046 * (k : Int) + (j : Int)).toNat = 5046 * k + j by omega, f7 32 (by omega), k6' 32 (by omega)] at hz10
        refine ⟨⟨by omega, by omega⟩, ?_⟩
        intro M12 e12
        rw [Int.toNat_natCast] at e12
        refine ⟨⟨by omega, by omega⟩, ?_⟩
        intro v hv
        refine ⟨5046 - (j + 1), by omega, j + 1, by omega, rfl, by omega, fun i hi => ?_, fun w hw => by rw [e12, ms_o _ _ _ hw]; exact f7 w hw⟩
        rw [e12]
        by_cases q5 : i = j
        · rw [q5, ms_self]; exact hz10
        · rw [ms_ne _ _ q5]; exact hcp i (by omega)
    · refine wp_in_1 (by omega) ⟨fun _ => ⟨⟨by omega, by omega⟩, ?_⟩, fun q3 => absurd q3 (by decide)⟩
      intro z3 hz3
      rw [Int.toNat_natCast, h33] at hz3
      exact ⟨fun q3 => absurd (by omega) q3, fun _ => ⟨rfl, hInv⟩⟩
  · exact wt_in_0 q ⟨fun q2 => absurd rfl q2, fun _ => wp_in_0 q ⟨fun q2 => absurd rfl q2, fun _ => ⟨rfl, hInv⟩⟩⟩
