/-! ===== the reference: the makers of a kind ===== -/
def FrK (M M' : Mm) : Prop := (∀ k, k ≠ 30 → k ≠ 35 → k ≠ 36 → k ≠ 37 → M' k = M k) ∧ (∀ j, j ≠ 8 → M' 30 j = M 30 j)
theorem FrK.rf (M : Mm) : FrK M M := ⟨fun _ _ _ _ _ => rfl, fun _ _ => rfl⟩
theorem FrK.tr {M M1 M2 : Mm} (h1 : FrK M M1) (h2 : FrK M1 M2) : FrK M M2 := ⟨fun k a b c d => (h2.1 k a b c d).trans (h1.1 k a b c d), fun j a => (h2.2 j a).trans (h1.2 j a)⟩
theorem FrK.of {M M' : Mm} (h : ∀ k, k ≠ 35 → M' k = M k) : FrK M M' := ⟨fun k _ a _ _ => h k a, fun j _ => by rw [h 30 (by omega)]⟩
theorem sp_M_bring {n t a w i j : Nat} {M : Mm} {post : Mm → Prop} (h7 : n ≤ 7) (ht : t < 2097152) (hr : RW n t M) (hi : a + w * i + w ≤ n) (hj : a + w * j + w ≤ n) (h : ∀ M' : Mm, RW n (thF t (a + w * i) (a + w * j) w) M' → (∀ k, k ≠ 35 → M' k = M k) → post M') : wp_M_bring (a : Int) (w : Int) (i : Int) (j : Int) M post := by
  unfold wp_M_bring
  rw [show (w : Int) * (i : Int) = ((w * i : Nat) : Int) from rfl, show (w : Int) * (j : Int) = ((w * j : Nat) : Int) from rfl]
  generalize w * i = wi at *
  generalize w * j = wj at *
  refine ⟨fun c x M5 => ∃ q : Nat, q ≤ w ∧ c = w - q ∧ x = (q : Int) ∧ RW n (thF t (a + wi) (a + wj) q) M5 ∧ (∀ k, k ≠ 35 → M5 k = M k), ⟨w, 0, by omega, rfl, rfl, hr, fun _ _ => rfl⟩, ?_⟩
  rintro c x M5 ⟨q, hq, rfl, rfl, hd, fr⟩
  refine ⟨fun e => ?_, fun e => ?_⟩
  · have : q = w := by omega
    subst this
    exact h M5 hd fr
  · refine ⟨⟨by omega, by omega⟩, ⟨by omega, by omega⟩, ⟨by omega, by omega⟩, ⟨by omega, by omega⟩, ⟨by omega, by omega⟩, ⟨by omega, by omega⟩, ⟨by omega, by omega⟩, ?_⟩
    intro M9 e9
    rw [show ((a : Int) + (wi : Int) + (q : Int)).toNat = a + wi + q by omega] at e9
    refine ⟨⟨by omega, by omega⟩, ?_⟩
    intro v hv
    refine ⟨w - (q + 1), by omega, q + 1, by omega, rfl, by omega, fun p hp => ?_, fun k hk => by rw [e9, ms_o _ _ _ hk]; exact fr k hk⟩
    have hlt := thF_lt (t := t) (f := a + wi) (g := a + wj) (w := w) ht (by omega) (by omega) q (by omega)
    rw [thF, dg_setd hlt (by omega) (by omega) (by omega), e9]
    by_cases q2 : p = a + wi + q
    · rw [if_pos q2, q2, ms_self]; omega
    · rw [if_neg q2, ms_ne _ _ q2]; exact hd p hp
theorem mod_next {j b : Nat} (h : j < b) : (j + 1) % b = if j + 1 < b then j + 1 else 0 := by
  by_cases q : j + 1 < b
  · rw [if_pos q, Nat.mod_eq_of_lt q]
  · rw [if_neg q, show j + 1 = b by omega, Nat.mod_self]
theorem in_n {a b w j n : Nat} (h : a + b * w ≤ n) (hj : j < b) : a + w * j + w ≤ n := by
  have h1 : w * (j + 1) ≤ w * b := Nat.mul_le_mul_left w hj
  rw [Nat.mul_add, Nat.mul_one, Nat.mul_comm w b] at h1
  omega
theorem sp_M_addRound {n c a b w : Nat} {mk : Nat → Nat} {M : Mm} {post : Mm → Prop} (h7 : n ≤ 7) (hn : M 31 0 = (n : Int)) (hm : MK n c mk M) (hc : c < 60) (hab : a + b * w ≤ n) (hb : b ≤ 7) (hP : isP n (rdF a b w b)) (h : ∀ M' : Mm, MK n (c + 1) (eX mk c (rdF a b w b)) M' → FrK M M' → post M') : wp_M_addRound (a : Int) (w : Int) (b : Int) M post := by
  unfold wp_M_addRound
  refine sp_M_layStill h7 hn ?_
  intro M1 r1 f1
  refine ⟨fun k x M5 => ∃ j : Nat, j ≤ b ∧ k = b - j ∧ x = (j : Int) ∧ RW n (rdF a b w j) M5 ∧ (∀ k, k ≠ 35 → M5 k = M k), ⟨b, 0, by omega, rfl, rfl, r1, f1⟩, ?_⟩
  rintro k x M5 ⟨j, hj, rfl, rfl, r5, f5⟩
  refine ⟨fun q => ?_, fun q => ?_⟩
  · have : j = b := by omega
    subst this
    refine sp_M_addMaker h7 (by rw [f5 31 (by omega)]; exact hn) (hm.cong (by rw [f5 30 (by omega)]) (f5 37 (by omega))) hc hP r5 ?_
    intro M6 m6 f6 j6
    exact h M6 m6 ((FrK.of f5).tr ⟨fun k k30 _ _ k37 => f6 k k30 k37, j6⟩)
  · have hjb : j < b := by omega
    refine ⟨⟨by omega, by omega⟩, ⟨by omega, by omega⟩, ?_⟩
    rw [show ((j : Int) + 1) % (b : Int) = (((j + 1) % b : Nat) : Int) by rw [show (j : Int) + 1 = ((j + 1 : Nat) : Int) by omega]; rfl]
    have hm2 : (j + 1) % b < b := Nat.mod_lt _ (by omega)
    refine sp_M_bring h7 (rdF_lt (by omega) j (by omega)) r5 (in_n hab hjb) (in_n hab hm2) ?_
    intro M6 r6 f6
    refine ⟨⟨by omega, by omega⟩, ?_⟩
    intro v hv
    refine ⟨b - (j + 1), by omega, j + 1, by omega, rfl, by omega, ?_, fun k hk => by rw [f6 k hk, f5 k hk]⟩
    rw [rdF, ← mod_next hjb, Nat.mul_comm j w, Nat.mul_comm ((j + 1) % b) w]
    exact r6
theorem sp_M_addFlip {n c a b w : Nat} {mk : Nat → Nat} {M : Mm} {post : Mm → Prop} (h7 : n ≤ 7) (hn : M 31 0 = (n : Int)) (hm : MK n c mk M) (hc : c < 60) (hab : a + b * w ≤ n) (hb : b ≤ 7) (hP : isP n (flF a b w b)) (h : ∀ M' : Mm, MK n (c + 1) (eX mk c (flF a b w b)) M' → FrK M M' → post M') : wp_M_addFlip (a : Int) (w : Int) (b : Int) M post := by
  unfold wp_M_addFlip
  refine sp_M_layStill h7 hn ?_
  intro M1 r1 f1
  refine ⟨fun k x M5 => ∃ j : Nat, j ≤ b ∧ k = b - j ∧ x = (j : Int) ∧ RW n (flF a b w j) M5 ∧ (∀ k, k ≠ 35 → M5 k = M k), ⟨b, 0, by omega, rfl, rfl, r1, f1⟩, ?_⟩
  rintro k x M5 ⟨j, hj, rfl, rfl, r5, f5⟩
  refine ⟨fun q => ?_, fun q => ?_⟩
  · have : j = b := by omega
    subst this
    refine sp_M_addMaker h7 (by rw [f5 31 (by omega)]; exact hn) (hm.cong (by rw [f5 30 (by omega)]) (f5 37 (by omega))) hc hP r5 ?_
    intro M6 m6 f6 j6
    exact h M6 m6 ((FrK.of f5).tr ⟨fun k k30 _ _ k37 => f6 k k30 k37, j6⟩)
  · have hjb : j < b := by omega
    refine ⟨⟨by omega, by omega⟩, ⟨by omega, by omega⟩, ?_⟩
    rw [show (b : Int) - 1 - (j : Int) = ((b - 1 - j : Nat) : Int) by omega]
    refine sp_M_bring h7 (flF_lt (by omega) j (by omega)) r5 (in_n hab hjb) (in_n hab (show b - 1 - j < b by omega)) ?_
    intro M6 r6 f6
    refine ⟨⟨by omega, by omega⟩, ?_⟩
    intro v hv
    refine ⟨b - (j + 1), by omega, j + 1, by omega, rfl, by omega, ?_, fun k hk => by rw [f6 k hk, f5 k hk]⟩
    rw [flF, Nat.mul_comm j w, Nat.mul_comm (b - 1 - j) w]
    exact r6
theorem sp_M_addNext {n c a x s w : Nat} {mk : Nat → Nat} {M : Mm} {post : Mm → Prop} (h7 : n ≤ 7) (hn : M 31 0 = (n : Int)) (hm : MK n c mk M) (hc : c < 60) (hab : a + (x + s) * w ≤ n) (hx : x + s ≤ 7) (hP : isP n (rdF (a + w * x) s w s)) (h : ∀ M' : Mm, MK n (c + 1) (eX mk c (rdF (a + w * x) s w s)) M' → FrK M M' → post M') : wp_M_addNext (a : Int) (w : Int) (x : Int) (s : Int) M post := by
  have hab2 : a + w * x + s * w ≤ n := by
    rw [Nat.add_mul, Nat.mul_comm x w] at hab; omega
  unfold wp_M_addNext
  refine sp_M_layStill h7 hn ?_
  intro M1 r1 f1
  refine ⟨fun k y M5 => ∃ j : Nat, j ≤ s ∧ k = s - j ∧ y = (j : Int) ∧ RW n (rdF (a + w * x) s w j) M5 ∧ (∀ k, k ≠ 35 → M5 k = M k), ⟨s, 0, by omega, rfl, rfl, r1, f1⟩, ?_⟩
  rintro k y M5 ⟨j, hj, rfl, rfl, r5, f5⟩
  refine ⟨fun q => ?_, fun q => ?_⟩
  · have : j = s := by omega
    subst this
    refine sp_M_addMaker h7 (by rw [f5 31 (by omega)]; exact hn) (hm.cong (by rw [f5 30 (by omega)]) (f5 37 (by omega))) hc hP r5 ?_
    intro M6 m6 f6 j6
    exact h M6 m6 ((FrK.of f5).tr ⟨fun k k30 _ _ k37 => f6 k k30 k37, j6⟩)
  · have hjb : j < s := by omega
    have hm2 : (j + 1) % s < s := Nat.mod_lt _ (by omega)
    rw [show ((j : Int) + 1) % (s : Int) = (((j + 1) % s : Nat) : Int) by rw [show (j : Int) + 1 = ((j + 1 : Nat) : Int) by omega]; rfl]
    rw [show (x : Int) + (j : Int) = ((x + j : Nat) : Int) by omega, show (x : Int) + (((j + 1) % s : Nat) : Int) = ((x + (j + 1) % s : Nat) : Int) by omega]
    refine ⟨⟨by omega, by omega⟩, ⟨by omega, by omega⟩, ⟨by omega, by omega⟩, ⟨by omega, by omega⟩, ?_⟩
    refine sp_M_bring h7 (rdF_lt (by omega) j (by omega)) r5 (in_n hab (show x + j < x + s by omega)) (in_n hab (show x + (j + 1) % s < x + s by omega)) ?_
    intro M6 r6 f6
    refine ⟨⟨by omega, by omega⟩, ?_⟩
    intro v hv
    refine ⟨s - (j + 1), by omega, j + 1, by omega, rfl, by omega, ?_, fun k hk => by rw [f6 k hk, f5 k hk]⟩
    rw [rdF, ← mod_next hjb, Nat.mul_comm j w, Nat.mul_comm ((j + 1) % s) w]
    rw [Nat.mul_add, ← Nat.add_assoc, Nat.mul_add, ← Nat.add_assoc] at r6
    exact r6
theorem mm_next {f : Nat → Nat} {x y : Nat} : y ∈ (List.range (x + 1)).map f ↔ y ∈ (List.range x).map f ∨ y = f x := by
  rw [List.range_succ, List.map_append, List.mem_append]
  simp
theorem sp_M_addKind {n c k a b w : Nat} {mk : Nat → Nat} {M : Mm} {post : Mm → Prop} (h7 : n ≤ 7) (hn : M 31 0 = (n : Int)) (hm : MK n c mk M) (hc : c ≤ 50) (hk : k < 5) (hw : 1 ≤ w) (hw8 : w < 8) (hab : a + b * w ≤ n) (hb : b ≤ 7)
    (h : ∀ (M' : Mm) (c' : Nat) (mk' : Nat → Nat), MK n c' mk' M' → (∀ x, Ls mk' c' x ↔ Ls mk c x ∨ x ∈ kdM k a b w) → c' ≤ c + 6 → FrK M M' → post M') : wp_M_addKind (k : Int) (a : Int) (w : Int) (b : Int) M post := by
  have hPk := (kd_P (n := n) hk hw hw8 hab h7).1
  unfold wp_M_addKind
  refine ⟨fun q => ?_, fun q => ⟨fun q0 => ?_, fun q0 => ?_⟩⟩
  · refine h M c mk hm (fun x => ?_) (by omega) (FrK.rf M)
    have : kdM k a b w = [] := by unfold kdM; rw [if_pos (by omega)]
    rw [this]; simp
  · have hb2 : ¬ b < 2 := by omega
    intro K24 hK24
    rcases (show k = 1 ∨ k = 2 ∨ k = 3 ∨ k = 4 by omega) with e | e | e | e
    · have hkd : kdM k a b w = [rdF a b w b] := by unfold kdM; rw [if_neg hb2, if_pos e]
      rw [hkd] at hPk h
      refine ⟨fun q1 => absurd q1 (by omega), fun _ => ?_⟩
      refine sp_M_addRound h7 hn hm (by omega) hab hb (hPk _ (by simp)) ?_
      intro M1 m1 f1
      refine hK24 _ ?_
      intro K37 hK37
      refine ⟨fun _ => hK37 _ ?_, fun q2 => absurd q2 (by omega)⟩
      intro K47 hK47
      refine ⟨fun _ => hK47 _ ?_, fun q2 => absurd q2 (by omega)⟩
      refine ⟨fun _ x M5 => x = 0 ∧ M5 = M1, ⟨0, rfl, rfl⟩, ?_⟩
      rintro _ x M5 ⟨rfl, rfl⟩
      exact ⟨⟨by omega, by omega⟩, fun q2 => absurd q2 (by omega), fun _ => ⟨fun _ => h _ _ _ m1 (fun x => by rw [Ls_X]; simp) (by omega) f1, fun q2 => absurd q2 (by omega)⟩⟩
    · have hkd : kdM k a b w = [rdF a b w b, flF a b w b] := by unfold kdM; rw [if_neg hb2, if_neg (by omega), if_pos e]
      rw [hkd] at hPk h
      refine ⟨fun q1 => absurd q1 (by omega), fun _ => ?_⟩
      refine sp_M_addRound h7 hn hm (by omega) hab hb (hPk _ (by simp)) ?_
      intro M1 m1 f1
      refine hK24 _ ?_
      intro K37 hK37
      refine ⟨fun q2 => absurd (by omega) q2, fun _ => ?_⟩
      refine sp_M_addFlip h7 (by rw [f1.1 31 (by omega) (by omega) (by omega) (by omega)]; exact hn) m1 (by omega) hab hb (hPk _ (by simp)) ?_
      intro M2 m2 f2
      refine hK37 _ ?_
      intro K47 hK47
      refine ⟨fun _ => hK47 _ ?_, fun q2 => absurd q2 (by omega)⟩
      refine ⟨fun _ x M5 => x = 0 ∧ M5 = M2, ⟨0, rfl, rfl⟩, ?_⟩
      rintro _ x M5 ⟨rfl, rfl⟩
      exact ⟨⟨by omega, by omega⟩, fun q2 => absurd q2 (by omega), fun _ => ⟨fun _ => h _ _ _ m2 (fun x => by rw [Ls_X, Ls_X]; simp [or_assoc]) (by omega) (f1.tr f2), fun q2 => absurd q2 (by omega)⟩⟩
    · have hkd : kdM k a b w = (List.range (b - 2)).map (fun i => rdF (a + w * i) 3 w 3) := by unfold kdM; rw [if_neg hb2, if_neg (by omega), if_neg (by omega), if_pos e]
      rw [hkd] at hPk h
      refine ⟨fun _ => hK24 _ ?_, fun q1 => absurd q1 (by omega)⟩
      intro K37 hK37
      refine ⟨fun _ => hK37 _ ?_, fun q2 => absurd q2 (by omega)⟩
      intro K47 hK47
      refine ⟨fun q2 => absurd (by omega) q2, fun _ => hK47 _ ?_⟩
      refine ⟨fun t y M5 => ∃ (x : Nat) (mk' : Nat → Nat), x + 2 ≤ b ∧ t = b - x ∧ y = (x : Int) ∧ MK n (c + x) mk' M5 ∧ FrK M M5 ∧ (∀ z, Ls mk' (c + x) z ↔ Ls mk c z ∨ z ∈ (List.range x).map (fun i => rdF (a + w * i) 3 w 3)), ⟨b, 0, mk, by omega, rfl, rfl, hm, FrK.rf M, fun z => by simp⟩, ?_⟩
      rintro t y M5 ⟨x, mk', hx, rfl, rfl, m5, f5, hl⟩
      refine ⟨⟨by omega, by omega⟩, fun q2 => ?_, fun q2 => ⟨fun q3 => absurd q3 (by omega), fun _ => ?_⟩⟩
      · have : x = b - 2 := by omega
        rw [this] at hl m5
        exact h _ _ _ m5 hl (by omega) f5
      · have hxw : a + (x + 3) * w ≤ n := Nat.le_trans (Nat.add_le_add_left (Nat.mul_le_mul_right w (by omega)) a) hab
        have hPx := hPk (rdF (a + w * x) 3 w 3) (List.mem_map.mpr ⟨x, List.mem_range.mpr (by omega), rfl⟩)
        refine sp_M_addNext (s := 3) h7 (by rw [f5.1 31 (by omega) (by omega) (by omega) (by omega)]; exact hn) m5 (by omega) hxw (by omega) hPx ?_
        intro M6 m6 f6
        refine ⟨⟨by omega, by omega⟩, ?_⟩
        intro v hv
        exact ⟨b - (x + 1), by omega, x + 1, _, by omega, rfl, by omega, m6, f5.tr f6, fun z => by
          show Ls _ (c + x + 1) z ↔ _
          rw [Ls_X, hl z, mm_next, or_assoc]⟩
    · have hkd : kdM k a b w = (List.range (b - 1)).map (fun i => rdF (a + w * i) 2 w 2) := by unfold kdM; rw [if_neg hb2, if_neg (by omega), if_neg (by omega), if_neg (by omega), if_pos e]
      rw [hkd] at hPk h
      refine ⟨fun _ => hK24 _ ?_, fun q1 => absurd q1 (by omega)⟩
      intro K37 hK37
      refine ⟨fun _ => hK37 _ ?_, fun q2 => absurd q2 (by omega)⟩
      intro K47 hK47
      refine ⟨fun _ => hK47 _ ?_, fun q2 => absurd q2 (by omega)⟩
      refine ⟨fun t y M5 => ∃ (x : Nat) (mk' : Nat → Nat), x + 1 ≤ b ∧ t = b - x ∧ y = (x : Int) ∧ MK n (c + x) mk' M5 ∧ FrK M M5 ∧ (∀ z, Ls mk' (c + x) z ↔ Ls mk c z ∨ z ∈ (List.range x).map (fun i => rdF (a + w * i) 2 w 2)), ⟨b, 0, mk, by omega, rfl, rfl, hm, FrK.rf M, fun z => by simp⟩, ?_⟩
      rintro t y M5 ⟨x, mk', hx, rfl, rfl, m5, f5, hl⟩
      refine ⟨⟨by omega, by omega⟩, fun q2 => ?_, fun q2 => ⟨fun q3 => absurd q3 (by omega), fun _ => ?_⟩⟩
      · have : x = b - 1 := by omega
        rw [this] at hl m5
        exact h _ _ _ m5 hl (by omega) f5
      · have hxw : a + (x + 2) * w ≤ n := Nat.le_trans (Nat.add_le_add_left (Nat.mul_le_mul_right w (by omega)) a) hab
        have hPx := hPk (rdF (a + w * x) 2 w 2) (List.mem_map.mpr ⟨x, List.mem_range.mpr (by omega), rfl⟩)
        refine sp_M_addNext (s := 2) h7 (by rw [f5.1 31 (by omega) (by omega) (by omega) (by omega)]; exact hn) m5 (by omega) hxw (by omega) hPx ?_
        intro M6 m6 f6
        refine ⟨⟨by omega, by omega⟩, ?_⟩
        intro v hv
        exact ⟨b - (x + 1), by omega, x + 1, _, by omega, rfl, by omega, m6, f5.tr f6, fun z => by
          show Ls _ (c + x + 1) z ↔ _
          rw [Ls_X, hl z, mm_next, or_assoc]⟩
  · refine h M c mk hm (fun x => ?_) (by omega) (FrK.rf M)
    have : kdM k a b w = [] := by
      unfold kdM
      by_cases hb2 : b < 2
      · rw [if_pos hb2]
      · rw [if_neg hb2, if_neg (by omega), if_neg (by omega), if_neg (by omega), if_neg (by omega)]
    rw [this]; simp
