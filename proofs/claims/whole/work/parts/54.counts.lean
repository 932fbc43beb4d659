/-! ===== the class's table of patterns: counts ===== -/
def mxB (f : Nat → Nat) : Nat → Nat
  | 0 => 0
  | k + 1 => if mxB f k < f k then f k else mxB f k
theorem mxB_cong {f g : Nat → Nat} : ∀ {n : Nat}, (∀ i, i < n → f i = g i) → mxB f n = mxB g n
  | 0, _ => rfl
  | n + 1, h => by rw [mxB, mxB, mxB_cong (fun i hi => h i (by omega)), h n (by omega)]
theorem ctB_if {p : Nat → Bool} {k : Nat} : (p k = true → ctB p (k + 1) = ctB p k + 1) ∧ (p k = false → ctB p (k + 1) = ctB p k) := by
  refine ⟨fun h => ?_, fun h => ?_⟩
  · rw [ctB, if_pos h]
  · rw [ctB, h]; rfl
theorem sp_P_amountOfWeight {u n s A : Nat} {a1 : Int} {w po lo sz st : Nat → Nat} {M : Mm} {post : Int → Prop} (h7 : n ≤ 7) (h1 : 1 ≤ s) (h4 : s ≤ 4) (hn : M u 0 = (n : Int)) (hs : M u 1 = (s : Int)) (hw : ∀ j, j < 4 → M (u + 1) j = (w j : Int)) (hw9 : ∀ j, j < 4 → w j ≤ 9) (hT : PTV n s A po lo sz st M) (h : post (ctB (fun a => decide ((wtN n s w (lo a) : Int) = a1)) A : Int)) : wp_P_amountOfWeight u a1 M post := by
  have hQ := sn_le h7 h4
  have hA := hT.2.2.2.2.1
  unfold wp_P_amountOfWeight
  rw [hT.2.2.2.1]
  refine ⟨fun t x y => ∃ i : Nat, i ≤ A ∧ t = A - i ∧ y = (i : Int) ∧ x = (ctB (fun a => decide ((wtN n s w (lo a) : Int) = a1)) i : Int), ⟨A, 0, by omega, rfl, rfl, rfl⟩, ?_⟩
  rintro t x y ⟨i, hi, rfl, rfl, rfl⟩
  refine ⟨fun q => ?_, fun q => ?_⟩
  · have : i = A := by omega
    subst this
    exact h
  · have hc := ctB_le (fun a => decide ((wtN n s w (lo a) : Int) = a1)) i
    refine sp_P_leastOf hQ hT (by omega) ?_
    refine sp_weightOf h7 h1 h4 hn hs hw hw9 ?_
    intro K hK
    refine ⟨fun q2 => hK _ ?_, fun q2 => ?_⟩
    · refine ⟨⟨by omega, by omega⟩, ?_⟩
      intro v hv
      exact ⟨A - (i + 1), by omega, i + 1, by omega, rfl, by omega, by rw [ctB_if.2 (decide_eq_false q2)]⟩
    · refine ⟨⟨by omega, by omega⟩, ?_⟩
      intro v3 hv3
      refine hK _ ⟨⟨by omega, by omega⟩, ?_⟩
      intro v hv
      exact ⟨A - (i + 1), by omega, i + 1, by omega, rfl, by omega, by rw [ctB_if.1 (decide_eq_true q2)]; omega⟩
theorem sp_P_amountHanded {u n s A : Nat} {R : Nat → Nat → Prop} {po lo sz st : Nat → Nat} {M : Mm} {post : Int → Prop} (h7 : n ≤ 7) (h1 : 1 ≤ s) (h4 : s ≤ 4) (hn : M u 0 = (n : Int)) (hs : M u 1 = (s : Int)) (hP : PT R (s ^ n) A po lo sz) (hT : PTV n s A po lo sz st M) (h : post (ctB (fun a => decide (¬ po (mirN n s (lo a)) = a)) A : Int)) : wp_P_amountHanded u M post := by
  have hQ := sn_le h7 h4
  have hA := hT.2.2.2.2.1
  unfold wp_P_amountHanded
  rw [hT.2.2.2.1]
  refine ⟨fun t x y => ∃ i : Nat, i ≤ A ∧ t = A - i ∧ y = (i : Int) ∧ x = (ctB (fun a => decide (¬ po (mirN n s (lo a)) = a)) i : Int), ⟨A, 0, by omega, rfl, rfl, rfl⟩, ?_⟩
  rintro t x y ⟨i, hi, rfl, rfl, rfl⟩
  refine ⟨fun q => ?_, fun q => ?_⟩
  · have : i = A := by omega
    subst this
    exact h
  · have hc := ctB_le (fun a => decide (¬ po (mirN n s (lo a)) = a)) i
    refine sp_P_twinOf h7 h1 h4 hn hs hT (by omega) (hP.2.1 i (by omega)).1 ?_
    intro K hK
    refine ⟨fun q2 => hK _ ?_, fun q2 => ?_⟩
    · refine ⟨⟨by omega, by omega⟩, ?_⟩
      intro v hv
      exact ⟨A - (i + 1), by omega, i + 1, by omega, rfl, by omega, by rw [ctB_if.2 (decide_eq_false (by omega))]⟩
    · refine ⟨⟨by omega, by omega⟩, ?_⟩
      intro v3 hv3
      refine hK _ ⟨⟨by omega, by omega⟩, ?_⟩
      intro v hv
      exact ⟨A - (i + 1), by omega, i + 1, by omega, rfl, by omega, by rw [ctB_if.1 (decide_eq_true (by omega))]; omega⟩
theorem sp_P_amountOfAllColours {u n s A : Nat} {po lo sz st : Nat → Nat} {M : Mm} {post : Int → Prop} (h7 : n ≤ 7) (h1 : 1 ≤ s) (h4 : s ≤ 4) (hn : M u 0 = (n : Int)) (hs : M u 1 = (s : Int)) (hT : PTV n s A po lo sz st M) (h : post (ctB (fun a => decide (pc7 (clN n s (lo a)) = s)) A : Int)) : wp_P_amountOfAllColours u M post := by
  have hQ := sn_le h7 h4
  have hA := hT.2.2.2.2.1
  unfold wp_P_amountOfAllColours
  rw [hT.2.2.2.1, hs]
  refine ⟨fun t x y => ∃ i : Nat, i ≤ A ∧ t = A - i ∧ y = (i : Int) ∧ x = (ctB (fun a => decide (pc7 (clN n s (lo a)) = s)) i : Int), ⟨A, 0, by omega, rfl, rfl, rfl⟩, ?_⟩
  rintro t x y ⟨i, hi, rfl, rfl, rfl⟩
  refine ⟨fun q => ?_, fun q => ?_⟩
  · have : i = A := by omega
    subst this
    exact h
  · have hc := ctB_le (fun a => decide (pc7 (clN n s (lo a)) = s)) i
    refine sp_P_leastOf hQ hT (by omega) ?_
    refine sp_coloursOf h7 h1 h4 hn hs ?_
    intro K hK
    refine ⟨fun q2 => hK _ ?_, fun q2 => ?_⟩
    · refine ⟨⟨by omega, by omega⟩, ?_⟩
      intro v hv
      exact ⟨A - (i + 1), by omega, i + 1, by omega, rfl, by omega, by rw [ctB_if.2 (decide_eq_false (by omega))]⟩
    · refine ⟨⟨by omega, by omega⟩, ?_⟩
      intro v3 hv3
      refine hK _ ⟨⟨by omega, by omega⟩, ?_⟩
      intro v hv
      exact ⟨A - (i + 1), by omega, i + 1, by omega, rfl, by omega, by rw [ctB_if.1 (decide_eq_true (by omega))]; omega⟩
theorem sp_P_amountAlone {n s A : Nat} {po lo sz st : Nat → Nat} {M : Mm} {post : Int → Prop} (h7 : n ≤ 7) (h4 : s ≤ 4) (hT : PTV n s A po lo sz st M) (h : post (ctB (fun a => decide (sz a = 1)) A : Int)) : wp_P_amountAlone M post := by
  have hQ := sn_le h7 h4
  have hA := hT.2.2.2.2.1
  unfold wp_P_amountAlone
  rw [hT.2.2.2.1]
  refine ⟨fun t x y => ∃ i : Nat, i ≤ A ∧ t = A - i ∧ y = (i : Int) ∧ x = (ctB (fun a => decide (sz a = 1)) i : Int), ⟨A, 0, by omega, rfl, rfl, rfl⟩, ?_⟩
  rintro t x y ⟨i, hi, rfl, rfl, rfl⟩
  refine ⟨fun q => ?_, fun q => ?_⟩
  · have : i = A := by omega
    subst this
    exact h
  · have hc := ctB_le (fun a => decide (sz a = 1)) i
    refine sp_P_sizeOf hQ hT (by omega) ?_
    intro K hK
    refine ⟨fun q2 => hK _ ?_, fun q2 => ?_⟩
    · refine ⟨⟨by omega, by omega⟩, ?_⟩
      intro v hv
      exact ⟨A - (i + 1), by omega, i + 1, by omega, rfl, by omega, by rw [ctB_if.2 (decide_eq_false (by omega))]⟩
    · refine ⟨⟨by omega, by omega⟩, ?_⟩
      intro v3 hv3
      refine hK _ ⟨⟨by omega, by omega⟩, ?_⟩
      intro v hv
      exact ⟨A - (i + 1), by omega, i + 1, by omega, rfl, by omega, by rw [ctB_if.1 (decide_eq_true (by omega))]; omega⟩
theorem sp_P_greatestSize {n s A : Nat} {po lo sz st : Nat → Nat} {M : Mm} {post : Int → Prop} (h7 : n ≤ 7) (h4 : s ≤ 4) (hT : PTV n s A po lo sz st M) (h : post (mxB sz A : Int)) : wp_P_greatestSize M post := by
  have hQ := sn_le h7 h4
  have hA := hT.2.2.2.2.1
  unfold wp_P_greatestSize
  rw [hT.2.2.2.1]
  refine ⟨fun t x y => ∃ i : Nat, i ≤ A ∧ t = A - i ∧ y = (i : Int) ∧ x = (mxB sz i : Int), ⟨A, 0, by omega, rfl, rfl, rfl⟩, ?_⟩
  rintro t x y ⟨i, hi, rfl, rfl, rfl⟩
  refine ⟨fun q => ?_, fun q => ?_⟩
  · have : i = A := by omega
    subst this
    exact h
  · refine sp_P_sizeOf hQ hT (by omega) ?_
    intro z hz
    refine ⟨⟨by omega, by omega⟩, ?_⟩
    intro v hv
    refine ⟨A - (i + 1), by omega, i + 1, by omega, rfl, by omega, ?_⟩
    rw [hz, mxB]
    by_cases q2 : mxB sz i < sz i
    · rw [if_pos q2, if_pos (by omega)]
    · rw [if_neg q2, if_neg (by omega)]
