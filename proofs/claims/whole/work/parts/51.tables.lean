/-! ===== the table of patterns, as it is due ===== -/
theorem smF_mono (f : Nat → Nat) {i : Nat} : ∀ {j : Nat}, i ≤ j → smF f i ≤ smF f j
  | 0, h => by rw [show i = 0 by omega]; exact Nat.le_refl _
  | j + 1, h => by
    by_cases q : i = j + 1
    · rw [q]; exact Nat.le_refl _
    · have := smF_mono f (show i ≤ j by omega)
      rw [smF]; omega
theorem ctB_upd {p q : Nat → Bool} {r : Nat} (hp : p r = false) (hq : q r = true) (h : ∀ c, c ≠ r → q c = p c) : ∀ n, ctB q n = ctB p n + (if r < n then 1 else 0)
  | 0 => rfl
  | n + 1 => by
    rw [ctB, ctB, ctB_upd hp hq h n]
    by_cases e : n = r
    · subst e
      rw [hp, hq, if_neg (Nat.lt_irrefl n), if_pos (Nat.lt_succ_self n)]; simp
    · rw [h n e]
      by_cases e2 : r < n
      · rw [if_pos e2, if_pos (show r < n + 1 by omega)]; omega
      · rw [if_neg e2, if_neg (show ¬ r < n + 1 by omega)]; omega
theorem ctB_zero {p : Nat → Bool} : ∀ {n : Nat}, (∀ c, c < n → p c = false) → ctB p n = 0
  | 0, _ => rfl
  | n + 1, h => by rw [ctB, ctB_zero (fun c hc => h c (by omega)), h n (by omega)]; rfl
/-- two lists that rise and hold the same things are one -/
theorem inc_uniq {A B : Nat} {f g : Nat → Nat} (h1 : ∀ i j, i < j → j < A → f i < f j) (h2 : ∀ i j, i < j → j < B → g i < g j) (h3 : ∀ i, i < A → ∃ j, j < B ∧ g j = f i) (h4 : ∀ j, j < B → ∃ i, i < A ∧ f i = g j) : A = B ∧ ∀ i, i < A → f i = g i := by
  have key : ∀ {A B : Nat} {f g : Nat → Nat}, (∀ i j, i < j → j < A → f i < f j) → (∀ i j, i < j → j < B → g i < g j) → (∀ i, i < A → ∃ j, j < B ∧ g j = f i) → (∀ j, j < B → ∃ i, i < A ∧ f i = g j) → ∀ i, i < A → i < B ∧ f i = g i := by
    intro A B f g h1 h2 h3 h4 i
    induction i using Nat.strongRecOn with
    | _ i ih =>
      intro hi
      obtain ⟨j, hj, e⟩ := h3 i hi
      have hij : i ≤ j := by
        by_cases q : i ≤ j
        · exact q
        · have := ih j (by omega) (by omega)
          have h5 := h1 j i (by omega) hi
          omega
      refine ⟨by omega, ?_⟩
      by_cases q : i = j
      · rw [q] at e ⊢; exact e.symm
      · obtain ⟨k, hk, e2⟩ := h4 i (by omega)
        have h5 := h2 i j (by omega) hj
        have h6 : ¬ k < i := fun q2 => by
          have := ih k q2 hk
          have h7 := h2 k i q2 (by omega)
          omega
        by_cases q3 : k = i
        · rw [q3] at e2; exact e2
        · have := h1 i k (by omega) hk
          omega
  have hA : A = B := by
    by_cases q : A ≤ B
    · by_cases q2 : B ≤ A
      · omega
      · have := (key h2 h1 h4 h3 A (by omega)).1; omega
    · have := (key h1 h2 h3 h4 B (by omega)).1; omega
  exact ⟨hA, fun i hi => (key h1 h2 h3 h4 i hi).2⟩
def EqR (R : Nat → Nat → Prop) (Q : Nat) : Prop := (∀ c, c < Q → R c c) ∧ (∀ c d, c < Q → R c d → R d c) ∧ (∀ c d e, R c d → R d e → R c e) ∧ (∀ c d, R c d → d < Q)
theorem Rel_E {n s : Nat} {G : Nat → Prop} (h7 : n ≤ 7) (hs : 1 ≤ s) (hG : isGrp n G) : EqR (Rel n s G) (s ^ n) :=
  ⟨fun _ hc => Rel.rf h7 hs hG hc, fun _ _ hc h => h.sy h7 hs hG hc, fun _ _ _ a b => a.tr h7 hs hG b, fun _ _ h => h.lt h7 hs hG⟩
/-- the table when the colourings below x are done; v is what each colouring is marked with -/
def PI (R : Nat → Nat → Prop) (Q x A : Nat) (lo : Nat → Nat) (v : Nat → Int) : Prop :=
  (∀ a b, a < b → b < A → lo a < lo b) ∧ (∀ a, a < A → lo a < x ∧ ∀ d, R (lo a) d → lo a ≤ d) ∧ (∀ c, c < x → ∃ a, a < A ∧ R (lo a) c) ∧ (∀ c, c < Q → (v c = -6 ∧ ∀ a, a < A → ¬ R (lo a) c) ∨ ∃ a : Nat, a < A ∧ v c = (a : Int) ∧ R (lo a) c)
theorem PI_0 {R : Nat → Nat → Prop} {Q : Nat} {lo : Nat → Nat} {v : Nat → Int} (h : ∀ c, c < Q → v c = -6) : PI R Q 0 0 lo v :=
  ⟨fun a b _ hb => by omega, fun a ha => by omega, fun c hc => by omega, fun c hc => Or.inl ⟨h c hc, fun a ha => by omega⟩⟩
theorem PI_skip {R : Nat → Nat → Prop} {Q x A : Nat} {lo : Nat → Nat} {v : Nat → Int} (hx : x < Q) (h : PI R Q x A lo v) (hv : ¬ v x = -6) : PI R Q (x + 1) A lo v := by
  refine ⟨h.1, fun a ha => ⟨by have := (h.2.1 a ha).1; omega, (h.2.1 a ha).2⟩, fun c hc => ?_, h.2.2.2⟩
  by_cases q : c = x
  · rw [q]
    rcases h.2.2.2 x hx with ⟨a, _⟩ | ⟨a, ha, _, hr⟩
    · exact absurd a hv
    · exact ⟨a, ha, hr⟩
  · exact h.2.2.1 c (by omega)
theorem PI_A {R : Nat → Nat → Prop} {Q x A : Nat} {lo : Nat → Nat} {v : Nat → Int} (h : PI R Q x A lo v) : A ≤ x :=
  fb_holes x A lo (fun i hi => (h.2.1 i hi).1) (fun i j hij hj => by have := h.1 i j hij hj; omega)
theorem PI_new {R : Nat → Nat → Prop} {Q x A : Nat} {lo : Nat → Nat} {v v' : Nat → Int} (hE : EqR R Q) (hx : x < Q) (h : PI R Q x A lo v) (hv : v x = -6) (hv' : ∀ c, c < Q → (R x c ∧ v' c = (A : Int)) ∨ (¬ R x c ∧ v' c = v c)) : PI R Q (x + 1) (A + 1) (eX lo A x) v' := by
  obtain ⟨p1, p2, p3, p4⟩ := h
  obtain ⟨e1, e2, e3, e4⟩ := hE
  have hno : ∀ a, a < A → ¬ R (lo a) x := by
    rcases p4 x hx with ⟨_, q⟩ | ⟨a, _, q, _⟩
    · exact q
    · omega
  refine ⟨fun a b hab hb => ?_, fun a ha => ?_, fun c hc => ?_, fun c hc => ?_⟩
  · rw [eX_lt (by omega)]
    by_cases q : b = A
    · rw [q, eX_at]; exact (p2 a (by omega)).1
    · rw [eX_lt (by omega)]; exact p1 a b hab (by omega)
  · by_cases q : a = A
    · rw [q, eX_at]
      refine ⟨by omega, fun d hd => ?_⟩
      refine Classical.byContradiction fun q2 => ?_
      obtain ⟨b, hb, hr⟩ := p3 d (by omega)
      exact hno b hb (e3 _ _ _ hr (e2 x d hx hd))
    · rw [eX_lt (by omega)]
      exact ⟨by have := (p2 a (by omega)).1; omega, (p2 a (by omega)).2⟩
  · by_cases q : c = x
    · exact ⟨A, by omega, by rw [eX_at, q]; exact e1 x hx⟩
    · obtain ⟨a, ha, hr⟩ := p3 c (by omega)
      exact ⟨a, by omega, by rw [eX_lt ha]; exact hr⟩
  · rcases hv' c hc with ⟨hr, e⟩ | ⟨hr, e⟩
    · exact Or.inr ⟨A, by omega, e, by rw [eX_at]; exact hr⟩
    · rw [e]
      rcases p4 c hc with ⟨q1, q2⟩ | ⟨a, ha, q1, q2⟩
      · refine Or.inl ⟨q1, fun a ha => ?_⟩
        by_cases q : a = A
        · rw [q, eX_at]; exact hr
        · rw [eX_lt (by omega)]; exact q2 a (by omega)
      · exact Or.inr ⟨a, by omega, q1, by rw [eX_lt ha]; exact q2⟩
def PT (R : Nat → Nat → Prop) (Q A : Nat) (po lo sz : Nat → Nat) : Prop :=
  (∀ c, c < Q → po c < A ∧ R (lo (po c)) c) ∧ (∀ a, a < A → lo a < Q ∧ ∀ d, R (lo a) d → lo a ≤ d) ∧ (∀ a b, a < b → b < A → lo a < lo b) ∧ (∀ a, a < A → sz a = ctB (fun c => decide (po c = a)) Q)
theorem PI_PT {R : Nat → Nat → Prop} {Q A : Nat} {lo sz : Nat → Nat} {v : Nat → Int} (h : PI R Q Q A lo v) (hs : ∀ a : Nat, a < A → sz a = ctB (fun c => decide (v c = (a : Int))) Q) : PT R Q A (fun c => (v c).toNat) lo sz ∧ ∀ c, c < Q → v c = (((v c).toNat : Nat) : Int) := by
  obtain ⟨p1, p2, p3, p4⟩ := h
  have hv : ∀ c, c < Q → ∃ a : Nat, a < A ∧ v c = (a : Int) ∧ R (lo a) c := by
    intro c hc
    rcases p4 c hc with ⟨_, q⟩ | q
    · obtain ⟨a, ha, hr⟩ := p3 c hc
      exact absurd hr (q a ha)
    · exact q
  refine ⟨⟨fun c hc => ?_, p2, p1, fun a ha => ?_⟩, fun c hc => ?_⟩
  · obtain ⟨a, ha, e, hr⟩ := hv c hc
    show (v c).toNat < A ∧ R (lo (v c).toNat) c
    rw [e, Int.toNat_natCast]
    exact ⟨ha, hr⟩
  · rw [hs a ha]
    refine ctB_cong fun c hc => ?_
    obtain ⟨b, hb, e, hr⟩ := hv c hc
    show decide (v c = (a : Int)) = decide ((v c).toNat = a)
    rw [e, Int.toNat_natCast]
    exact decide_eq_decide.mpr (by omega)
  · obtain ⟨a, ha, e, hr⟩ := hv c hc
    rw [e]; omega
theorem PT_uniq {R : Nat → Nat → Prop} {Q A B : Nat} {po lo sz po' lo' sz' : Nat → Nat} (hE : EqR R Q) (h : PT R Q A po lo sz) (h' : PT R Q B po' lo' sz') : A = B ∧ (∀ c, c < Q → po c = po' c) ∧ ∀ a, a < A → lo a = lo' a ∧ sz a = sz' a := by
  obtain ⟨e1, e2, e3, e4⟩ := hE
  have hh : ∀ {A B : Nat} {po lo sz po' lo' sz' : Nat → Nat}, PT R Q A po lo sz → PT R Q B po' lo' sz' → ∀ i, i < A → ∃ j, j < B ∧ lo' j = lo i := by
    intro A B po lo sz po' lo' sz' h h' i hi
    obtain ⟨a1, a2⟩ := h.2.1 i hi
    obtain ⟨b1, b2⟩ := h'.1 (lo i) a1
    obtain ⟨c1, c2⟩ := h'.2.1 _ b1
    refine ⟨po' (lo i), b1, ?_⟩
    have d1 := c2 _ b2
    have d2 := a2 _ (e2 _ _ c1 b2)
    omega
  obtain ⟨hA, hlo⟩ := inc_uniq h.2.2.1 h'.2.2.1 (hh h h') (hh h' h)
  have hpo : ∀ c, c < Q → po c = po' c := by
    intro c hc
    obtain ⟨a1, a2⟩ := h.1 c hc
    obtain ⟨b1, b2⟩ := h'.1 c hc
    have q1 := (h'.2.1 _ b1).1
    have r1 : R (lo (po c)) (lo' (po' c)) := e3 _ _ _ a2 (e2 _ _ q1 b2)
    have s1 := (h.2.1 _ a1).2 _ r1
    have s2 := (h'.2.1 _ b1).2 _ (e2 _ _ (h.2.1 _ a1).1 r1)
    have s3 := hlo _ a1
    rcases Nat.lt_trichotomy (po c) (po' c) with q | q | q
    · have := h'.2.2.1 _ _ q b1; omega
    · exact q
    · have := h'.2.2.1 _ _ q (by omega); omega
  refine ⟨hA, hpo, fun a ha => ⟨hlo a ha, ?_⟩⟩
  rw [h.2.2.2 a ha, h'.2.2.2 a (by omega)]
  exact ctB_cong fun c hc => by rw [hpo c hc]
