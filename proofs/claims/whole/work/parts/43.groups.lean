/-! ===== groups of turns (fb_holes: out of kit/laws) ===== -/
theorem fb_holes : ∀ (m n : Nat) (f : Nat → Nat), (∀ i, i < n → f i < m) → (∀ i j, i < j → j < n → f i ≠ f j) → n ≤ m := by
  intro m
  induction m with
  | zero =>
    intro n f h1 _
    rcases Nat.eq_zero_or_pos n with h | h
    · omega
    · exact absurd (h1 0 h) (Nat.not_lt_zero _)
  | succ m ih =>
    intro n f h1 h2
    by_cases hx : ∃ i, i < n ∧ f i = m
    · obtain ⟨a, ha, hfa⟩ := hx
      have hg := ih (n - 1) (fun i => if i < a then f i else f (i + 1)) (by
        intro i hi
        by_cases q : i < a
        · simp only [if_pos q]
          have b1 := h1 i (by omega)
          have b2 := h2 i a q ha
          omega
        · simp only [if_neg q]
          have b1 := h1 (i + 1) (by omega)
          have b2 := h2 a (i + 1) (by omega) (by omega)
          omega) (by
        intro i j hij hj
        by_cases q : i < a
        · by_cases r : j < a
          · simp only [if_pos q, if_pos r]
            exact h2 i j hij (by omega)
          · simp only [if_pos q, if_neg r]
            exact h2 i (j + 1) (by omega) (by omega)
        · have r : ¬ j < a := by omega
          simp only [if_neg q, if_neg r]
          exact h2 (i + 1) (j + 1) (by omega) (by omega))
      omega
    · have hg := ih n f (fun i hi => by
        have b1 := h1 i hi
        have b2 : f i ≠ m := fun e => hx ⟨i, hi, e⟩
        omega) h2
      omega
def pwF (t : Nat) : Nat → Nat
  | 0 => idc
  | k + 1 => cmp (pwF t k) t
theorem pwF_P {n t : Nat} (hn : n ≤ 7) (h : isP n t) : ∀ k, isP n (pwF t k)
  | 0 => isP_id hn
  | k + 1 => isP_cmp hn (pwF_P hn h k) h
theorem pw_com {t : Nat} (h : isP 7 t) : ∀ k, cmp t (pwF t k) = pwF t (k + 1)
  | 0 => by show cmp t idc = cmp idc t; rw [cmp_id h, id_cmp h]
  | k + 1 => by
    show cmp t (cmp (pwF t k) t) = cmp (pwF t (k + 1)) t
    rw [← cmp_assoc h (pwF_P (Nat.le_refl 7) h k), pw_com h k]
theorem orGo_pw {t : Nat} : ∀ (f k K : Nat), orGo t f (pwF t k) k = some K → pwF t K = idc ∧ k ≤ K
  | 0, _, _, h => by cases h
  | f + 1, k, K, h => by
    rw [orGo] at h
    split at h
    · rename_i e
      have := Option.some.inj h
      subst this
      exact ⟨e, Nat.le_refl _⟩
    · split at h
      · cases h
      · have := orGo_pw f (k + 1) K h
        exact ⟨this.1, by omega⟩
theorem orF_pw {t : Nat} (h : isP 7 t) : pwF t (orF t) = idc ∧ 1 ≤ orF t := by
  have h1 := or_go (by decide) (Nat.le_refl 7) h
  have e : pwF t 1 = t := by show cmp idc t = t; exact id_cmp h
  have h2 : orGo t 12 (pwF t 1) 1 = some (orF t) := by rw [e]; exact h1
  exact orGo_pw 12 1 _ h2
def inv (t : Nat) : Nat := pwF t (orF t - 1)
theorem inv_P {n t : Nat} (hn : n ≤ 7) (h : isP n t) : isP n (inv t) := pwF_P hn h _
theorem inv_l {t : Nat} (h : isP 7 t) : cmp (inv t) t = idc := by
  obtain ⟨h1, h2⟩ := orF_pw h
  show pwF t (orF t - 1 + 1) = idc
  rw [show orF t - 1 + 1 = orF t by omega]; exact h1
theorem inv_r {t : Nat} (h : isP 7 t) : cmp t (inv t) = idc := by
  obtain ⟨h1, h2⟩ := orF_pw h
  rw [inv, pw_com h, show orF t - 1 + 1 = orF t by omega]; exact h1
theorem cancel_r {a b c : Nat} (ha : isP 7 a) (hb : isP 7 b) (hc : isP 7 c) (e : cmp a c = cmp b c) : a = b := by
  have h1 : cmp (cmp a c) (inv c) = cmp (cmp b c) (inv c) := by rw [e]
  rw [cmp_assoc ha hc, cmp_assoc hb hc, inv_r hc, cmp_id ha, cmp_id hb] at h1
  exact h1
theorem shift_l {a b c : Nat} (ha : isP 7 a) (hb : isP 7 b) (e : cmp a b = c) : b = cmp (inv a) c := by
  rw [← e, ← cmp_assoc (inv_P (Nat.le_refl 7) ha) ha, inv_l ha, id_cmp hb]
def isGrp (n : Nat) (G : Nat → Prop) : Prop := (∀ t, G t → isP n t) ∧ G idc ∧ ∀ a b, G a → G b → G (cmp a b)
theorem isGrp.pw {n : Nat} {G : Nat → Prop} (h : isGrp n G) {t : Nat} (ht : G t) : ∀ k, G (pwF t k)
  | 0 => h.2.1
  | k + 1 => h.2.2 _ _ (isGrp.pw h ht k) ht
theorem isGrp.inv {n : Nat} {G : Nat → Prop} (h : isGrp n G) {t : Nat} (ht : G t) : G (inv t) := h.pw ht _
theorem isGrp.congr {n : Nat} {G G' : Nat → Prop} (h : isGrp n G) (e : ∀ x, G' x ↔ G x) : isGrp n G' :=
  ⟨fun t ht => h.1 t ((e t).mp ht), (e _).mpr h.2.1, fun a b ha hb => (e _).mpr (h.2.2 a b ((e a).mp ha) ((e b).mp hb))⟩
/-- what some turns bring about -/
def Cl (S : Nat → Prop) (x : Nat) : Prop := ∃ l : List Nat, (∀ y ∈ l, S y) ∧ x = l.foldl cmp idc
theorem Cl_id (S : Nat → Prop) : Cl S idc := ⟨[], fun y h => by simp at h, rfl⟩
theorem Cl_step {S : Nat → Prop} {x y : Nat} (hx : Cl S x) (hy : S y) : Cl S (cmp x y) := by
  obtain ⟨l, h1, rfl⟩ := hx
  refine ⟨l ++ [y], fun z hz => ?_, by rw [List.foldl_append]; rfl⟩
  rcases List.mem_append.mp hz with h | h
  · exact h1 z h
  · rw [List.mem_singleton.mp h]; exact hy
theorem Cl_ind {S P : Nat → Prop} (h0 : P idc) (hs : ∀ x y, P x → S y → P (cmp x y)) {x : Nat} (hx : Cl S x) : P x := by
  obtain ⟨l, h1, rfl⟩ := hx
  have key : ∀ (l : List Nat) (a : Nat), P a → (∀ y ∈ l, S y) → P (l.foldl cmp a) := by
    intro l
    induction l with
    | nil => intro a ha _; exact ha
    | cons y l ih => intro a ha hy; exact ih _ (hs a y ha (hy y List.mem_cons_self)) (fun z hz => hy z (List.mem_cons_of_mem _ hz))
  exact key l idc h0 h1
theorem Cl_P {n : Nat} {S : Nat → Prop} (hn : n ≤ 7) (hS : ∀ y, S y → isP n y) {x : Nat} (hx : Cl S x) : isP n x :=
  Cl_ind (P := isP n) (isP_id hn) (fun _ y hx hy => isP_cmp hn hx (hS y hy)) hx
theorem Cl_mul {S : Nat → Prop} (hS : ∀ y, S y → isP 7 y) {a b : Nat} (ha : Cl S a) (hb : Cl S b) : Cl S (cmp a b) := by
  have hP := Cl_P (Nat.le_refl 7) hS ha
  have h2 : isP 7 b ∧ Cl S (cmp a b) := by
    refine Cl_ind (P := fun b => isP 7 b ∧ Cl S (cmp a b)) ⟨isP_id (Nat.le_refl 7), by rw [cmp_id hP]; exact ha⟩ (fun x y hx hy => ?_) hb
    exact ⟨isP_cmp (Nat.le_refl 7) hx.1 (hS y hy), by rw [← cmp_assoc hP hx.1]; exact Cl_step hx.2 hy⟩
  exact h2.2
theorem Cl_grp {n : Nat} {S : Nat → Prop} (hn : n ≤ 7) (hS : ∀ y, S y → isP n y) : isGrp n (Cl S) :=
  ⟨fun _ h => Cl_P hn hS h, Cl_id S, fun _ _ ha hb => Cl_mul (fun y hy => (hS y hy).to7 hn) ha hb⟩
theorem Cl_in {S : Nat → Prop} {y : Nat} (hP : isP 7 y) (hy : S y) : Cl S y := by
  have := Cl_step (Cl_id S) hy
  rwa [id_cmp hP] at this
theorem Cl_le {n : Nat} {S T : Nat → Prop} (hT : isGrp n T) (h : ∀ y, S y → T y) {x : Nat} (hx : Cl S x) : T x :=
  Cl_ind (P := T) hT.2.1 (fun a y ha hy => hT.2.2 a y ha (h y hy)) hx
theorem Cl_iff {n : Nat} {S T : Nat → Prop} (hn : n ≤ 7) (hS : ∀ y, S y → isP n y) (hT : ∀ y, T y → isP n y) (h1 : ∀ y, S y → Cl T y) (h2 : ∀ y, T y → Cl S y) (x : Nat) : Cl S x ↔ Cl T x :=
  ⟨fun h => Cl_le (Cl_grp hn hT) h1 h, fun h => Cl_le (Cl_grp hn hS) h2 h⟩
/-- a group's own closing -/
theorem Cl_self {n : Nat} {G : Nat → Prop} (hn : n ≤ 7) (h : isGrp n G) (x : Nat) : Cl G x ↔ G x :=
  ⟨fun hx => Cl_le h (fun _ hy => hy) hx, fun hx => Cl_in ((h.1 x hx).to7 hn) hx⟩
/-! ===== a list of turns, none twice ===== -/
def Ls (e : Nat → Nat) (N x : Nat) : Prop := ∃ i, i < N ∧ e i = x
theorem Ls_le {e : Nat → Nat} {N n : Nat} (h1 : 1 ≤ n) (h7 : n ≤ 7) (hP : ∀ i, i < N → isP n (e i)) (hd : ∀ i j, i < N → j < N → e i = e j → i = j) : N ≤ 5040 := by
  refine fb_holes 5040 N (fun i => rkF n (e i)) (fun i hi => rk_lt h1 h7 (hP i hi)) (fun i j hij hj q => ?_)
  have := hd i j (by omega) hj (rk_inj h1 h7 (hP i (by omega)) (hP j hj) q)
  omega
/-- a list beside its shifted copy: twice as many -/
theorem Ls_two {n : Nat} {G : Nat → Prop} {e : Nat → Nat} {N x : Nat} (h1 : 1 ≤ n) (h7 : n ≤ 7) (hG : isGrp n G) (hl : ∀ y, G y ↔ Ls e N y) (hd : ∀ i j, i < N → j < N → e i = e j → i = j) (hx : isP n x) (hn : ¬ G x) :
    (∀ i j, i < N → j < N → cmp (e i) x ≠ e j) ∧ (∀ i j, i < N → j < N → cmp (e i) x = cmp (e j) x → i = j) := by
  have hP : ∀ i, i < N → G (e i) := fun i hi => (hl _).mpr ⟨i, hi, rfl⟩
  have hP7 : ∀ i, i < N → isP 7 (e i) := fun i hi => (hG.1 _ (hP i hi)).to7 h7
  refine ⟨fun i j hi hj q => hn ?_, fun i j hi hj q => hd i j hi hj (cancel_r (hP7 i hi) (hP7 j hj) (hx.to7 h7) q)⟩
  rw [shift_l (hP7 i hi) (hx.to7 h7) q]
  exact hG.2.2 _ _ (hG.inv (hP i hi)) (hP j hj)
theorem Ls_dbl {n : Nat} {G : Nat → Prop} {e : Nat → Nat} {N x : Nat} (h1 : 1 ≤ n) (h7 : n ≤ 7) (hG : isGrp n G) (hl : ∀ y, G y ↔ Ls e N y) (hd : ∀ i j, i < N → j < N → e i = e j → i = j) (hx : isP n x) (hn : ¬ G x) : 2 * N ≤ 5040 := by
  obtain ⟨a1, a2⟩ := Ls_two h1 h7 hG hl hd hx hn
  have hP : ∀ i, i < N → isP n (e i) := fun i hi => hG.1 _ ((hl _).mpr ⟨i, hi, rfl⟩)
  refine Ls_le (e := fun i => if i < N then e i else cmp (e (i - N)) x) h1 h7 (fun i hi => ?_) (fun i j hi hj q => ?_)
  · try dsimp only
    split
    · exact hP i (by assumption)
    · exact isP_cmp h7 (hP _ (by omega)) hx
  · try dsimp only at q
    split at q
    · split at q
      · exact hd i j (by assumption) (by assumption) q
      · exact absurd q.symm (a1 _ _ (by omega) (by assumption))
    · split at q
      · exact absurd q (a1 _ _ (by omega) (by assumption))
      · have := a2 _ _ (by omega) (by omega) q
        omega
/-! ===== the class's rows of a group ===== -/
def BM (U : Nat → Prop) (b : Nat → Int) : Prop := ∀ r, r < 5040 → (bt (iI (b (r / 32))) (r % 32) = true ↔ ∃ x, U x ∧ rkF 7 x = r)
def LB (N : Nat) (e : Nat → Nat) (o t b : Nat → Int) : Prop := o 1 = (N : Int) ∧ (∀ i, i < N → t i = (e i : Int)) ∧ (∀ i, i < N → isP 7 (e i)) ∧ (∀ i j, i < N → j < N → e i = e j → i = j) ∧ BM (Ls e N) b
def GC (n : Nat) (G : Nat → Prop) (o t k b : Nat → Int) : Prop :=
  ∃ (N c : Nat) (e mk : Nat → Nat), LB N e o t b ∧ o 3 = (c : Int) ∧ c ≤ 12 ∧ 2 ^ c ≤ N ∧ e 0 = idc ∧ (∀ x, G x ↔ Ls e N x) ∧ (∀ i, i < c → k i = (mk i : Int) ∧ G (mk i)) ∧ (∀ x, G x → Cl (Ls mk c) x)
theorem GC.congr {n : Nat} {G G' : Nat → Prop} {o t k b : Nat → Int} (h : GC n G o t k b) (e : ∀ x, G' x ↔ G x) : GC n G' o t k b := by
  obtain ⟨N, c, el, mk, h1, h2, h3, h4, h5, h6, h7, h8⟩ := h
  exact ⟨N, c, el, mk, h1, h2, h3, h4, h5, fun x => (e x).trans (h6 x), fun i hi => ⟨(h7 i hi).1, (e _).mpr (h7 i hi).2⟩, fun x hx => h8 x ((e x).mp hx)⟩
