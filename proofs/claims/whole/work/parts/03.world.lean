/-! ===== numbers: ints of the machine as integers ===== -/
abbrev Mm : Type := Nat → Nat → Int
def iI (x : Int) : Int32 := Int32.ofInt x
def inR (x : Int) : Prop := -2147483648 ≤ x ∧ x ≤ 2147483647
theorem rk {x : Int} (h : (decide (-2147483648 ≤ x) && decide (x ≤ 2147483647)) = true) : inR x := by
  simp only [Bool.and_eq_true, decide_eq_true_eq] at h; exact h
theorem rng (x : Int32) : inR x.toInt := by
  have h1 := Int32.toInt_lt x
  have h2 := Int32.le_toInt x
  constructor <;> omega
theorem iI_of (x : Int32) : iI x.toInt = x := Int32.ofInt_toInt x
theorem iI_toInt {x : Int} (h : inR x) : (iI x).toInt = x := Int32.toInt_ofInt_of_le (by have := h.1; omega) (by have := h.2; omega)
theorem iI_inj {a b : Int} (ha : inR a) (hb : inR b) : iI a = iI b ↔ a = b := by
  rw [← Int32.toInt_inj, iI_toInt ha, iI_toInt hb]
theorem iI_lt {a b : Int} (ha : inR a) (hb : inR b) : iI a < iI b ↔ a < b := by
  rw [Int32.lt_iff_toInt_lt, iI_toInt ha, iI_toInt hb]
theorem iI_le {a b : Int} (ha : inR a) (hb : inR b) : iI a ≤ iI b ↔ a ≤ b := by
  rw [Int32.le_iff_toInt_le, iI_toInt ha, iI_toInt hb]
theorem iI_add (a b : Int) : iI a + iI b = iI (a + b) := Int32.toBitVec_inj.1 (by simp [iI, BitVec.ofInt_add])
theorem iI_mul (a b : Int) : iI a * iI b = iI (a * b) := Int32.toBitVec_inj.1 (by simp [iI, BitVec.ofInt_mul])
theorem iI_sub (a b : Int) : iI a - iI b = iI (a - b) := by
  have h : iI (a - b) + iI b = iI a := by rw [iI_add]; congr 1; omega
  rw [← h]; simp
theorem iI_nat (n : Nat) : iI (n : Int) = nI n := Int32.ofInt_eq_ofNat
theorem iI_clamp {i : Int} (h : inR i) : (iI i).toNatClampNeg = i.toNat := by
  show (iI i).toInt.toNat = _
  rw [iI_toInt h]
theorem iI_in {i : Int} {n : Nat} (h : 0 ≤ i ∧ i < (n : Int)) (hn : n < 2147483648) : vp_in (iI i) n := by
  rw [vp_in_iff, iI_toInt ⟨by omega, by omega⟩]; exact h
theorem inR_ix {i : Int} {n : Nat} (h : 0 ≤ i ∧ i < (n : Int)) (hn : n < 2147483648) : inR i := ⟨by omega, by omega⟩
theorem iI_div {a b : Int} (ha : inR a) (hb : inR b) (h0 : 0 ≤ a) (h1 : 0 < b) : iI a / iI b = iI (a / b) := by
  obtain ⟨x, rfl⟩ := Int.eq_ofNat_of_zero_le h0
  obtain ⟨y, rfl⟩ := Int.eq_ofNat_of_zero_le (Int.le_of_lt h1)
  have h2 := ha.2
  have h3 := hb.2
  show iI ((x : Nat) : Int) / iI ((y : Nat) : Int) = iI (((x : Nat) : Int) / ((y : Nat) : Int))
  rw [iI_nat, iI_nat, pk_div (by omega) (by omega) (by omega), ← iI_nat]; rfl
theorem iI_rem {a b : Int} (ha : inR a) (hb : inR b) (h0 : 0 ≤ a) (h1 : 0 < b) : iI a - iI a / iI b * iI b = iI (a % b) := by
  obtain ⟨x, rfl⟩ := Int.eq_ofNat_of_zero_le h0
  obtain ⟨y, rfl⟩ := Int.eq_ofNat_of_zero_le (Int.le_of_lt h1)
  have h2 := ha.2
  have h3 := hb.2
  show iI ((x : Nat) : Int) - iI ((x : Nat) : Int) / iI ((y : Nat) : Int) * iI ((y : Nat) : Int) = iI (((x : Nat) : Int) % ((y : Nat) : Int))
  rw [iI_nat, iI_nat, pk_rem (by omega) (by omega) (by omega), ← iI_nat]; rfl
theorem rDiv {a b : Int} (ha : inR a) (h0 : 0 ≤ a) (h1 : 0 < b) : inR (a / b) := by
  have h2 := ha.2
  have h3 : 0 ≤ a / b := Int.ediv_nonneg h0 (Int.le_of_lt h1)
  have h4 : a / b ≤ a := Int.ediv_le_self b h0
  constructor <;> omega
theorem rMod {a b : Int} (hb : inR b) (h1 : 0 < b) : inR (a % b) := by
  have h2 := hb.2
  have h3 : 0 ≤ a % b := Int.emod_nonneg a (by omega)
  have h4 : a % b < b := Int.emod_lt_of_pos a h1
  constructor <;> omega
theorem iI_ne0 {b : Int} (hb : inR b) (h1 : 0 < b) : ¬ iI b = 0 := by
  intro h
  have h2 : iI b = iI 0 := h
  rw [iI_inj hb (rk rfl)] at h2
  omega
def bShl (a b : Int) : Int := (iI a <<< (iI b &&& 31)).toInt
def bShr (a b : Int) : Int := (iI a >>> (iI b &&& 31)).toInt
def bUshr (a b : Int) : Int := ((iI a).toUInt32 >>> ((iI b).toUInt32 &&& Int32.toUInt32 31)).toInt32.toInt
def bAnd (a b : Int) : Int := (iI a &&& iI b).toInt
def bOr (a b : Int) : Int := (iI a ||| iI b).toInt
def bXor (a b : Int) : Int := (iI a ^^^ iI b).toInt
/-! ===== the memory: cell, place: integer ===== -/
def mr (M : Mm) : Prop := ∀ k j, inR (M k j)
def ms (M : Mm) (k j : Nat) (v : Int) : Mm := fun a => if a = k then (fun b => if b = j then v else M k b) else M a
theorem ms_self (M : Mm) (k j : Nat) (v : Int) : ms M k j v k j = v := by simp [ms]
theorem ms_ne (M : Mm) {k j b : Nat} (v : Int) (h : b ≠ j) : ms M k j v k b = M k b := by simp [ms, h]
theorem ms_o (M : Mm) {k a : Nat} (j : Nat) (v : Int) (h : a ≠ k) : ms M k j v a = M a := by simp [ms, h]
theorem ms_k (M : Mm) (k j : Nat) (v : Int) : ms M k j v k = fun b => if b = j then v else M k b := by simp [ms]
theorem ms_r {M : Mm} {k j : Nat} {v : Int} (hM : mr M) (hv : inR v) : mr (ms M k j v) := by
  intro a b
  unfold ms
  split
  · dsimp only
    split
    · exact hv
    · exact hM k b
  · exact hM a b
/-- n places of the row k1, from sp on, copied to the row k2, from dp on -/
def mc (M : Mm) (k1 sp k2 dp n : Nat) : Mm := fun a => if a = k2 then (fun b => if dp ≤ b ∧ b < dp + n then M k1 (sp + (b - dp)) else M k2 b) else M a
theorem mc_o (M : Mm) {k2 a : Nat} (k1 sp dp n : Nat) (h : a ≠ k2) : mc M k1 sp k2 dp n a = M a := by simp [mc, h]
theorem mc_r {M : Mm} {k1 sp k2 dp n : Nat} (hM : mr M) : mr (mc M k1 sp k2 dp n) := by
  intro a b
  unfold mc
  split
  · dsimp only
    split
    · exact hM _ _
    · exact hM _ _
  · exact hM a b
/-! ===== the world: which cells there are, where, and what each holds of a memory ===== -/
abbrev Xw : Type := va_G × List (ClassId × FieldType) × List Nat × (Nat → Nat) × (Nat → Mm → va_E)
def xD (X : Xw) : va_G := X.1
def xT (X : Xw) : List (ClassId × FieldType) := X.2.1
def xK (X : Xw) : List Nat := X.2.2.1
def xA (X : Xw) : Nat → Nat := X.2.2.2.1
def xS (X : Xw) : Nat → Mm → va_E := X.2.2.2.2
abbrev vc : List vw_C := [(rr_G, ft_G, 5), (rr_D, ft_D, 2), (rr_P, ft_P, 9), (rr_S, ft_S, 4), (rr_Y, ft_Y, 4), (rr_T, ft_T, 6), (rr_M, ft_M, 25)]
def wl (X : Xw) (M : Mm) : va_W := (xK X).map (fun k => (xA X k, xS X k M))
def lcl (X : Xw) : Prop := (xK X).Nodup ∧ ∀ (k : Nat) (M M' : Mm), M k = M' k → xS X k M = xS X k M'
def xF (X : Xw) (sz : Nat) : Nat → Prop := fun q => (∃ k ∈ xK X, q = xA X k) ∨ sz ≤ q
def St (X : Xw) (A : Nat → Prop) (s : State) (M : Mm) (H : Heap) (locs : List Loc) : Prop := va_P (xD X) vc (wl X M) H ∧ va_D A (wl X M) ∧ va_S A s.heap H locs ∧ mr M
theorem wl_get {X : Xw} {M : Mm} {q k : Nat} (h : (xK X)[q]? = some k) : (wl X M)[q]? = some (xA X k, xS X k M) := by
  unfold wl; rw [List.getElem?_map, h]; rfl
theorem wl_inv {X : Xw} {M : Mm} {q : Nat} {z : Nat × va_E} (h : (wl X M)[q]? = some z) : ∃ k, (xK X)[q]? = some k ∧ z = (xA X k, xS X k M) := by
  unfold wl at h
  rw [List.getElem?_map] at h
  cases hk : (xK X)[q]? with
  | none => rw [hk] at h; cases h
  | some k => rw [hk] at h; exact ⟨k, rfl, (Option.some.inj h).symm⟩
theorem wl_set {X : Xw} {M M' : Mm} {q k : Nat} {e : va_E} (hl : lcl X) (h : (xK X)[q]? = some k) (he : xS X k M' = e) (ho : ∀ a, a ≠ k → M' a = M a) : (wl X M).set q (xA X k, e) = wl X M' := by
  have hq := (List.getElem?_eq_some_iff.mp h).1
  apply List.ext_getElem?
  intro i
  by_cases hi : i = q
  · subst hi
    rw [List.getElem?_set_self (by simpa [wl] using hq), wl_get h, he]
  · rw [List.getElem?_set_ne (Ne.symm hi)]
    cases hk : (xK X)[i]? with
    | none => simp [wl, hk]
    | some k' =>
      rw [wl_get hk, wl_get hk]
      have hne : k' ≠ k := by
        intro e1
        subst e1
        have h1 := List.getElem?_eq_some_iff.mp hk
        have h2 := List.getElem?_eq_some_iff.mp h
        obtain ⟨l1, e1⟩ := h1
        obtain ⟨l2, e2⟩ := h2
        exact hi ((List.getElem_inj (hl.1)).mp (e1.trans e2.symm))
      rw [hl.2 k' M' M (ho k' hne)]
theorem wl_D {X : Xw} {A : Nat → Prop} {M M' : Mm} (h : va_D A (wl X M)) : va_D A (wl X M') := by
  refine ⟨fun i j a b ha hb hab => ?_, fun i a ha => ?_⟩
  · obtain ⟨k, h1, rfl⟩ := wl_inv ha
    obtain ⟨k', h2, rfl⟩ := wl_inv hb
    exact h.1 i j _ _ (wl_get h1) (wl_get h2) hab
  · obtain ⟨k, h1, rfl⟩ := wl_inv ha
    exact h.2 i (xA X k, xS X k M) (wl_get h1)
theorem xF_in {X : Xw} {A : Nat → Prop} {M : Mm} {sz : Nat} (hD : va_D A (wl X M)) (hA : ∀ q, sz ≤ q → A q) : ∀ q, xF X sz q → A q := by
  intro q h
  rcases h with ⟨k, hk, rfl⟩ | h
  · obtain ⟨i, hi⟩ := List.getElem?_of_mem hk
    exact hD.2 i _ (wl_get hi)
  · exact hA q h
theorem xF_D {X : Xw} {A : Nat → Prop} {M : Mm} {sz : Nat} (hD : va_D A (wl X M)) : va_D (xF X sz) (wl X M) := by
  refine ⟨hD.1, fun i a ha => ?_⟩
  obtain ⟨k, h1, rfl⟩ := wl_inv ha
  exact Or.inl ⟨k, List.mem_of_getElem? h1, rfl⟩
/-- a cell that is an object: the kind ci, its fields out of the memory -/
def Ob (X : Xw) (k ci : Nat) (fs : Mm → List Value) : Prop := k ∈ xK X ∧ ∀ M, xS X k M = .inr (ci, fs M)
def AI (X : Xw) (k n : Nat) : Prop := k ∈ xK X ∧ n < 2147483648 ∧ ∃ cA, (cA, FieldType.int) ∈ xT X ∧ ∀ M, xS X k M = .inl (cA, n, .inl (fun j => iI (M k j)))
def AZ (X : Xw) (k n : Nat) : Prop := k ∈ xK X ∧ n < 2147483648 ∧ ∃ cA, (cA, FieldType.boolean) ∈ xT X ∧ ∀ M, xS X k M = .inl (cA, n, .inl (fun j => iI (M k j)))
def AQ (X : Xw) (k n : Nat) (f : Nat → Option Nat) : Prop := k ∈ xK X ∧ n < 2147483648 ∧ ∃ cA, (cA, FieldType.object "TurnCounts$Setting") ∈ xT X ∧ ∀ M, xS X k M = .inl (cA, n, .inr (.inr (.inr (.inr f))))
/-- what stays over a method: machine, code, tables, the world's plan -/
def Cx (p : Program) (s : State) (m : MethodId) (args : Array Value) (c : Code) (cc : ByteArray) (nL : Nat) (own : String) (X : Xw) (A : Nat → Prop) : Prop :=
  (p.tables.exec = Jvm.exec ∧ c.code = cc ∧ c.maxLocals = nL ∧ s.vm.findClass own = some m.cls ∧ ∀ w ∈ tg, w.before args s = true) ∧ va_K (xD X) vc (xT X) s ∧ lcl X ∧ (∀ q, s.heap.size ≤ q → A q) ∧ nW s
theorem tb_gi : GoodIn tg tg := fun w hw => ⟨hw, good_of_word (List.mem_filter.mp hw).2⟩
theorem tb_cons {c : Cond} {ws : List Cond} (h : c ∈ tg) (hw : GoodIn tg ws) : GoodIn tg (c :: ws) := fun w hm => (List.mem_cons.mp hm).elim (fun e => by rw [e]; exact tb_gi c h) (hw w)
