/-! ===== PURE FLOOR: turns as numbers of seven figures to the base 8 ===== -/
def dg (t i : Nat) : Nat := t / 8 ^ (6 - i) % 8
def mkc (f : Nat → Nat) : Nat := f 0 * 262144 + f 1 * 32768 + f 2 * 4096 + f 3 * 512 + f 4 * 64 + f 5 * 8 + f 6
def idc : Nat := 42798
def cmp (a b : Nat) : Nat := mkc (fun i => dg b (dg a i))
theorem i7 {i : Nat} (h : i < 7) : i = 0 ∨ i = 1 ∨ i = 2 ∨ i = 3 ∨ i = 4 ∨ i = 5 ∨ i = 6 := by omega
theorem dg_lt (t i : Nat) : dg t i < 8 := Nat.mod_lt _ (by omega)
theorem dg_mkc {f : Nat → Nat} (hf : ∀ i, i < 7 → f i < 8) {i : Nat} (hi : i < 7) : dg (mkc f) i = f i := by
  have h0 := hf 0 (by omega)
  have h1 := hf 1 (by omega)
  have h2 := hf 2 (by omega)
  have h3 := hf 3 (by omega)
  have h4 := hf 4 (by omega)
  have h5 := hf 5 (by omega)
  have h6 := hf 6 (by omega)
  rcases i7 hi with rfl | rfl | rfl | rfl | rfl | rfl | rfl <;> simp only [dg, mkc] <;> omega
theorem mkc_dg {t : Nat} (h : t < 2097152) : mkc (dg t) = t := by
  simp only [dg, mkc]
  omega
theorem mkc_lt {f : Nat → Nat} (hf : ∀ i, i < 7 → f i < 8) : mkc f < 2097152 := by
  have h0 := hf 0 (by omega)
  have h1 := hf 1 (by omega)
  have h2 := hf 2 (by omega)
  have h3 := hf 3 (by omega)
  have h4 := hf 4 (by omega)
  have h5 := hf 5 (by omega)
  have h6 := hf 6 (by omega)
  simp only [mkc]; omega
theorem mkc_congr {f g : Nat → Nat} (h : ∀ i, i < 7 → f i = g i) : mkc f = mkc g := by
  simp only [mkc, h 0 (by omega), h 1 (by omega), h 2 (by omega), h 3 (by omega), h 4 (by omega), h 5 (by omega), h 6 (by omega)]
theorem dg_ext {a b : Nat} (ha : a < 2097152) (hb : b < 2097152) (h : ∀ i, i < 7 → dg a i = dg b i) : a = b := by
  rw [← mkc_dg ha, ← mkc_dg hb]; exact mkc_congr h
theorem dg_cmp (a b : Nat) {i : Nat} (hi : i < 7) : dg (cmp a b) i = dg b (dg a i) := dg_mkc (fun _ _ => dg_lt _ _) hi
theorem cmp_lt (a b : Nat) : cmp a b < 2097152 := mkc_lt (fun _ _ => dg_lt _ _)
theorem dg_idc {i : Nat} (hi : i < 7) : dg idc i = i := by
  rcases i7 hi with rfl | rfl | rfl | rfl | rfl | rfl | rfl <;> rfl
def isP (n t : Nat) : Prop := t < 2097152 ∧ (∀ i, i < n → dg t i < n) ∧ (∀ i, n ≤ i → i < 7 → dg t i = i) ∧ (∀ i j, i < n → j < n → dg t i = dg t j → i = j)
theorem isP.lt7 {n t : Nat} (hn : n ≤ 7) (h : isP n t) {i : Nat} (hi : i < 7) : dg t i < 7 := by
  by_cases h1 : i < n
  · have := h.2.1 i h1; omega
  · rw [h.2.2.1 i (by omega) hi]; exact hi
theorem isP.to7 {n t : Nat} (hn : n ≤ 7) (h : isP n t) : isP 7 t := by
  refine ⟨h.1, fun i hi => h.lt7 hn hi, fun i h1 h2 => by omega, fun i j hi hj e => ?_⟩
  by_cases h1 : i < n
  · by_cases h2 : j < n
    · exact h.2.2.2 i j h1 h2 e
    · have h3 := h.2.1 i h1
      rw [e, h.2.2.1 j (by omega) hj] at h3
      omega
  · by_cases h2 : j < n
    · have h3 := h.2.1 j h2
      rw [← e, h.2.2.1 i (by omega) hi] at h3
      omega
    · rw [h.2.2.1 i (by omega) hi, h.2.2.1 j (by omega) hj] at e
      exact e
theorem isP_id {n : Nat} (hn : n ≤ 7) : isP n idc := by
  refine ⟨by decide, fun i hi => ?_, fun i _ hi => dg_idc hi, fun i j hi hj e => ?_⟩
  · rw [dg_idc (by omega)]; exact hi
  · rw [dg_idc (by omega), dg_idc (by omega)] at e; exact e
theorem isP_cmp {n a b : Nat} (hn : n ≤ 7) (ha : isP n a) (hb : isP n b) : isP n (cmp a b) := by
  refine ⟨cmp_lt _ _, fun i hi => ?_, fun i h1 h2 => ?_, fun i j hi hj e => ?_⟩
  · rw [dg_cmp _ _ (by omega)]; exact hb.2.1 _ (ha.2.1 i hi)
  · rw [dg_cmp _ _ h2, ha.2.2.1 i h1 h2, hb.2.2.1 i h1 h2]
  · rw [dg_cmp _ _ (by omega), dg_cmp _ _ (by omega)] at e
    exact ha.2.2.2 i j hi hj (hb.2.2.2 _ _ (ha.2.1 i hi) (ha.2.1 j hj) e)
theorem cmp_assoc {a b c : Nat} (ha : isP 7 a) (hb : isP 7 b) : cmp (cmp a b) c = cmp a (cmp b c) := by
  refine dg_ext (cmp_lt _ _) (cmp_lt _ _) fun i hi => ?_
  have h1 := ha.2.1 i hi
  rw [dg_cmp _ _ hi, dg_cmp _ _ hi, dg_cmp _ _ hi, dg_cmp _ _ h1]
theorem cmp_id {a : Nat} (ha : isP 7 a) : cmp a idc = a := by
  refine dg_ext (cmp_lt _ _) ha.1 fun i hi => ?_
  rw [dg_cmp _ _ hi, dg_idc (ha.2.1 i hi)]
theorem id_cmp {a : Nat} (ha : isP 7 a) : cmp idc a = a := by
  refine dg_ext (cmp_lt _ _) ha.1 fun i hi => ?_
  rw [dg_cmp _ _ hi, dg_idc hi]
/-! ===== all of them, in their order ===== -/
def pmL : Nat → List Nat → List (List Nat)
  | 0, _ => [[]]
  | k + 1, av => av.flatMap (fun a => (pmL k (av.erase a)).map (fun l => a :: l))
theorem pm_mem : ∀ (k : Nat) (av l : List Nat), l.length = k → l.Nodup → (∀ x ∈ l, x ∈ av) → l ∈ pmL k av
  | 0, av, l, h, _, _ => by
    rw [List.length_eq_zero_iff.mp h]; simp [pmL]
  | k + 1, av, [], h, _, _ => by simp at h
  | k + 1, av, a :: l, h, hn, hm => by
    simp only [pmL, List.mem_flatMap, List.mem_map]
    refine ⟨a, hm a List.mem_cons_self, l, ?_, rfl⟩
    rw [List.nodup_cons] at hn
    refine pm_mem k (av.erase a) l (by simpa using h) hn.2 (fun x hx => ?_)
    have hx2 := hm x (List.mem_cons_of_mem _ hx)
    exact (List.mem_erase_of_ne (fun e : x = a => hn.1 (by rw [← e]; exact hx))).mpr hx2
def cdL (n : Nat) (l : List Nat) : Nat := (l ++ (List.range (7 - n)).map (fun i => n + i)).foldl (fun c a => c * 8 + a) 0
def cdA (n : Nat) : List Nat := (pmL n (List.range n)).map (cdL n)
theorem cd_dg {n t : Nat} (hn : n ≤ 7) (h : isP n t) : cdL n ((List.range n).map (dg t)) = t := by
  have e : (List.range n).map (dg t) ++ (List.range (7 - n)).map (fun i => n + i) = (List.range 7).map (dg t) := by
    have h1 : List.range 7 = List.range n ++ (List.range (7 - n)).map (fun i => n + i) := by
      rw [show (7 : Nat) = n + (7 - n) by omega, List.range_add, show n + (7 - n) - n = 7 - n by omega]
    rw [h1, List.map_append]
    congr 1
    rw [List.map_map]
    refine List.map_congr_left fun i hi => ?_
    have hi2 := List.mem_range.mp hi
    exact (h.2.2.1 (n + i) (by omega) (by omega)).symm
  unfold cdL
  rw [e]
  refine Eq.trans ?_ (mkc_dg h.1)
  simp only [List.range, List.range.loop, List.map, List.foldl, mkc]
  omega
theorem cdA_mem {n t : Nat} (hn : n ≤ 7) (h : isP n t) : t ∈ cdA n := by
  refine List.mem_map.mpr ⟨(List.range n).map (dg t), pm_mem n _ _ (by simp) ?_ ?_, cd_dg hn h⟩
  · exact List.pairwise_map.mpr (List.Pairwise.imp_of_mem (fun {i j} hi hj hne e => hne (h.2.2.2 i j (List.mem_range.mp hi) (List.mem_range.mp hj) e)) List.nodup_range)
  · intro x hx
    obtain ⟨i, hi, rfl⟩ := List.mem_map.mp hx
    exact List.mem_range.mpr (h.2.1 i (List.mem_range.mp hi))
theorem cdA_all {n : Nat} (hn : n ≤ 7) {P : Nat → Bool} (h : (cdA n).all P = true) {t : Nat} (ht : isP n t) : P t = true := List.all_eq_true.mp h t (cdA_mem hn ht)
/-! ===== ranks ===== -/
def cntL (t v : Nat) : Nat → Nat → Nat
  | _, 0 => 0
  | q, k + 1 => (if dg t q < v then 1 else 0) + cntL t v (q + 1) k
def rkGo (n t : Nat) : Nat → Nat → Nat → Nat
  | 0, _, r => r
  | k + 1, p, r => rkGo n t k (p + 1) (r * (n - p) + cntL t (dg t p) (p + 1) (n - p - 1))
def rkF (n t : Nat) : Nat := rkGo n t n 0 0
def fc : Nat → Nat
  | 0 => 1
  | k + 1 => (k + 1) * fc k
def cdB (a : Nat) : List Nat := (pmL 6 ((List.range 7).erase a)).map (fun l => cdL 7 (a :: l))
theorem cdA_7 : cdA 7 = cdB 0 ++ cdB 1 ++ cdB 2 ++ cdB 3 ++ cdB 4 ++ cdB 5 ++ cdB 6 := by
  have e : List.range 7 = [0, 1, 2, 3, 4, 5, 6] := rfl
  unfold cdA
  rw [pmL]
  simp only [cdB, e, List.flatMap_cons, List.flatMap_nil, List.map_append, List.map_map, List.append_nil, List.append_assoc]
  rfl
/-- each has its place as its rank; each is greater than the one before it -/
def chI (n : Nat) : Nat → Nat → List Nat → Bool
  | _, _, [] => true
  | k, z, t :: l => rkF n t == k && Nat.blt z t && chI n (k + 1) t l
theorem chI_app (n : Nat) : ∀ (l1 l2 : List Nat) (k z : Nat), chI n k z (l1 ++ l2) = (chI n k z l1 && chI n (k + l1.length) (l1.getLastD z) l2)
  | [], l2, k, z => by simp [chI]
  | t :: l1, l2, k, z => by
    rw [List.cons_append, chI, chI, chI_app n l1 l2 (k + 1) t, List.length_cons, Bool.and_assoc, show k + (l1.length + 1) = k + 1 + l1.length by omega]
    cases l1 <;> simp [List.getLastD, Bool.and_assoc]
theorem chI_rk {n : Nat} : ∀ {l : List Nat} {k z : Nat}, chI n k z l = true → ∀ (j t : Nat), l[j]? = some t → rkF n t = k + j ∧ z < t
  | [], k, z, _, j, t, h => by simp at h
  | a :: l, k, z, h, j, t, hj => by
    simp only [chI, Bool.and_eq_true, beq_iff_eq] at h
    obtain ⟨⟨h1, h2⟩, h3⟩ := h
    have h2 : z < a := Nat.le_of_ble_eq_true h2
    cases j with
    | zero => simp at hj; subst hj; exact ⟨h1, h2⟩
    | succ j =>
      simp at hj
      have := chI_rk h3 j t hj
      omega
theorem chI_lt {n : Nat} : ∀ {l : List Nat} {k z : Nat}, chI n k z l = true → ∀ (i j a b : Nat), l[i]? = some a → l[j]? = some b → i < j → a < b
  | [], k, z, _, i, j, a, b, h, _, _ => by simp at h
  | x :: l, k, z, h, i, j, a, b, hi, hj, hij => by
    simp only [chI, Bool.and_eq_true, beq_iff_eq] at h
    obtain ⟨⟨h1, h2⟩, h3⟩ := h
    cases j with
    | zero => omega
    | succ j =>
      simp at hj
      cases i with
      | zero =>
        simp at hi
        subst hi
        exact (chI_rk h3 j b hj).2
      | succ i =>
        simp at hi
        exact chI_lt h3 i j a b hi hj (by omega)
/-- what the Lehmer figures are, place by place -/
def unB (t p : Nat) : Nat → Nat
  | 0 => 0
  | v + 1 => unB t p v + (if (List.range p).all (fun i => dg t i != v) then 1 else 0)
def okL (n t : Nat) : Bool := (List.range n).all (fun p => rkF n t / fc (n - 1 - p) % (n - p) == cntL t (dg t p) (p + 1) (n - p - 1) && unB t p (dg t p) == cntL t (dg t p) (p + 1) (n - p - 1))
/-- the rank as the class reckons it: which goals were met, as bits -/
def pc7 (x : Nat) : Nat := x % 2 + x / 2 % 2 + x / 4 % 2 + x / 8 % 2 + x / 16 % 2 + x / 32 % 2 + x / 64 % 2
def crGo (t : Nat) : Nat → Nat → Nat → Nat → Option Nat
  | 0, _, r, _ => some r
  | k + 1, p, r, met => if pc7 (met % 2 ^ dg t p) ≤ dg t p ∧ met < 128 ∧ r < 5040 then crGo t k (p + 1) (r * (7 - p) + (dg t p - pc7 (met % 2 ^ dg t p))) (met ||| 2 ^ dg t p) else none
/-- how often till none is elsewhere -/
def orGo (t : Nat) : Nat → Nat → Nat → Option Nat
  | 0, _, _ => none
  | f + 1, pw, k => if pw = idc then some k else if 12 ≤ k then none else orGo t f (cmp pw t) (k + 1)
/-- cycles: from a point on, with the met ones as bits: how many steps till a met one; the new bits -/
def cyGo (t : Nat) : Nat → Nat → Nat → Nat → Option (Nat × Nat)
  | 0, _, _, _ => none
  | f + 1, met, len, at_ => if met / 2 ^ at_ % 2 = 1 then some (met, len) else if 7 ≤ len then none else cyGo t f (met ||| 2 ^ at_) (len + 1) (dg t at_)
/-- the lengths of the cycles, place by place (0: met already) -/
def lnGo (t : Nat) : Nat → Nat → Nat → Option (List Nat)
  | 0, _, _ => some []
  | k + 1, p, met => match cyGo t 9 met 0 p with
    | none => none
    | some (met', len) => if met' < 128 then (match lnGo t k (p + 1) met' with | none => none | some l => some (len :: l)) else none
def lens (n t : Nat) : List Nat := (lnGo t n 0 0).getD []
def repF (v len : Nat) : Nat → Nat
  | 0 => v
  | c + 1 => repF v len c * 10 + len
def figF (l : List Nat) : Nat → Nat → Nat
  | 0, v => v
  | k + 1, v => figF l k (repF v (k + 1) (l.count (k + 1)))
def typF (n t : Nat) : Nat := figF (lens n t) 7 0
def lcmF : Nat → Nat → Nat → Nat
  | 0, n, _ => n
  | f + 1, n, rest => if rest = 0 then n else lcmF f (n / Nat.gcd n (rest % 10) * (rest % 10)) (rest / 10)
def tysOf (n : Nat) : List Nat := match n with
  | 1 => [1]
  | 2 => [11, 2]
  | 3 => [111, 21, 3]
  | 4 => [1111, 211, 22, 31, 4]
  | 5 => [11111, 2111, 221, 311, 32, 41, 5]
  | 6 => [111111, 21111, 2211, 222, 3111, 321, 33, 411, 42, 51, 6]
  | _ => [1111111, 211111, 22111, 2221, 31111, 3211, 322, 331, 4111, 421, 43, 511, 52, 61, 7]
def okT (n t : Nat) : Bool := (lnGo t n 0 0).isSome && (lens n t).all (fun x => decide (x ≤ n)) && decide ((lens n t).sum = n) && (orGo t 12 t 1 == some (lcmF 8 1 (typF n t))) && (tysOf n).contains (typF n t)
