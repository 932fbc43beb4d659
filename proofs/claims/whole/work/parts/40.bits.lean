/-! ===== bits (bt .. s_u, fa_and, fa_or: out of kit/laws) ===== -/
def bt (x : Int32) (i : Nat) : Bool := x.toBitVec.getLsbD i
theorem b_ext {x y : Int32} (h : ∀ i, i < 32 → bt x i = bt y i) : x = y := Int32.toBitVec_inj.mp (BitVec.eq_of_getLsbD_eq (fun i hi => h i hi))
theorem b_or (x y : Int32) (i : Nat) : bt (x ||| y) i = (bt x i || bt y i) := by unfold bt; rw [Int32.toBitVec_or, BitVec.getLsbD_or]
theorem b_and (x y : Int32) (i : Nat) : bt (x &&& y) i = (bt x i && bt y i) := by unfold bt; rw [Int32.toBitVec_and, BitVec.getLsbD_and]
theorem b_xor (x y : Int32) (i : Nat) : bt (x ^^^ y) i = (bt x i ^^ bt y i) := by unfold bt; rw [Int32.toBitVec_xor, BitVec.getLsbD_xor]
theorem b_m1 : ∀ i, i < 32 → bt (-1) i = true := by decide +kernel
theorem b_0 (i : Nat) : bt 0 i = false := BitVec.getLsbD_zero
theorem s_l : ∀ n, n < 32 → ((nI n &&& 31).toBitVec.smod 32).toNat = n := by decide +kernel
theorem s_u : ∀ n, n < 32 → (((nI n).toUInt32 &&& Int32.toUInt32 31).toBitVec % 32).toNat = n := by decide +kernel
theorem b_shl (n : Nat) (hn : n < 32) (x : Int32) {i : Nat} (hi : i < 32) : bt (x <<< (nI n &&& 31)) i = (decide (n ≤ i) && bt x (i - n)) := by
  unfold bt
  rw [Int32.toBitVec_shiftLeft]
  show (x.toBitVec <<< ((nI n &&& 31).toBitVec.smod 32).toNat).getLsbD i = _
  rw [s_l n hn, BitVec.getLsbD_shiftLeft]
  rcases Nat.lt_or_ge i n with h | h
  · simp [h, Nat.not_le.mpr h]
  · simp [hi, h, Nat.not_lt.mpr h]
theorem b_sshr (n : Nat) (hn : n < 32) (x : Int32) {i : Nat} (hi : i < 32) : bt (x >>> (nI n &&& 31)) i = if n + i < 32 then bt x (n + i) else bt x 31 := by
  unfold bt
  rw [Int32.toBitVec_shiftRight]
  show (x.toBitVec.sshiftRight ((nI n &&& 31).toBitVec.smod 32).toNat).getLsbD i = _
  rw [s_l n hn, BitVec.getLsbD_sshiftRight, BitVec.msb_eq_getLsbD_last]
  simp [hi]
theorem fa_and (a b : Nat) : nI a &&& nI b = nI (a &&& b) := by
  apply Int32.toBitVec_inj.1
  show BitVec.ofNat 32 a &&& BitVec.ofNat 32 b = BitVec.ofNat 32 (a &&& b)
  apply BitVec.eq_of_getLsbD_eq
  intro i hi
  simp [hi]
theorem fa_or (a b : Nat) : nI a ||| nI b = nI (a ||| b) := by
  apply Int32.toBitVec_inj.1
  show BitVec.ofNat 32 a ||| BitVec.ofNat 32 b = BitVec.ofNat 32 (a ||| b)
  apply BitVec.eq_of_getLsbD_eq
  intro i hi
  simp [hi]
theorem bt_nI (n : Nat) {i : Nat} (hi : i < 32) : bt (nI n) i = n.testBit i := by
  show (BitVec.ofNat 32 n).getLsbD i = _
  rw [BitVec.getLsbD_ofNat]; simp [hi]
theorem nat_bAnd {a b : Nat} (ha : a < 2147483648) : bAnd (a : Int) (b : Int) = ((a &&& b : Nat) : Int) := by
  unfold bAnd
  rw [iI_nat, iI_nat, fa_and, nI_toInt (Nat.lt_of_le_of_lt Nat.and_le_left (by omega))]
theorem nat_bOr {a b : Nat} (ha : a < 2147483648) (hb : b < 2147483648) : bOr (a : Int) (b : Int) = ((a ||| b : Nat) : Int) := by
  unfold bOr
  rw [iI_nat, iI_nat, fa_or, nI_toInt (Nat.or_lt_two_pow (n := 31) (by omega) (by omega))]
theorem nat_bShl {a k : Nat} (hk : k < 32) (h : a * 2 ^ k < 2147483648) : bShl (a : Int) (k : Int) = ((a * 2 ^ k : Nat) : Int) := by
  unfold bShl
  rw [iI_nat, iI_nat, pk_shlN _ k (s_l k hk) (by omega), nI_toInt (by omega)]
theorem nat_bShr {a k : Nat} (hk : k < 32) (h : a < 2147483648) : bShr (a : Int) (k : Int) = ((a / 2 ^ k : Nat) : Int) := by
  unfold bShr
  rw [iI_nat, iI_nat, pk_shrN (by omega) _ k (s_l k hk), nI_toInt (Nat.lt_of_le_of_lt (Nat.div_le_self _ _) (by omega))]
theorem nat_bit {a k : Nat} (hk : k < 32) (h : a < 2147483648) : bAnd (bShr (a : Int) (k : Int)) 1 = ((a / 2 ^ k % 2 : Nat) : Int) := by
  rw [nat_bShr hk h]
  have h1 : bAnd ((a / 2 ^ k : Nat) : Int) ((1 : Nat) : Int) = _ := nat_bAnd (Nat.lt_of_le_of_lt (Nat.div_le_self _ _) h)
  refine Eq.trans h1 ?_
  rw [Nat.and_one_is_mod]
/-! ===== one turn's figure; its change ===== -/
theorem u_goal {t p : Nat} (ht : t < 2097152) (hp : p ≤ 6) : bAnd (bShr (t : Int) (3 * (6 - (p : Int)))) 7 = (dg t p : Int) := by
  have e1 : (3 * (6 - (p : Int))) = ((3 * (6 - p) : Nat) : Int) := by omega
  rw [e1, nat_bShr (by omega) (by omega)]
  have h7 : bAnd ((t / 2 ^ (3 * (6 - p)) : Nat) : Int) ((7 : Nat) : Int) = _ := nat_bAnd (Nat.lt_of_le_of_lt (Nat.div_le_self _ _) (by omega))
  refine Eq.trans h7 ?_
  rw [show (7 : Nat) = 2 ^ 3 - 1 from rfl, Nat.and_two_pow_sub_one_eq_mod, Nat.pow_mul]
  rfl
theorem sp_goal {t p : Nat} {post : Int → Prop} (ht : t < 2097152) (hp : p ≤ 6) (h : post (dg t p : Int)) : wp_U_goal (t : Int) (p : Int) post := by
  unfold wp_U_goal
  refine ⟨⟨by omega, by omega⟩, ⟨by omega, by omega⟩, ?_⟩
  rw [u_goal ht hp]
  exact h
def setd (t p v : Nat) : Nat := t / 8 ^ (7 - p) * 8 ^ (7 - p) + v * 8 ^ (6 - p) + t % 8 ^ (6 - p)
theorem dg_setd {t p v i : Nat} (ht : t < 2097152) (hv : v < 8) (hp : p < 7) (hi : i < 7) : dg (setd t p v) i = if i = p then v else dg t i := by
  rcases i7 hp with rfl | rfl | rfl | rfl | rfl | rfl | rfl <;> rcases i7 hi with rfl | rfl | rfl | rfl | rfl | rfl | rfl <;> simp only [dg, setd] <;> simp <;> omega
theorem setd_lt {t p v : Nat} (ht : t < 2097152) (hv : v < 8) (hp : p < 7) : setd t p v < 2097152 := by
  rcases i7 hp with rfl | rfl | rfl | rfl | rfl | rfl | rfl <;> simp only [setd] <;> simp <;> omega
theorem setd_bits {t pl v : Nat} (hv : v < 8) (hpl : pl ≤ 18) : (nI t &&& ((nI 7 <<< (nI pl &&& 31)) ^^^ (-1))) ||| (nI v <<< (nI pl &&& 31)) = nI (2 ^ pl * (2 ^ 3 * (t / 2 ^ (pl + 3)) + v) + t % 2 ^ pl) := by
  apply b_ext
  intro i hi
  have hm : t % 2 ^ pl < 2 ^ pl := Nat.mod_lt _ (Nat.two_pow_pos pl)
  rw [b_or, b_and, b_xor, b_m1 i hi, b_shl pl (by omega) _ hi, b_shl pl (by omega) _ hi, bt_nI _ hi, bt_nI _ hi, bt_nI _ (by omega), bt_nI _ (by omega), Nat.testBit_two_pow_mul_add _ hm]
  by_cases h1 : i < pl
  · rw [if_pos h1]
    simp [Nat.not_le.mpr h1, h1, Nat.testBit_mod_two_pow]
  · rw [if_neg h1, Nat.testBit_two_pow_mul_add _ (show v < 2 ^ 3 by omega)]
    have h2 : pl ≤ i := by omega
    by_cases h3 : i - pl < 3
    · rw [if_pos h3]
      have h7 : Nat.testBit 7 (i - pl) = true := by
        rcases (show i - pl = 0 ∨ i - pl = 1 ∨ i - pl = 2 by omega) with h | h | h <;> rw [h] <;> decide
      simp [h2, h7]
    · rw [if_neg h3]
      have h7 : Nat.testBit 7 (i - pl) = false := Nat.testBit_lt_two_pow (Nat.lt_of_lt_of_le (show 7 < 2 ^ 3 by decide) (Nat.pow_le_pow_right (by decide) (by omega)))
      have h8 : Nat.testBit v (i - pl) = false := Nat.testBit_lt_two_pow (Nat.lt_of_lt_of_le (show v < 2 ^ 3 by omega) (Nat.pow_le_pow_right (by decide) (by omega)))
      rw [Nat.testBit_div_two_pow]
      simp [h2, h7, h8, show i - pl - 3 + (pl + 3) = i by omega]
theorem u_withGoal {t p v : Nat} (ht : t < 2097152) (hp : p ≤ 6) (hv : v < 8) : bOr (bAnd (t : Int) (bXor (bShl 7 ((3 * (6 - p) : Nat) : Int)) (-1))) (bShl (v : Int) ((3 * (6 - p) : Nat) : Int)) = (setd t p v : Int) := by
  have e7 : iI (7 : Int) = nI 7 := rfl
  have em : iI (-1 : Int) = (-1 : Int32) := rfl
  unfold bOr bAnd bXor bShl
  rw [iI_of, iI_of, iI_of, iI_of, iI_nat, iI_nat, iI_nat, e7, em, setd_bits hv (by omega)]
  have e8 : 2 ^ (3 * (6 - p)) * (2 ^ 3 * (t / 2 ^ (3 * (6 - p) + 3)) + v) + t % 2 ^ (3 * (6 - p)) = setd t p v := by
    rcases i7 (show p < 7 by omega) with rfl | rfl | rfl | rfl | rfl | rfl | rfl <;> simp only [setd] <;> simp <;> omega
  rw [e8, nI_toInt (by have := setd_lt ht hv (show p < 7 by omega); omega)]
theorem sp_withGoal {t p v : Nat} {post : Int → Prop} (ht : t < 2097152) (hp : p ≤ 6) (hv : v < 8) (h : post (setd t p v : Int)) : wp_U_withGoal (t : Int) (p : Int) (v : Int) post := by
  unfold wp_U_withGoal
  refine ⟨⟨by omega, by omega⟩, ⟨by omega, by omega⟩, ?_⟩
  intro x hx
  have e1 : x = ((3 * (6 - p) : Nat) : Int) := by omega
  rw [e1, u_withGoal ht hp hv]
  exact h
/-! ===== counting bits ===== -/
def bc1 (x : Int) : Int := x - (bAnd (bUshr x 1) 1431655765)
def bc2 (x : Int) : Int := (bAnd x 858993459) + (bAnd (bUshr x 2) 858993459)
def bc3 (x : Int) : Int := x + (bUshr x 4)
def bc4 (x : Int) : Int := x + (bUshr x 8)
def bc5 (x : Int) : Int := x + (bUshr x 16)
def inB (x : Int) : Bool := decide (-2147483648 ≤ x) && decide (x ≤ 2147483647)
def bcOK (x : Nat) : Bool := inB (bc1 x) && inB (bc2 (bc1 x)) && inB (bc3 (bc2 (bc1 x))) && inB (bc4 (bAnd (bc3 (bc2 (bc1 x))) 252645135)) && inB (bc5 (bc4 (bAnd (bc3 (bc2 (bc1 x))) 252645135))) && decide (bAnd (bc5 (bc4 (bAnd (bc3 (bc2 (bc1 x))) 252645135))) 63 = (pc7 x : Int))
theorem bc_all : (List.range 128).all bcOK = true := by decide +kernel
theorem sp_bitCount {x : Nat} {post : Int → Prop} (hx : x < 128) (h : post (pc7 x : Int)) : wp_J_bitCount (x : Int) post := by
  have h1 := List.all_eq_true.mp bc_all x (List.mem_range.mpr hx)
  simp only [bcOK, Bool.and_eq_true, decide_eq_true_eq] at h1
  obtain ⟨⟨⟨⟨⟨a1, a2⟩, a3⟩, a4⟩, a5⟩, a6⟩ := h1
  unfold wp_J_bitCount
  refine ⟨rk a1, ?_⟩
  intro v1 e1
  subst e1
  refine ⟨rk a2, ?_⟩
  intro v2 e2
  subst e2
  refine ⟨rk a3, ?_⟩
  intro v3 e3
  subst e3
  refine ⟨rk a4, ?_⟩
  intro v4 e4
  subst e4
  refine ⟨rk a5, ?_⟩
  intro v5 e5
  subst e5
  have a7 := a6
  simp only [bc1, bc2, bc3, bc4, bc5] at a7
  rw [a7]
  exact h
