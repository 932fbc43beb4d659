def tal : List Nat → Nat
  | [] => 0
  | x :: l => (if x = 0 then 0 else 16 ^ x) + tal l
def fz {α : Type} (n : Nat) (k : Nat → α) : α := match n with
  | 0 => k 0
  | m + 1 => k (m + 1)
theorem fz_eq {α : Type} (n : Nat) (k : Nat → α) : fz n k = k n := by cases n <;> rfl
def fzL : List Nat → (List Nat → Bool) → Bool
  | [], k => k []
  | x :: l, k => fz x (fun y => fzL l (fun m => k (y :: m)))
theorem fzL_eq : ∀ (l : List Nat) (k : List Nat → Bool), fzL l k = k l
  | [], k => rfl
  | x :: l, k => by rw [fzL, fz_eq, fzL_eq l]
def okU (n t : Nat) : Bool := fzL (lens n t) (fun l => fz (tal l) (fun T => decide (T < 1000000000) && (List.range 7).all (fun k => T / 16 ^ (k + 1) % 16 == l.count (k + 1))))
theorem okU_1_0 : cl_1_0.all (okU 1) = true := by decide +kernel
theorem okU_1 : (cdA 1).all (okU 1) = true := by
  rw [cl_eq_1]
  simp only [cl_1, List.all_append, okU_1_0, Bool.and_self]
theorem okU_2_0 : cl_2_0.all (okU 2) = true := by decide +kernel
theorem okU_2 : (cdA 2).all (okU 2) = true := by
  rw [cl_eq_2]
  simp only [cl_2, List.all_append, okU_2_0, Bool.and_self]
theorem okU_3_0 : cl_3_0.all (okU 3) = true := by decide +kernel
theorem okU_3 : (cdA 3).all (okU 3) = true := by
  rw [cl_eq_3]
  simp only [cl_3, List.all_append, okU_3_0, Bool.and_self]
theorem okU_4_0 : cl_4_0.all (okU 4) = true := by decide +kernel
theorem okU_4 : (cdA 4).all (okU 4) = true := by
  rw [cl_eq_4]
  simp only [cl_4, List.all_append, okU_4_0, Bool.and_self]
theorem okU_5_0 : cl_5_0.all (okU 5) = true := by decide +kernel
theorem okU_5 : (cdA 5).all (okU 5) = true := by
  rw [cl_eq_5]
  simp only [cl_5, List.all_append, okU_5_0, Bool.and_self]
theorem okU_6_0 : cl_6_0.all (okU 6) = true := by decide +kernel
theorem okU_6_1 : cl_6_1.all (okU 6) = true := by decide +kernel
theorem okU_6_2 : cl_6_2.all (okU 6) = true := by decide +kernel
theorem okU_6 : (cdA 6).all (okU 6) = true := by
  rw [cl_eq_6]
  simp only [cl_6, List.all_append, okU_6_0, okU_6_1, okU_6_2, Bool.and_self]
theorem okU_7_0 : cl_7_0.all (okU 7) = true := by decide +kernel
theorem okU_7_1 : cl_7_1.all (okU 7) = true := by decide +kernel
theorem okU_7_2 : cl_7_2.all (okU 7) = true := by decide +kernel
theorem okU_7_3 : cl_7_3.all (okU 7) = true := by decide +kernel
theorem okU_7_4 : cl_7_4.all (okU 7) = true := by decide +kernel
theorem okU_7_5 : cl_7_5.all (okU 7) = true := by decide +kernel
theorem okU_7_6 : cl_7_6.all (okU 7) = true := by decide +kernel
theorem okU_7_7 : cl_7_7.all (okU 7) = true := by decide +kernel
theorem okU_7_8 : cl_7_8.all (okU 7) = true := by decide +kernel
theorem okU_7_9 : cl_7_9.all (okU 7) = true := by decide +kernel
theorem okU_7_10 : cl_7_10.all (okU 7) = true := by decide +kernel
theorem okU_7_11 : cl_7_11.all (okU 7) = true := by decide +kernel
theorem okU_7_12 : cl_7_12.all (okU 7) = true := by decide +kernel
theorem okU_7_13 : cl_7_13.all (okU 7) = true := by decide +kernel
theorem okU_7_14 : cl_7_14.all (okU 7) = true := by decide +kernel
theorem okU_7_15 : cl_7_15.all (okU 7) = true := by decide +kernel
theorem okU_7_16 : cl_7_16.all (okU 7) = true := by decide +kernel
theorem okU_7_17 : cl_7_17.all (okU 7) = true := by decide +kernel
theorem okU_7_18 : cl_7_18.all (okU 7) = true := by decide +kernel
theorem okU_7_19 : cl_7_19.all (okU 7) = true := by decide +kernel
theorem okU_7_20 : cl_7_20.all (okU 7) = true := by decide +kernel
theorem okU_7 : (cdA 7).all (okU 7) = true := by
  rw [cl_eq_7]
  simp only [cl_7, List.all_append, okU_7_0, okU_7_1, okU_7_2, okU_7_3, okU_7_4, okU_7_5, okU_7_6, okU_7_7, okU_7_8, okU_7_9, okU_7_10, okU_7_11, okU_7_12, okU_7_13, okU_7_14, okU_7_15, okU_7_16, okU_7_17, okU_7_18, okU_7_19, okU_7_20, Bool.and_self]
