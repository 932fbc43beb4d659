/-- what each cell holds: addresses, array kinds, memory -/
def shF (ad : Nat → Nat) (cs : Nat → ClassId) (k : Nat) (M : Mm) : va_E := match k with
  | 0 => .inr (5, [.ref (ad 12), .ref (ad 1), .int (iI (M 0 2)), .ref (ad 2), .ref (ad 4), .ref (ad 7)])
  | 1 => .inl (cs 1, 2, .inr (.inr (.inr (.inr (fun i => some (ad (18 + 6 * i)))))))
  | 2 => .inr (1, [.ref (ad 3), .int (iI (M 2 1))])
  | 3 => .inl (cs 3, 7, .inl (fun j => iI (M 3 j)))
  | 4 => .inr (4, [.ref (ad 5), .ref (ad 6), .int (iI (M 4 2)), .int (iI (M 4 3))])
  | 5 => .inl (cs 5, 15, .inl (fun j => iI (M 5 j)))
  | 6 => .inl (cs 6, 15, .inl (fun j => iI (M 6 j)))
  | 7 => .inr (2, [.ref (ad 8), .ref (ad 9), .ref (ad 10), .ref (ad 11), .int (iI (M 7 4)), .int (iI (M 7 5)), .int (iI (M 7 6)), .int (iI (M 7 7)), .int (iI (M 7 8))])
  | 8 => .inl (cs 8, 16384, .inl (fun j => iI (M 8 j)))
  | 9 => .inl (cs 9, 16384, .inl (fun j => iI (M 9 j)))
  | 10 => .inl (cs 10, 16385, .inl (fun j => iI (M 10 j)))
  | 11 => .inl (cs 11, 8, .inl (fun j => iI (M 11 j)))
  | 12 => .inr (3, [.int (iI (M 12 0)), .int (iI (M 12 1)), .ref (ad 13), .ref (ad 14)])
  | 13 => .inl (cs 13, 4, .inl (fun j => iI (M 13 j)))
  | 14 => .inr (0, [.ref (ad 15), .int (iI (M 14 1)), .ref (ad 16), .int (iI (M 14 3)), .ref (ad 17)])
  | 15 => .inl (cs 15, 5040, .inl (fun j => iI (M 15 j)))
  | 16 => .inl (cs 16, 12, .inl (fun j => iI (M 16 j)))
  | 17 => .inl (cs 17, 158, .inl (fun j => iI (M 17 j)))
  | 18 => .inr (3, [.int (iI (M 18 0)), .int (iI (M 18 1)), .ref (ad 19), .ref (ad 20)])
  | 19 => .inl (cs 19, 4, .inl (fun j => iI (M 19 j)))
  | 20 => .inr (0, [.ref (ad 21), .int (iI (M 20 1)), .ref (ad 22), .int (iI (M 20 3)), .ref (ad 23)])
  | 21 => .inl (cs 21, 5040, .inl (fun j => iI (M 21 j)))
  | 22 => .inl (cs 22, 12, .inl (fun j => iI (M 22 j)))
  | 23 => .inl (cs 23, 158, .inl (fun j => iI (M 23 j)))
  | 24 => .inr (3, [.int (iI (M 24 0)), .int (iI (M 24 1)), .ref (ad 25), .ref (ad 26)])
  | 25 => .inl (cs 25, 4, .inl (fun j => iI (M 25 j)))
  | 26 => .inr (0, [.ref (ad 27), .int (iI (M 26 1)), .ref (ad 28), .int (iI (M 26 3)), .ref (ad 29)])
  | 27 => .inl (cs 27, 5040, .inl (fun j => iI (M 27 j)))
  | 28 => .inl (cs 28, 12, .inl (fun j => iI (M 28 j)))
  | 29 => .inl (cs 29, 158, .inl (fun j => iI (M 29 j)))
  | 30 => .inr (6, [.ref (ad 31), .ref (ad 32), .ref (ad 33), .ref (ad 34), .int (iI (M 30 4)), .ref (ad 35), .ref (ad 36), .ref (ad 37), .int (iI (M 30 8)), .ref (ad 38), .int (iI (M 30 10)), .ref (ad 39), .int (iI (M 30 12)), .ref (ad 40), .ref (ad 41), .ref (ad 42), .ref (ad 43), .int (iI (M 30 17)), .ref (ad 44), .ref (ad 45), .ref (ad 46), .ref (ad 47), .int (iI (M 30 22)), .int (iI (M 30 23)), .ref (ad 48)])
  | 31 => .inl (cs 31, 5046, .inl (fun j => iI (M 31 j)))
  | 32 => .inl (cs 32, 10092, .inl (fun j => iI (M 32 j)))
  | 33 => .inl (cs 33, 2, .inl (fun j => iI (M 33 j)))
  | 34 => .inl (cs 34, 7, .inl (fun j => iI (M 34 j)))
  | 35 => .inl (cs 35, 7, .inl (fun j => iI (M 35 j)))
  | 36 => .inl (cs 36, 7, .inl (fun j => iI (M 36 j)))
  | 37 => .inl (cs 37, 420, .inl (fun j => iI (M 37 j)))
  | 38 => .inl (cs 38, 5040, .inl (fun j => iI (M 38 j)))
  | 39 => .inl (cs 39, 35280, .inl (fun j => iI (M 39 j)))
  | 40 => .inl (cs 40, 5040, .inl (fun j => iI (M 40 j)))
  | 41 => .inl (cs 41, 8, .inl (fun j => iI (M 41 j)))
  | 42 => .inl (cs 42, 16, .inl (fun j => iI (M 42 j)))
  | 43 => .inl (cs 43, 16, .inl (fun j => iI (M 43 j)))
  | 44 => .inl (cs 44, 7, .inl (fun j => iI (M 44 j)))
  | 45 => .inl (cs 45, 16384, .inl (fun j => iI (M 45 j)))
  | 46 => .inl (cs 46, 16384, .inl (fun j => iI (M 46 j)))
  | 47 => .inl (cs 47, 16384, .inl (fun j => iI (M 47 j)))
  | 48 => .inl (cs 48, 7, .inl (fun j => iI (M 48 j)))
  | _ => .inr (0, [])
theorem shF_l (ad : Nat → Nat) (cs : Nat → ClassId) (k : Nat) (M M' : Mm) (h : M k = M' k) : shF ad cs k M = shF ad cs k M' := by
  unfold shF
  split <;> first | rfl | (rw [h]) | (simp only [h])
def mk (D : va_G) (tys : List (ClassId × FieldType)) (ks : List Nat) (ad : Nat → Nat) (cs : Nat → ClassId) : Xw := (D, tys, ks, ad, shF ad cs)
def tyK (k : Nat) : FieldType := if k = 1 then .object "TurnCounts$Setting" else if k = 33 ∨ k = 36 then .boolean else .int
theorem mk_lcl {D : va_G} {tys : List (ClassId × FieldType)} {ks : List Nat} {ad : Nat → Nat} {cs : Nat → ClassId} (h : ks.Nodup) : lcl (mk D tys ks ad cs) := ⟨h, fun k M M' e => shF_l ad cs k M M' e⟩
theorem mk_M {D : va_G} {tys : List (ClassId × FieldType)} {ks : List Nat} {ad : Nat → Nat} {cs : Nat → ClassId} (hk : ∀ k, 30 ≤ k → k < 49 → k ∈ ks) (ht : ∀ k, 30 ≤ k → k < 49 → (cs k, tyK k) ∈ tys) : IsM (mk D tys ks ad cs) := ⟨⟨hk 30 (by decide) (by decide), fun _ => rfl⟩, ⟨hk 31 (by decide) (by decide), by decide, cs 31, ht 31 (by decide) (by decide), fun _ => rfl⟩, ⟨hk 32 (by decide) (by decide), by decide, cs 32, ht 32 (by decide) (by decide), fun _ => rfl⟩, ⟨hk 33 (by decide) (by decide), by decide, cs 33, ht 33 (by decide) (by decide), fun _ => rfl⟩, ⟨hk 34 (by decide) (by decide), by decide, cs 34, ht 34 (by decide) (by decide), fun _ => rfl⟩, ⟨hk 35 (by decide) (by decide), by decide, cs 35, ht 35 (by decide) (by decide), fun _ => rfl⟩, ⟨hk 36 (by decide) (by decide), by decide, cs 36, ht 36 (by decide) (by decide), fun _ => rfl⟩, ⟨hk 37 (by decide) (by decide), by decide, cs 37, ht 37 (by decide) (by decide), fun _ => rfl⟩, ⟨hk 38 (by decide) (by decide), by decide, cs 38, ht 38 (by decide) (by decide), fun _ => rfl⟩, ⟨hk 39 (by decide) (by decide), by decide, cs 39, ht 39 (by decide) (by decide), fun _ => rfl⟩, ⟨hk 40 (by decide) (by decide), by decide, cs 40, ht 40 (by decide) (by decide), fun _ => rfl⟩, ⟨hk 41 (by decide) (by decide), by decide, cs 41, ht 41 (by decide) (by decide), fun _ => rfl⟩, ⟨hk 42 (by decide) (by decide), by decide, cs 42, ht 42 (by decide) (by decide), fun _ => rfl⟩, ⟨hk 43 (by decide) (by decide), by decide, cs 43, ht 43 (by decide) (by decide), fun _ => rfl⟩, ⟨hk 44 (by decide) (by decide), by decide, cs 44, ht 44 (by decide) (by decide), fun _ => rfl⟩, ⟨hk 45 (by decide) (by decide), by decide, cs 45, ht 45 (by decide) (by decide), fun _ => rfl⟩, ⟨hk 46 (by decide) (by decide), by decide, cs 46, ht 46 (by decide) (by decide), fun _ => rfl⟩, ⟨hk 47 (by decide) (by decide), by decide, cs 47, ht 47 (by decide) (by decide), fun _ => rfl⟩, ⟨hk 48 (by decide) (by decide), by decide, cs 48, ht 48 (by decide) (by decide), fun _ => rfl⟩⟩
theorem mk_T {D : va_G} {tys : List (ClassId × FieldType)} {ks : List Nat} {ad : Nat → Nat} {cs : Nat → ClassId} (hk : ∀ k, 0 ≤ k → k < 30 → k ∈ ks) (ht : ∀ k, 0 ≤ k → k < 30 → (cs k, tyK k) ∈ tys) : IsT (mk D tys ks ad cs) := by
  refine ⟨⟨hk 0 (by decide) (by decide), fun _ => rfl⟩, ⟨hk 1 (by decide) (by decide), by decide, cs 1, ht 1 (by decide) (by decide), fun _ => rfl⟩, ⟨⟨hk 2 (by decide) (by decide), fun _ => rfl⟩, ⟨hk 3 (by decide) (by decide), by decide, cs 3, ht 3 (by decide) (by decide), fun _ => rfl⟩⟩, ⟨⟨hk 4 (by decide) (by decide), fun _ => rfl⟩, ⟨hk 5 (by decide) (by decide), by decide, cs 5, ht 5 (by decide) (by decide), fun _ => rfl⟩, ⟨hk 6 (by decide) (by decide), by decide, cs 6, ht 6 (by decide) (by decide), fun _ => rfl⟩⟩, ⟨⟨hk 7 (by decide) (by decide), fun _ => rfl⟩, ⟨hk 8 (by decide) (by decide), by decide, cs 8, ht 8 (by decide) (by decide), fun _ => rfl⟩, ⟨hk 9 (by decide) (by decide), by decide, cs 9, ht 9 (by decide) (by decide), fun _ => rfl⟩, ⟨hk 10 (by decide) (by decide), by decide, cs 10, ht 10 (by decide) (by decide), fun _ => rfl⟩, ⟨hk 11 (by decide) (by decide), by decide, cs 11, ht 11 (by decide) (by decide), fun _ => rfl⟩⟩, ⟨⟨hk 12 (by decide) (by decide), fun _ => rfl⟩, ⟨hk 13 (by decide) (by decide), by decide, cs 13, ht 13 (by decide) (by decide), fun _ => rfl⟩, ⟨⟨hk 14 (by decide) (by decide), fun _ => rfl⟩, ⟨hk 15 (by decide) (by decide), by decide, cs 15, ht 15 (by decide) (by decide), fun _ => rfl⟩, ⟨hk 16 (by decide) (by decide), by decide, cs 16, ht 16 (by decide) (by decide), fun _ => rfl⟩, ⟨hk 17 (by decide) (by decide), by decide, cs 17, ht 17 (by decide) (by decide), fun _ => rfl⟩⟩⟩, ?_⟩
  intro i hi
  rcases (show i = 0 ∨ i = 1 by omega) with rfl | rfl
  · exact ⟨⟨hk 18 (by decide) (by decide), fun _ => rfl⟩, ⟨hk 19 (by decide) (by decide), by decide, cs 19, ht 19 (by decide) (by decide), fun _ => rfl⟩, ⟨⟨hk 20 (by decide) (by decide), fun _ => rfl⟩, ⟨hk 21 (by decide) (by decide), by decide, cs 21, ht 21 (by decide) (by decide), fun _ => rfl⟩, ⟨hk 22 (by decide) (by decide), by decide, cs 22, ht 22 (by decide) (by decide), fun _ => rfl⟩, ⟨hk 23 (by decide) (by decide), by decide, cs 23, ht 23 (by decide) (by decide), fun _ => rfl⟩⟩⟩
  · exact ⟨⟨hk 24 (by decide) (by decide), fun _ => rfl⟩, ⟨hk 25 (by decide) (by decide), by decide, cs 25, ht 25 (by decide) (by decide), fun _ => rfl⟩, ⟨⟨hk 26 (by decide) (by decide), fun _ => rfl⟩, ⟨hk 27 (by decide) (by decide), by decide, cs 27, ht 27 (by decide) (by decide), fun _ => rfl⟩, ⟨hk 28 (by decide) (by decide), by decide, cs 28, ht 28 (by decide) (by decide), fun _ => rfl⟩, ⟨hk 29 (by decide) (by decide), by decide, cs 29, ht 29 (by decide) (by decide), fun _ => rfl⟩⟩⟩
