/-! ===== the beginning ===== -/
def PG (a : Mm) : Prop := GC 4 (fun x => x = idc) (a 0) (a 1) (a 2) (a 3)
def PMd (d : Mm) : Prop := IS 4 (fun x => x = idc) (d 31) ∧ TL 4 (fun x => x = idc) d ∧ (d 31 0 = 4 ∧ d 31 1 = 2 ∧ d 31 2 = 0 ∧ d 31 3 = 1 ∧ d 31 4 = 2 ∧ d 31 5 = 3) ∧ d 30 4 = 0 ∧ (∀ j, d 34 j = 0) ∧ (∀ j, d 33 j = 0)
theorem begin_G : wp_G_makeStill 0 (fun _ _ => 0) PG := sp_makeStill (n := 4) (fun M' h _ _ => h)
theorem begin_M : wp_M_beginGroup mM0 (fun M1 => wp_M_closeGroup M1 PMd) := by
  unfold wp_M_beginGroup
  intro M1 e1
  have m31 : M1 31 = rowM := by rw [e1, ms_o _ _ _ (by omega)]; rfl
  refine sp_M_closeGroup (n := 4) (c := 0) (mk := fun _ => 0) (by omega) (by omega) (by rw [m31]; rfl) ⟨by rw [e1, ms_self]; rfl, by omega, fun m hm => by omega⟩ ?_
  intro M8 i8 t8 _ f8
  have k : ∀ j, j < 6 → M8 31 j = rowM j := fun j hj => by rw [f8.2.2 j hj, m31]
  have j8 := f8.J
  refine ⟨i8.congr (fun x => (Cl_nil x).symm), t8.congr (fun x => (Cl_nil x).symm), ⟨?_, ?_, ?_, ?_, ?_, ?_⟩, ?_, fun j => ?_, fun j => ?_⟩
  · rw [k 0 (by omega)]; rfl
  · rw [k 1 (by omega)]; rfl
  · rw [k 2 (by omega)]; rfl
  · rw [k 3 (by omega)]; rfl
  · rw [k 4 (by omega)]; rfl
  · rw [k 5 (by omega)]; rfl
  · rw [j8.2.2.2.2.1, e1, ms_ne _ _ (by omega)]; rfl
  · rw [j8.2.2.2.1, e1, ms_o _ _ _ (by omega)]; rfl
  · rw [j8.2.2.1, e1, ms_o _ _ _ (by omega)]; rfl
theorem j4 {j : Nat} (h : j < 4) : j = 0 ∨ j = 1 ∨ j = 2 ∨ j = 3 := by omega
theorem begin_all (a b c d : Mm) (ha : PG a) (hd : PMd d) : Inv (comb (mT a b c) d) := by
  obtain ⟨d1, d2, ⟨d3, d4, d5, d6, d7, d8⟩, d9, d10, d11⟩ := hd
  have c31 : comb (mT a b c) d 31 = d 31 := rfl
  have c33 : comb (mT a b c) d 33 = d 33 := rfl
  have c34 : comb (mT a b c) d 34 = d 34 := rfl
  have c30 : comb (mT a b c) d 30 = d 30 := rfl
  refine ⟨(4, 2, fun j => j, fun x => x = idc), ⟨by decide, by decide, by decide, by decide, fun j hj => by show j ≤ 9; omega, ⟨fun t ht => by rw [show t = idc from ht]; exact isP_id (show 4 ≤ 7 by omega), rfl, fun x y hx hy => by rw [show x = idc from hx, show y = idc from hy]; exact id_cmp (isP_id (Nat.le_refl 7))⟩⟩, ⟨⟨rfl, rfl, fun j hj => ?_, ha⟩, fun q => absurd rfl q, fun q => absurd rfl q⟩, ⟨⟨?_, ?_, fun j hj => ?_, ?_⟩, ?_⟩, ⟨0, by omega, rfl, ?_, fun j hj => ?_⟩, ⟨0, 0, by omega, by omega, rfl, ?_, ?_, fun q => absurd q (by decide), fun q => absurd q (by decide)⟩⟩
  · rcases j4 hj with e | e | e | e <;> rw [e] <;> rfl
  · rw [c31]; exact d3
  · rw [c31]; exact d4
  · rw [c31]
    rcases j4 hj with e | e | e | e
    · rw [e]; exact d5
    · rw [e]; exact d6
    · rw [e]; exact d7
    · rw [e]; exact d8
  · rw [c31]; exact d1
  · exact d2.cong (by rw [c30]) rfl
  · rw [c30]; exact d9
  · rw [c34, d10 j]
    exact ⟨rfl, by omega, by omega⟩
  · rw [c33]; exact d11 0
  · rw [c33]; exact d11 1
theorem all_ok : LawOK Inv := ⟨ok_points, ok_beside, ok_blocks, ok_join, ok_say, ok_wipe, ok_turn, ok_type, ok_orbit, ok_sorts, ok_weight, ok_patterns, ok_pattern, ok_of, ok_kinds, ok_by, ok_image, ok_restore, ok_count⟩
