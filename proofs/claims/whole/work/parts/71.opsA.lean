/-! ===== the calls that make a group ===== -/
theorem wt_kind {a : Int} {post : Int → Prop} (h1 : ∀ k : Nat, k < 5 → a = (k : Int) → post 1) (h0 : ¬ (0 ≤ a ∧ a ≤ 4) → post 0) : wp_T_isKind a post := by
  unfold wp_T_isKind
  by_cases q : 0 ≤ a ∧ a ≤ 4
  · exact wt_in_1 q ⟨Or.inr rfl, h1 a.toNat (by omega) (by omega)⟩
  · exact wt_in_0 q ⟨Or.inl rfl, h0 q⟩
theorem wm_kind {a : Int} {post : Int → Prop} (h1 : (0 ≤ a ∧ a ≤ 4) → post 1) (h0 : ¬ (0 ≤ a ∧ a ≤ 4) → post 0) : wp_M_isKind a post := by
  unfold wp_M_isKind
  by_cases q : 0 ≤ a ∧ a ≤ 4
  · exact wp_in_1 q ⟨Or.inr rfl, h1 q⟩
  · exact wp_in_0 q ⟨Or.inl rfl, h0 q⟩
theorem still_Cl {n g : Nat} {M : Mm} (h : GC n (fun x => x = idc) (M g) (M (g + 1)) (M (g + 2)) (M (g + 3))) : GCg n (Cl (fun _ => False)) g M :=
  GC.congr h (fun x => ⟨fun hx => Cl_ind (P := fun x => x = idc) rfl (fun a b _ hb => hb.elim) hx, fun hx => by rw [hx]; exact Cl_id _⟩)
/-- both have their new group: they hold together again -/
theorem regroup {c : Cfg} {M M4 M5 M6 M7 M8 : Mm} {S T : Nat → Prop} (hV : VC c) (hL : ML c M) (hP : PAD M) (hI : IMG M) (hC : SC c 12 M) (hS : ∀ y, S y → isP c.1 y) (hT : ∀ y, T y → isP c.1 y) (hST : ∀ y, S y → Cl T y) (hTS : ∀ y, T y → Cl S y)
    (g4 : GCg c.1 (Cl S) 14 M4) (f4 : ∀ k, k ≠ 14 → k ≠ 15 → k ≠ 16 → k ≠ 17 → M4 k = M k) (e5 : M5 = ms M4 4 3 0) (e6 : M6 = ms M5 7 8 0) (j7 : FrJ M6 M7) (i8 : IS c.1 (Cl T) (M8 31)) (t8 : TL c.1 (Cl T) M8) (f8 : FrC M7 M8) : M6 14 1 = M8 30 12 ∧ Inv M8 := by
  obtain ⟨v1, v2, v3, v4, v5, hG⟩ := hV
  obtain ⟨t0, t1, t2, hGC⟩ := hC
  have heq : ∀ x, Cl S x ↔ Cl T x := Cl_iff v2 hS hT hST hTS
  have hS4 : SC (c.1, c.2.1, c.2.2.1, Cl S) 12 M4 := ⟨by rw [f4 12 (by omega) (by omega) (by omega) (by omega)]; exact t0, by rw [f4 12 (by omega) (by omega) (by omega) (by omega)]; exact t1, fun j hj => by rw [f4 13 (by omega) (by omega) (by omega) (by omega)]; exact t2 j hj, g4⟩
  obtain ⟨hC6, k6⟩ := CL_forget hS4 e5 e6
  have j8 := j7.tr f8.J
  have k6' : ∀ k, k ≤ 3 ∨ 18 ≤ k → M6 k = M k := fun k hk => by rw [k6 k (by omega) (by omega), f4 k (by omega) (by omega) (by omega) (by omega)]
  obtain ⟨p8, q8⟩ := keep (M8 := M8) k6' j8.1 j8.2.1 j8.2.2.1 j8.2.2.2.1 j8.2.2.2.2.1 hP hI
  have m31 : ∀ j, j < 6 → M8 31 j = M 31 j := fun j hj => by rw [j8.2.2.2.2.2 j hj, k6' 31 (by omega)]
  have ht := t8.congr heq
  refine ⟨size_eq hC6.1 ht, (c.1, c.2.1, c.2.2.1, Cl S), ⟨v1, v2, v3, v4, v5, Cl_grp v2 hS⟩, hC6.cong (fun k _ hk => j8.1 k (by omega)), ⟨⟨by rw [m31 0 (by omega)]; exact hL.1.1, by rw [m31 1 (by omega)]; exact hL.1.2.1, fun j hj => by rw [m31 (2 + j) (by omega)]; exact hL.1.2.2.1 j hj, i8.congr heq⟩, ht⟩, p8, q8⟩
theorem ok_beside : op_beside Inv := by
  intro M hM ⟨c, hV, hC, hL, hP, hI⟩ a1 _ a2 _ a3 _
  have hInv : Inv M := ⟨c, hV, hC, hL, hP, hI⟩
  have hV' := hV
  obtain ⟨v1, v2, v3, v4, v5, hG⟩ := hV
  have hC1 := hC.1
  obtain ⟨t0, t1, t2, hGC⟩ := hC1
  unfold wp_T_beside wp_M_beside
  rw [t0]
  by_cases q : 0 ≤ a1 ∧ a1 ≤ (c.1 : Int)
  · refine wt_in_1 q ⟨fun q2 => absurd q2 (by decide), fun _ => ?_⟩
    obtain ⟨a, ha⟩ : ∃ a : Nat, a1 = (a : Int) := ⟨a1.toNat, by omega⟩
    refine wt_kind (fun k2 hk2 e2 => ⟨fun q2 => absurd q2 (by decide), fun _ => ?_⟩) (fun q2 => ⟨fun _ => ?_, fun q3 => absurd rfl q3⟩)
    · refine wt_kind (fun k3 hk3 e3 => ⟨fun _ => ?_, fun q2 => absurd q2 (by decide)⟩) (fun q2 => ⟨fun q3 => absurd rfl q3, fun _ => ?_⟩)
      · rw [ha, e2, e3]
        have hab1 : 0 + a * 1 ≤ c.1 := by omega
        have hab2 : a + (c.1 - a) * 1 ≤ c.1 := by omega
        have P1 := kd_P (n := c.1) hk2 (Nat.le_refl 1) (by decide) hab1 v2
        have P2 := kd_P (n := c.1) hk3 (Nat.le_refl 1) (by decide) hab2 v2
        refine sp_makeStill (n := c.1) ?_
        intro M4 g4 f4 _
        have m12 : M4 12 = M 12 := f4 12 (by omega) (by omega) (by omega)
        refine sp_kind (S := fun _ => False) (a := 0) (w := 1) v1 v2 (fun y hy => hy.elim) (still_Cl g4) hk2 (Nat.le_refl 1) (by decide) hab1 ?_
        intro M5 g5 f5
        have m12' : M5 12 = M 12 := by rw [f5.1 12 (by omega) (by omega) (by omega) (by omega)]; exact m12
        rw [m12', t0, show (c.1 : Int) - (a : Int) = ((c.1 - a : Nat) : Int) by omega]
        refine ⟨⟨by omega, by omega⟩, ?_⟩
        refine sp_kind (w := 1) v1 v2 (fun y hy => hy.elim (fun a => a.elim) (P1.2 y)) g5 hk3 (Nat.le_refl 1) (by decide) hab2 ?_
        intro M6 g6 f6
        unfold wp_T_forgetGroup
        intro M7 e7 M8 e8
        have f6' : ∀ k, k ≠ 14 → k ≠ 15 → k ≠ 16 → k ≠ 17 → M6 k = M k := fun k a b c d => by rw [f6.1 k (by omega) (by omega) (by omega) (by omega), f5.1 k (by omega) (by omega) (by omega) (by omega), f4 k (by omega) (by omega) (by omega)]
        have n8 : M8 31 0 = (c.1 : Int) := by rw [e8, ms_o _ _ _ (by omega), e7, ms_o _ _ _ (by omega), f6' 31 (by omega) (by omega) (by omega) (by omega)]; exact hL.1.1
        refine sp_M_many n8 ?_
        refine wp_in_1 (by omega) ⟨fun q2 => absurd q2 (by decide), fun _ => ?_⟩
        refine wm_kind (fun _ => ⟨fun q2 => absurd q2 (by decide), fun _ => ?_⟩) (fun q2 => absurd (by omega) q2)
        refine wm_kind (fun _ => ⟨fun _ => ?_, fun q2 => absurd q2 (by decide)⟩) (fun q2 => absurd (by omega) q2)
        unfold wp_M_beginGroup
        intro M9 e9
        have k9 : FrK M8 M9 := ⟨fun k a _ _ _ => by rw [e9, ms_o _ _ _ a], fun j hj => by rw [e9, ms_ne _ _ hj]⟩
        have n9 : M9 31 0 = (c.1 : Int) := by rw [e9, ms_o _ _ _ (by omega)]; exact n8
        refine sp_M_addKind (n := c.1) (c := 0) (mk := fun _ => 0) (a := 0) (w := 1) v2 n9 ⟨by rw [e9, ms_self]; rfl, by omega, fun m hm => by omega⟩ (by omega) hk2 (Nat.le_refl 1) (by decide) hab1 (by omega) ?_
        intro M10 c10 mk10 m10 l10 b10 f10
        have n10 : M10 31 0 = (c.1 : Int) := by rw [f10.1 31 (by omega) (by omega) (by omega) (by omega)]; exact n9
        refine sp_M_many n10 ?_
        rw [show (c.1 : Int) - (a : Int) = ((c.1 - a : Nat) : Int) by omega]
        refine ⟨⟨by omega, by omega⟩, ?_⟩
        refine sp_M_addKind (w := 1) v2 n10 m10 (by omega) hk3 (Nat.le_refl 1) (by decide) hab2 (by omega) ?_
        intro M11 c11 mk11 m11 l11 b11 f11
        have n11 : M11 31 0 = (c.1 : Int) := by rw [f11.1 31 (by omega) (by omega) (by omega) (by omega)]; exact n10
        refine sp_M_closeGroup v1 v2 n11 m11 ?_
        intro M12 i12 t12 _ f12
        have lS : ∀ y, Ls mk11 c11 y ↔ y ∈ kdM k2 0 a 1 ∨ y ∈ kdM k3 a (c.1 - a) 1 := fun y => by
          rw [l11 y, l10 y]
          exact ⟨fun h => h.elim (fun h => h.elim (fun ⟨i, hi, _⟩ => by omega) Or.inl) Or.inr, fun h => h.elim (fun h => Or.inl (Or.inr h)) Or.inr⟩
        refine regroup (c := c) hV' hL hP hI hC.1 (fun y hy => hy.elim (fun h => h.elim (fun a => a.elim) (P1.2 y)) (P2.2 y)) (fun y hy => ((lS y).mp hy).elim (P1.1 y) (P2.1 y)) (fun y hy => ?_) (fun y hy => ?_) g6 f6' e7 e8 ((k9.tr (f10.tr f11)).J) i12 t12 f12
        · rcases hy with h | h
          · rcases h with h | h
            · exact h.elim
            · exact Cl_mono (fun z hz => (lS z).mpr (Or.inl hz)) (kd_CM hk2 (Nat.le_refl 1) (by decide) (by omega) y h)
          · exact Cl_mono (fun z hz => (lS z).mpr (Or.inr hz)) (kd_CM hk3 (Nat.le_refl 1) (by decide) (by omega) y h)
        · rcases (lS y).mp hy with h | h
          · exact Cl_mono (fun z hz => Or.inl (Or.inr hz)) (kd_MC hk2 (Nat.le_refl 1) (by decide) (by omega) y h)
          · exact Cl_mono (fun z hz => Or.inr hz) (kd_MC hk3 (Nat.le_refl 1) (by decide) (by omega) y h)
      · refine sp_M_many hL.1.1 (wp_in_1 q ⟨fun q3 => absurd q3 (by decide), fun _ => ?_⟩)
        refine wm_kind (fun _ => ⟨fun q3 => absurd q3 (by decide), fun _ => ?_⟩) (fun q3 => absurd (by omega) q3)
        exact wm_kind (fun q3 => absurd q3 q2) (fun _ => ⟨fun q3 => absurd rfl q3, fun _ => ⟨rfl, hInv⟩⟩)
    · refine sp_M_many hL.1.1 (wp_in_1 q ⟨fun q3 => absurd q3 (by decide), fun _ => ?_⟩)
      exact wm_kind (fun q3 => absurd q3 q2) (fun _ => ⟨fun _ => ⟨rfl, hInv⟩, fun q3 => absurd rfl q3⟩)
  · exact wt_in_0 q ⟨fun _ => sp_M_many hL.1.1 (wp_in_0 q ⟨fun _ => ⟨rfl, hInv⟩, fun q3 => absurd rfl q3⟩), fun q3 => absurd rfl q3⟩
def bkC (k a : Nat) (j y : Nat) : Prop := ∃ i, i < j ∧ y ∈ kdC k (i * a) a 1
def bkM (k a : Nat) (j y : Nat) : Prop := ∃ i, i < j ∧ y ∈ kdM k (i * a) a 1
theorem bkC_s {k a j y : Nat} : bkC k a (j + 1) y ↔ bkC k a j y ∨ y ∈ kdC k (j * a) a 1 := by
  constructor
  · rintro ⟨i, hi, e⟩
    by_cases q : i = j
    · rw [q] at e; exact Or.inr e
    · exact Or.inl ⟨i, by omega, e⟩
  · rintro (⟨i, hi, e⟩ | e)
    · exact ⟨i, by omega, e⟩
    · exact ⟨j, by omega, e⟩
theorem bkM_s {k a j y : Nat} : bkM k a (j + 1) y ↔ bkM k a j y ∨ y ∈ kdM k (j * a) a 1 := by
  constructor
  · rintro ⟨i, hi, e⟩
    by_cases q : i = j
    · rw [q] at e; exact Or.inr e
    · exact Or.inl ⟨i, by omega, e⟩
  · rintro (⟨i, hi, e⟩ | e)
    · exact ⟨i, by omega, e⟩
    · exact ⟨j, by omega, e⟩
theorem ok_blocks : op_blocks Inv := by
  intro M hM ⟨c, hV, hC, hL, hP, hI⟩ a1 _ a2 _ a3 _
  have hInv : Inv M := ⟨c, hV, hC, hL, hP, hI⟩
  have hV' := hV
  obtain ⟨v1, v2, v3, v4, v5, hG⟩ := hV
  have hC1 := hC.1
  obtain ⟨t0, t1, t2, hGC⟩ := hC1
  unfold wp_T_blocks wp_M_blocks
  rw [t0]
  by_cases q : 1 ≤ a1 ∧ a1 ≤ (c.1 : Int)
  · refine wt_in_1 q ⟨fun q2 => absurd q2 (by decide), fun _ => ?_⟩
    obtain ⟨a, ha⟩ : ∃ a : Nat, a1 = (a : Int) := ⟨a1.toNat, by omega⟩
    have ha1 : 1 ≤ a := by omega
    refine ⟨⟨by omega, by omega⟩, ?_⟩
    by_cases qm : (c.1 : Int) % a1 = 0
    · refine ⟨fun q2 => absurd qm q2, fun _ => ?_⟩
      refine wt_kind (fun k2 hk2 e2 => ⟨fun q2 => absurd q2 (by decide), fun _ => ?_⟩) (fun q2 => ⟨fun _ => ?_, fun q3 => absurd rfl q3⟩)
      · refine wt_kind (fun k3 hk3 e3 => ⟨fun _ => ?_, fun q2 => absurd q2 (by decide)⟩) (fun q2 => ⟨fun q3 => absurd rfl q3, fun _ => ?_⟩)
        · have qmN : c.1 % a = 0 := by rw [ha] at qm; omega
          obtain ⟨m, hm⟩ : ∃ m, c.1 = m * a := ⟨c.1 / a, by rw [Nat.mul_comm]; exact (Nat.mul_div_cancel' (Nat.dvd_of_mod_eq_zero qmN)).symm⟩
          have hmd : c.1 / a = m := by rw [hm]; exact Nat.mul_div_cancel m (by omega)
          have hm7 : m ≤ 7 := Nat.le_trans (Nat.le_trans (Nat.le_mul_of_pos_right m ha1) (Nat.le_of_eq hm.symm)) v2
          have hbl : ∀ i, i < m → i * a + a * 1 ≤ c.1 := fun i hi => by
            have : (i + 1) * a ≤ m * a := Nat.mul_le_mul_right a hi
            rw [Nat.add_mul, Nat.one_mul] at this
            omega
          have hab3 : 0 + m * a ≤ c.1 := by omega
          have P1 := fun i hi => kd_P (n := c.1) hk2 (Nat.le_refl 1) (by decide) (hbl i hi) v2
          have P2 := kd_P (n := c.1) hk3 ha1 (by omega) hab3 v2
          rw [ha, e2, e3]
          refine ⟨⟨by omega, by omega⟩, ?_⟩
          intro v4' hv4'
          have hv4 : v4' = (m : Int) := by rw [hv4', show (c.1 : Int) / (a : Int) = ((c.1 / a : Nat) : Int) from rfl, hmd]
          rw [hv4]
          refine sp_makeStill (n := c.1) ?_
          intro M4 g4 f4 _
          refine ⟨fun t x M5 => ∃ j : Nat, j ≤ m ∧ t = m - j ∧ x = (j : Int) ∧ GCg c.1 (Cl (bkC k2 a j)) (12 + 2) M5 ∧ (∀ k, k ≠ 14 → k ≠ 15 → k ≠ 16 → k ≠ 17 → M5 k = M k), ⟨m, 0, by omega, rfl, rfl, GC.congr (still_Cl g4) (fun x => ⟨fun h => Cl_mono (fun z ⟨i, hi, _⟩ => by omega) h, fun h => Cl_mono (fun z hz => hz.elim) h⟩), fun k a b c d => f4 k (by omega) (by omega) (by omega)⟩, ?_⟩
          rintro t x M5 ⟨j, hj, rfl, rfl, g5, f5⟩
          have hSb : ∀ y, bkC k2 a j y → isP c.1 y := fun y ⟨i, hi, h⟩ => (P1 i (by omega)).2 y h
          refine ⟨fun q2 => ?_, fun q2 => ?_⟩
          · have hjm : j = m := by omega
            subst hjm
            refine sp_kind (a := 0) v1 v2 hSb g5 hk3 ha1 (by omega) hab3 ?_
            intro M6 g6 f6
            unfold wp_T_forgetGroup
            intro M7 e7 M8 e8
            have f6' : ∀ k, k ≠ 14 → k ≠ 15 → k ≠ 16 → k ≠ 17 → M6 k = M k := fun k a b c d => by rw [f6.1 k (by omega) (by omega) (by omega) (by omega), f5 k a b c d]
            have n8 : M8 31 0 = (c.1 : Int) := by rw [e8, ms_o _ _ _ (by omega), e7, ms_o _ _ _ (by omega), f6' 31 (by omega) (by omega) (by omega) (by omega)]; exact hL.1.1
            refine sp_M_many n8 ?_
            refine wp_in_1 (by omega) ⟨fun q2 => absurd q2 (by decide), fun _ => ?_⟩
            refine sp_M_many n8 ?_
            refine ⟨⟨by omega, by omega⟩, fun q3 => absurd (by rw [← ha]; exact qm) q3, fun _ => ?_⟩
            refine wm_kind (fun _ => ⟨fun q2 => absurd q2 (by decide), fun _ => ?_⟩) (fun q2 => absurd (by omega) q2)
            refine wm_kind (fun _ => ⟨fun _ => ?_, fun q2 => absurd q2 (by decide)⟩) (fun q2 => absurd (by omega) q2)
            unfold wp_M_beginGroup
            intro M9 e9
            have k9 : FrK M8 M9 := ⟨fun k a _ _ _ => by rw [e9, ms_o _ _ _ a], fun j hj => by rw [e9, ms_ne _ _ hj]⟩
            refine ⟨fun t x M10 => ∃ (i c10 : Nat) (mk10 : Nat → Nat), i ≤ j ∧ t = j - i ∧ x = ((i * a : Nat) : Int) ∧ MK c.1 c10 mk10 M10 ∧ c10 ≤ 6 * i ∧ (∀ y, Ls mk10 c10 y ↔ bkM k2 a i y) ∧ FrK M8 M10, ⟨j, 0, 0, fun _ => 0, by omega, rfl, by simp, ⟨by rw [e9, ms_self]; rfl, by omega, fun m hm => by omega⟩, by omega, fun y => ⟨fun ⟨i, hi, _⟩ => by omega, fun ⟨i, hi, _⟩ => by omega⟩, k9⟩, ?_⟩
            rintro t x M10 ⟨i, c10, mk10, hi, rfl, rfl, m10, b10, l10, f10⟩
            have n10 : M10 31 0 = (c.1 : Int) := by rw [f10.1 31 (by omega) (by omega) (by omega) (by omega)]; exact n8
            refine sp_M_many n10 ?_
            refine ⟨fun q3 => ?_, fun q3 => ?_⟩
            · have hij : i = j := by
                by_cases q4 : i = j
                · exact q4
                · have := hbl i (by omega); omega
              subst hij
              refine sp_M_many n10 ?_
              rw [show (c.1 : Int) / (a : Int) = ((c.1 / a : Nat) : Int) from rfl, hmd]
              refine ⟨⟨by omega, by omega⟩, ?_⟩
              refine sp_M_addKind (a := 0) v2 n10 m10 (by omega) hk3 ha1 (by omega) hab3 hm7 ?_
              intro M11 c11 mk11 m11 l11 b11 f11
              have n11 : M11 31 0 = (c.1 : Int) := by rw [f11.1 31 (by omega) (by omega) (by omega) (by omega)]; exact n10
              refine sp_M_closeGroup v1 v2 n11 m11 ?_
              intro M12 i12 t12 _ f12
              have lS : ∀ y, Ls mk11 c11 y ↔ bkM k2 a i y ∨ y ∈ kdM k3 0 i a := fun y => by rw [l11 y, l10 y]
              refine regroup (c := c) hV' hL hP hI hC.1 (fun y hy => hy.elim (hSb y) (P2.2 y)) (fun y hy => ((lS y).mp hy).elim (fun ⟨w, hw, h⟩ => (P1 w hw).1 y h) (P2.1 y)) (fun y hy => ?_) (fun y hy => ?_) g6 f6' e7 e8 ((f10.tr f11).J) i12 t12 f12
              · rcases hy with ⟨w, hw, h⟩ | h
                · exact Cl_mono (fun z hz => (lS z).mpr (Or.inl ⟨w, hw, hz⟩)) (kd_CM hk2 (Nat.le_refl 1) (by decide) (Nat.le_trans (hbl w hw) v2) y h)
                · exact Cl_mono (fun z hz => (lS z).mpr (Or.inr hz)) (kd_CM hk3 ha1 (by omega) (Nat.le_trans hab3 v2) y h)
              · rcases (lS y).mp hy with ⟨w, hw, h⟩ | h
                · exact Cl_mono (fun z hz => Or.inl ⟨w, hw, hz⟩) (kd_MC hk2 (Nat.le_refl 1) (by decide) (Nat.le_trans (hbl w hw) v2) y h)
                · exact Cl_mono (fun z hz => Or.inr hz) (kd_MC hk3 ha1 (by omega) (Nat.le_trans hab3 v2) y h)
            · have hij : i < j := by
                by_cases q4 : i = j
                · rw [q4] at q3; omega
                · omega
              have hb := hbl i hij
              refine sp_M_addKind (w := 1) v2 n10 m10 (by omega) hk2 (Nat.le_refl 1) (by decide) hb (by omega) ?_
              intro M11 c11 mk11 m11 l11 b11 f11
              refine ⟨⟨by omega, by omega⟩, ?_⟩
              intro w hw
              refine ⟨j - (i + 1), by omega, i + 1, c11, mk11, by omega, rfl, by rw [hw, Nat.add_mul, Nat.one_mul]; omega, m11, by omega, fun y => by rw [l11 y, l10 y, bkM_s], f10.tr f11⟩
          · have hb := hbl j (by omega)
            rw [show (j : Int) * (a : Int) = ((j * a : Nat) : Int) from rfl]
            refine ⟨⟨by omega, by omega⟩, ?_⟩
            refine sp_kind (w := 1) v1 v2 hSb g5 hk2 (Nat.le_refl 1) (by decide) hb ?_
            intro M6 g6 f6
            refine ⟨⟨by omega, by omega⟩, ?_⟩
            intro w hw
            refine ⟨m - (j + 1), by omega, j + 1, by omega, rfl, by omega, GC.congr g6 (fun x => ⟨fun h => Cl_mono (fun z hz => bkC_s.mp hz) h, fun h => Cl_mono (fun z hz => bkC_s.mpr hz) h⟩), fun k a b c d => by rw [f6.1 k (by omega) (by omega) (by omega) (by omega)]; exact f5 k a b c d⟩
        · refine sp_M_many hL.1.1 (wp_in_1 q ⟨fun q3 => absurd q3 (by decide), fun _ => ?_⟩)
          refine sp_M_many hL.1.1 ⟨⟨by omega, by omega⟩, fun q3 => absurd qm q3, fun _ => ?_⟩
          refine wm_kind (fun _ => ⟨fun q3 => absurd q3 (by decide), fun _ => ?_⟩) (fun q3 => absurd (by omega) q3)
          exact wm_kind (fun q3 => absurd q3 q2) (fun _ => ⟨fun q3 => absurd rfl q3, fun _ => ⟨rfl, hInv⟩⟩)
      · refine sp_M_many hL.1.1 (wp_in_1 q ⟨fun q3 => absurd q3 (by decide), fun _ => ?_⟩)
        refine sp_M_many hL.1.1 ⟨⟨by omega, by omega⟩, fun q3 => absurd qm q3, fun _ => ?_⟩
        exact wm_kind (fun q3 => absurd q3 q2) (fun _ => ⟨fun _ => ⟨rfl, hInv⟩, fun q3 => absurd rfl q3⟩)
    · refine ⟨fun _ => ?_, fun q2 => absurd q2 qm⟩
      refine sp_M_many hL.1.1 (wp_in_1 q ⟨fun q3 => absurd q3 (by decide), fun _ => ?_⟩)
      exact sp_M_many hL.1.1 ⟨⟨by omega, by omega⟩, fun _ => ⟨rfl, hInv⟩, fun q3 => absurd q3 qm⟩
  · exact wt_in_0 q ⟨fun _ => sp_M_many hL.1.1 (wp_in_0 q ⟨fun _ => ⟨rfl, hInv⟩, fun q3 => absurd rfl q3⟩), fun q3 => absurd rfl q3⟩
