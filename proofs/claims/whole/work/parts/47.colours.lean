/-! ===== sums; figures to a base ===== -/
def smF (f : Nat → Nat) : Nat → Nat
  | 0 => 0
  | k + 1 => smF f k + f k
theorem smF_cong {f g : Nat → Nat} : ∀ {n : Nat}, (∀ k, k < n → f k = g k) → smF f n = smF g n
  | 0, _ => rfl
  | n + 1, h => by rw [smF, smF, smF_cong (fun k hk => h k (by omega)), h n (by omega)]
theorem smF_list (f : Nat → Nat) : ∀ n, smF f n = ((List.range n).map f).sum
  | 0 => rfl
  | n + 1 => by rw [smF, smF_list f n, List.range_succ, List.map_append, List.sum_append]; simp
theorem perm_sum : ∀ {l₁ l₂ : List Nat}, l₁.Perm l₂ → l₁.sum = l₂.sum := by
  intro l₁ l₂ h
  induction h with
  | nil => rfl
  | cons a _ ih => rw [List.sum_cons, List.sum_cons, ih]
  | swap a b l => rw [List.sum_cons, List.sum_cons, List.sum_cons, List.sum_cons]; omega
  | trans _ _ h1 h2 => exact h1.trans h2
theorem smF_perm {n : Nat} {h : Nat → Nat} (f : Nat → Nat) (h1 : ∀ i, i < n → h i < n) (h2 : ∀ i j, i < n → j < n → h i = h j → i = j) : smF (fun i => f (h i)) n = smF f n := by
  rw [smF_list, smF_list]
  have hd : ((List.range n).map h).Nodup := List.pairwise_map.mpr (List.Pairwise.imp_of_mem (fun {i j} hi hj hne e => hne (h2 i j (List.mem_range.mp hi) (List.mem_range.mp hj) e)) List.nodup_range)
  have hp : ((List.range n).map h).Perm (List.range n) := by
    have hsub : ∀ a ∈ (List.range n).map h, a ∈ List.range n := by
      intro a ha
      obtain ⟨i, hi, rfl⟩ := List.mem_map.mp ha
      exact List.mem_range.mpr (h1 i (List.mem_range.mp hi))
    refine (List.perm_ext_iff_of_nodup hd List.nodup_range).mpr (fun a => ⟨hsub a, fun ha => ?_⟩)
    refine Classical.byContradiction fun hn => ?_
    have hle := fb_holes (n - 1) n (fun i => if h i < a then h i else h i - 1) (by
      intro i hi
      have b1 := h1 i hi
      have b2 : h i ≠ a := fun e => hn (List.mem_map.mpr ⟨i, List.mem_range.mpr hi, e⟩)
      have b3 := List.mem_range.mp ha
      try dsimp only
      split <;> omega) (by
      intro i j hij hj
      have c1 : h i ≠ a := fun e => hn (List.mem_map.mpr ⟨i, List.mem_range.mpr (by omega), e⟩)
      have c2 : h j ≠ a := fun e => hn (List.mem_map.mpr ⟨j, List.mem_range.mpr hj, e⟩)
      have c3 : h i ≠ h j := fun e => by have := h2 i j (by omega) hj e; omega
      try dsimp only
      split <;> split <;> omega)
    have := List.mem_range.mp ha
    omega
  have e1 : (List.range n).map (fun i => f (h i)) = ((List.range n).map h).map f := by rw [List.map_map]; rfl
  rw [e1]
  exact perm_sum (hp.map f)
theorem smF_rev (f : Nat → Nat) (n : Nat) : smF (fun i => f (n - 1 - i)) n = smF f n :=
  smF_perm f (fun i hi => by omega) (fun i j hi hj e => by omega)
/-- the figure of place p (from the lowest on) -/
def cf (s c p : Nat) : Nat := c / s ^ p % s
theorem cf_lt {s c p : Nat} (hs : 1 ≤ s) : cf s c p < s := Nat.mod_lt _ hs
def num (s : Nat) (f : Nat → Nat) (n : Nat) : Nat := smF (fun p => f p * s ^ p) n
theorem num_lt {s : Nat} {f : Nat → Nat} (hs : 1 ≤ s) (hf : ∀ p, f p < s) : ∀ n, num s f n < s ^ n
  | 0 => by show 0 < s ^ 0; rw [Nat.pow_zero]; decide
  | n + 1 => by
    have ih := num_lt hs hf n
    have h1 : num s f (n + 1) = num s f n + f n * s ^ n := rfl
    have h2 : (f n + 1) * s ^ n ≤ s * s ^ n := Nat.mul_le_mul_right _ (hf n)
    rw [Nat.add_mul, Nat.one_mul] at h2
    rw [h1, Nat.pow_succ, Nat.mul_comm (s ^ n) s]
    omega
theorem cf_num {s : Nat} {f : Nat → Nat} (hs : 1 ≤ s) (hf : ∀ p, f p < s) : ∀ {n p : Nat}, p < n → cf s (num s f n) p = f p
  | 0, p, h => by omega
  | n + 1, p, h => by
    have h1 : num s f (n + 1) = num s f n + f n * s ^ n := rfl
    have hl := num_lt hs hf n
    unfold cf
    rw [h1]
    by_cases hp : p = n
    · subst hp
      rw [Nat.add_mul_div_right _ _ (Nat.pow_pos (by omega)), Nat.div_eq_of_lt hl, Nat.zero_add, Nat.mod_eq_of_lt (hf p)]
    · have hpn : p < n := by omega
      have ih := cf_num hs hf hpn
      unfold cf at ih
      rw [show n = p + 1 + (n - p - 1) by omega, Nat.pow_add, ← Nat.mul_assoc, Nat.mul_comm (f (p + 1 + (n - p - 1))) (s ^ (p + 1)), Nat.pow_succ]
      rw [show num s f (p + 1 + (n - p - 1)) = num s f n by rw [show p + 1 + (n - p - 1) = n by omega]]
      rw [show s ^ p * s * f (p + 1 + (n - p - 1)) * s ^ (n - p - 1) = (s * (f (p + 1 + (n - p - 1)) * s ^ (n - p - 1))) * s ^ p by
        rw [Nat.mul_comm (s ^ p) s, Nat.mul_assoc, Nat.mul_assoc, Nat.mul_assoc, Nat.mul_comm (s ^ p) (f _ * _), Nat.mul_assoc]]
      rw [Nat.add_mul_div_right _ _ (Nat.pow_pos (by omega)), Nat.add_mul_mod_self_left]
      exact ih
theorem num_cf {s : Nat} (hs : 1 ≤ s) : ∀ (n c : Nat), num s (cf s c) n = c % s ^ n
  | 0, c => by rw [Nat.pow_zero, Nat.mod_one]; rfl
  | n + 1, c => by
    have h1 : num s (cf s c) (n + 1) = num s (cf s c) n + cf s c n * s ^ n := rfl
    rw [h1, num_cf hs n c, Nat.pow_succ, Nat.mod_mul, Nat.mul_comm]; rfl
theorem num_self {s n c : Nat} (hs : 1 ≤ s) (h : c < s ^ n) : num s (cf s c) n = c := by rw [num_cf hs, Nat.mod_eq_of_lt h]
theorem num_cong {s n : Nat} {f g : Nat → Nat} (h : ∀ p, p < n → f p = g p) : num s f n = num s g n := smF_cong (fun k hk => by rw [h k hk])
theorem cf_ext {s n c d : Nat} (hs : 1 ≤ s) (hc : c < s ^ n) (hd : d < s ^ n) (h : ∀ p, p < n → cf s c p = cf s d p) : c = d := by
  rw [← num_self hs hc, ← num_self hs hd]; exact num_cong h
/-! ===== what a turn makes of a colouring ===== -/
def act (n s c t : Nat) : Nat := smF (fun p => cf s c (n - 1 - p) * s ^ (n - 1 - dg t p)) n
def acf (n s c t j : Nat) : Nat := cf s c (n - 1 - dg (inv t) (n - 1 - j))
theorem inv_dg {n t p : Nat} (h7 : n ≤ 7) (ht : isP n t) (hp : p < n) : dg (inv t) (dg t p) = p := by
  have h := inv_r (ht.to7 h7)
  have h2 := dg_cmp t (inv t) (show p < 7 by omega)
  rw [h, dg_idc (by omega)] at h2
  exact h2.symm
theorem dg_inv {n t p : Nat} (h7 : n ≤ 7) (ht : isP n t) (hp : p < n) : dg t (dg (inv t) p) = p := by
  have h := inv_l (ht.to7 h7)
  have h2 := dg_cmp (inv t) t (show p < 7 by omega)
  rw [h, dg_idc (by omega)] at h2
  exact h2.symm
theorem act_num {n s c t : Nat} (h7 : n ≤ 7) (ht : isP n t) : act n s c t = num s (acf n s c t) n := by
  have h := smF_perm (n := n) (h := fun p => n - 1 - dg t p) (fun j => acf n s c t j * s ^ j) (fun i hi => by have := ht.2.1 i hi; omega) (fun i j hi hj e => by
    have a := ht.2.1 i hi
    have b := ht.2.1 j hj
    exact ht.2.2.2 i j hi hj (by omega))
  unfold act num
  rw [← h]
  refine smF_cong fun p hp => ?_
  have a := ht.2.1 p hp
  show _ = acf n s c t (n - 1 - dg t p) * _
  unfold acf
  rw [show n - 1 - (n - 1 - dg t p) = dg t p by omega, inv_dg h7 ht hp]
theorem act_lt {n s c t : Nat} (h7 : n ≤ 7) (hs : 1 ≤ s) (ht : isP n t) : act n s c t < s ^ n := by
  rw [act_num h7 ht]; exact num_lt hs (fun p => cf_lt hs) n
theorem cf_act {n s c t j : Nat} (h7 : n ≤ 7) (hs : 1 ≤ s) (ht : isP n t) (hj : j < n) : cf s (act n s c t) j = cf s c (n - 1 - dg (inv t) (n - 1 - j)) := by
  rw [act_num h7 ht]; exact cf_num hs (fun p => cf_lt hs) hj
theorem act_id {n s c : Nat} (h7 : n ≤ 7) (hs : 1 ≤ s) (hc : c < s ^ n) : act n s c idc = c := by
  have hi := isP_id h7
  refine cf_ext hs (act_lt h7 hs hi) hc fun j hj => ?_
  rw [cf_act h7 hs hi hj]
  have h1 := inv_dg h7 hi (show n - 1 - j < n by omega)
  rw [dg_idc (by omega)] at h1
  rw [h1, show n - 1 - (n - 1 - j) = j by omega]
theorem inv_cmp {a b : Nat} (ha : isP 7 a) (hb : isP 7 b) : inv (cmp a b) = cmp (inv b) (inv a) := by
  have hab := isP_cmp (Nat.le_refl 7) ha hb
  have hia := inv_P (Nat.le_refl 7) ha
  have hib := inv_P (Nat.le_refl 7) hb
  refine cancel_r (inv_P (Nat.le_refl 7) hab) (isP_cmp (Nat.le_refl 7) hib hia) hab ?_
  rw [inv_l hab, cmp_assoc hib hia, ← cmp_assoc hia ha, inv_l ha, id_cmp hb, inv_l hb]
theorem act_act {n s c a b : Nat} (h7 : n ≤ 7) (hs : 1 ≤ s) (ha : isP n a) (hb : isP n b) : act n s (act n s c a) b = act n s c (cmp a b) := by
  have hab := isP_cmp h7 ha hb
  refine cf_ext hs (act_lt h7 hs hb) (act_lt h7 hs hab) fun j hj => ?_
  have hib := inv_P h7 hb
  have h1 := hib.2.1 (n - 1 - j) (by omega)
  rw [cf_act h7 hs hb hj, cf_act h7 hs ha (by omega), cf_act h7 hs hab hj, inv_cmp (ha.to7 h7) (hb.to7 h7), dg_cmp _ _ (show n - 1 - j < 7 by omega)]
  rw [show n - 1 - (n - 1 - dg (inv b) (n - 1 - j)) = dg (inv b) (n - 1 - j) by omega]
/-! ===== patterns ===== -/
def Rel (n s : Nat) (G : Nat → Prop) (c d : Nat) : Prop := ∃ t, G t ∧ act n s c t = d
theorem Rel.rf {n s c : Nat} {G : Nat → Prop} (h7 : n ≤ 7) (hs : 1 ≤ s) (hG : isGrp n G) (hc : c < s ^ n) : Rel n s G c c := ⟨idc, hG.2.1, act_id h7 hs hc⟩
theorem Rel.sy {n s c d : Nat} {G : Nat → Prop} (h7 : n ≤ 7) (hs : 1 ≤ s) (hG : isGrp n G) (hc : c < s ^ n) (h : Rel n s G c d) : Rel n s G d c := by
  obtain ⟨t, ht, rfl⟩ := h
  refine ⟨inv t, hG.inv ht, ?_⟩
  rw [act_act h7 hs (hG.1 t ht) (inv_P h7 (hG.1 t ht)), inv_r ((hG.1 t ht).to7 h7), act_id h7 hs hc]
theorem Rel.tr {n s c d e : Nat} {G : Nat → Prop} (h7 : n ≤ 7) (hs : 1 ≤ s) (hG : isGrp n G) (h1 : Rel n s G c d) (h2 : Rel n s G d e) : Rel n s G c e := by
  obtain ⟨a, ha, rfl⟩ := h1
  obtain ⟨b, hb, rfl⟩ := h2
  exact ⟨cmp a b, hG.2.2 a b ha hb, (act_act h7 hs (hG.1 a ha) (hG.1 b hb)).symm⟩
theorem Rel.lt {n s c d : Nat} {G : Nat → Prop} (h7 : n ≤ 7) (hs : 1 ≤ s) (hG : isGrp n G) (h : Rel n s G c d) : d < s ^ n := by
  obtain ⟨t, ht, rfl⟩ := h; exact act_lt h7 hs (hG.1 t ht)
theorem sn_le {n s : Nat} (h7 : n ≤ 7) (hs : s ≤ 4) : s ^ n ≤ 16384 :=
  Nat.le_trans (Nat.pow_le_pow_left hs n) (Nat.le_trans (Nat.pow_le_pow_right (by decide) h7) (by decide))
