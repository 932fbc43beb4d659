/-! ===== kinds: the turns that make them, here and in the reference ===== -/
def isPb (n t : Nat) : Bool := decide (t < 2097152) && (List.range n).all (fun i => decide (dg t i < n)) && (List.range 7).all (fun i => decide (i < n) || decide (dg t i = i)) && (List.range n).all (fun i => (List.range n).all (fun j => decide (i = j) || !(decide (dg t i = dg t j))))
theorem isPb_P {n t : Nat} (h : isPb n t = true) : isP n t := by
  simp only [isPb, Bool.and_eq_true, decide_eq_true_eq, List.all_eq_true, List.mem_range, Bool.or_eq_true, Bool.not_eq_true', decide_eq_false_iff_not] at h
  obtain ⟨⟨⟨h1, h2⟩, h3⟩, h4⟩ := h
  exact ⟨h1, h2, fun i hi hi7 => (h3 i hi7).elim (fun q => absurd q (by omega)) id, fun i j hi hj e => (h4 i hi j hj).elim id (fun q => absurd e q)⟩
theorem isP.mono {m n t : Nat} (hm : m ≤ n) (hn : n ≤ 7) (h : isP m t) : isP n t := by
  refine ⟨h.1, fun i hi => ?_, fun i h1 h2 => h.2.2.1 i (by omega) h2, fun i j hi hj e => (h.to7 (by omega)).2.2.2 i j (by omega) (by omega) e⟩
  by_cases h1 : i < m
  · have := h.2.1 i h1; omega
  · rw [h.2.2.1 i (by omega) (by omega)]; exact hi
def kdC (k a b w : Nat) : List Nat :=
  if k = 1 then [rdF a b w b] else if k = 2 then [rdF a b w b, flF a b w b] else if k = 4 then (if b < 2 then [rdF a b w b] else [rdF a b w b, rdF a 2 w 2])
  else if k = 3 then (if b < 3 then [] else [rdF (a + (if b % 2 = 0 then 1 else 0) * w) (b - (if b % 2 = 0 then 1 else 0)) w (b - (if b % 2 = 0 then 1 else 0)), rdF a 3 w 3]) else []
def kdM (k a b w : Nat) : List Nat :=
  if b < 2 then [] else if k = 1 then [rdF a b w b] else if k = 2 then [rdF a b w b, flF a b w b] else if k = 3 then (List.range (b - 2)).map (fun i => rdF (a + w * i) 3 w 3) else if k = 4 then (List.range (b - 1)).map (fun i => rdF (a + w * i) 2 w 2) else []
def wCM (k b : Nat) : List (List Nat) := match k, b with
  | 1, 2 => [[0]]
  | 1, 3 => [[0]]
  | 1, 4 => [[0]]
  | 1, 5 => [[0]]
  | 1, 6 => [[0]]
  | 1, 7 => [[0]]
  | 1, 0 => [[]]
  | 1, 1 => [[]]
  | 2, 2 => [[0], [1]]
  | 2, 3 => [[0], [1]]
  | 2, 4 => [[0], [1]]
  | 2, 5 => [[0], [1]]
  | 2, 6 => [[0], [1]]
  | 2, 7 => [[0], [1]]
  | 2, 0 => [[], []]
  | 2, 1 => [[], []]
  | 4, 0 => [[]]
  | 4, 1 => [[]]
  | 3, 2 => []
  | 3, 3 => [[0], [0]]
  | 3, 4 => [[1], [0]]
  | 3, 5 => [[2, 0], [0]]
  | 3, 6 => [[3, 1], [0]]
  | 3, 7 => [[4, 2, 0], [0]]
  | 4, 2 => [[0], [0]]
  | 4, 3 => [[1, 0], [0]]
  | 4, 4 => [[2, 1, 0], [0]]
  | 4, 5 => [[3, 2, 1, 0], [0]]
  | 4, 6 => [[4, 3, 2, 1, 0], [0]]
  | 4, 7 => [[5, 4, 3, 2, 1, 0], [0]]
  | _, _ => []
def wMC (k b : Nat) : List (List Nat) := match k, b with
  | 1, 2 => [[0]]
  | 1, 3 => [[0]]
  | 1, 4 => [[0]]
  | 1, 5 => [[0]]
  | 1, 6 => [[0]]
  | 1, 7 => [[0]]
  | 2, 2 => [[0], [1]]
  | 2, 3 => [[0], [1]]
  | 2, 4 => [[0], [1]]
  | 2, 5 => [[0], [1]]
  | 2, 6 => [[0], [1]]
  | 2, 7 => [[0], [1]]
  | 3, 2 => []
  | 3, 3 => [[0]]
  | 3, 4 => [[1], [0]]
  | 3, 5 => [[1], [0, 0, 0, 0, 1, 0], [0, 1, 1]]
  | 3, 6 => [[1], [0, 0, 0, 0, 1, 0, 1], [0, 0, 0, 1, 0, 1, 0], [0, 0, 1, 0, 1, 0, 0]]
  | 3, 7 => [[1], [0, 0, 0, 0, 0, 0, 1, 0], [0, 0, 0, 0, 0, 1, 0, 0], [0, 0, 0, 0, 1, 0, 0, 0], [0, 0, 0, 1, 0, 0, 0, 0]]
  | 4, 2 => [[0]]
  | 4, 3 => [[1], [0, 1]]
  | 4, 4 => [[1], [0, 0, 0, 1, 0], [0, 0, 1, 0, 0]]
  | 4, 5 => [[1], [0, 0, 0, 0, 1, 0], [0, 0, 0, 1, 0, 0], [0, 0, 1, 0, 0, 0]]
  | 4, 6 => [[1], [0, 0, 0, 0, 0, 1, 0], [0, 0, 0, 0, 1, 0, 0], [0, 0, 0, 1, 0, 0, 0], [0, 0, 1, 0, 0, 0, 0]]
  | 4, 7 => [[1], [0, 0, 0, 0, 0, 0, 1, 0], [0, 0, 0, 0, 0, 1, 0, 0], [0, 0, 0, 0, 1, 0, 0, 0], [0, 0, 0, 1, 0, 0, 0, 0], [0, 0, 1, 0, 0, 0, 0, 0]]
  | _, _ => []
def evW (m : List Nat) (wd : List Nat) : Nat := wd.foldl (fun c i => cmp c (m.getD i idc)) idc
def okK (k a b w : Nat) : Bool := (kdM k a b w).all (isPb (a + b * w)) && (kdC k a b w).all (isPb (a + b * w)) && ((wCM k b).map (evW (kdM k a b w)) == kdC k a b w) && ((wMC k b).map (evW (kdC k a b w)) == kdM k a b w)
theorem okK_all : (List.range 5).all (fun k => (List.range 8).all (fun a => (List.range 8).all (fun b => (List.range 8).all (fun w => decide (w = 0) || decide (7 < a + b * w) || okK k a b w)))) = true := by decide +kernel
theorem okK_at {k a b w : Nat} (hk : k < 5) (hw : 1 ≤ w) (h : a + b * w ≤ 7) : w < 8 → okK k a b w = true := by
  intro hw8
  have hb : b ≤ b * w := Nat.le_mul_of_pos_right b hw
  have h1 := okK_all
  simp only [List.all_eq_true, List.mem_range, Bool.or_eq_true, decide_eq_true_eq] at h1
  rcases h1 k hk a (by omega) b (by omega) w hw8 with (q | q) | q
  · omega
  · omega
  · exact q
theorem evW_Cl {m : List Nat} (hm : ∀ y ∈ m, isP 7 y) (wd : List Nat) : Cl (fun y => y ∈ m) (evW m wd) := by
  have key : ∀ (wd : List Nat) (c : Nat), Cl (fun y => y ∈ m) c → Cl (fun y => y ∈ m) (wd.foldl (fun c i => cmp c (m.getD i idc)) c) := by
    intro wd
    induction wd with
    | nil => intro c hc; exact hc
    | cons i wd ih =>
      intro c hc
      refine ih _ ?_
      by_cases hi : i < m.length
      · have : m.getD i idc ∈ m := by rw [List.getD_eq_getElem?_getD, List.getElem?_eq_getElem hi]; exact List.getElem_mem hi
        exact Cl_step hc this
      · have : m.getD i idc = idc := by rw [List.getD_eq_getElem?_getD, List.getElem?_eq_none (by omega)]; rfl
        show Cl (fun y => y ∈ m) (cmp c (m.getD i idc))
        rw [this, cmp_id (Cl_P (Nat.le_refl 7) hm hc)]
        exact hc
  exact key wd idc (Cl_id _)
theorem kd_P {k a b w n : Nat} (hk : k < 5) (hw : 1 ≤ w) (hw8 : w < 8) (h : a + b * w ≤ n) (hn : n ≤ 7) : (∀ y ∈ kdM k a b w, isP n y) ∧ (∀ y ∈ kdC k a b w, isP n y) := by
  have h1 := okK_at hk hw (show a + b * w ≤ 7 by omega) hw8
  simp only [okK, Bool.and_eq_true, List.all_eq_true] at h1
  exact ⟨fun y hy => (isPb_P (h1.1.1.1 y hy)).mono h hn, fun y hy => (isPb_P (h1.1.1.2 y hy)).mono h hn⟩
theorem kd_CM {k a b w : Nat} (hk : k < 5) (hw : 1 ≤ w) (hw8 : w < 8) (h : a + b * w ≤ 7) : ∀ y ∈ kdC k a b w, Cl (fun z => z ∈ kdM k a b w) y := by
  have h1 := okK_at hk hw h hw8
  simp only [okK, Bool.and_eq_true, beq_iff_eq] at h1
  intro y hy
  rw [← h1.1.2] at hy
  obtain ⟨wd, -, rfl⟩ := List.mem_map.mp hy
  exact evW_Cl (fun y hy => (kd_P hk hw hw8 h (Nat.le_refl 7)).1 y hy) wd
theorem kd_MC {k a b w : Nat} (hk : k < 5) (hw : 1 ≤ w) (hw8 : w < 8) (h : a + b * w ≤ 7) : ∀ y ∈ kdM k a b w, Cl (fun z => z ∈ kdC k a b w) y := by
  have h1 := okK_at hk hw h hw8
  simp only [okK, Bool.and_eq_true, beq_iff_eq] at h1
  intro y hy
  rw [← h1.2] at hy
  obtain ⟨wd, -, rfl⟩ := List.mem_map.mp hy
  exact evW_Cl (fun y hy => (kd_P hk hw hw8 h (Nat.le_refl 7)).2 y hy) wd
/-! ===== the class: a kind ===== -/
theorem Cl_add {n : Nat} {S : Nat → Prop} {x : Nat} (hn : n ≤ 7) (hS : ∀ y, S y → isP n y) (hx : isP n x) (y : Nat) : Cl (fun z => S z ∨ z = x) y ↔ Cl (fun z => Cl S z ∨ z = x) y := by
  have h1 : ∀ y, (S y ∨ y = x) → isP n y := fun y hy => hy.elim (hS y) (fun q => by rw [q]; exact hx)
  have h2 : ∀ y, (Cl S y ∨ y = x) → isP n y := fun y hy => hy.elim (fun q => Cl_P hn hS q) (fun q => by rw [q]; exact hx)
  refine Cl_iff hn h1 h2 (fun z hz => ?_) (fun z hz => ?_) y
  · rcases hz with hz | rfl
    · exact Cl_in ((hS z hz).to7 hn) (Or.inl (Cl_in ((hS z hz).to7 hn) hz))
    · exact Cl_in (hx.to7 hn) (Or.inr rfl)
  · rcases hz with hz | rfl
    · exact Cl_le (Cl_grp hn h1) (fun w hw => Cl_in ((hS w hw).to7 hn) (Or.inl hw)) hz
    · exact Cl_in (hx.to7 hn) (Or.inr rfl)
/-- what a group's methods leave alone -/
def FrG (g : Nat) (M M' : Mm) : Prop := (∀ k, k ≠ g → k ≠ g + 1 → k ≠ g + 2 → k ≠ g + 3 → M' k = M k) ∧ (∀ j, j ≠ 1 → j ≠ 3 → M' g j = M g j)
theorem FrG.rf (g : Nat) (M : Mm) : FrG g M M := ⟨fun _ _ _ _ _ => rfl, fun _ _ _ => rfl⟩
theorem FrG.tr {g : Nat} {M M1 M2 : Mm} (h1 : FrG g M M1) (h2 : FrG g M1 M2) : FrG g M M2 := ⟨fun k a b c d => (h2.1 k a b c d).trans (h1.1 k a b c d), fun j a b => (h2.2 j a b).trans (h1.2 j a b)⟩
abbrev GCg (n : Nat) (G : Nat → Prop) (g : Nat) (M : Mm) : Prop := GC n G (M g) (M (g + 1)) (M (g + 2)) (M (g + 3))
theorem sp_widenS {g n x : Nat} {S : Nat → Prop} {M : Mm} {post : Mm → Prop} (h1 : 1 ≤ n) (h7 : n ≤ 7) (hS : ∀ y, S y → isP n y) (hC : GCg n (Cl S) g M) (hx : isP n x)
    (h : ∀ M' : Mm, GCg n (Cl (fun y => S y ∨ y = x)) g M' → FrG g M M' → post M') : wp_G_widen g (x : Int) M post :=
  sp_widen h1 h7 (Cl_grp h7 hS) hC hx (fun M' hg hf hs => h M' (hg.congr (Cl_add h7 hS hx)) ⟨hf, hs⟩)
theorem sp_kind {g n k a b w : Nat} {S : Nat → Prop} {M : Mm} {post : Mm → Prop} (h1 : 1 ≤ n) (h7 : n ≤ 7) (hS : ∀ y, S y → isP n y) (hC : GCg n (Cl S) g M) (hk : k < 5) (hw : 1 ≤ w) (hw8 : w < 8) (hab : a + b * w ≤ n)
    (h : ∀ M' : Mm, GCg n (Cl (fun y => S y ∨ y ∈ kdC k a b w)) g M' → FrG g M M' → post M') : wp_G_widenByKind g (k : Int) (a : Int) (b : Int) (w : Int) M post := by
  have hP := (kd_P hk hw hw8 hab h7).2
  have hb : b ≤ b * w := Nat.le_mul_of_pos_right b hw
  have hab7 : a + b * w ≤ 7 := by omega
  unfold wp_G_widenByKind
  intro K26 hK26
  -- behind the last of the four pieces
  rcases (show k = 0 ∨ k = 1 ∨ k = 2 ∨ k = 3 ∨ k = 4 by omega) with rfl | rfl | rfl | rfl | rfl
  · intro K15 hK15
    refine ⟨fun q => absurd q (by decide), fun _ => ⟨fun q => absurd q (by decide), fun _ => ⟨fun _ => ?_, fun q => absurd q (by decide)⟩⟩⟩
    refine hK26 M ?_
    intro K42 hK42
    refine ⟨fun _ => hK42 M ?_, fun q => absurd q (by decide)⟩
    intro K63 hK63
    refine ⟨fun _ => hK63 M ⟨fun _ => ?_, fun q => absurd q (by decide)⟩, fun q => absurd q (by decide)⟩
    exact h M (hC.congr (fun y => by simp [kdC])) (FrG.rf g M)
  · intro K15 hK15
    refine ⟨fun _ => hK15 ?_, fun q => absurd rfl q⟩
    refine sp_roundTurn hab7 (by omega) ?_
    refine sp_widenS h1 h7 hS hC (hP _ (by simp [kdC])) ?_
    intro M1 g1 f1
    refine hK26 M1 ?_
    intro K42 hK42
    refine ⟨fun _ => hK42 M1 ?_, fun q => absurd q (by decide)⟩
    intro K63 hK63
    refine ⟨fun _ => hK63 M1 ⟨fun _ => ?_, fun q => absurd q (by decide)⟩, fun q => absurd q (by decide)⟩
    exact h M1 (g1.congr (fun y => by simp [kdC])) f1
  · intro K15 hK15
    refine ⟨fun q => absurd q (by decide), fun _ => ⟨fun _ => hK15 ?_, fun q => absurd rfl q⟩⟩
    refine sp_roundTurn hab7 (by omega) ?_
    refine sp_widenS h1 h7 hS hC (hP _ (by simp [kdC])) ?_
    intro M1 g1 f1
    refine hK26 M1 ?_
    intro K42 hK42
    refine ⟨fun q => absurd rfl q, fun _ => ?_⟩
    refine sp_flipTurn hab7 (by omega) ?_
    refine sp_widenS h1 h7 (fun y hy => hy.elim (hS y) (fun q => by rw [q]; exact hP _ (by simp [kdC]))) g1 (hP _ (by simp [kdC])) ?_
    intro M2 g2 f2
    refine hK42 M2 ?_
    intro K63 hK63
    refine ⟨fun _ => hK63 M2 ⟨fun _ => ?_, fun q => absurd q (by decide)⟩, fun q => absurd q (by decide)⟩
    exact h M2 (g2.congr (fun y => by simp [kdC, or_assoc])) (f1.tr f2)
  · intro K15 hK15
    refine ⟨fun q => absurd q (by decide), fun _ => ⟨fun q => absurd q (by decide), fun _ => ⟨fun _ => ?_, fun q => absurd q (by decide)⟩⟩⟩
    refine hK26 M ?_
    intro K42 hK42
    refine ⟨fun _ => hK42 M ?_, fun q => absurd q (by decide)⟩
    intro K63 hK63
    refine ⟨fun _ => hK63 M ⟨fun q => absurd rfl q, fun _ => ⟨fun q => ?_, fun q => ?_⟩⟩, fun q => absurd q (by decide)⟩
    · have hb3 : b < 3 := by omega
      exact h M (hC.congr (fun y => by simp [kdC, hb3])) (FrG.rf g M)
    · have hb3 : ¬ b < 3 := by omega
      refine ⟨⟨by omega, by decide⟩, ?_⟩
      have key : ∀ d : Nat, d = (if b % 2 = 0 then 1 else 0) → (inR ((d : Int) * w) ∧ inR ((a : Int) + ((d : Int) * w)) ∧ inR ((b : Int) - d) ∧ wp_U_roundTurn ((a : Int) + ((d : Int) * w)) ((b : Int) - d) (w : Int) (fun (r100 : Int) => wp_G_widen g r100 M (fun (M_7 : Mm) => wp_U_roundTurn (a : Int) 3 (w : Int) (fun (r111 : Int) => wp_G_widen g r111 M_7 (fun (M_8 : Mm) => post M_8))))) := by
        intro d hd
        have hd1 : d ≤ 1 := by split at hd <;> omega
        have hdw : d * w ≤ w := by rcases (show d = 0 ∨ d = 1 by omega) with rfl | rfl <;> omega
        have hdb : d * w + (b - d) * w = b * w := by rw [← Nat.add_mul, show d + (b - d) = b by omega]
        have h3w : 3 * w ≤ b * w := Nat.mul_le_mul_right w (by omega)
        rw [show (d : Int) * (w : Int) = ((d * w : Nat) : Int) from rfl, show (b : Int) - (d : Int) = ((b - d : Nat) : Int) by omega]
        refine ⟨⟨by omega, by omega⟩, ⟨by omega, by omega⟩, ⟨by omega, by omega⟩, ?_⟩
        rw [show (a : Int) + ((d * w : Nat) : Int) = ((a + d * w : Nat) : Int) by omega]
        refine sp_roundTurn (by omega) (by omega) ?_
        have e1 : kdC 3 a b w = [rdF (a + d * w) (b - d) w (b - d), rdF a 3 w 3] := by simp [kdC, hb3, ← hd]
        refine sp_widenS h1 h7 hS hC (hP _ (by rw [e1]; simp)) ?_
        intro M1 g1 f1
        have e3 : wp_U_roundTurn (a : Int) ((3 : Nat) : Int) (w : Int) (fun (r111 : Int) => wp_G_widen g r111 M1 (fun (M_8 : Mm) => post M_8)) := by
          refine sp_roundTurn (by omega) (by omega) ?_
          refine sp_widenS h1 h7 (fun y hy => hy.elim (hS y) (fun q => by rw [q]; exact hP _ (by rw [e1]; simp))) g1 (hP _ (by rw [e1]; simp)) ?_
          intro M2 g2 f2
          exact h M2 (g2.congr (fun y => by rw [e1]; simp [or_assoc])) (f1.tr f2)
        exact e3
      intro K84 hK84
      refine ⟨fun q2 => ?_, fun q2 => ?_⟩
      · exact hK84 0 (key 0 (by rw [if_neg (by omega)]))
      · exact hK84 1 (key 1 (by rw [if_pos (by omega)]))
  · intro K15 hK15
    refine ⟨fun q => absurd q (by decide), fun _ => ⟨fun q => absurd q (by decide), fun _ => ⟨fun q => absurd rfl q, fun _ => hK15 ?_⟩⟩⟩
    refine sp_roundTurn hab7 (by omega) ?_
    refine sp_widenS h1 h7 hS hC (hP _ (by by_cases q : b < 2 <;> simp [kdC, q])) ?_
    intro M1 g1 f1
    refine hK26 M1 ?_
    intro K42 hK42
    refine ⟨fun _ => hK42 M1 ?_, fun q => absurd q (by decide)⟩
    intro K63 hK63
    refine ⟨fun q => absurd rfl q, fun _ => ⟨fun q => ?_, fun q => ?_⟩⟩
    · have hb2 : b < 2 := by omega
      refine hK63 M1 ⟨fun _ => ?_, fun q => absurd q (by decide)⟩
      exact h M1 (g1.congr (fun y => by simp [kdC, hb2])) f1
    · have hb2 : ¬ b < 2 := by omega
      have h2w : 2 * w ≤ b * w := Nat.mul_le_mul_right w (by omega)
      have e3 : wp_U_roundTurn (a : Int) ((2 : Nat) : Int) (w : Int) (fun (r57 : Int) => wp_G_widen g r57 M1 (fun (M_12 : Mm) => K63 M_12)) := by
        refine sp_roundTurn (by omega) (by omega) ?_
        refine sp_widenS h1 h7 (fun y hy => hy.elim (hS y) (fun q => by rw [q]; exact hP _ (by simp [kdC, hb2]))) g1 (hP _ (by simp [kdC, hb2])) ?_
        intro M2 g2 f2
        refine hK63 M2 ⟨fun _ => ?_, fun q => absurd q (by decide)⟩
        exact h M2 (g2.congr (fun y => by simp [kdC, hb2, or_assoc])) (f1.tr f2)
      exact e3
