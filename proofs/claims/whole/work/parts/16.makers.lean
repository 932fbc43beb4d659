def up (r : Nat → Int) (k : Nat) (v : Int) : Nat → Int := fun j => if j = k then v else r j
theorem upd_up (r : Nat → Int) (k : Nat) (v : Int) : upd (fun j => iI (r j)) k (iI v) = fun j => iI (up r k v j) := by
  funext j
  unfold upd up
  by_cases h : j = k
  · rw [if_pos h, if_pos h]
  · rw [if_neg h, if_neg h]
theorem up_r {r : Nat → Int} {k : Nat} {v : Int} (h : ∀ j, inR (r j)) (hv : inR v) : ∀ j, inR (up r k v j) := by
  intro j
  unfold up
  split
  · exact hv
  · exact h j
def z0 : Nat → Int := fun _ => 0
theorem z0_r : ∀ j, inR (z0 j) := fun _ => rk rfl
def Xz (D : va_G) : Xw := (D, [], [], fun _ => 0, fun _ _ => .inr (0, []))
theorem Xz_lcl (D : va_G) : lcl (Xz D) := ⟨List.Pairwise.nil, fun _ _ _ _ => rfl⟩
section YR
variable {p : Program} {l : Launch} {e : Env} {R : Room} {s : State} {m : MethodId} {args : Array Value} {below : List Frame} {meth : Method} {c : Code} {H : Heap} {locs : List Loc} {cells slots : Nat} {Q : State → Prop}
variable {cc : ByteArray} {pc : Nat} {ls : Array Slot} {rest : List Value} {D : va_G} {cl : List vw_C} {A : Nat → Prop} {a : Nat} {tys : List (ClassId × FieldType)} {ws : va_W} {H0 : Heap}
theorem y_iast (hexec : p.tables.exec = Jvm.exec) (hb : c.code = cc) (hK : va_K D cl tys s) (hP : va_P D cl ws H) (hD : va_D A ws) (hS : va_S A H0 H locs) (q0 t0 : Nat) {cA : ClassId} {n : Nat} {r : Nat → Int} (ha : ws[q0]? = some (a, .inl (cA, n, .inl (fun j => iI (r j))))) (ht : tys[t0]? = some (cA, .int)) {i v : Int} (hi : 0 ≤ i ∧ i < (n : Int)) (hn : n < 2147483648) (k : Nat) (hk : i.toNat = k) (hdg : decode cc pc = .ok (.iastore, 1))
    (kk : ∀ (H1 : Heap) (locs1 : List Loc), va_P D cl (ws.set q0 (a, .inl (cA, n, .inl (fun j => iI (up r k v j))))) H1 → va_D A (ws.set q0 (a, .inl (cA, n, .inl (fun j => iI (up r k v j))))) → va_S A H0 H1 locs1 → W p l e R s m args below meth c H1 locs1 cells slots Q (F0 m (pc + 1) ls rest)) : W p l e R s m args below meth c H locs cells slots Q (F0 m pc ls (.int (iI v) :: .int (iI i) :: .ref a :: rest)) := by
  refine va_iast hexec hb hK hP hD hS q0 t0 ha ht (iI_in hi hn) hdg (fun H1 locs1 hP1 hD1 hS1 => ?_)
  rw [iI_clamp (inR_ix hi hn), hk, upd_up] at hP1 hD1
  exact kk H1 locs1 hP1 hD1 hS1
theorem arrV_c (cI : ClassId) (N : Nat) (f g : Nat → Value) (h : ∀ j, j < N → f j = g j) : arrV cI N f = arrV cI N g := by
  unfold arrV
  have e : (fun j : Fin N => f j.val) = fun j : Fin N => g j.val := funext fun j => h j.val j.isLt
  rw [e]
end YR
abbrev wG (h q1 q2 q3 : Nat) (c1 c2 c3 : ClassId) (M : Mm) : va_W := [(h, .inr (0, [.ref q1, .int (iI (M 0 1)), .ref q2, .int (iI (M 0 3)), .ref q3])), (q1, .inl (c1, 5040, .inl (fun j => iI (M 1 j)))), (q2, .inl (c2, 12, .inl (fun j => iI (M 2 j)))), (q3, .inl (c3, 158, .inl (fun j => iI (M 3 j))))]
def shG (q1 q2 q3 : Nat) (c1 c2 c3 : ClassId) (k : Nat) (M : Mm) : va_E := match k with
  | 0 => .inr (0, [.ref q1, .int (iI (M 0 1)), .ref q2, .int (iI (M 0 3)), .ref q3])
  | 1 => .inl (c1, 5040, .inl (fun j => iI (M 1 j)))
  | 2 => .inl (c2, 12, .inl (fun j => iI (M 2 j)))
  | 3 => .inl (c3, 158, .inl (fun j => iI (M 3 j)))
  | _ => .inr (0, [])
def adG (h q1 q2 q3 : Nat) (k : Nat) : Nat := match k with
  | 0 => h
  | 1 => q1
  | 2 => q2
  | _ => q3
def XG (D : va_G) (h q1 q2 q3 : Nat) (c1 c2 c3 : ClassId) : Xw := (D, [(c1, .int), (c2, .int), (c3, .int)], [0, 1, 2, 3], adG h q1 q2 q3, shG q1 q2 q3 c1 c2 c3)
theorem XG_lcl (D : va_G) (h q1 q2 q3 : Nat) (c1 c2 c3 : ClassId) : lcl (XG D h q1 q2 q3 c1 c2 c3) := by
  refine ⟨by show [0, 1, 2, 3].Nodup; decide, fun k M M' e => ?_⟩
  show shG q1 q2 q3 c1 c2 c3 k M = shG q1 q2 q3 c1 c2 c3 k M'
  unfold shG
  split <;> first | rfl | (rw [e]) | (simp only [e])
theorem XG_is (D : va_G) (h q1 q2 q3 : Nat) (c1 c2 c3 : ClassId) : IsG (XG D h q1 q2 q3 c1 c2 c3) 0 :=
  ⟨⟨List.mem_of_getElem? (i := 0) rfl, fun _ => rfl⟩, ⟨List.mem_of_getElem? (i := 1) rfl, by decide, c1, List.mem_of_getElem? (i := 0) rfl, fun _ => rfl⟩, ⟨List.mem_of_getElem? (i := 2) rfl, by decide, c2, List.mem_of_getElem? (i := 1) rfl, fun _ => rfl⟩, ⟨List.mem_of_getElem? (i := 3) rfl, by decide, c3, List.mem_of_getElem? (i := 2) rfl, fun _ => rfl⟩⟩

abbrev at_D (dC : Nat → ClassId) (dI : Nat → Nat → Nat) (A : Nat → Prop) (h0 : Nat) (_u : Unit) (t : State) : Prop := ∃ (v_1 : Nat) (cv_1 : ClassId), va_P (dC, dI) vc [(h0, .inr (1, [.ref v_1, .int (iI 0)])), (v_1, .inl (cv_1, 7, .inl (fun j => iI (z0 j))))] t.heap ∧ va_K (dC, dI) vc [(cv_1, .int)] t ∧ va_D A [(h0, .inr (1, [.ref v_1, .int (iI 0)])), (v_1, .inl (cv_1, 7, .inl (fun j => iI (z0 j))))]
abbrev at_Y (dC : Nat → ClassId) (dI : Nat → Nat → Nat) (A : Nat → Prop) (h0 : Nat) (_u : Unit) (t : State) : Prop := ∃ (v_1 : Nat) (v_2 : Nat) (cv_1 : ClassId) (cv_2 : ClassId), va_P (dC, dI) vc [(h0, .inr (4, [.ref v_1, .ref v_2, .int (iI 0), .int (iI 0)])), (v_1, .inl (cv_1, 15, .inl (fun j => iI (z0 j)))), (v_2, .inl (cv_2, 15, .inl (fun j => iI (z0 j))))] t.heap ∧ va_K (dC, dI) vc [(cv_1, .int), (cv_2, .int)] t ∧ va_D A [(h0, .inr (4, [.ref v_1, .ref v_2, .int (iI 0), .int (iI 0)])), (v_1, .inl (cv_1, 15, .inl (fun j => iI (z0 j)))), (v_2, .inl (cv_2, 15, .inl (fun j => iI (z0 j))))]
abbrev at_P (dC : Nat → ClassId) (dI : Nat → Nat → Nat) (A : Nat → Prop) (h0 : Nat) (_u : Unit) (t : State) : Prop := ∃ (v_1 : Nat) (v_2 : Nat) (v_3 : Nat) (v_4 : Nat) (cv_1 : ClassId) (cv_2 : ClassId) (cv_3 : ClassId) (cv_4 : ClassId), va_P (dC, dI) vc [(h0, .inr (2, [.ref v_1, .ref v_2, .ref v_3, .ref v_4, .int (iI 1), .int (iI 1), .int (iI 0), .int (iI 0), .int (iI 0)])), (v_1, .inl (cv_1, 16384, .inl (fun j => iI (z0 j)))), (v_2, .inl (cv_2, 16384, .inl (fun j => iI (z0 j)))), (v_3, .inl (cv_3, 16385, .inl (fun j => iI (z0 j)))), (v_4, .inl (cv_4, 8, .inl (fun j => iI (z0 j))))] t.heap ∧ va_K (dC, dI) vc [(cv_1, .int), (cv_2, .int), (cv_3, .int), (cv_4, .int)] t ∧ va_D A [(h0, .inr (2, [.ref v_1, .ref v_2, .ref v_3, .ref v_4, .int (iI 1), .int (iI 1), .int (iI 0), .int (iI 0), .int (iI 0)])), (v_1, .inl (cv_1, 16384, .inl (fun j => iI (z0 j)))), (v_2, .inl (cv_2, 16384, .inl (fun j => iI (z0 j)))), (v_3, .inl (cv_3, 16385, .inl (fun j => iI (z0 j)))), (v_4, .inl (cv_4, 8, .inl (fun j => iI (z0 j))))]
abbrev at_G (dC : Nat → ClassId) (dI : Nat → Nat → Nat) (A : Nat → Prop) (h0 : Nat) (mv : Mm) (t : State) : Prop := ∃ (v_1 : Nat) (v_2 : Nat) (v_3 : Nat) (cv_1 : ClassId) (cv_2 : ClassId) (cv_3 : ClassId), va_P (dC, dI) vc [(h0, .inr (0, [.ref v_1, .int (iI (mv 0 1)), .ref v_2, .int (iI (mv 0 3)), .ref v_3])), (v_1, .inl (cv_1, 5040, .inl (fun j => iI (mv 1 j)))), (v_2, .inl (cv_2, 12, .inl (fun j => iI (mv 2 j)))), (v_3, .inl (cv_3, 158, .inl (fun j => iI (mv 3 j))))] t.heap ∧ va_K (dC, dI) vc [(cv_1, .int), (cv_2, .int), (cv_3, .int)] t ∧ va_D A [(h0, .inr (0, [.ref v_1, .int (iI (mv 0 1)), .ref v_2, .int (iI (mv 0 3)), .ref v_3])), (v_1, .inl (cv_1, 5040, .inl (fun j => iI (mv 1 j)))), (v_2, .inl (cv_2, 12, .inl (fun j => iI (mv 2 j)))), (v_3, .inl (cv_3, 158, .inl (fun j => iI (mv 3 j))))]
abbrev at_S (dC : Nat → ClassId) (dI : Nat → Nat → Nat) (A : Nat → Prop) (h0 : Nat) (mv : Mm) (t : State) : Prop := ∃ (v_1 : Nat) (v_2 : Nat) (v_3 : Nat) (v_4 : Nat) (v_5 : Nat) (cv_1 : ClassId) (cv_3 : ClassId) (cv_4 : ClassId) (cv_5 : ClassId), va_P (dC, dI) vc [(h0, .inr (3, [.int (iI 4), .int (iI 2), .ref v_1, .ref v_2])), (v_1, .inl (cv_1, 4, .inl (fun j => iI ((up (up (up (up z0 0 0) 1 1) 2 2) 3 3) j)))), (v_2, .inr (0, [.ref v_3, .int (iI (mv 0 1)), .ref v_4, .int (iI (mv 0 3)), .ref v_5])), (v_3, .inl (cv_3, 5040, .inl (fun j => iI (mv 1 j)))), (v_4, .inl (cv_4, 12, .inl (fun j => iI (mv 2 j)))), (v_5, .inl (cv_5, 158, .inl (fun j => iI (mv 3 j))))] t.heap ∧ va_K (dC, dI) vc [(cv_1, .int), (cv_3, .int), (cv_4, .int), (cv_5, .int)] t ∧ va_D A [(h0, .inr (3, [.int (iI 4), .int (iI 2), .ref v_1, .ref v_2])), (v_1, .inl (cv_1, 4, .inl (fun j => iI ((up (up (up (up z0 0 0) 1 1) 2 2) 3 3) j)))), (v_2, .inr (0, [.ref v_3, .int (iI (mv 0 1)), .ref v_4, .int (iI (mv 0 3)), .ref v_5])), (v_3, .inl (cv_3, 5040, .inl (fun j => iI (mv 1 j)))), (v_4, .inl (cv_4, 12, .inl (fun j => iI (mv 2 j)))), (v_5, .inl (cv_5, 158, .inl (fun j => iI (mv 3 j))))]
set_option maxHeartbeats 4000000 in
set_option maxRecDepth 100000 in
theorem ci_D (l : Launch) (dC : Nat → ClassId) (dI : Nat → Nat → Nat) (h0 sz : Nat) : Met l yy_D_init (Cond.code yy_D_init bc_D_init 1 none :: tg) ({ frames := 1, cells := 1, slots := 7, locals := 20 } : Room) (va_Pc [.ref h0] (fun U => U.heap.size = sz ∧ va_P (dC, dI) vc [(h0, .inr (1, [.null, .int (iI 0)]))] U.heap ∧ va_K (dC, dI) vc [] U ∧ va_D (fun _ => True) [(h0, .inr (1, [.null, .int (iI 0)]))] ∧ nW U)) (va_Qv (S := Unit) (fun _ => True) (at_D dC dI (va_A [(h0, .inr (1, [.null, .int (iI 0)]))] sz) h0) (va_A [(h0, .inr (1, [.null, .int (iI 0)]))] sz)) 1 7 (va_A [(h0, .inr (1, [.null, .int (iI 0)]))] sz) := by
  refine Met.ofW (cc := bc_D_init) (maxL := 1) (ret := none) (by decide) rfl ?_
  intro p e s m args below meth c s₁ B hml hv
  obtain ⟨rfl, hsz, hP, hK, hD0, hN⟩ := hv
  have hx := B.exec
  have hb := B.bytes
  have hr := B.returns
  have hts : ∀ w ∈ tg, w.before _ s = true := fun w hw => atoms_spec (ws := Cond.code yy_D_init bc_D_init 1 none :: tg) B.pre w (List.mem_cons_of_mem _ hw)
  have hown : s.vm.findClass "TurnCounts$Pad" = some m.cls := findClass_of_methodNamed B.named
  have hlocks := B.notSynchronized
  have hin : meth.name = "<init>" := (name_of_methodNamed B.named B.method).1
  subst hsz
  have hD := hD0.self (sz := s.heap.size)
  generalize hAe : va_A [(h0, .inr (1, [.null, .int (iI 0)]))] s.heap.size = A at hD ⊢
  have hA : ∀ q : Nat, s.heap.size ≤ q → A q := fun q h => by rw [← hAe]; exact Or.inr h
  have hS : va_S A s.heap s.heap [] := va_S.rf
  have hC : Cx p s m _ c bc_D_init 1 "TurnCounts$Pad" (Xz (dC, dI)) A := ⟨⟨hx, hb, hml, hown, hts⟩, hK, Xz_lcl _, hA, hN⟩
  have hl := lv_entry ([.ref h0]) (n := 1) (Nat.le_of_ble_eq_true rfl)
  rw [lg_entry_eq]
  generalize (lg_sl ([.ref h0]) ++ List.replicate (1 - (lg_sl ([.ref h0])).length) Slot.unset).toArray = ls at hl ⊢
  have hl : lv_has ls 1 [(0, .ref h0)] := hl
  have hP : va_P (dC, dI) vc [(h0, .inr (1, [.null, .int (iI 0)]))] s.heap := hP
  have hD : va_D A [(h0, .inr (1, [.null, .int (iI 0)]))] := hD
  refine lv_aload_n hx hb dd_D_init_0 rfl (lv_at hl 0 rfl) ?_
  refine W.objInit hx hb hown (hts _ tb_111) (hts _ tb_18) (hts _ tb_19) rfl (by rw [hml]; exact hl.1) rfl dd_D_init_1 (Nat.le_of_ble_eq_true rfl) (Nat.le_of_ble_eq_true rfl) ?_
  refine W.eq (g2 := F0 m 4 ls []) rfl ?_
  refine lv_aload_n hx hb dd_D_init_4 rfl (lv_at hl 0 rfl) ?_
  refine x_bipush hC dd_D_init_5 (by decide) ?_
  refine va_newa (atype := .int) (ty := .int) (n := iI 7) (N' := 7) (a0 := (7, .inl (fun j => iI (z0 j)))) hx hb (hts _ tb_82) rfl hK hP hD hS hA (fun cA => rfl) (by decide) (by rw [iI_clamp (rk rfl)]; rfl) (Nat.le_of_ble_eq_true rfl) (Nat.le_of_ble_eq_true rfl) (Nat.le_of_ble_eq_true rfl) dd_D_init_7 (fun w1 k1 H hK hP hD hS => ?_)
  have hP : va_P (dC, dI) vc [(h0, .inr (1, [.null, .int (iI 0)])), (w1, .inl (k1, 7, .inl (fun j => iI (z0 j))))] H := hP
  have hD : va_D A [(h0, .inr (1, [.null, .int (iI 0)])), (w1, .inl (k1, 7, .inl (fun j => iI (z0 j))))] := hD
  have hK : va_K (dC, dI) vc [(k1, .int)] s := hK
  refine va_putF (D := (dC, dI)) (ci := 1) (v := .ref w1) (ty := (.array .int)) (C := rr_D) (T := ft_D) (N := 2) hx hb hts iw_D fy_D fk_D fn_D hown hK hP hD hS 0 rfl rfl 0 (by decide) (hts _ tb_112) (fun _ h9 => h9) rfl hin rfl (by decide +kernel) rfl rfl (Nat.le_of_ble_eq_true rfl) dd_D_init_9 (fun H locs hP hD hS => ?_)
  have hP : va_P (dC, dI) vc [(h0, .inr (1, [.ref w1, .int (iI 0)])), (w1, .inl (k1, 7, .inl (fun j => iI (z0 j))))] H := hP
  have hD : va_D A [(h0, .inr (1, [.ref w1, .int (iI 0)])), (w1, .inl (k1, 7, .inl (fun j => iI (z0 j))))] := hD
  refine lv_aload_n hx hb dd_D_init_12 rfl (lv_at hl 0 rfl) ?_
  refine x_iconst hC dd_D_init_13 ?_
  refine va_put (D := (dC, dI)) (ci := 1) (v := .int (iI 0)) (ty := .int) (C := rr_D) (T := ft_D) (N := 2) hx hb hts iw_D fy_D fk_D fn_D hown hK hP hD hS 0 rfl rfl 1 (by decide) (hts _ tb_114) (fun _ h9 => h9) rfl (by decide +kernel) rfl rfl (Nat.le_of_ble_eq_true rfl) dd_D_init_14 (fun H locs hP hD hS => ?_)
  have hP : va_P (dC, dI) vc [(h0, .inr (1, [.ref w1, .int (iI 0)])), (w1, .inl (k1, 7, .inl (fun j => iI (z0 j))))] H := hP
  have hD : va_D A [(h0, .inr (1, [.ref w1, .int (iI 0)])), (w1, .inl (k1, 7, .inl (fun j => iI (z0 j))))] := hD
  have hP9 := hP
  have hD9 := hD
  have hK9 := hK
  refine W.widen (k := 1) (n := 7) (Nat.le_of_ble_eq_true rfl) (Nat.le_of_ble_eq_true rfl) ?_
  exact W.vret hx hb hr (fun t ht hW => ⟨⟨(), rfl, trivial, w1, k1, by rw [ht]; exact hP9, va_K.moved hW.alike hK9, hD9⟩, hS.F ht⟩) hS.2.2 dd_D_init_17 hlocks
set_option maxHeartbeats 4000000 in
set_option maxRecDepth 100000 in
theorem ci_Y (l : Launch) (dC : Nat → ClassId) (dI : Nat → Nat → Nat) (h0 sz : Nat) : Met l yy_Y_init (Cond.code yy_Y_init bc_Y_init 1 none :: tg) ({ frames := 1, cells := 2, slots := 30, locals := 20 } : Room) (va_Pc [.ref h0] (fun U => U.heap.size = sz ∧ va_P (dC, dI) vc [(h0, .inr (4, [.null, .null, .int (iI 0), .int (iI 0)]))] U.heap ∧ va_K (dC, dI) vc [] U ∧ va_D (fun _ => True) [(h0, .inr (4, [.null, .null, .int (iI 0), .int (iI 0)]))] ∧ nW U)) (va_Qv (S := Unit) (fun _ => True) (at_Y dC dI (va_A [(h0, .inr (4, [.null, .null, .int (iI 0), .int (iI 0)]))] sz) h0) (va_A [(h0, .inr (4, [.null, .null, .int (iI 0), .int (iI 0)]))] sz)) 2 30 (va_A [(h0, .inr (4, [.null, .null, .int (iI 0), .int (iI 0)]))] sz) := by
  refine Met.ofW (cc := bc_Y_init) (maxL := 1) (ret := none) (by decide) rfl ?_
  intro p e s m args below meth c s₁ B hml hv
  obtain ⟨rfl, hsz, hP, hK, hD0, hN⟩ := hv
  have hx := B.exec
  have hb := B.bytes
  have hr := B.returns
  have hts : ∀ w ∈ tg, w.before _ s = true := fun w hw => atoms_spec (ws := Cond.code yy_Y_init bc_Y_init 1 none :: tg) B.pre w (List.mem_cons_of_mem _ hw)
  have hown : s.vm.findClass "TurnCounts$TypeTable" = some m.cls := findClass_of_methodNamed B.named
  have hlocks := B.notSynchronized
  have hin : meth.name = "<init>" := (name_of_methodNamed B.named B.method).1
  subst hsz
  have hD := hD0.self (sz := s.heap.size)
  generalize hAe : va_A [(h0, .inr (4, [.null, .null, .int (iI 0), .int (iI 0)]))] s.heap.size = A at hD ⊢
  have hA : ∀ q : Nat, s.heap.size ≤ q → A q := fun q h => by rw [← hAe]; exact Or.inr h
  have hS : va_S A s.heap s.heap [] := va_S.rf
  have hC : Cx p s m _ c bc_Y_init 1 "TurnCounts$TypeTable" (Xz (dC, dI)) A := ⟨⟨hx, hb, hml, hown, hts⟩, hK, Xz_lcl _, hA, hN⟩
  have hl := lv_entry ([.ref h0]) (n := 1) (Nat.le_of_ble_eq_true rfl)
  rw [lg_entry_eq]
  generalize (lg_sl ([.ref h0]) ++ List.replicate (1 - (lg_sl ([.ref h0])).length) Slot.unset).toArray = ls at hl ⊢
  have hl : lv_has ls 1 [(0, .ref h0)] := hl
  have hP : va_P (dC, dI) vc [(h0, .inr (4, [.null, .null, .int (iI 0), .int (iI 0)]))] s.heap := hP
  have hD : va_D A [(h0, .inr (4, [.null, .null, .int (iI 0), .int (iI 0)]))] := hD
  refine lv_aload_n hx hb dd_Y_init_0 rfl (lv_at hl 0 rfl) ?_
  refine W.objInit hx hb hown (hts _ tb_126) (hts _ tb_18) (hts _ tb_19) rfl (by rw [hml]; exact hl.1) rfl dd_Y_init_1 (Nat.le_of_ble_eq_true rfl) (Nat.le_of_ble_eq_true rfl) ?_
  refine W.eq (g2 := F0 m 4 ls []) rfl ?_
  refine lv_aload_n hx hb dd_Y_init_4 rfl (lv_at hl 0 rfl) ?_
  refine x_bipush hC dd_Y_init_5 (by decide) ?_
  refine va_newa (atype := .int) (ty := .int) (n := iI 15) (N' := 15) (a0 := (15, .inl (fun j => iI (z0 j)))) hx hb (hts _ tb_82) rfl hK hP hD hS hA (fun cA => rfl) (by decide) (by rw [iI_clamp (rk rfl)]; rfl) (Nat.le_of_ble_eq_true rfl) (Nat.le_of_ble_eq_true rfl) (Nat.le_of_ble_eq_true rfl) dd_Y_init_7 (fun w1 k1 H hK hP hD hS => ?_)
  have hP : va_P (dC, dI) vc [(h0, .inr (4, [.null, .null, .int (iI 0), .int (iI 0)])), (w1, .inl (k1, 15, .inl (fun j => iI (z0 j))))] H := hP
  have hD : va_D A [(h0, .inr (4, [.null, .null, .int (iI 0), .int (iI 0)])), (w1, .inl (k1, 15, .inl (fun j => iI (z0 j))))] := hD
  have hK : va_K (dC, dI) vc [(k1, .int)] s := hK
  refine va_putF (D := (dC, dI)) (ci := 4) (v := .ref w1) (ty := (.array .int)) (C := rr_Y) (T := ft_Y) (N := 4) hx hb hts iw_Y fy_Y fk_Y fn_Y hown hK hP hD hS 0 rfl rfl 0 (by decide) (hts _ tb_127) (fun _ h9 => h9) rfl hin rfl (by decide +kernel) rfl rfl (Nat.le_of_ble_eq_true rfl) dd_Y_init_9 (fun H locs hP hD hS => ?_)
  have hP : va_P (dC, dI) vc [(h0, .inr (4, [.ref w1, .null, .int (iI 0), .int (iI 0)])), (w1, .inl (k1, 15, .inl (fun j => iI (z0 j))))] H := hP
  have hD : va_D A [(h0, .inr (4, [.ref w1, .null, .int (iI 0), .int (iI 0)])), (w1, .inl (k1, 15, .inl (fun j => iI (z0 j))))] := hD
  refine lv_aload_n hx hb dd_Y_init_12 rfl (lv_at hl 0 rfl) ?_
  refine x_bipush hC dd_Y_init_13 (by decide) ?_
  refine va_newa (atype := .int) (ty := .int) (n := iI 15) (N' := 15) (a0 := (15, .inl (fun j => iI (z0 j)))) hx hb (hts _ tb_82) rfl hK hP hD hS hA (fun cA => rfl) (by decide) (by rw [iI_clamp (rk rfl)]; rfl) (Nat.le_of_ble_eq_true rfl) (Nat.le_of_ble_eq_true rfl) (Nat.le_of_ble_eq_true rfl) dd_Y_init_15 (fun w2 k2 H hK hP hD hS => ?_)
  have hP : va_P (dC, dI) vc [(h0, .inr (4, [.ref w1, .null, .int (iI 0), .int (iI 0)])), (w1, .inl (k1, 15, .inl (fun j => iI (z0 j)))), (w2, .inl (k2, 15, .inl (fun j => iI (z0 j))))] H := hP
  have hD : va_D A [(h0, .inr (4, [.ref w1, .null, .int (iI 0), .int (iI 0)])), (w1, .inl (k1, 15, .inl (fun j => iI (z0 j)))), (w2, .inl (k2, 15, .inl (fun j => iI (z0 j))))] := hD
  have hK : va_K (dC, dI) vc [(k1, .int), (k2, .int)] s := hK
  refine va_putF (D := (dC, dI)) (ci := 4) (v := .ref w2) (ty := (.array .int)) (C := rr_Y) (T := ft_Y) (N := 4) hx hb hts iw_Y fy_Y fk_Y fn_Y hown hK hP hD hS 0 rfl rfl 1 (by decide) (hts _ tb_129) (fun _ h9 => h9) rfl hin rfl (by decide +kernel) rfl rfl (Nat.le_of_ble_eq_true rfl) dd_Y_init_17 (fun H locs hP hD hS => ?_)
  have hP : va_P (dC, dI) vc [(h0, .inr (4, [.ref w1, .ref w2, .int (iI 0), .int (iI 0)])), (w1, .inl (k1, 15, .inl (fun j => iI (z0 j)))), (w2, .inl (k2, 15, .inl (fun j => iI (z0 j))))] H := hP
  have hD : va_D A [(h0, .inr (4, [.ref w1, .ref w2, .int (iI 0), .int (iI 0)])), (w1, .inl (k1, 15, .inl (fun j => iI (z0 j)))), (w2, .inl (k2, 15, .inl (fun j => iI (z0 j))))] := hD
  refine lv_aload_n hx hb dd_Y_init_20 rfl (lv_at hl 0 rfl) ?_
  refine x_iconst hC dd_Y_init_21 ?_
  refine va_put (D := (dC, dI)) (ci := 4) (v := .int (iI 0)) (ty := .int) (C := rr_Y) (T := ft_Y) (N := 4) hx hb hts iw_Y fy_Y fk_Y fn_Y hown hK hP hD hS 0 rfl rfl 2 (by decide) (hts _ tb_131) (fun _ h9 => h9) rfl (by decide +kernel) rfl rfl (Nat.le_of_ble_eq_true rfl) dd_Y_init_22 (fun H locs hP hD hS => ?_)
  have hP : va_P (dC, dI) vc [(h0, .inr (4, [.ref w1, .ref w2, .int (iI 0), .int (iI 0)])), (w1, .inl (k1, 15, .inl (fun j => iI (z0 j)))), (w2, .inl (k2, 15, .inl (fun j => iI (z0 j))))] H := hP
  have hD : va_D A [(h0, .inr (4, [.ref w1, .ref w2, .int (iI 0), .int (iI 0)])), (w1, .inl (k1, 15, .inl (fun j => iI (z0 j)))), (w2, .inl (k2, 15, .inl (fun j => iI (z0 j))))] := hD
  refine lv_aload_n hx hb dd_Y_init_25 rfl (lv_at hl 0 rfl) ?_
  refine x_iconst hC dd_Y_init_26 ?_
  refine va_put (D := (dC, dI)) (ci := 4) (v := .int (iI 0)) (ty := .boolean) (C := rr_Y) (T := ft_Y) (N := 4) hx hb hts iw_Y fy_Y fk_Y fn_Y hown hK hP hD hS 0 rfl rfl 3 (by decide) (hts _ tb_133) (fun _ h9 => h9) rfl (by decide +kernel) rfl rfl (Nat.le_of_ble_eq_true rfl) dd_Y_init_27 (fun H locs hP hD hS => ?_)
  have hP : va_P (dC, dI) vc [(h0, .inr (4, [.ref w1, .ref w2, .int (iI 0), .int (iI 0)])), (w1, .inl (k1, 15, .inl (fun j => iI (z0 j)))), (w2, .inl (k2, 15, .inl (fun j => iI (z0 j))))] H := hP
  have hD : va_D A [(h0, .inr (4, [.ref w1, .ref w2, .int (iI 0), .int (iI 0)])), (w1, .inl (k1, 15, .inl (fun j => iI (z0 j)))), (w2, .inl (k2, 15, .inl (fun j => iI (z0 j))))] := hD
  have hP9 := hP
  have hD9 := hD
  have hK9 := hK
  refine W.widen (k := 2) (n := 30) (Nat.le_of_ble_eq_true rfl) (Nat.le_of_ble_eq_true rfl) ?_
  exact W.vret hx hb hr (fun t ht hW => ⟨⟨(), rfl, trivial, w1, w2, k1, k2, by rw [ht]; exact hP9, va_K.moved hW.alike hK9, hD9⟩, hS.F ht⟩) hS.2.2 dd_Y_init_30 hlocks
set_option maxHeartbeats 4000000 in
set_option maxRecDepth 100000 in
theorem ci_P (l : Launch) (dC : Nat → ClassId) (dI : Nat → Nat → Nat) (h0 sz : Nat) : Met l yy_P_init (Cond.code yy_P_init bc_P_init 1 none :: tg) ({ frames := 1, cells := 4, slots := 49161, locals := 20 } : Room) (va_Pc [.ref h0] (fun U => U.heap.size = sz ∧ va_P (dC, dI) vc [(h0, .inr (2, [.null, .null, .null, .null, .int (iI 0), .int (iI 0), .int (iI 0), .int (iI 0), .int (iI 0)]))] U.heap ∧ va_K (dC, dI) vc [] U ∧ va_D (fun _ => True) [(h0, .inr (2, [.null, .null, .null, .null, .int (iI 0), .int (iI 0), .int (iI 0), .int (iI 0), .int (iI 0)]))] ∧ nW U)) (va_Qv (S := Unit) (fun _ => True) (at_P dC dI (va_A [(h0, .inr (2, [.null, .null, .null, .null, .int (iI 0), .int (iI 0), .int (iI 0), .int (iI 0), .int (iI 0)]))] sz) h0) (va_A [(h0, .inr (2, [.null, .null, .null, .null, .int (iI 0), .int (iI 0), .int (iI 0), .int (iI 0), .int (iI 0)]))] sz)) 4 49161 (va_A [(h0, .inr (2, [.null, .null, .null, .null, .int (iI 0), .int (iI 0), .int (iI 0), .int (iI 0), .int (iI 0)]))] sz) := by
  refine Met.ofW (cc := bc_P_init) (maxL := 1) (ret := none) (by decide) rfl ?_
  intro p e s m args below meth c s₁ B hml hv
  obtain ⟨rfl, hsz, hP, hK, hD0, hN⟩ := hv
  have hx := B.exec
  have hb := B.bytes
  have hr := B.returns
  have hts : ∀ w ∈ tg, w.before _ s = true := fun w hw => atoms_spec (ws := Cond.code yy_P_init bc_P_init 1 none :: tg) B.pre w (List.mem_cons_of_mem _ hw)
  have hown : s.vm.findClass "TurnCounts$PatternTable" = some m.cls := findClass_of_methodNamed B.named
  have hlocks := B.notSynchronized
  have hin : meth.name = "<init>" := (name_of_methodNamed B.named B.method).1
  subst hsz
  have hD := hD0.self (sz := s.heap.size)
  generalize hAe : va_A [(h0, .inr (2, [.null, .null, .null, .null, .int (iI 0), .int (iI 0), .int (iI 0), .int (iI 0), .int (iI 0)]))] s.heap.size = A at hD ⊢
  have hA : ∀ q : Nat, s.heap.size ≤ q → A q := fun q h => by rw [← hAe]; exact Or.inr h
  have hS : va_S A s.heap s.heap [] := va_S.rf
  have hC : Cx p s m _ c bc_P_init 1 "TurnCounts$PatternTable" (Xz (dC, dI)) A := ⟨⟨hx, hb, hml, hown, hts⟩, hK, Xz_lcl _, hA, hN⟩
  have hl := lv_entry ([.ref h0]) (n := 1) (Nat.le_of_ble_eq_true rfl)
  rw [lg_entry_eq]
  generalize (lg_sl ([.ref h0]) ++ List.replicate (1 - (lg_sl ([.ref h0])).length) Slot.unset).toArray = ls at hl ⊢
  have hl : lv_has ls 1 [(0, .ref h0)] := hl
  have hP : va_P (dC, dI) vc [(h0, .inr (2, [.null, .null, .null, .null, .int (iI 0), .int (iI 0), .int (iI 0), .int (iI 0), .int (iI 0)]))] s.heap := hP
  have hD : va_D A [(h0, .inr (2, [.null, .null, .null, .null, .int (iI 0), .int (iI 0), .int (iI 0), .int (iI 0), .int (iI 0)]))] := hD
  refine lv_aload_n hx hb dd_P_init_0 rfl (lv_at hl 0 rfl) ?_
  refine W.objInit hx hb hown (hts _ tb_149) (hts _ tb_18) (hts _ tb_19) rfl (by rw [hml]; exact hl.1) rfl dd_P_init_1 (Nat.le_of_ble_eq_true rfl) (Nat.le_of_ble_eq_true rfl) ?_
  refine W.eq (g2 := F0 m 4 ls []) rfl ?_
  refine lv_aload_n hx hb dd_P_init_4 rfl (lv_at hl 0 rfl) ?_
  refine x_sipush hC dd_P_init_5 (by decide) ?_
  refine va_newa (atype := .int) (ty := .int) (n := iI 16384) (N' := 16384) (a0 := (16384, .inl (fun j => iI (z0 j)))) hx hb (hts _ tb_82) rfl hK hP hD hS hA (fun cA => rfl) (by decide) (by rw [iI_clamp (rk rfl)]; rfl) (Nat.le_of_ble_eq_true rfl) (Nat.le_of_ble_eq_true rfl) (Nat.le_of_ble_eq_true rfl) dd_P_init_8 (fun w1 k1 H hK hP hD hS => ?_)
  have hP : va_P (dC, dI) vc [(h0, .inr (2, [.null, .null, .null, .null, .int (iI 0), .int (iI 0), .int (iI 0), .int (iI 0), .int (iI 0)])), (w1, .inl (k1, 16384, .inl (fun j => iI (z0 j))))] H := hP
  have hD : va_D A [(h0, .inr (2, [.null, .null, .null, .null, .int (iI 0), .int (iI 0), .int (iI 0), .int (iI 0), .int (iI 0)])), (w1, .inl (k1, 16384, .inl (fun j => iI (z0 j))))] := hD
  have hK : va_K (dC, dI) vc [(k1, .int)] s := hK
  refine va_putF (D := (dC, dI)) (ci := 2) (v := .ref w1) (ty := (.array .int)) (C := rr_P) (T := ft_P) (N := 9) hx hb hts iw_P fy_P fk_P fn_P hown hK hP hD hS 0 rfl rfl 0 (by decide) (hts _ tb_150) (fun _ h9 => h9) rfl hin rfl (by decide +kernel) rfl rfl (Nat.le_of_ble_eq_true rfl) dd_P_init_10 (fun H locs hP hD hS => ?_)
  have hP : va_P (dC, dI) vc [(h0, .inr (2, [.ref w1, .null, .null, .null, .int (iI 0), .int (iI 0), .int (iI 0), .int (iI 0), .int (iI 0)])), (w1, .inl (k1, 16384, .inl (fun j => iI (z0 j))))] H := hP
  have hD : va_D A [(h0, .inr (2, [.ref w1, .null, .null, .null, .int (iI 0), .int (iI 0), .int (iI 0), .int (iI 0), .int (iI 0)])), (w1, .inl (k1, 16384, .inl (fun j => iI (z0 j))))] := hD
  refine lv_aload_n hx hb dd_P_init_13 rfl (lv_at hl 0 rfl) ?_
  refine x_sipush hC dd_P_init_14 (by decide) ?_
  refine va_newa (atype := .int) (ty := .int) (n := iI 16384) (N' := 16384) (a0 := (16384, .inl (fun j => iI (z0 j)))) hx hb (hts _ tb_82) rfl hK hP hD hS hA (fun cA => rfl) (by decide) (by rw [iI_clamp (rk rfl)]; rfl) (Nat.le_of_ble_eq_true rfl) (Nat.le_of_ble_eq_true rfl) (Nat.le_of_ble_eq_true rfl) dd_P_init_17 (fun w2 k2 H hK hP hD hS => ?_)
  have hP : va_P (dC, dI) vc [(h0, .inr (2, [.ref w1, .null, .null, .null, .int (iI 0), .int (iI 0), .int (iI 0), .int (iI 0), .int (iI 0)])), (w1, .inl (k1, 16384, .inl (fun j => iI (z0 j)))), (w2, .inl (k2, 16384, .inl (fun j => iI (z0 j))))] H := hP
  have hD : va_D A [(h0, .inr (2, [.ref w1, .null, .null, .null, .int (iI 0), .int (iI 0), .int (iI 0), .int (iI 0), .int (iI 0)])), (w1, .inl (k1, 16384, .inl (fun j => iI (z0 j)))), (w2, .inl (k2, 16384, .inl (fun j => iI (z0 j))))] := hD
  have hK : va_K (dC, dI) vc [(k1, .int), (k2, .int)] s := hK
  refine va_putF (D := (dC, dI)) (ci := 2) (v := .ref w2) (ty := (.array .int)) (C := rr_P) (T := ft_P) (N := 9) hx hb hts iw_P fy_P fk_P fn_P hown hK hP hD hS 0 rfl rfl 1 (by decide) (hts _ tb_151) (fun _ h9 => h9) rfl hin rfl (by decide +kernel) rfl rfl (Nat.le_of_ble_eq_true rfl) dd_P_init_19 (fun H locs hP hD hS => ?_)
  have hP : va_P (dC, dI) vc [(h0, .inr (2, [.ref w1, .ref w2, .null, .null, .int (iI 0), .int (iI 0), .int (iI 0), .int (iI 0), .int (iI 0)])), (w1, .inl (k1, 16384, .inl (fun j => iI (z0 j)))), (w2, .inl (k2, 16384, .inl (fun j => iI (z0 j))))] H := hP
  have hD : va_D A [(h0, .inr (2, [.ref w1, .ref w2, .null, .null, .int (iI 0), .int (iI 0), .int (iI 0), .int (iI 0), .int (iI 0)])), (w1, .inl (k1, 16384, .inl (fun j => iI (z0 j)))), (w2, .inl (k2, 16384, .inl (fun j => iI (z0 j))))] := hD
  refine lv_aload_n hx hb dd_P_init_22 rfl (lv_at hl 0 rfl) ?_
  refine x_sipush hC dd_P_init_23 (by decide) ?_
  refine va_newa (atype := .int) (ty := .int) (n := iI 16385) (N' := 16385) (a0 := (16385, .inl (fun j => iI (z0 j)))) hx hb (hts _ tb_82) rfl hK hP hD hS hA (fun cA => rfl) (by decide) (by rw [iI_clamp (rk rfl)]; rfl) (Nat.le_of_ble_eq_true rfl) (Nat.le_of_ble_eq_true rfl) (Nat.le_of_ble_eq_true rfl) dd_P_init_26 (fun w3 k3 H hK hP hD hS => ?_)
  have hP : va_P (dC, dI) vc [(h0, .inr (2, [.ref w1, .ref w2, .null, .null, .int (iI 0), .int (iI 0), .int (iI 0), .int (iI 0), .int (iI 0)])), (w1, .inl (k1, 16384, .inl (fun j => iI (z0 j)))), (w2, .inl (k2, 16384, .inl (fun j => iI (z0 j)))), (w3, .inl (k3, 16385, .inl (fun j => iI (z0 j))))] H := hP
  have hD : va_D A [(h0, .inr (2, [.ref w1, .ref w2, .null, .null, .int (iI 0), .int (iI 0), .int (iI 0), .int (iI 0), .int (iI 0)])), (w1, .inl (k1, 16384, .inl (fun j => iI (z0 j)))), (w2, .inl (k2, 16384, .inl (fun j => iI (z0 j)))), (w3, .inl (k3, 16385, .inl (fun j => iI (z0 j))))] := hD
  have hK : va_K (dC, dI) vc [(k1, .int), (k2, .int), (k3, .int)] s := hK
  refine va_putF (D := (dC, dI)) (ci := 2) (v := .ref w3) (ty := (.array .int)) (C := rr_P) (T := ft_P) (N := 9) hx hb hts iw_P fy_P fk_P fn_P hown hK hP hD hS 0 rfl rfl 2 (by decide) (hts _ tb_152) (fun _ h9 => h9) rfl hin rfl (by decide +kernel) rfl rfl (Nat.le_of_ble_eq_true rfl) dd_P_init_28 (fun H locs hP hD hS => ?_)
  have hP : va_P (dC, dI) vc [(h0, .inr (2, [.ref w1, .ref w2, .ref w3, .null, .int (iI 0), .int (iI 0), .int (iI 0), .int (iI 0), .int (iI 0)])), (w1, .inl (k1, 16384, .inl (fun j => iI (z0 j)))), (w2, .inl (k2, 16384, .inl (fun j => iI (z0 j)))), (w3, .inl (k3, 16385, .inl (fun j => iI (z0 j))))] H := hP
  have hD : va_D A [(h0, .inr (2, [.ref w1, .ref w2, .ref w3, .null, .int (iI 0), .int (iI 0), .int (iI 0), .int (iI 0), .int (iI 0)])), (w1, .inl (k1, 16384, .inl (fun j => iI (z0 j)))), (w2, .inl (k2, 16384, .inl (fun j => iI (z0 j)))), (w3, .inl (k3, 16385, .inl (fun j => iI (z0 j))))] := hD
  refine lv_aload_n hx hb dd_P_init_31 rfl (lv_at hl 0 rfl) ?_
  refine x_bipush hC dd_P_init_32 (by decide) ?_
  refine va_newa (atype := .int) (ty := .int) (n := iI 8) (N' := 8) (a0 := (8, .inl (fun j => iI (z0 j)))) hx hb (hts _ tb_82) rfl hK hP hD hS hA (fun cA => rfl) (by decide) (by rw [iI_clamp (rk rfl)]; rfl) (Nat.le_of_ble_eq_true rfl) (Nat.le_of_ble_eq_true rfl) (Nat.le_of_ble_eq_true rfl) dd_P_init_34 (fun w4 k4 H hK hP hD hS => ?_)
  have hP : va_P (dC, dI) vc [(h0, .inr (2, [.ref w1, .ref w2, .ref w3, .null, .int (iI 0), .int (iI 0), .int (iI 0), .int (iI 0), .int (iI 0)])), (w1, .inl (k1, 16384, .inl (fun j => iI (z0 j)))), (w2, .inl (k2, 16384, .inl (fun j => iI (z0 j)))), (w3, .inl (k3, 16385, .inl (fun j => iI (z0 j)))), (w4, .inl (k4, 8, .inl (fun j => iI (z0 j))))] H := hP
  have hD : va_D A [(h0, .inr (2, [.ref w1, .ref w2, .ref w3, .null, .int (iI 0), .int (iI 0), .int (iI 0), .int (iI 0), .int (iI 0)])), (w1, .inl (k1, 16384, .inl (fun j => iI (z0 j)))), (w2, .inl (k2, 16384, .inl (fun j => iI (z0 j)))), (w3, .inl (k3, 16385, .inl (fun j => iI (z0 j)))), (w4, .inl (k4, 8, .inl (fun j => iI (z0 j))))] := hD
  have hK : va_K (dC, dI) vc [(k1, .int), (k2, .int), (k3, .int), (k4, .int)] s := hK
  refine va_putF (D := (dC, dI)) (ci := 2) (v := .ref w4) (ty := (.array .int)) (C := rr_P) (T := ft_P) (N := 9) hx hb hts iw_P fy_P fk_P fn_P hown hK hP hD hS 0 rfl rfl 3 (by decide) (hts _ tb_153) (fun _ h9 => h9) rfl hin rfl (by decide +kernel) rfl rfl (Nat.le_of_ble_eq_true rfl) dd_P_init_36 (fun H locs hP hD hS => ?_)
  have hP : va_P (dC, dI) vc [(h0, .inr (2, [.ref w1, .ref w2, .ref w3, .ref w4, .int (iI 0), .int (iI 0), .int (iI 0), .int (iI 0), .int (iI 0)])), (w1, .inl (k1, 16384, .inl (fun j => iI (z0 j)))), (w2, .inl (k2, 16384, .inl (fun j => iI (z0 j)))), (w3, .inl (k3, 16385, .inl (fun j => iI (z0 j)))), (w4, .inl (k4, 8, .inl (fun j => iI (z0 j))))] H := hP
  have hD : va_D A [(h0, .inr (2, [.ref w1, .ref w2, .ref w3, .ref w4, .int (iI 0), .int (iI 0), .int (iI 0), .int (iI 0), .int (iI 0)])), (w1, .inl (k1, 16384, .inl (fun j => iI (z0 j)))), (w2, .inl (k2, 16384, .inl (fun j => iI (z0 j)))), (w3, .inl (k3, 16385, .inl (fun j => iI (z0 j)))), (w4, .inl (k4, 8, .inl (fun j => iI (z0 j))))] := hD
  refine lv_aload_n hx hb dd_P_init_39 rfl (lv_at hl 0 rfl) ?_
  refine x_iconst hC dd_P_init_40 ?_
  refine va_put (D := (dC, dI)) (ci := 2) (v := .int (iI 1)) (ty := .int) (C := rr_P) (T := ft_P) (N := 9) hx hb hts iw_P fy_P fk_P fn_P hown hK hP hD hS 0 rfl rfl 4 (by decide) (hts _ tb_154) (fun _ h9 => h9) rfl (by decide +kernel) rfl rfl (Nat.le_of_ble_eq_true rfl) dd_P_init_41 (fun H locs hP hD hS => ?_)
  have hP : va_P (dC, dI) vc [(h0, .inr (2, [.ref w1, .ref w2, .ref w3, .ref w4, .int (iI 1), .int (iI 0), .int (iI 0), .int (iI 0), .int (iI 0)])), (w1, .inl (k1, 16384, .inl (fun j => iI (z0 j)))), (w2, .inl (k2, 16384, .inl (fun j => iI (z0 j)))), (w3, .inl (k3, 16385, .inl (fun j => iI (z0 j)))), (w4, .inl (k4, 8, .inl (fun j => iI (z0 j))))] H := hP
  have hD : va_D A [(h0, .inr (2, [.ref w1, .ref w2, .ref w3, .ref w4, .int (iI 1), .int (iI 0), .int (iI 0), .int (iI 0), .int (iI 0)])), (w1, .inl (k1, 16384, .inl (fun j => iI (z0 j)))), (w2, .inl (k2, 16384, .inl (fun j => iI (z0 j)))), (w3, .inl (k3, 16385, .inl (fun j => iI (z0 j)))), (w4, .inl (k4, 8, .inl (fun j => iI (z0 j))))] := hD
  refine lv_aload_n hx hb dd_P_init_44 rfl (lv_at hl 0 rfl) ?_
  refine x_iconst hC dd_P_init_45 ?_
  refine va_put (D := (dC, dI)) (ci := 2) (v := .int (iI 1)) (ty := .int) (C := rr_P) (T := ft_P) (N := 9) hx hb hts iw_P fy_P fk_P fn_P hown hK hP hD hS 0 rfl rfl 5 (by decide) (hts _ tb_155) (fun _ h9 => h9) rfl (by decide +kernel) rfl rfl (Nat.le_of_ble_eq_true rfl) dd_P_init_46 (fun H locs hP hD hS => ?_)
  have hP : va_P (dC, dI) vc [(h0, .inr (2, [.ref w1, .ref w2, .ref w3, .ref w4, .int (iI 1), .int (iI 1), .int (iI 0), .int (iI 0), .int (iI 0)])), (w1, .inl (k1, 16384, .inl (fun j => iI (z0 j)))), (w2, .inl (k2, 16384, .inl (fun j => iI (z0 j)))), (w3, .inl (k3, 16385, .inl (fun j => iI (z0 j)))), (w4, .inl (k4, 8, .inl (fun j => iI (z0 j))))] H := hP
  have hD : va_D A [(h0, .inr (2, [.ref w1, .ref w2, .ref w3, .ref w4, .int (iI 1), .int (iI 1), .int (iI 0), .int (iI 0), .int (iI 0)])), (w1, .inl (k1, 16384, .inl (fun j => iI (z0 j)))), (w2, .inl (k2, 16384, .inl (fun j => iI (z0 j)))), (w3, .inl (k3, 16385, .inl (fun j => iI (z0 j)))), (w4, .inl (k4, 8, .inl (fun j => iI (z0 j))))] := hD
  refine lv_aload_n hx hb dd_P_init_49 rfl (lv_at hl 0 rfl) ?_
  refine x_iconst hC dd_P_init_50 ?_
  refine va_put (D := (dC, dI)) (ci := 2) (v := .int (iI 0)) (ty := .int) (C := rr_P) (T := ft_P) (N := 9) hx hb hts iw_P fy_P fk_P fn_P hown hK hP hD hS 0 rfl rfl 6 (by decide) (hts _ tb_156) (fun _ h9 => h9) rfl (by decide +kernel) rfl rfl (Nat.le_of_ble_eq_true rfl) dd_P_init_51 (fun H locs hP hD hS => ?_)
  have hP : va_P (dC, dI) vc [(h0, .inr (2, [.ref w1, .ref w2, .ref w3, .ref w4, .int (iI 1), .int (iI 1), .int (iI 0), .int (iI 0), .int (iI 0)])), (w1, .inl (k1, 16384, .inl (fun j => iI (z0 j)))), (w2, .inl (k2, 16384, .inl (fun j => iI (z0 j)))), (w3, .inl (k3, 16385, .inl (fun j => iI (z0 j)))), (w4, .inl (k4, 8, .inl (fun j => iI (z0 j))))] H := hP
  have hD : va_D A [(h0, .inr (2, [.ref w1, .ref w2, .ref w3, .ref w4, .int (iI 1), .int (iI 1), .int (iI 0), .int (iI 0), .int (iI 0)])), (w1, .inl (k1, 16384, .inl (fun j => iI (z0 j)))), (w2, .inl (k2, 16384, .inl (fun j => iI (z0 j)))), (w3, .inl (k3, 16385, .inl (fun j => iI (z0 j)))), (w4, .inl (k4, 8, .inl (fun j => iI (z0 j))))] := hD
  refine lv_aload_n hx hb dd_P_init_54 rfl (lv_at hl 0 rfl) ?_
  refine x_iconst hC dd_P_init_55 ?_
  refine va_put (D := (dC, dI)) (ci := 2) (v := .int (iI 0)) (ty := .int) (C := rr_P) (T := ft_P) (N := 9) hx hb hts iw_P fy_P fk_P fn_P hown hK hP hD hS 0 rfl rfl 7 (by decide) (hts _ tb_157) (fun _ h9 => h9) rfl (by decide +kernel) rfl rfl (Nat.le_of_ble_eq_true rfl) dd_P_init_56 (fun H locs hP hD hS => ?_)
  have hP : va_P (dC, dI) vc [(h0, .inr (2, [.ref w1, .ref w2, .ref w3, .ref w4, .int (iI 1), .int (iI 1), .int (iI 0), .int (iI 0), .int (iI 0)])), (w1, .inl (k1, 16384, .inl (fun j => iI (z0 j)))), (w2, .inl (k2, 16384, .inl (fun j => iI (z0 j)))), (w3, .inl (k3, 16385, .inl (fun j => iI (z0 j)))), (w4, .inl (k4, 8, .inl (fun j => iI (z0 j))))] H := hP
  have hD : va_D A [(h0, .inr (2, [.ref w1, .ref w2, .ref w3, .ref w4, .int (iI 1), .int (iI 1), .int (iI 0), .int (iI 0), .int (iI 0)])), (w1, .inl (k1, 16384, .inl (fun j => iI (z0 j)))), (w2, .inl (k2, 16384, .inl (fun j => iI (z0 j)))), (w3, .inl (k3, 16385, .inl (fun j => iI (z0 j)))), (w4, .inl (k4, 8, .inl (fun j => iI (z0 j))))] := hD
  refine lv_aload_n hx hb dd_P_init_59 rfl (lv_at hl 0 rfl) ?_
  refine x_iconst hC dd_P_init_60 ?_
  refine va_put (D := (dC, dI)) (ci := 2) (v := .int (iI 0)) (ty := .boolean) (C := rr_P) (T := ft_P) (N := 9) hx hb hts iw_P fy_P fk_P fn_P hown hK hP hD hS 0 rfl rfl 8 (by decide) (hts _ tb_159) (fun _ h9 => h9) rfl (by decide +kernel) rfl rfl (Nat.le_of_ble_eq_true rfl) dd_P_init_61 (fun H locs hP hD hS => ?_)
  have hP : va_P (dC, dI) vc [(h0, .inr (2, [.ref w1, .ref w2, .ref w3, .ref w4, .int (iI 1), .int (iI 1), .int (iI 0), .int (iI 0), .int (iI 0)])), (w1, .inl (k1, 16384, .inl (fun j => iI (z0 j)))), (w2, .inl (k2, 16384, .inl (fun j => iI (z0 j)))), (w3, .inl (k3, 16385, .inl (fun j => iI (z0 j)))), (w4, .inl (k4, 8, .inl (fun j => iI (z0 j))))] H := hP
  have hD : va_D A [(h0, .inr (2, [.ref w1, .ref w2, .ref w3, .ref w4, .int (iI 1), .int (iI 1), .int (iI 0), .int (iI 0), .int (iI 0)])), (w1, .inl (k1, 16384, .inl (fun j => iI (z0 j)))), (w2, .inl (k2, 16384, .inl (fun j => iI (z0 j)))), (w3, .inl (k3, 16385, .inl (fun j => iI (z0 j)))), (w4, .inl (k4, 8, .inl (fun j => iI (z0 j))))] := hD
  have hP9 := hP
  have hD9 := hD
  have hK9 := hK
  refine W.widen (k := 4) (n := 49161) (Nat.le_of_ble_eq_true rfl) (Nat.le_of_ble_eq_true rfl) ?_
  exact W.vret hx hb hr (fun t ht hW => ⟨⟨(), rfl, trivial, w1, w2, w3, w4, k1, k2, k3, k4, by rw [ht]; exact hP9, va_K.moved hW.alike hK9, hD9⟩, hS.F ht⟩) hS.2.2 dd_P_init_64 hlocks
set_option maxHeartbeats 4000000 in
set_option maxRecDepth 100000 in
theorem ci_G (l : Launch) (dC : Nat → ClassId) (dI : Nat → Nat → Nat) (h0 sz : Nat) (PG : Mm → Prop) (hwG : wp_G_makeStill 0 (fun _ _ => 0) PG) : Met l yy_G_init (Cond.code yy_G_init bc_G_init 1 none :: tg) ({ frames := 4, cells := 3, slots := 5210, locals := 89 } : Room) (va_Pc [.ref h0] (fun U => U.heap.size = sz ∧ va_P (dC, dI) vc [(h0, .inr (0, [.null, .int (iI 0), .null, .int (iI 0), .null]))] U.heap ∧ va_K (dC, dI) vc [] U ∧ va_D (fun _ => True) [(h0, .inr (0, [.null, .int (iI 0), .null, .int (iI 0), .null]))] ∧ nW U)) (va_Qv (S := Mm) (fun M1 => mr M1 ∧ PG M1) (at_G dC dI (va_A [(h0, .inr (0, [.null, .int (iI 0), .null, .int (iI 0), .null]))] sz) h0) (va_A [(h0, .inr (0, [.null, .int (iI 0), .null, .int (iI 0), .null]))] sz)) 3 5210 (va_A [(h0, .inr (0, [.null, .int (iI 0), .null, .int (iI 0), .null]))] sz) := by
  refine Met.ofW (cc := bc_G_init) (maxL := 1) (ret := none) (by decide) rfl ?_
  intro p e s m args below meth c s₁ B hml hv
  obtain ⟨rfl, hsz, hP, hK, hD0, hN⟩ := hv
  have hx := B.exec
  have hb := B.bytes
  have hr := B.returns
  have hts : ∀ w ∈ tg, w.before _ s = true := fun w hw => atoms_spec (ws := Cond.code yy_G_init bc_G_init 1 none :: tg) B.pre w (List.mem_cons_of_mem _ hw)
  have hown : s.vm.findClass "TurnCounts$Group" = some m.cls := findClass_of_methodNamed B.named
  have hlocks := B.notSynchronized
  have hin : meth.name = "<init>" := (name_of_methodNamed B.named B.method).1
  subst hsz
  have hD := hD0.self (sz := s.heap.size)
  generalize hAe : va_A [(h0, .inr (0, [.null, .int (iI 0), .null, .int (iI 0), .null]))] s.heap.size = A at hD ⊢
  have hA : ∀ q : Nat, s.heap.size ≤ q → A q := fun q h => by rw [← hAe]; exact Or.inr h
  have hS : va_S A s.heap s.heap [] := va_S.rf
  have hC : Cx p s m _ c bc_G_init 1 "TurnCounts$Group" (Xz (dC, dI)) A := ⟨⟨hx, hb, hml, hown, hts⟩, hK, Xz_lcl _, hA, hN⟩
  have hl := lv_entry ([.ref h0]) (n := 1) (Nat.le_of_ble_eq_true rfl)
  rw [lg_entry_eq]
  generalize (lg_sl ([.ref h0]) ++ List.replicate (1 - (lg_sl ([.ref h0])).length) Slot.unset).toArray = ls at hl ⊢
  have hl : lv_has ls 1 [(0, .ref h0)] := hl
  have hP : va_P (dC, dI) vc [(h0, .inr (0, [.null, .int (iI 0), .null, .int (iI 0), .null]))] s.heap := hP
  have hD : va_D A [(h0, .inr (0, [.null, .int (iI 0), .null, .int (iI 0), .null]))] := hD
  refine lv_aload_n hx hb dd_G_init_0 rfl (lv_at hl 0 rfl) ?_
  refine W.objInit hx hb hown (hts _ tb_31) (hts _ tb_18) (hts _ tb_19) rfl (by rw [hml]; exact hl.1) rfl dd_G_init_1 (Nat.le_of_ble_eq_true rfl) (Nat.le_of_ble_eq_true rfl) ?_
  refine W.eq (g2 := F0 m 4 ls []) rfl ?_
  refine lv_aload_n hx hb dd_G_init_4 rfl (lv_at hl 0 rfl) ?_
  refine x_sipush hC dd_G_init_5 (by decide) ?_
  refine va_newa (atype := .int) (ty := .int) (n := iI 5040) (N' := 5040) (a0 := (5040, .inl (fun j => iI (z0 j)))) hx hb (hts _ tb_82) rfl hK hP hD hS hA (fun cA => rfl) (by decide) (by rw [iI_clamp (rk rfl)]; rfl) (Nat.le_of_ble_eq_true rfl) (Nat.le_of_ble_eq_true rfl) (Nat.le_of_ble_eq_true rfl) dd_G_init_8 (fun w1 k1 H hK hP hD hS => ?_)
  have hP : va_P (dC, dI) vc [(h0, .inr (0, [.null, .int (iI 0), .null, .int (iI 0), .null])), (w1, .inl (k1, 5040, .inl (fun j => iI (z0 j))))] H := hP
  have hD : va_D A [(h0, .inr (0, [.null, .int (iI 0), .null, .int (iI 0), .null])), (w1, .inl (k1, 5040, .inl (fun j => iI (z0 j))))] := hD
  have hK : va_K (dC, dI) vc [(k1, .int)] s := hK
  refine va_putF (D := (dC, dI)) (ci := 0) (v := .ref w1) (ty := (.array .int)) (C := rr_G) (T := ft_G) (N := 5) hx hb hts iw_G fy_G fk_G fn_G hown hK hP hD hS 0 rfl rfl 0 (by decide) (hts _ tb_59) (fun _ h9 => h9) rfl hin rfl (by decide +kernel) rfl rfl (Nat.le_of_ble_eq_true rfl) dd_G_init_10 (fun H locs hP hD hS => ?_)
  have hP : va_P (dC, dI) vc [(h0, .inr (0, [.ref w1, .int (iI 0), .null, .int (iI 0), .null])), (w1, .inl (k1, 5040, .inl (fun j => iI (z0 j))))] H := hP
  have hD : va_D A [(h0, .inr (0, [.ref w1, .int (iI 0), .null, .int (iI 0), .null])), (w1, .inl (k1, 5040, .inl (fun j => iI (z0 j))))] := hD
  refine lv_aload_n hx hb dd_G_init_13 rfl (lv_at hl 0 rfl) ?_
  refine x_bipush hC dd_G_init_14 (by decide) ?_
  refine va_newa (atype := .int) (ty := .int) (n := iI 12) (N' := 12) (a0 := (12, .inl (fun j => iI (z0 j)))) hx hb (hts _ tb_82) rfl hK hP hD hS hA (fun cA => rfl) (by decide) (by rw [iI_clamp (rk rfl)]; rfl) (Nat.le_of_ble_eq_true rfl) (Nat.le_of_ble_eq_true rfl) (Nat.le_of_ble_eq_true rfl) dd_G_init_16 (fun w2 k2 H hK hP hD hS => ?_)
  have hP : va_P (dC, dI) vc [(h0, .inr (0, [.ref w1, .int (iI 0), .null, .int (iI 0), .null])), (w1, .inl (k1, 5040, .inl (fun j => iI (z0 j)))), (w2, .inl (k2, 12, .inl (fun j => iI (z0 j))))] H := hP
  have hD : va_D A [(h0, .inr (0, [.ref w1, .int (iI 0), .null, .int (iI 0), .null])), (w1, .inl (k1, 5040, .inl (fun j => iI (z0 j)))), (w2, .inl (k2, 12, .inl (fun j => iI (z0 j))))] := hD
  have hK : va_K (dC, dI) vc [(k1, .int), (k2, .int)] s := hK
  refine va_putF (D := (dC, dI)) (ci := 0) (v := .ref w2) (ty := (.array .int)) (C := rr_G) (T := ft_G) (N := 5) hx hb hts iw_G fy_G fk_G fn_G hown hK hP hD hS 0 rfl rfl 2 (by decide) (hts _ tb_66) (fun _ h9 => h9) rfl hin rfl (by decide +kernel) rfl rfl (Nat.le_of_ble_eq_true rfl) dd_G_init_18 (fun H locs hP hD hS => ?_)
  have hP : va_P (dC, dI) vc [(h0, .inr (0, [.ref w1, .int (iI 0), .ref w2, .int (iI 0), .null])), (w1, .inl (k1, 5040, .inl (fun j => iI (z0 j)))), (w2, .inl (k2, 12, .inl (fun j => iI (z0 j))))] H := hP
  have hD : va_D A [(h0, .inr (0, [.ref w1, .int (iI 0), .ref w2, .int (iI 0), .null])), (w1, .inl (k1, 5040, .inl (fun j => iI (z0 j)))), (w2, .inl (k2, 12, .inl (fun j => iI (z0 j))))] := hD
  refine lv_aload_n hx hb dd_G_init_21 rfl (lv_at hl 0 rfl) ?_
  refine x_sipush hC dd_G_init_22 (by decide) ?_
  refine va_newa (atype := .int) (ty := .int) (n := iI 158) (N' := 158) (a0 := (158, .inl (fun j => iI (z0 j)))) hx hb (hts _ tb_82) rfl hK hP hD hS hA (fun cA => rfl) (by decide) (by rw [iI_clamp (rk rfl)]; rfl) (Nat.le_of_ble_eq_true rfl) (Nat.le_of_ble_eq_true rfl) (Nat.le_of_ble_eq_true rfl) dd_G_init_25 (fun w3 k3 H hK hP hD hS => ?_)
  have hP : va_P (dC, dI) vc [(h0, .inr (0, [.ref w1, .int (iI 0), .ref w2, .int (iI 0), .null])), (w1, .inl (k1, 5040, .inl (fun j => iI (z0 j)))), (w2, .inl (k2, 12, .inl (fun j => iI (z0 j)))), (w3, .inl (k3, 158, .inl (fun j => iI (z0 j))))] H := hP
  have hD : va_D A [(h0, .inr (0, [.ref w1, .int (iI 0), .ref w2, .int (iI 0), .null])), (w1, .inl (k1, 5040, .inl (fun j => iI (z0 j)))), (w2, .inl (k2, 12, .inl (fun j => iI (z0 j)))), (w3, .inl (k3, 158, .inl (fun j => iI (z0 j))))] := hD
  have hK : va_K (dC, dI) vc [(k1, .int), (k2, .int), (k3, .int)] s := hK
  refine va_putF (D := (dC, dI)) (ci := 0) (v := .ref w3) (ty := (.array .int)) (C := rr_G) (T := ft_G) (N := 5) hx hb hts iw_G fy_G fk_G fn_G hown hK hP hD hS 0 rfl rfl 4 (by decide) (hts _ tb_70) (fun _ h9 => h9) rfl hin rfl (by decide +kernel) rfl rfl (Nat.le_of_ble_eq_true rfl) dd_G_init_27 (fun H locs hP hD hS => ?_)
  have hP : va_P (dC, dI) vc [(h0, .inr (0, [.ref w1, .int (iI 0), .ref w2, .int (iI 0), .ref w3])), (w1, .inl (k1, 5040, .inl (fun j => iI (z0 j)))), (w2, .inl (k2, 12, .inl (fun j => iI (z0 j)))), (w3, .inl (k3, 158, .inl (fun j => iI (z0 j))))] H := hP
  have hD : va_D A [(h0, .inr (0, [.ref w1, .int (iI 0), .ref w2, .int (iI 0), .ref w3])), (w1, .inl (k1, 5040, .inl (fun j => iI (z0 j)))), (w2, .inl (k2, 12, .inl (fun j => iI (z0 j)))), (w3, .inl (k3, 158, .inl (fun j => iI (z0 j))))] := hD
  refine lv_aload_n hx hb dd_G_init_30 rfl (lv_at hl 0 rfl) ?_
  have hC2 : Cx p s m _ c bc_G_init 1 "TurnCounts$Group" (XG (dC, dI) h0 w1 w2 w3 k1 k2 k3) A := ⟨⟨hx, hb, hml, hown, hts⟩, hK, XG_lcl _ _ _ _ _ _ _ _, hA, hN⟩
  have hS2 : St (XG (dC, dI) h0 w1 w2 w3 k1 k2 k3) A s (fun _ _ => 0) H locs := ⟨hP, hD, hS, fun _ _ => rk rfl⟩
  refine x_callVv hC2 hS2 (As := []) (rest := []) (XG_is _ _ _ _ _ _ _ _).1 rfl cv_G_makeStill (mt_G_makeStill l _ hC2.2.2.1 0 (XG_is _ _ _ _ _ _ _ _) _ hS2.2.2.2 _ _ hwG) tb_32 rfl rfl ⟨Nat.le_of_ble_eq_true rfl, Nat.le_of_ble_eq_true rfl⟩ rfl hl.1 (Nat.le_of_ble_eq_true rfl) dd_G_init_31 ⟨Nat.le_of_ble_eq_true rfl, Nat.le_of_ble_eq_true rfl⟩ rfl (fun M1 H locs hp hS2 => ?_)
  obtain ⟨hP9, hD9, hS, hm1⟩ := hS2
  have hK9 := hK
  refine W.widen (k := 3) (n := 5210) (Nat.le_of_ble_eq_true rfl) (Nat.le_of_ble_eq_true rfl) ?_
  exact W.vret hx hb hr (fun t ht hW => ⟨⟨M1, rfl, ⟨hm1, hp⟩, w1, w2, w3, k1, k2, k3, by rw [ht]; exact hP9, va_K.moved hW.alike hK9, hD9⟩, hS.F ht⟩) hS.2.2 dd_G_init_34 hlocks
set_option maxHeartbeats 4000000 in
set_option maxRecDepth 100000 in
theorem ci_S (l : Launch) (dC : Nat → ClassId) (dI : Nat → Nat → Nat) (h0 sz : Nat) (PG : Mm → Prop) (hwG : wp_G_makeStill 0 (fun _ _ => 0) PG) : Met l yy_S_init (Cond.code yy_S_init bc_S_init 2 none :: tg) ({ frames := 5, cells := 5, slots := 5219, locals := 109 } : Room) (va_Pc [.ref h0] (fun U => U.heap.size = sz ∧ va_P (dC, dI) vc [(h0, .inr (3, [.int (iI 0), .int (iI 0), .null, .null]))] U.heap ∧ va_K (dC, dI) vc [] U ∧ va_D (fun _ => True) [(h0, .inr (3, [.int (iI 0), .int (iI 0), .null, .null]))] ∧ nW U)) (va_Qv (S := Mm) (fun M1 => mr M1 ∧ PG M1) (at_S dC dI (va_A [(h0, .inr (3, [.int (iI 0), .int (iI 0), .null, .null]))] sz) h0) (va_A [(h0, .inr (3, [.int (iI 0), .int (iI 0), .null, .null]))] sz)) 5 5219 (va_A [(h0, .inr (3, [.int (iI 0), .int (iI 0), .null, .null]))] sz) := by
  refine Met.ofW (cc := bc_S_init) (maxL := 2) (ret := none) (by decide) rfl ?_
  intro p e s m args below meth c s₁ B hml hv
  obtain ⟨rfl, hsz, hP, hK, hD0, hN⟩ := hv
  have hx := B.exec
  have hb := B.bytes
  have hr := B.returns
  have hts : ∀ w ∈ tg, w.before _ s = true := fun w hw => atoms_spec (ws := Cond.code yy_S_init bc_S_init 2 none :: tg) B.pre w (List.mem_cons_of_mem _ hw)
  have hown : s.vm.findClass "TurnCounts$Setting" = some m.cls := findClass_of_methodNamed B.named
  have hlocks := B.notSynchronized
  have hin : meth.name = "<init>" := (name_of_methodNamed B.named B.method).1
  subst hsz
  have hD := hD0.self (sz := s.heap.size)
  generalize hAe : va_A [(h0, .inr (3, [.int (iI 0), .int (iI 0), .null, .null]))] s.heap.size = A at hD ⊢
  have hA : ∀ q : Nat, s.heap.size ≤ q → A q := fun q h => by rw [← hAe]; exact Or.inr h
  have hS : va_S A s.heap s.heap [] := va_S.rf
  have hC : Cx p s m _ c bc_S_init 2 "TurnCounts$Setting" (Xz (dC, dI)) A := ⟨⟨hx, hb, hml, hown, hts⟩, hK, Xz_lcl _, hA, hN⟩
  have hl := lv_entry ([.ref h0]) (n := 2) (Nat.le_of_ble_eq_true rfl)
  rw [lg_entry_eq]
  generalize (lg_sl ([.ref h0]) ++ List.replicate (2 - (lg_sl ([.ref h0])).length) Slot.unset).toArray = ls at hl ⊢
  have hl : lv_has ls 2 [(0, .ref h0)] := hl
  have hP : va_P (dC, dI) vc [(h0, .inr (3, [.int (iI 0), .int (iI 0), .null, .null]))] s.heap := hP
  have hD : va_D A [(h0, .inr (3, [.int (iI 0), .int (iI 0), .null, .null]))] := hD
  refine lv_aload_n hx hb dd_S_init_0 rfl (lv_at hl 0 rfl) ?_
  refine W.objInit hx hb hown (hts _ tb_25) (hts _ tb_18) (hts _ tb_19) rfl (by rw [hml]; exact hl.1) rfl dd_S_init_1 (Nat.le_of_ble_eq_true rfl) (Nat.le_of_ble_eq_true rfl) ?_
  refine W.eq (g2 := F0 m 4 ls []) rfl ?_
  refine lv_aload_n hx hb dd_S_init_4 rfl (lv_at hl 0 rfl) ?_
  refine x_iconst hC dd_S_init_5 ?_
  refine va_put (D := (dC, dI)) (ci := 3) (v := .int (iI 4)) (ty := .int) (C := rr_S) (T := ft_S) (N := 4) hx hb hts iw_S fy_S fk_S fn_S hown hK hP hD hS 0 rfl rfl 0 (by decide) (hts _ tb_83) (fun _ h9 => h9) rfl (by decide +kernel) rfl rfl (Nat.le_of_ble_eq_true rfl) dd_S_init_6 (fun H locs hP hD hS => ?_)
  have hP : va_P (dC, dI) vc [(h0, .inr (3, [.int (iI 4), .int (iI 0), .null, .null]))] H := hP
  have hD : va_D A [(h0, .inr (3, [.int (iI 4), .int (iI 0), .null, .null]))] := hD
  refine lv_aload_n hx hb dd_S_init_9 rfl (lv_at hl 0 rfl) ?_
  refine x_iconst hC dd_S_init_10 ?_
  refine va_put (D := (dC, dI)) (ci := 3) (v := .int (iI 2)) (ty := .int) (C := rr_S) (T := ft_S) (N := 4) hx hb hts iw_S fy_S fk_S fn_S hown hK hP hD hS 0 rfl rfl 1 (by decide) (hts _ tb_87) (fun _ h9 => h9) rfl (by decide +kernel) rfl rfl (Nat.le_of_ble_eq_true rfl) dd_S_init_11 (fun H locs hP hD hS => ?_)
  have hP : va_P (dC, dI) vc [(h0, .inr (3, [.int (iI 4), .int (iI 2), .null, .null]))] H := hP
  have hD : va_D A [(h0, .inr (3, [.int (iI 4), .int (iI 2), .null, .null]))] := hD
  refine lv_aload_n hx hb dd_S_init_14 rfl (lv_at hl 0 rfl) ?_
  refine x_iconst hC dd_S_init_15 ?_
  refine va_newa (atype := .int) (ty := .int) (n := iI 4) (N' := 4) (a0 := (4, .inl (fun j => iI (z0 j)))) hx hb (hts _ tb_82) rfl hK hP hD hS hA (fun cA => rfl) (by decide) (by rw [iI_clamp (rk rfl)]; rfl) (Nat.le_of_ble_eq_true rfl) (Nat.le_of_ble_eq_true rfl) (Nat.le_of_ble_eq_true rfl) dd_S_init_16 (fun w1 k1 H hK hP hD hS => ?_)
  have hP : va_P (dC, dI) vc [(h0, .inr (3, [.int (iI 4), .int (iI 2), .null, .null])), (w1, .inl (k1, 4, .inl (fun j => iI (z0 j))))] H := hP
  have hD : va_D A [(h0, .inr (3, [.int (iI 4), .int (iI 2), .null, .null])), (w1, .inl (k1, 4, .inl (fun j => iI (z0 j))))] := hD
  have hK : va_K (dC, dI) vc [(k1, .int)] s := hK
  refine va_putF (D := (dC, dI)) (ci := 3) (v := .ref w1) (ty := (.array .int)) (C := rr_S) (T := ft_S) (N := 4) hx hb hts iw_S fy_S fk_S fn_S hown hK hP hD hS 0 rfl rfl 2 (by decide) (hts _ tb_90) (fun _ h9 => h9) rfl hin rfl (by decide +kernel) rfl rfl (Nat.le_of_ble_eq_true rfl) dd_S_init_18 (fun H locs hP hD hS => ?_)
  have hP : va_P (dC, dI) vc [(h0, .inr (3, [.int (iI 4), .int (iI 2), .ref w1, .null])), (w1, .inl (k1, 4, .inl (fun j => iI (z0 j))))] H := hP
  have hD : va_D A [(h0, .inr (3, [.int (iI 4), .int (iI 2), .ref w1, .null])), (w1, .inl (k1, 4, .inl (fun j => iI (z0 j))))] := hD
  refine x_iconst hC dd_S_init_21 ?_
  refine lv_istore_n (lv' := [(1, .int (iI 0)), (0, .ref h0)]) hx hb dd_S_init_22 rfl hl (by decide) rfl (fun ls hl => ?_)
  refine lv_iload_n hx hb dd_S_init_23 rfl (lv_at hl 0 rfl) ?_
  refine x_iconst hC dd_S_init_24 ?_
  refine x_icmp_ge hC (rk rfl) (rk rfl) (tgt := 41) dd_S_init_25 (by decide) (fun c_ => ?_) (fun c_ => ?_)
  case refine_1 => exact absurd c_ (by decide)
  refine lv_aload_n hx hb dd_S_init_28 rfl (lv_at hl 1 rfl) ?_
  refine va_get (D := (dC, dI)) (ci := 3) (v := .ref w1) (C := rr_S) (T := ft_S) (N := 4) hx hb hts iw_S hown hK hP 0 rfl rfl 2 (by decide) (hts _ tb_90) (fun _ h9 => h9) rfl dd_S_init_29 ?_
  refine lv_iload_n hx hb dd_S_init_32 rfl (lv_at hl 0 rfl) ?_
  refine lv_iload_n hx hb dd_S_init_33 rfl (lv_at hl 0 rfl) ?_
  refine y_iast hx hb hK hP hD hS 1 0 rfl rfl (i := 0) ⟨by decide, by decide⟩ (by decide) 0 rfl dd_S_init_34 (fun H locs hP hD hS => ?_)
  have hP : va_P (dC, dI) vc [(h0, .inr (3, [.int (iI 4), .int (iI 2), .ref w1, .null])), (w1, .inl (k1, 4, .inl (fun j => iI ((up z0 0 0) j))))] H := hP
  have hD : va_D A [(h0, .inr (3, [.int (iI 4), .int (iI 2), .ref w1, .null])), (w1, .inl (k1, 4, .inl (fun j => iI ((up z0 0 0) j))))] := hD
  refine lv_iinc (v := iI 1) (lv' := [(1, .int (iI 1)), (0, .ref h0)]) hx hb dd_S_init_35 hl (k := 0) rfl (by decide) (by decide) rfl (fun ls hl => ?_)
  refine lv_goto (tgt := 23) hx hb dd_S_init_38 (by decide) ?_
  refine lv_iload_n hx hb dd_S_init_23 rfl (lv_at hl 0 rfl) ?_
  refine x_iconst hC dd_S_init_24 ?_
  refine x_icmp_ge hC (rk rfl) (rk rfl) (tgt := 41) dd_S_init_25 (by decide) (fun c_ => ?_) (fun c_ => ?_)
  case refine_1 => exact absurd c_ (by decide)
  refine lv_aload_n hx hb dd_S_init_28 rfl (lv_at hl 1 rfl) ?_
  refine va_get (D := (dC, dI)) (ci := 3) (v := .ref w1) (C := rr_S) (T := ft_S) (N := 4) hx hb hts iw_S hown hK hP 0 rfl rfl 2 (by decide) (hts _ tb_90) (fun _ h9 => h9) rfl dd_S_init_29 ?_
  refine lv_iload_n hx hb dd_S_init_32 rfl (lv_at hl 0 rfl) ?_
  refine lv_iload_n hx hb dd_S_init_33 rfl (lv_at hl 0 rfl) ?_
  refine y_iast hx hb hK hP hD hS 1 0 rfl rfl (i := 1) ⟨by decide, by decide⟩ (by decide) 1 rfl dd_S_init_34 (fun H locs hP hD hS => ?_)
  have hP : va_P (dC, dI) vc [(h0, .inr (3, [.int (iI 4), .int (iI 2), .ref w1, .null])), (w1, .inl (k1, 4, .inl (fun j => iI ((up (up z0 0 0) 1 1) j))))] H := hP
  have hD : va_D A [(h0, .inr (3, [.int (iI 4), .int (iI 2), .ref w1, .null])), (w1, .inl (k1, 4, .inl (fun j => iI ((up (up z0 0 0) 1 1) j))))] := hD
  refine lv_iinc (v := iI 2) (lv' := [(1, .int (iI 2)), (0, .ref h0)]) hx hb dd_S_init_35 hl (k := 0) rfl (by decide) (by decide) rfl (fun ls hl => ?_)
  refine lv_goto (tgt := 23) hx hb dd_S_init_38 (by decide) ?_
  refine lv_iload_n hx hb dd_S_init_23 rfl (lv_at hl 0 rfl) ?_
  refine x_iconst hC dd_S_init_24 ?_
  refine x_icmp_ge hC (rk rfl) (rk rfl) (tgt := 41) dd_S_init_25 (by decide) (fun c_ => ?_) (fun c_ => ?_)
  case refine_1 => exact absurd c_ (by decide)
  refine lv_aload_n hx hb dd_S_init_28 rfl (lv_at hl 1 rfl) ?_
  refine va_get (D := (dC, dI)) (ci := 3) (v := .ref w1) (C := rr_S) (T := ft_S) (N := 4) hx hb hts iw_S hown hK hP 0 rfl rfl 2 (by decide) (hts _ tb_90) (fun _ h9 => h9) rfl dd_S_init_29 ?_
  refine lv_iload_n hx hb dd_S_init_32 rfl (lv_at hl 0 rfl) ?_
  refine lv_iload_n hx hb dd_S_init_33 rfl (lv_at hl 0 rfl) ?_
  refine y_iast hx hb hK hP hD hS 1 0 rfl rfl (i := 2) ⟨by decide, by decide⟩ (by decide) 2 rfl dd_S_init_34 (fun H locs hP hD hS => ?_)
  have hP : va_P (dC, dI) vc [(h0, .inr (3, [.int (iI 4), .int (iI 2), .ref w1, .null])), (w1, .inl (k1, 4, .inl (fun j => iI ((up (up (up z0 0 0) 1 1) 2 2) j))))] H := hP
  have hD : va_D A [(h0, .inr (3, [.int (iI 4), .int (iI 2), .ref w1, .null])), (w1, .inl (k1, 4, .inl (fun j => iI ((up (up (up z0 0 0) 1 1) 2 2) j))))] := hD
  refine lv_iinc (v := iI 3) (lv' := [(1, .int (iI 3)), (0, .ref h0)]) hx hb dd_S_init_35 hl (k := 0) rfl (by decide) (by decide) rfl (fun ls hl => ?_)
  refine lv_goto (tgt := 23) hx hb dd_S_init_38 (by decide) ?_
  refine lv_iload_n hx hb dd_S_init_23 rfl (lv_at hl 0 rfl) ?_
  refine x_iconst hC dd_S_init_24 ?_
  refine x_icmp_ge hC (rk rfl) (rk rfl) (tgt := 41) dd_S_init_25 (by decide) (fun c_ => ?_) (fun c_ => ?_)
  case refine_1 => exact absurd c_ (by decide)
  refine lv_aload_n hx hb dd_S_init_28 rfl (lv_at hl 1 rfl) ?_
  refine va_get (D := (dC, dI)) (ci := 3) (v := .ref w1) (C := rr_S) (T := ft_S) (N := 4) hx hb hts iw_S hown hK hP 0 rfl rfl 2 (by decide) (hts _ tb_90) (fun _ h9 => h9) rfl dd_S_init_29 ?_
  refine lv_iload_n hx hb dd_S_init_32 rfl (lv_at hl 0 rfl) ?_
  refine lv_iload_n hx hb dd_S_init_33 rfl (lv_at hl 0 rfl) ?_
  refine y_iast hx hb hK hP hD hS 1 0 rfl rfl (i := 3) ⟨by decide, by decide⟩ (by decide) 3 rfl dd_S_init_34 (fun H locs hP hD hS => ?_)
  have hP : va_P (dC, dI) vc [(h0, .inr (3, [.int (iI 4), .int (iI 2), .ref w1, .null])), (w1, .inl (k1, 4, .inl (fun j => iI ((up (up (up (up z0 0 0) 1 1) 2 2) 3 3) j))))] H := hP
  have hD : va_D A [(h0, .inr (3, [.int (iI 4), .int (iI 2), .ref w1, .null])), (w1, .inl (k1, 4, .inl (fun j => iI ((up (up (up (up z0 0 0) 1 1) 2 2) 3 3) j))))] := hD
  refine lv_iinc (v := iI 4) (lv' := [(1, .int (iI 4)), (0, .ref h0)]) hx hb dd_S_init_35 hl (k := 0) rfl (by decide) (by decide) rfl (fun ls hl => ?_)
  refine lv_goto (tgt := 23) hx hb dd_S_init_38 (by decide) ?_
  refine lv_iload_n hx hb dd_S_init_23 rfl (lv_at hl 0 rfl) ?_
  refine x_iconst hC dd_S_init_24 ?_
  refine x_icmp_ge hC (rk rfl) (rk rfl) (tgt := 41) dd_S_init_25 (by decide) (fun c_ => ?_) (fun c_ => ?_)
  case refine_2 => exact absurd (by decide) c_
  refine lv_aload_n hx hb dd_S_init_41 rfl (lv_at hl 1 rfl) ?_
  refine va_new (ci := 0) (fs := [.null, .int (iI 0), .null, .int (iI 0), .null]) (C := rr_G) (T := ft_G) (N := 5) hx hb hts iw_G fy_G fk_G hown (hts _ tb_26) (hts _ tb_27) (hts _ tb_3) hK hP hD hS hA rfl (fun j hj => by rcases (show j = 0 ∨ j = 1 ∨ j = 2 ∨ j = 3 ∨ j = 4 by omega) with rfl | rfl | rfl | rfl | rfl <;> rfl) (Nat.le_of_ble_eq_true rfl) (Nat.le_of_ble_eq_true rfl) dd_S_init_42 (fun w2 H hP hD hS => ?_)
  have hP : va_P (dC, dI) vc [(h0, .inr (3, [.int (iI 4), .int (iI 2), .ref w1, .null])), (w1, .inl (k1, 4, .inl (fun j => iI ((up (up (up (up z0 0 0) 1 1) 2 2) 3 3) j)))), (w2, .inr (0, [.null, .int (iI 0), .null, .int (iI 0), .null]))] H := hP
  have hD : va_D A [(h0, .inr (3, [.int (iI 4), .int (iI 2), .ref w1, .null])), (w1, .inl (k1, 4, .inl (fun j => iI ((up (up (up (up z0 0 0) 1 1) 2 2) 3 3) j)))), (w2, .inr (0, [.null, .int (iI 0), .null, .int (iI 0), .null]))] := hD
  refine lv_dup hx hb dd_S_init_45 rfl ?_
  have hPc := hP.sub (ws' := [(w2, .inr (0, [.null, .int (iI 0), .null, .int (iI 0), .null]))]) [2] rfl
  have hDc := hD.sub (ws' := [(w2, .inr (0, [.null, .int (iI 0), .null, .int (iI 0), .null]))]) [2] (by decide) rfl
  have hKc := hK.sub (tys' := []) [] rfl
  have hFc := va_free (wc := [(w2, .inr (0, [.null, .int (iI 0), .null, .int (iI 0), .null]))]) hD hS hA [2] rfl
  refine va_callv (va_runI (As := []) (rest := [.ref w2, .ref h0]) ⟨hx, hb, hml, hown, hts⟩ (ci_G l dC dI w2 H.size PG hwG) (cwI 0 hts (tb_cons tb_30 tb_gi) rfl rfl rfl (hts _ tb_3) (hts _ tb_28) (hts _ tb_29) rfl (by decide +kernel) ⟨Nat.le_of_ble_eq_true rfl, Nat.le_of_ble_eq_true rfl⟩) ⟨fun a U g mk q => by obtain ⟨q0, q1, qP, qK, qD, qN⟩ := q; exact ⟨q0, q1, qP, va_K.moved (u := U) (U := U.calling g mk a) (Vm.Alike.refl U.vm) qK, qD, nW.same (u := U) (U := U.calling g mk a) rfl qN⟩, fun U hU hW => ⟨rfl, by rw [hU], by rw [hU]; exact hPc, va_K.moved hW.alike hKc, hDc.weaken (fun _ _ _ _ => trivial), nW.warm hW hN⟩⟩ rfl rfl hl.1 rfl (lv_room (Nat.le_of_ble_eq_true rfl)) dd_S_init_46 ⟨Nat.le_of_ble_eq_true rfl, Nat.le_of_ble_eq_true rfl⟩) hS (fun q _ h => hFc q h) hFc (fun u t H1 locs ht hvm hw hB hz1 hk1 hS => ?_)
  obtain ⟨mv3, rfl⟩ : ∃ z, z = u := ⟨_, rfl⟩
  obtain ⟨mr_mv3, pg_mv3⟩ := hw
  obtain ⟨v3_1, v3_2, v3_3, cv3_1, cv3_2, cv3_3, hP1, hK1, hD1⟩ := hB
  rw [ht] at hP1
  have hK1 := va_K.moved hvm.symm hK1
  obtain ⟨hP, hD⟩ := va_join (wr := [(h0, .inr (3, [.int (iI 4), .int (iI 2), .ref w1, .null])), (w1, .inl (k1, 4, .inl (fun j => iI ((up (up (up (up z0 0 0) 1 1) 2 2) 3 3) j))))]) (w1 := [(w2, .inr (0, [.ref v3_1, .int (iI (mv3 0 1)), .ref v3_2, .int (iI (mv3 0 3)), .ref v3_3])), (v3_1, .inl (cv3_1, 5040, .inl (fun j => iI (mv3 1 j)))), (v3_2, .inl (cv3_2, 12, .inl (fun j => iI (mv3 2 j)))), (v3_3, .inl (cv3_3, 158, .inl (fun j => iI (mv3 3 j))))]) hP hD [2] [0, 1] rfl rfl (by decide) (by decide) hk1 hFc hP1 hD1
  have hK := (hK.sub (tys' := [(k1, .int)]) [0] rfl).app hK1
  generalize H1 = H at hP hS ⊢
  have hP : va_P (dC, dI) vc [(h0, .inr (3, [.int (iI 4), .int (iI 2), .ref w1, .null])), (w1, .inl (k1, 4, .inl (fun j => iI ((up (up (up (up z0 0 0) 1 1) 2 2) 3 3) j)))), (w2, .inr (0, [.ref v3_1, .int (iI (mv3 0 1)), .ref v3_2, .int (iI (mv3 0 3)), .ref v3_3])), (v3_1, .inl (cv3_1, 5040, .inl (fun j => iI (mv3 1 j)))), (v3_2, .inl (cv3_2, 12, .inl (fun j => iI (mv3 2 j)))), (v3_3, .inl (cv3_3, 158, .inl (fun j => iI (mv3 3 j))))] H := hP
  have hD : va_D A [(h0, .inr (3, [.int (iI 4), .int (iI 2), .ref w1, .null])), (w1, .inl (k1, 4, .inl (fun j => iI ((up (up (up (up z0 0 0) 1 1) 2 2) 3 3) j)))), (w2, .inr (0, [.ref v3_1, .int (iI (mv3 0 1)), .ref v3_2, .int (iI (mv3 0 3)), .ref v3_3])), (v3_1, .inl (cv3_1, 5040, .inl (fun j => iI (mv3 1 j)))), (v3_2, .inl (cv3_2, 12, .inl (fun j => iI (mv3 2 j)))), (v3_3, .inl (cv3_3, 158, .inl (fun j => iI (mv3 3 j))))] := hD
  have hK : va_K (dC, dI) vc [(k1, .int), (cv3_1, .int), (cv3_2, .int), (cv3_3, .int)] s := hK
  refine va_putF (D := (dC, dI)) (ci := 3) (v := .ref w2) (ty := (.object "TurnCounts$Group")) (C := rr_S) (T := ft_S) (N := 4) hx hb hts iw_S fy_S fk_S fn_S hown hK hP hD hS 0 rfl rfl 3 (by decide) (hts _ tb_92) (fun _ h9 => h9) rfl hin rfl (by decide +kernel) rfl rfl (Nat.le_of_ble_eq_true rfl) dd_S_init_49 (fun H locs hP hD hS => ?_)
  have hP : va_P (dC, dI) vc [(h0, .inr (3, [.int (iI 4), .int (iI 2), .ref w1, .ref w2])), (w1, .inl (k1, 4, .inl (fun j => iI ((up (up (up (up z0 0 0) 1 1) 2 2) 3 3) j)))), (w2, .inr (0, [.ref v3_1, .int (iI (mv3 0 1)), .ref v3_2, .int (iI (mv3 0 3)), .ref v3_3])), (v3_1, .inl (cv3_1, 5040, .inl (fun j => iI (mv3 1 j)))), (v3_2, .inl (cv3_2, 12, .inl (fun j => iI (mv3 2 j)))), (v3_3, .inl (cv3_3, 158, .inl (fun j => iI (mv3 3 j))))] H := hP
  have hD : va_D A [(h0, .inr (3, [.int (iI 4), .int (iI 2), .ref w1, .ref w2])), (w1, .inl (k1, 4, .inl (fun j => iI ((up (up (up (up z0 0 0) 1 1) 2 2) 3 3) j)))), (w2, .inr (0, [.ref v3_1, .int (iI (mv3 0 1)), .ref v3_2, .int (iI (mv3 0 3)), .ref v3_3])), (v3_1, .inl (cv3_1, 5040, .inl (fun j => iI (mv3 1 j)))), (v3_2, .inl (cv3_2, 12, .inl (fun j => iI (mv3 2 j)))), (v3_3, .inl (cv3_3, 158, .inl (fun j => iI (mv3 3 j))))] := hD
  have hP9 := hP
  have hD9 := hD
  have hK9 := hK
  refine W.widen (k := 5) (n := 5219) (Nat.le_of_ble_eq_true rfl) (Nat.le_of_ble_eq_true rfl) ?_
  exact W.vret hx hb hr (fun t ht hW => ⟨⟨mv3, rfl, ⟨mr_mv3, pg_mv3⟩, w1, w2, v3_1, v3_2, v3_3, k1, cv3_1, cv3_2, cv3_3, by rw [ht]; exact hP9, va_K.moved hW.alike hK9, hD9⟩, hS.F ht⟩) hS.2.2 dd_S_init_52 hlocks
def wF (ad : Nat → Nat) (cs : Nat → ClassId) (M : Mm) (lo n : Nat) : va_W := (List.range n).map (fun k => (ad (lo + k), shF ad cs (lo + k) M))
abbrev tyT (cs : Nat → ClassId) : List (ClassId × FieldType) := [(cs 1, .object "TurnCounts$Setting"), (cs 3, .int), (cs 5, .int), (cs 6, .int), (cs 8, .int), (cs 9, .int), (cs 10, .int), (cs 11, .int), (cs 13, .int), (cs 15, .int), (cs 16, .int), (cs 17, .int), (cs 19, .int), (cs 21, .int), (cs 22, .int), (cs 23, .int), (cs 25, .int), (cs 27, .int), (cs 28, .int), (cs 29, .int)]
abbrev tyM (cs : Nat → ClassId) : List (ClassId × FieldType) := [(cs 31, .int), (cs 32, .int), (cs 33, .boolean), (cs 34, .int), (cs 35, .int), (cs 36, .boolean), (cs 37, .int), (cs 38, .int), (cs 39, .int), (cs 40, .int), (cs 41, .int), (cs 42, .int), (cs 43, .int), (cs 44, .int), (cs 45, .int), (cs 46, .int), (cs 47, .int), (cs 48, .int)]
/-- the memory behind the constructor, out of the three groups' -/
def mT (a b c : Mm) (k : Nat) : Nat → Int := match k with
  | 0 => z0
  | 1 => z0
  | 2 => z0
  | 3 => z0
  | 4 => z0
  | 5 => z0
  | 6 => z0
  | 7 => (up (up z0 4 1) 5 1)
  | 8 => z0
  | 9 => z0
  | 10 => z0
  | 11 => z0
  | 12 => (up (up z0 0 4) 1 2)
  | 13 => (up (up (up (up z0 0 0) 1 1) 2 2) 3 3)
  | 14 => (a 0)
  | 15 => (a 1)
  | 16 => (a 2)
  | 17 => (a 3)
  | 18 => (up (up z0 0 4) 1 2)
  | 19 => (up (up (up (up z0 0 0) 1 1) 2 2) 3 3)
  | 20 => (b 0)
  | 21 => (b 1)
  | 22 => (b 2)
  | 23 => (b 3)
  | 24 => (up (up z0 0 4) 1 2)
  | 25 => (up (up (up (up z0 0 0) 1 1) 2 2) 3 3)
  | 26 => (c 0)
  | 27 => (c 1)
  | 28 => (c 2)
  | 29 => (c 3)
  | _ => z0
abbrev at_T (dC : Nat → ClassId) (dI : Nat → Nat → Nat) (A : Nat → Prop) (h0 : Nat) (u : Mm × Mm × Mm) (t : State) : Prop := ∃ (ad : Nat → Nat) (cs : Nat → ClassId), ad 0 = h0 ∧ va_P (dC, dI) vc (wF ad cs (mT u.1 u.2.1 u.2.2) 0 30) t.heap ∧ va_K (dC, dI) vc (tyT cs) t ∧ va_D A (wF ad cs (mT u.1 u.2.1 u.2.2) 0 30)
