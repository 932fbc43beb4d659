/-! THE CLAIM OUT OF ONE WALK OF THE LAW'S BODY. Your part is whole_start (and what it stands on); all else here is the same for every law, but numbers. -/
def R_law : String := "TurnCountsLaw"
def lw_P (b : Addr) (xs : List Int32) (args : Array Value) (s : State) : Prop := args = #[.ref b] ∧ s.IntsAt b xs ∧ xs.length ≤ 2048 ∧ (Jvm.Cond.and given_1 narrow_1).before args s = true
def lw_Q (_ : Array Value) (s : State) (o : Outcome) (t : State) : Prop := o = .returned (some (.int 1)) ∧ Framed s o t [] 600000 7302250
def lw_Z (below : List Frame) (a : Array Value) (s : State) : State → Prop := fun t => ∃ o, t.status = .running ∧ Ended t below o ∧ lw_Q a s o t
/-- the law's own end, with 1 on the stack, nothing written that was there before, its room as the claim has it -/
theorem lw_ret {p : Program} {l : Launch} {e : Env} {s : State} {m : MethodId} {below : List Frame} {meth : Method} {c : Code} {b : Nat} (hx : p.tables.exec = Jvm.exec) (hb : c.code = code) (hr : meth.sig.returnType = ret) (hlocks : meth.locks = false) {pc : Nat} {H : Heap} {ls : Array Slot} (hdg : decode code pc = .ok (.ireturn, 1)) : W p l e room_1 s m #[Value.ref b] below meth c H [] 600000 7302250 (lw_Z below #[Value.ref b] s) (F0 m pc ls [.int 1]) := by
  intro T hT X
  obtain ⟨fs, hret, hrun, hended, hW, hframe⟩ := X.leave (v := some (.int 1)) (hlocks := hlocks) (fun h => by rw [hr] at h; cases h)
  have hmeth' : T.vm.method? m = some meth := X.method'
  refine ⟨T.setFrames fs, ?_, .returned (some (.int 1)), hrun, hended, rfl, ⟨_, rfl⟩, hW, hframe⟩
  jvm_step X.here [X.here.top, hx, hb, hdg, hmeth', hr, ret, narrow_b1]
  (try refine ⟨rfl, ?_⟩); (try refine ⟨rfl, ?_⟩)
  first | (intro acts; rw [hret _ acts rfl rfl rfl]) | rw [hret _ _ rfl rfl rfl]
  exact Steps.refl _
/-- what holds at the law's entry: the machine, the code, the tables' words (any of lw_tbl by 'hts w (by decide +kernel)'), the script of L ints xs at the cell b, what the Statement gives of the start (any of its parts by flat_of_before) -/
def lw_At (p : Program) (s : State) (m : MethodId) (meth : Method) (c : Code) (b L : Nat) (xs : Nat → Int32) : Prop :=
  p.tables.exec = Jvm.exec ∧ c.code = code ∧ meth.sig.returnType = ret ∧ c.maxLocals = 4 ∧ s.vm.findClass R_law = some m.cls ∧ (∀ w ∈ lw_tbl, w.before #[Value.ref b] s = true) ∧ va_X b L xs s s.heap ∧ b < s.heap.size ∧ meth.locks = false ∧ (Jvm.Cond.and given_1 narrow_1).before #[Value.ref b] s = true
def op_points (Inv : Mm → Prop) : Prop := ∀ (M : Mm), mr M → Inv M → ∀ (a1 : Int), inR a1 → wp_T_points a1 M (fun (r1 : Int) (M1 : Mm) => wp_M_points a1 M1 (fun (r2 : Int) (M2 : Mm) => r1 = r2 ∧ Inv M2))
def op_beside (Inv : Mm → Prop) : Prop := ∀ (M : Mm), mr M → Inv M → ∀ (a1 : Int), inR a1 → ∀ (a2 : Int), inR a2 → ∀ (a3 : Int), inR a3 → wp_T_beside a1 a2 a3 M (fun (r1 : Int) (M1 : Mm) => wp_M_beside a1 a2 a3 M1 (fun (r2 : Int) (M2 : Mm) => r1 = r2 ∧ Inv M2))
def op_blocks (Inv : Mm → Prop) : Prop := ∀ (M : Mm), mr M → Inv M → ∀ (a1 : Int), inR a1 → ∀ (a2 : Int), inR a2 → ∀ (a3 : Int), inR a3 → wp_T_blocks a1 a2 a3 M (fun (r1 : Int) (M1 : Mm) => wp_M_blocks a1 a2 a3 M1 (fun (r2 : Int) (M2 : Mm) => r1 = r2 ∧ Inv M2))
def op_join (Inv : Mm → Prop) : Prop := ∀ (M : Mm), mr M → Inv M → wp_T_join M (fun (r1 : Int) (M1 : Mm) => wp_M_join M1 (fun (r2 : Int) (M2 : Mm) => r1 = r2 ∧ Inv M2))
def op_say (Inv : Mm → Prop) : Prop := ∀ (M : Mm), mr M → Inv M → ∀ (a1 : Int), inR a1 → wp_T_say a1 M (fun (r1 : Int) (M1 : Mm) => wp_M_say a1 M1 (fun (r2 : Int) (M2 : Mm) => r1 = r2 ∧ Inv M2))
def op_wipe (Inv : Mm → Prop) : Prop := ∀ (M : Mm), mr M → Inv M → wp_T_wipe M (fun (r1 : Int) (M1 : Mm) => wp_M_wipe M1 (fun (r2 : Int) (M2 : Mm) => r1 = r2 ∧ Inv M2))
def op_turn (Inv : Mm → Prop) : Prop := ∀ (M : Mm), mr M → Inv M → ∀ (a1 : Int), inR a1 → wp_T_turn a1 M (fun (r1 : Int) => wp_M_turn a1 M (fun (r2 : Int) (M2 : Mm) => r1 = r2 ∧ Inv M2))
def op_type (Inv : Mm → Prop) : Prop := ∀ (M : Mm), mr M → Inv M → ∀ (a1 : Int), inR a1 → ∀ (a2 : Int), inR a2 → wp_T_type a1 a2 M (fun (r1 : Int) (M1 : Mm) => wp_M_type a1 a2 M1 (fun (r2 : Int) (M2 : Mm) => r1 = r2 ∧ Inv M2))
def op_orbit (Inv : Mm → Prop) : Prop := ∀ (M : Mm), mr M → Inv M → ∀ (a1 : Int), inR a1 → ∀ (a2 : Int), inR a2 → wp_T_orbit a1 a2 M (fun (r1 : Int) => wp_M_orbit a1 a2 M (fun (r2 : Int) => r1 = r2 ∧ Inv M))
def op_sorts (Inv : Mm → Prop) : Prop := ∀ (M : Mm), mr M → Inv M → ∀ (a1 : Int), inR a1 → wp_T_sorts a1 M (fun (r1 : Int) (M1 : Mm) => wp_M_sorts a1 M1 (fun (r2 : Int) (M2 : Mm) => r1 = r2 ∧ Inv M2))
def op_weight (Inv : Mm → Prop) : Prop := ∀ (M : Mm), mr M → Inv M → ∀ (a1 : Int), inR a1 → ∀ (a2 : Int), inR a2 → wp_T_weight a1 a2 M (fun (r1 : Int) (M1 : Mm) => wp_M_weight a1 a2 M1 (fun (r2 : Int) (M2 : Mm) => r1 = r2 ∧ Inv M2))
def op_patterns (Inv : Mm → Prop) : Prop := ∀ (M : Mm), mr M → Inv M → ∀ (a1 : Int), inR a1 → wp_T_patterns a1 M (fun (r1 : Int) (M1 : Mm) => wp_M_patterns a1 M1 (fun (r2 : Int) (M2 : Mm) => r1 = r2 ∧ Inv M2))
def op_pattern (Inv : Mm → Prop) : Prop := ∀ (M : Mm), mr M → Inv M → ∀ (a1 : Int), inR a1 → ∀ (a2 : Int), inR a2 → wp_T_pattern a1 a2 M (fun (r1 : Int) (M1 : Mm) => wp_M_pattern a1 a2 M1 (fun (r2 : Int) (M2 : Mm) => r1 = r2 ∧ Inv M2))
def op_of (Inv : Mm → Prop) : Prop := ∀ (M : Mm), mr M → Inv M → ∀ (a1 : Int), inR a1 → ∀ (a2 : Int), inR a2 → wp_T_of a1 a2 M (fun (r1 : Int) (M1 : Mm) => wp_M_of a1 a2 M1 (fun (r2 : Int) (M2 : Mm) => r1 = r2 ∧ Inv M2))
def op_kinds (Inv : Mm → Prop) : Prop := ∀ (M : Mm), mr M → Inv M → ∀ (a1 : Int), inR a1 → wp_T_kinds a1 M (fun (r1 : Int) (M1 : Mm) => wp_M_kinds a1 M1 (fun (r2 : Int) (M2 : Mm) => r1 = r2 ∧ Inv M2))
def op_by (Inv : Mm → Prop) : Prop := ∀ (M : Mm), mr M → Inv M → ∀ (a1 : Int), inR a1 → ∀ (a2 : Int), inR a2 → wp_T_by a1 a2 M (fun (r1 : Int) (M1 : Mm) => wp_M_by a1 a2 M1 (fun (r2 : Int) (M2 : Mm) => r1 = r2 ∧ Inv M2))
def op_image (Inv : Mm → Prop) : Prop := ∀ (M : Mm), mr M → Inv M → ∀ (a1 : Int), inR a1 → wp_T_image a1 M (fun (r1 : Int) (M1 : Mm) => wp_M_image a1 M1 (fun (r2 : Int) (M2 : Mm) => r1 = r2 ∧ Inv M2))
def op_restore (Inv : Mm → Prop) : Prop := ∀ (M : Mm), mr M → Inv M → ∀ (a1 : Int), inR a1 → wp_T_restore a1 M (fun (r1 : Int) (M1 : Mm) => wp_M_restore a1 M1 (fun (r2 : Int) (M2 : Mm) => r1 = r2 ∧ Inv M2))
def op_count (Inv : Mm → Prop) : Prop := ∀ (M : Mm), mr M → Inv M → ∀ (a1 : Int), inR a1 → wp_T_count a1 M (fun (r1 : Int) => wp_M_count a1 M (fun (r2 : Int) => r1 = r2 ∧ Inv M))
def LawOK (Inv : Mm → Prop) : Prop := op_points Inv ∧ op_beside Inv ∧ op_blocks Inv ∧ op_join Inv ∧ op_say Inv ∧ op_wipe Inv ∧ op_turn Inv ∧ op_type Inv ∧ op_orbit Inv ∧ op_sorts Inv ∧ op_weight Inv ∧ op_patterns Inv ∧ op_pattern Inv ∧ op_of Inv ∧ op_kinds Inv ∧ op_by Inv ∧ op_image Inv ∧ op_restore Inv ∧ op_count Inv
def comb (a b : Mm) : Mm := fun k => if k < 30 then a k else b k
def adB (a b : Nat → Nat) : Nat → Nat := fun k => if k < 30 then a k else b k
def csB (a b : Nat → ClassId) : Nat → ClassId := fun k => if k < 30 then a k else b k
abbrev XL (D : va_G) (a b : Nat → Nat) (ca cb : Nat → ClassId) : Xw := mk D (tyT ca ++ tyM cb) (List.range 49) (adB a b) (csB ca cb)
theorem XL_lcl (D : va_G) (a b : Nat → Nat) (ca cb : Nat → ClassId) : lcl (XL D a b ca cb) := mk_lcl (List.nodup_range)
theorem XL_M (D : va_G) (a b : Nat → Nat) (ca cb : Nat → ClassId) : IsM (XL D a b ca cb) := ⟨⟨List.mem_of_getElem? (i := 30) rfl, fun _ => rfl⟩, ⟨List.mem_of_getElem? (i := 31) rfl, by decide, csB ca cb 31, List.mem_of_getElem? (i := 20) rfl, fun _ => rfl⟩, ⟨List.mem_of_getElem? (i := 32) rfl, by decide, csB ca cb 32, List.mem_of_getElem? (i := 21) rfl, fun _ => rfl⟩, ⟨List.mem_of_getElem? (i := 33) rfl, by decide, csB ca cb 33, List.mem_of_getElem? (i := 22) rfl, fun _ => rfl⟩, ⟨List.mem_of_getElem? (i := 34) rfl, by decide, csB ca cb 34, List.mem_of_getElem? (i := 23) rfl, fun _ => rfl⟩, ⟨List.mem_of_getElem? (i := 35) rfl, by decide, csB ca cb 35, List.mem_of_getElem? (i := 24) rfl, fun _ => rfl⟩, ⟨List.mem_of_getElem? (i := 36) rfl, by decide, csB ca cb 36, List.mem_of_getElem? (i := 25) rfl, fun _ => rfl⟩, ⟨List.mem_of_getElem? (i := 37) rfl, by decide, csB ca cb 37, List.mem_of_getElem? (i := 26) rfl, fun _ => rfl⟩, ⟨List.mem_of_getElem? (i := 38) rfl, by decide, csB ca cb 38, List.mem_of_getElem? (i := 27) rfl, fun _ => rfl⟩, ⟨List.mem_of_getElem? (i := 39) rfl, by decide, csB ca cb 39, List.mem_of_getElem? (i := 28) rfl, fun _ => rfl⟩, ⟨List.mem_of_getElem? (i := 40) rfl, by decide, csB ca cb 40, List.mem_of_getElem? (i := 29) rfl, fun _ => rfl⟩, ⟨List.mem_of_getElem? (i := 41) rfl, by decide, csB ca cb 41, List.mem_of_getElem? (i := 30) rfl, fun _ => rfl⟩, ⟨List.mem_of_getElem? (i := 42) rfl, by decide, csB ca cb 42, List.mem_of_getElem? (i := 31) rfl, fun _ => rfl⟩, ⟨List.mem_of_getElem? (i := 43) rfl, by decide, csB ca cb 43, List.mem_of_getElem? (i := 32) rfl, fun _ => rfl⟩, ⟨List.mem_of_getElem? (i := 44) rfl, by decide, csB ca cb 44, List.mem_of_getElem? (i := 33) rfl, fun _ => rfl⟩, ⟨List.mem_of_getElem? (i := 45) rfl, by decide, csB ca cb 45, List.mem_of_getElem? (i := 34) rfl, fun _ => rfl⟩, ⟨List.mem_of_getElem? (i := 46) rfl, by decide, csB ca cb 46, List.mem_of_getElem? (i := 35) rfl, fun _ => rfl⟩, ⟨List.mem_of_getElem? (i := 47) rfl, by decide, csB ca cb 47, List.mem_of_getElem? (i := 36) rfl, fun _ => rfl⟩, ⟨List.mem_of_getElem? (i := 48) rfl, by decide, csB ca cb 48, List.mem_of_getElem? (i := 37) rfl, fun _ => rfl⟩⟩
theorem XL_T (D : va_G) (a b : Nat → Nat) (ca cb : Nat → ClassId) : IsT (XL D a b ca cb) := by
  refine ⟨⟨List.mem_of_getElem? (i := 0) rfl, fun _ => rfl⟩, ⟨List.mem_of_getElem? (i := 1) rfl, by decide, csB ca cb 1, List.mem_of_getElem? (i := 0) rfl, fun _ => rfl⟩, ⟨⟨List.mem_of_getElem? (i := 2) rfl, fun _ => rfl⟩, ⟨List.mem_of_getElem? (i := 3) rfl, by decide, csB ca cb 3, List.mem_of_getElem? (i := 1) rfl, fun _ => rfl⟩⟩, ⟨⟨List.mem_of_getElem? (i := 4) rfl, fun _ => rfl⟩, ⟨List.mem_of_getElem? (i := 5) rfl, by decide, csB ca cb 5, List.mem_of_getElem? (i := 2) rfl, fun _ => rfl⟩, ⟨List.mem_of_getElem? (i := 6) rfl, by decide, csB ca cb 6, List.mem_of_getElem? (i := 3) rfl, fun _ => rfl⟩⟩, ⟨⟨List.mem_of_getElem? (i := 7) rfl, fun _ => rfl⟩, ⟨List.mem_of_getElem? (i := 8) rfl, by decide, csB ca cb 8, List.mem_of_getElem? (i := 4) rfl, fun _ => rfl⟩, ⟨List.mem_of_getElem? (i := 9) rfl, by decide, csB ca cb 9, List.mem_of_getElem? (i := 5) rfl, fun _ => rfl⟩, ⟨List.mem_of_getElem? (i := 10) rfl, by decide, csB ca cb 10, List.mem_of_getElem? (i := 6) rfl, fun _ => rfl⟩, ⟨List.mem_of_getElem? (i := 11) rfl, by decide, csB ca cb 11, List.mem_of_getElem? (i := 7) rfl, fun _ => rfl⟩⟩, ⟨⟨List.mem_of_getElem? (i := 12) rfl, fun _ => rfl⟩, ⟨List.mem_of_getElem? (i := 13) rfl, by decide, csB ca cb 13, List.mem_of_getElem? (i := 8) rfl, fun _ => rfl⟩, ⟨⟨List.mem_of_getElem? (i := 14) rfl, fun _ => rfl⟩, ⟨List.mem_of_getElem? (i := 15) rfl, by decide, csB ca cb 15, List.mem_of_getElem? (i := 9) rfl, fun _ => rfl⟩, ⟨List.mem_of_getElem? (i := 16) rfl, by decide, csB ca cb 16, List.mem_of_getElem? (i := 10) rfl, fun _ => rfl⟩, ⟨List.mem_of_getElem? (i := 17) rfl, by decide, csB ca cb 17, List.mem_of_getElem? (i := 11) rfl, fun _ => rfl⟩⟩⟩, ?_⟩
  intro i hi
  rcases (show i = 0 ∨ i = 1 by omega) with rfl | rfl
  · exact ⟨⟨List.mem_of_getElem? (i := 18) rfl, fun _ => rfl⟩, ⟨List.mem_of_getElem? (i := 19) rfl, by decide, csB ca cb 19, List.mem_of_getElem? (i := 12) rfl, fun _ => rfl⟩, ⟨⟨List.mem_of_getElem? (i := 20) rfl, fun _ => rfl⟩, ⟨List.mem_of_getElem? (i := 21) rfl, by decide, csB ca cb 21, List.mem_of_getElem? (i := 13) rfl, fun _ => rfl⟩, ⟨List.mem_of_getElem? (i := 22) rfl, by decide, csB ca cb 22, List.mem_of_getElem? (i := 14) rfl, fun _ => rfl⟩, ⟨List.mem_of_getElem? (i := 23) rfl, by decide, csB ca cb 23, List.mem_of_getElem? (i := 15) rfl, fun _ => rfl⟩⟩⟩
  · exact ⟨⟨List.mem_of_getElem? (i := 24) rfl, fun _ => rfl⟩, ⟨List.mem_of_getElem? (i := 25) rfl, by decide, csB ca cb 25, List.mem_of_getElem? (i := 16) rfl, fun _ => rfl⟩, ⟨⟨List.mem_of_getElem? (i := 26) rfl, fun _ => rfl⟩, ⟨List.mem_of_getElem? (i := 27) rfl, by decide, csB ca cb 27, List.mem_of_getElem? (i := 17) rfl, fun _ => rfl⟩, ⟨List.mem_of_getElem? (i := 28) rfl, by decide, csB ca cb 28, List.mem_of_getElem? (i := 18) rfl, fun _ => rfl⟩, ⟨List.mem_of_getElem? (i := 29) rfl, by decide, csB ca cb 29, List.mem_of_getElem? (i := 19) rfl, fun _ => rfl⟩⟩⟩
theorem va_D_addr {A : Nat → Prop} {ws ws' : va_W} (h : ws.map (fun q => q.1) = ws'.map (fun q => q.1)) (hD : va_D A ws) : va_D A ws' := by
  have key : ∀ (k : Nat) (q : Nat × va_E), ws'[k]? = some q → ∃ q0, ws[k]? = some q0 ∧ q0.1 = q.1 := by
    intro k q hq
    have h1 : (ws.map (fun q => q.1))[k]? = some q.1 := by rw [h, List.getElem?_map, hq]; rfl
    rw [List.getElem?_map] at h1
    cases h2 : ws[k]? with
    | none => rw [h2] at h1; cases h1
    | some q0 => rw [h2] at h1; exact ⟨q0, rfl, Option.some.inj h1⟩
  refine ⟨fun i j x y hi hj hxy => ?_, fun k q hk => ?_⟩
  · obtain ⟨x0, h1, h2⟩ := key i x hi
    obtain ⟨y0, h3, h4⟩ := key j y hj
    exact hD.1 i j x0 y0 h1 h3 (h2.trans (hxy.trans h4.symm))
  · obtain ⟨q0, h1, h2⟩ := key k q hk
    rw [← h2]
    exact hD.2 k q0 h1
set_option maxRecDepth 100000 in
set_option maxHeartbeats 4000000 in
theorem glue {D : va_G} {a b : Nat → Nat} {ca cb : Nat → ClassId} {MT MM : Mm} {H : Heap} (h1 : va_P D vc (wF a ca MT 0 30) H) (h2 : va_P D vc (wF b cb MM 30 19) H) : va_P D vc (wl (XL D a b ca cb) (comb MT MM)) H := by
  have key : ∀ k, k < 49 → va_at D vc (adB a b k, shF (adB a b) (csB ca cb) k (comb MT MM)) H := by
    intro k hk
    match k, hk with
    | 0, _ => exact h1 0 _ rfl
    | 1, _ =>
      have h9 : H[a 1]? = some (vp_cell (ca 1) (2, .inr (.inr (.inr (.inr (fun i => some (a (18 + 6 * i)))))))) := h1 1 _ rfl
      show H[a 1]? = some (vp_cell (ca 1) (2, .inr (.inr (.inr (.inr (fun i => some (adB a b (18 + 6 * i))))))))
      rw [h9, vp_cell_q, vp_cell_q, arrV_c]
      intro j hj
      rcases (show j = 0 ∨ j = 1 by omega) with rfl | rfl <;> rfl
    | 2, _ => exact h1 2 _ rfl
    | 3, _ => exact h1 3 _ rfl
    | 4, _ => exact h1 4 _ rfl
    | 5, _ => exact h1 5 _ rfl
    | 6, _ => exact h1 6 _ rfl
    | 7, _ => exact h1 7 _ rfl
    | 8, _ => exact h1 8 _ rfl
    | 9, _ => exact h1 9 _ rfl
    | 10, _ => exact h1 10 _ rfl
    | 11, _ => exact h1 11 _ rfl
    | 12, _ => exact h1 12 _ rfl
    | 13, _ => exact h1 13 _ rfl
    | 14, _ => exact h1 14 _ rfl
    | 15, _ => exact h1 15 _ rfl
    | 16, _ => exact h1 16 _ rfl
    | 17, _ => exact h1 17 _ rfl
    | 18, _ => exact h1 18 _ rfl
    | 19, _ => exact h1 19 _ rfl
    | 20, _ => exact h1 20 _ rfl
    | 21, _ => exact h1 21 _ rfl
    | 22, _ => exact h1 22 _ rfl
    | 23, _ => exact h1 23 _ rfl
    | 24, _ => exact h1 24 _ rfl
    | 25, _ => exact h1 25 _ rfl
    | 26, _ => exact h1 26 _ rfl
    | 27, _ => exact h1 27 _ rfl
    | 28, _ => exact h1 28 _ rfl
    | 29, _ => exact h1 29 _ rfl
    | 30, _ => exact h2 0 _ rfl
    | 31, _ => exact h2 1 _ rfl
    | 32, _ => exact h2 2 _ rfl
    | 33, _ => exact h2 3 _ rfl
    | 34, _ => exact h2 4 _ rfl
    | 35, _ => exact h2 5 _ rfl
    | 36, _ => exact h2 6 _ rfl
    | 37, _ => exact h2 7 _ rfl
    | 38, _ => exact h2 8 _ rfl
    | 39, _ => exact h2 9 _ rfl
    | 40, _ => exact h2 10 _ rfl
    | 41, _ => exact h2 11 _ rfl
    | 42, _ => exact h2 12 _ rfl
    | 43, _ => exact h2 13 _ rfl
    | 44, _ => exact h2 14 _ rfl
    | 45, _ => exact h2 15 _ rfl
    | 46, _ => exact h2 16 _ rfl
    | 47, _ => exact h2 17 _ rfl
    | 48, _ => exact h2 18 _ rfl
    | n + 49, h => exact absurd h (by omega)
  intro q z hz
  obtain ⟨k, hk, rfl⟩ := wl_inv hz
  have hk2 : (List.range 49)[q]? = some k := hk
  have hk3 : k < 49 := List.mem_range.mp (List.mem_of_getElem? hk2)
  exact key k hk3
set_option maxRecDepth 100000 in
theorem glueD {D : va_G} {A : Nat → Prop} {a b : Nat → Nat} {ca cb : Nat → ClassId} {MT MM : Mm} (h : va_D A (wF a ca MT 0 30 ++ wF b cb MM 30 19)) : va_D A (wl (XL D a b ca cb) (comb MT MM)) := va_D_addr (ws := wF a ca MT 0 30 ++ wF b cb MM 30 19) rfl h
section XL
variable {p : Program} {l : Launch} {e : Env} {R : Room} {s : State} {m : MethodId} {args : Array Value} {below : List Frame} {meth : Method} {c : Code} {H : Heap} {locs : List Loc} {cells slots : Nat} {Q : State → Prop}
variable {cc : ByteArray} {pc : Nat} {ls : Array Slot} {rest : List Value} {A : Nat → Prop}
theorem x_sld (hexec : p.tables.exec = Jvm.exec) (hb : c.code = cc) {b L : Nat} {xs : Nat → Int32} (hX : va_X b L xs s s.heap) (hbl : b < s.heap.size) (hbA : ¬ A b) (hS : va_S A s.heap H locs) (hL : L ≤ 2048) {i : Int} (hi : 0 ≤ i ∧ i < (L : Int)) (hdg : decode cc pc = .ok (.iaload, 1))
    (kk : W p l e R s m args below meth c H locs cells slots Q (F0 m (pc + 1) ls (.int (iI (xs i.toNat).toInt) :: rest))) : W p l e R s m args below meth c H locs cells slots Q (F0 m pc ls (.int (iI i) :: .ref b :: rest)) := by
  refine va_sld hexec hb hX hbl hbA hS (iI_in hi (by omega)) hdg ?_
  rw [iI_clamp (inR_ix hi (by omega)), ← iI_of (xs i.toNat)]
  exact kk
end XL
set_option maxHeartbeats 8000000 in
set_option maxRecDepth 100000 in
theorem law_loop {p : Program} {l : Launch} {e : Env} {s : State} {m : MethodId} {below : List Frame} {meth : Method} {c : Code} {dC : Nat → ClassId} {dI : Nat → Nat → Nat} {b L : Nat} {xs : Nat → Int32} (hL : L ≤ 2048) (C0 : lw_At p s m meth c b L xs) (Inv : Mm → Prop) (hOK : LawOK Inv) (aT aM : Nat → Nat) (cT cM : Nat → ClassId) (hK : va_K (dC, dI) vc (tyT cT ++ tyM cM) s) :
    ∀ (n : Nat) (i : Int) (M : Mm) (H : Heap) (locs : List Loc) (ls : Array Slot), Inv M → 0 ≤ i → i ≤ L + 4 → (L : Int) + 4 - i < n → St (XL (dC, dI) aT aM cT cM) (fun q : Nat => s.heap.size ≤ q) s M H locs → lv_has ls 4 [(0, .ref b), (1, .ref (xA (XL (dC, dI) aT aM cT cM) 0)), (2, .ref (xA (XL (dC, dI) aT aM cT cM) 30)), (3, .int (iI i))] → W p l e room_1 s m #[Value.ref b] below meth c H locs 49 175062 (lw_Z below #[Value.ref b] s) (F0 m 18 ls []) := by
  obtain ⟨hx, hb, hr, hml, hown, hts0, hX, hbl, hlocks, hgv⟩ := C0
  have hts : ∀ w ∈ tg, w.before #[Value.ref b] s = true := fun w hw => hts0 w (List.mem_filter.mp hw).1
  have hA : ∀ q : Nat, s.heap.size ≤ q → (fun q : Nat => s.heap.size ≤ q) q := fun _ h => h
  have hN : nW s := nW.of hts0
  have hbA : ¬ (fun q : Nat => s.heap.size ≤ q) b := Nat.not_le.mpr hbl
  have hC : Cx p s m #[Value.ref b] c code 4 "TurnCountsLaw" (XL (dC, dI) aT aM cT cM) (fun q : Nat => s.heap.size ≤ q) := ⟨⟨hx, hb, hml, hown, hts⟩, hK, XL_lcl _ _ _ _ _, hA, hN⟩
  have hT0 := XL_T (dC, dI) aT aM cT cM
  have hM0 := XL_M (dC, dI) aT aM cT cM
  obtain ⟨h_points, h_beside, h_blocks, h_join, h_say, h_wipe, h_turn, h_type, h_orbit, h_sorts, h_weight, h_patterns, h_pattern, h_of, h_kinds, h_by, h_image, h_restore, h_count⟩ := hOK
  intro n
  induction n with
  | zero => intro i M H locs ls _ h0 h1 h2; exact absurd h2 (by omega)
  | succ n ih =>
    intro i M H locs ls hI h0 h1 h2 hS hl
    have hm_M := hS.2.2.2
    have ri : inR i := ⟨by omega, by omega⟩
    have rL : inR ((L : Int) - 4) := ⟨by omega, by omega⟩
    refine lv_iload_n hx hb dd_L_18 rfl (lv_at hl 3 rfl) ?_
    refine lv_aload_n hx hb dd_L_19 rfl (lv_at hl 0 rfl) ?_
    refine va_slen hx hb hX hbl hbA hS.2.2.1 dd_L_20 ?_
    rw [show Int32.ofNat L = iI (L : Int) from (iI_nat L).symm]
    refine x_iconst hC dd_L_21 ?_
    refine x_sub hC dd_L_22 ?_
    refine x_icmp_gt hC ri rL (tgt := 647) dd_L_23 (by decide) (fun c_ => ?_) (fun c_ => ?_)
    · refine lv_iconst (v := 1) hx hb dd_L_647 (by decide) ?_
      refine va_forget (fun q hq => hS.2.2.1.2.2 q hq) ?_
      refine W.widen (k := 600000) (n := 7302250) (Nat.le_of_ble_eq_true rfl) (Nat.le_of_ble_eq_true rfl) ?_
      exact lw_ret hx hb hr hlocks dd_L_648
    · refine lv_aload_n hx hb dd_L_26 rfl (lv_at hl 0 rfl) ?_
      refine lv_iload_n hx hb dd_L_27 rfl (lv_at hl 3 rfl) ?_
      refine x_sld hx hb hX hbl hbA hS.2.2.1 hL (i := i) ⟨by omega, by omega⟩ dd_L_28 ?_
      refine x_bipush hC dd_L_29 (by decide) ?_
      refine x_and hC dd_L_31 ?_
      refine x_nm (rng _) (fun z rz ez => ?_)
      have rz4 : inR (i + 4) := ⟨by omega, by omega⟩
      have go : ∀ (M : Mm) (H : Heap) (locs : List Loc) (ls : Array Slot), Inv M → St (XL (dC, dI) aT aM cT cM) (fun q : Nat => s.heap.size ≤ q) s M H locs → lv_has ls 4 [(0, .ref b), (1, .ref (xA (XL (dC, dI) aT aM cT cM) 0)), (2, .ref (xA (XL (dC, dI) aT aM cT cM) 30)), (3, .int (iI i))] → W p l e room_1 s m #[Value.ref b] below meth c H locs 49 175062 (lw_Z below #[Value.ref b] s) (F0 m 641 ls []) := by
        intro M H locs ls hI hS hl
        refine lv_iinc (v := iI (i + 4)) (lv' := [(3, .int (iI (i + 4))), (0, .ref b), (1, .ref (xA (XL (dC, dI) aT aM cT cM) 0)), (2, .ref (xA (XL (dC, dI) aT aM cT cM) 30))]) hx hb dd_L_641 hl (k := 3) rfl (iI_add _ _) (by decide) rfl (fun ls hl => ?_)
        refine lv_goto (tgt := 18) hx hb dd_L_644 (by decide) ?_
        exact ih (i + 4) M _ _ _ hI (by omega) (by omega) (by omega) hS (lv_sub hl [1, 2, 3, 0] rfl)
      rcases (show z = 0 ∨ z = 1 ∨ z = 2 ∨ z = 3 ∨ z = 4 ∨ z = 5 ∨ z = 6 ∨ z = 7 ∨ z = 8 ∨ z = 9 ∨ z = 10 ∨ z = 11 ∨ z = 12 ∨ z = 13 ∨ z = 14 ∨ z = 15 ∨ z = 16 ∨ z = 17 ∨ z = 18 ∨ (z < 0 ∨ 18 < z) by omega) with hz | hz | hz | hz | hz | hz | hz | hz | hz | hz | hz | hz | hz | hz | hz | hz | hz | hz | hz | hz
      · refine x_tin hC 0 rz hz dd_L_32 (by decide) (by decide) rfl (by decide) (tgt := 124) ?_
        refine lv_aload_n hx hb dd_L_124 rfl (lv_at hl 1 rfl) ?_
        refine lv_aload_n hx hb dd_L_125 rfl (lv_at hl 0 rfl) ?_
        refine lv_iload_n hx hb dd_L_126 rfl (lv_at hl 3 rfl) ?_
        refine x_iconst hC dd_L_127 ?_
        refine x_add hC dd_L_128 ?_
        refine x_sld hx hb hX hbl hbA hS.2.2.1 hL (i := i + 1) ⟨by omega, by omega⟩ dd_L_129 ?_
        have hw := h_points M hm_M hI ((xs (i + 1).toNat).toInt) (rng _)
        refine x_callVi hC hS (As := [.int (iI (xs (i + 1).toNat).toInt)]) (rest := []) hT0.1 rfl cv_T_points (mt_T_points l _ hC.2.2.1 hT0 ((xs (i + 1).toNat).toInt) (rng _) M hm_M _ _ hw) tb_199 rfl rfl ⟨Nat.le_of_ble_eq_true rfl, Nat.le_of_ble_eq_true rfl⟩ rfl hl.1 (Nat.le_of_ble_eq_true rfl) dd_L_130 ⟨Nat.le_of_ble_eq_true rfl, Nat.le_of_ble_eq_true rfl⟩ rfl (fun r1 M1 H locs rr1 hw hS => ?_)
        have hm_M1 := hS.2.2.2
        refine lv_aload_n hx hb dd_L_133 rfl (lv_at hl 2 rfl) ?_
        refine lv_aload_n hx hb dd_L_134 rfl (lv_at hl 0 rfl) ?_
        refine lv_iload_n hx hb dd_L_135 rfl (lv_at hl 3 rfl) ?_
        refine x_iconst hC dd_L_136 ?_
        refine x_add hC dd_L_137 ?_
        refine x_sld hx hb hX hbl hbA hS.2.2.1 hL (i := i + 1) ⟨by omega, by omega⟩ dd_L_138 ?_
        refine x_callVi hC hS (As := [.int (iI (xs (i + 1).toNat).toInt)]) (rest := [.int (iI r1)]) hM0.1 rfl cv_M_points (mt_M_points l _ hC.2.2.1 hM0 ((xs (i + 1).toNat).toInt) (rng _) M1 hm_M1 _ _ hw) tb_592 rfl rfl ⟨Nat.le_of_ble_eq_true rfl, Nat.le_of_ble_eq_true rfl⟩ rfl hl.1 (Nat.le_of_ble_eq_true rfl) dd_L_139 ⟨Nat.le_of_ble_eq_true rfl, Nat.le_of_ble_eq_true rfl⟩ rfl (fun r2 M2 H locs rr2 hw hS => ?_)
        have hm_M2 := hS.2.2.2
        obtain ⟨he, hI2⟩ := hw
        refine x_icmp_eq hC rr1 rr2 (tgt := 641) dd_L_142 (by decide) (fun c_ => ?_) (fun c_ => ?_)
        · exact go M2 _ _ _ hI2 hS hl
        · exact absurd he c_
      · refine x_tin hC 1 rz hz dd_L_32 (by decide) (by decide) rfl (by decide) (tgt := 147) ?_
        refine lv_aload_n hx hb dd_L_147 rfl (lv_at hl 1 rfl) ?_
        refine lv_aload_n hx hb dd_L_148 rfl (lv_at hl 0 rfl) ?_
        refine lv_iload_n hx hb dd_L_149 rfl (lv_at hl 3 rfl) ?_
        refine x_iconst hC dd_L_150 ?_
        refine x_add hC dd_L_151 ?_
        refine x_sld hx hb hX hbl hbA hS.2.2.1 hL (i := i + 1) ⟨by omega, by omega⟩ dd_L_152 ?_
        refine lv_aload_n hx hb dd_L_153 rfl (lv_at hl 0 rfl) ?_
        refine lv_iload_n hx hb dd_L_154 rfl (lv_at hl 3 rfl) ?_
        refine x_iconst hC dd_L_155 ?_
        refine x_add hC dd_L_156 ?_
        refine x_sld hx hb hX hbl hbA hS.2.2.1 hL (i := i + 2) ⟨by omega, by omega⟩ dd_L_157 ?_
        refine lv_aload_n hx hb dd_L_158 rfl (lv_at hl 0 rfl) ?_
        refine lv_iload_n hx hb dd_L_159 rfl (lv_at hl 3 rfl) ?_
        refine x_iconst hC dd_L_160 ?_
        refine x_add hC dd_L_161 ?_
        refine x_sld hx hb hX hbl hbA hS.2.2.1 hL (i := i + 3) ⟨by omega, by omega⟩ dd_L_162 ?_
        have hw := h_beside M hm_M hI ((xs (i + 1).toNat).toInt) (rng _) ((xs (i + 2).toNat).toInt) (rng _) ((xs (i + 3).toNat).toInt) (rng _)
        refine x_callVi hC hS (As := [.int (iI (xs (i + 1).toNat).toInt), .int (iI (xs (i + 2).toNat).toInt), .int (iI (xs (i + 3).toNat).toInt)]) (rest := []) hT0.1 rfl cv_T_beside (mt_T_beside l _ hC.2.2.1 hT0 ((xs (i + 1).toNat).toInt) (rng _) ((xs (i + 2).toNat).toInt) (rng _) ((xs (i + 3).toNat).toInt) (rng _) M hm_M _ _ hw) tb_209 rfl rfl ⟨Nat.le_of_ble_eq_true rfl, Nat.le_of_ble_eq_true rfl⟩ rfl hl.1 (Nat.le_of_ble_eq_true rfl) dd_L_163 ⟨Nat.le_of_ble_eq_true rfl, Nat.le_of_ble_eq_true rfl⟩ rfl (fun r1 M1 H locs rr1 hw hS => ?_)
        have hm_M1 := hS.2.2.2
        refine lv_aload_n hx hb dd_L_166 rfl (lv_at hl 2 rfl) ?_
        refine lv_aload_n hx hb dd_L_167 rfl (lv_at hl 0 rfl) ?_
        refine lv_iload_n hx hb dd_L_168 rfl (lv_at hl 3 rfl) ?_
        refine x_iconst hC dd_L_169 ?_
        refine x_add hC dd_L_170 ?_
        refine x_sld hx hb hX hbl hbA hS.2.2.1 hL (i := i + 1) ⟨by omega, by omega⟩ dd_L_171 ?_
        refine lv_aload_n hx hb dd_L_172 rfl (lv_at hl 0 rfl) ?_
        refine lv_iload_n hx hb dd_L_173 rfl (lv_at hl 3 rfl) ?_
        refine x_iconst hC dd_L_174 ?_
        refine x_add hC dd_L_175 ?_
        refine x_sld hx hb hX hbl hbA hS.2.2.1 hL (i := i + 2) ⟨by omega, by omega⟩ dd_L_176 ?_
        refine lv_aload_n hx hb dd_L_177 rfl (lv_at hl 0 rfl) ?_
        refine lv_iload_n hx hb dd_L_178 rfl (lv_at hl 3 rfl) ?_
        refine x_iconst hC dd_L_179 ?_
        refine x_add hC dd_L_180 ?_
        refine x_sld hx hb hX hbl hbA hS.2.2.1 hL (i := i + 3) ⟨by omega, by omega⟩ dd_L_181 ?_
        refine x_callVi hC hS (As := [.int (iI (xs (i + 1).toNat).toInt), .int (iI (xs (i + 2).toNat).toInt), .int (iI (xs (i + 3).toNat).toInt)]) (rest := [.int (iI r1)]) hM0.1 rfl cv_M_beside (mt_M_beside l _ hC.2.2.1 hM0 ((xs (i + 1).toNat).toInt) (rng _) ((xs (i + 2).toNat).toInt) (rng _) ((xs (i + 3).toNat).toInt) (rng _) M1 hm_M1 _ _ hw) tb_599 rfl rfl ⟨Nat.le_of_ble_eq_true rfl, Nat.le_of_ble_eq_true rfl⟩ rfl hl.1 (Nat.le_of_ble_eq_true rfl) dd_L_182 ⟨Nat.le_of_ble_eq_true rfl, Nat.le_of_ble_eq_true rfl⟩ rfl (fun r2 M2 H locs rr2 hw hS => ?_)
        have hm_M2 := hS.2.2.2
        obtain ⟨he, hI2⟩ := hw
        refine x_icmp_eq hC rr1 rr2 (tgt := 641) dd_L_185 (by decide) (fun c_ => ?_) (fun c_ => ?_)
        · exact go M2 _ _ _ hI2 hS hl
        · exact absurd he c_
      · refine x_tin hC 2 rz hz dd_L_32 (by decide) (by decide) rfl (by decide) (tgt := 190) ?_
        refine lv_aload_n hx hb dd_L_190 rfl (lv_at hl 1 rfl) ?_
        refine lv_aload_n hx hb dd_L_191 rfl (lv_at hl 0 rfl) ?_
        refine lv_iload_n hx hb dd_L_192 rfl (lv_at hl 3 rfl) ?_
        refine x_iconst hC dd_L_193 ?_
        refine x_add hC dd_L_194 ?_
        refine x_sld hx hb hX hbl hbA hS.2.2.1 hL (i := i + 1) ⟨by omega, by omega⟩ dd_L_195 ?_
        refine lv_aload_n hx hb dd_L_196 rfl (lv_at hl 0 rfl) ?_
        refine lv_iload_n hx hb dd_L_197 rfl (lv_at hl 3 rfl) ?_
        refine x_iconst hC dd_L_198 ?_
        refine x_add hC dd_L_199 ?_
        refine x_sld hx hb hX hbl hbA hS.2.2.1 hL (i := i + 2) ⟨by omega, by omega⟩ dd_L_200 ?_
        refine lv_aload_n hx hb dd_L_201 rfl (lv_at hl 0 rfl) ?_
        refine lv_iload_n hx hb dd_L_202 rfl (lv_at hl 3 rfl) ?_
        refine x_iconst hC dd_L_203 ?_
        refine x_add hC dd_L_204 ?_
        refine x_sld hx hb hX hbl hbA hS.2.2.1 hL (i := i + 3) ⟨by omega, by omega⟩ dd_L_205 ?_
        have hw := h_blocks M hm_M hI ((xs (i + 1).toNat).toInt) (rng _) ((xs (i + 2).toNat).toInt) (rng _) ((xs (i + 3).toNat).toInt) (rng _)
        refine x_callVi hC hS (As := [.int (iI (xs (i + 1).toNat).toInt), .int (iI (xs (i + 2).toNat).toInt), .int (iI (xs (i + 3).toNat).toInt)]) (rest := []) hT0.1 rfl cv_T_blocks (mt_T_blocks l _ hC.2.2.1 hT0 ((xs (i + 1).toNat).toInt) (rng _) ((xs (i + 2).toNat).toInt) (rng _) ((xs (i + 3).toNat).toInt) (rng _) M hm_M _ _ hw) tb_248 rfl rfl ⟨Nat.le_of_ble_eq_true rfl, Nat.le_of_ble_eq_true rfl⟩ rfl hl.1 (Nat.le_of_ble_eq_true rfl) dd_L_206 ⟨Nat.le_of_ble_eq_true rfl, Nat.le_of_ble_eq_true rfl⟩ rfl (fun r1 M1 H locs rr1 hw hS => ?_)
        have hm_M1 := hS.2.2.2
        refine lv_aload_n hx hb dd_L_209 rfl (lv_at hl 2 rfl) ?_
        refine lv_aload_n hx hb dd_L_210 rfl (lv_at hl 0 rfl) ?_
        refine lv_iload_n hx hb dd_L_211 rfl (lv_at hl 3 rfl) ?_
        refine x_iconst hC dd_L_212 ?_
        refine x_add hC dd_L_213 ?_
        refine x_sld hx hb hX hbl hbA hS.2.2.1 hL (i := i + 1) ⟨by omega, by omega⟩ dd_L_214 ?_
        refine lv_aload_n hx hb dd_L_215 rfl (lv_at hl 0 rfl) ?_
        refine lv_iload_n hx hb dd_L_216 rfl (lv_at hl 3 rfl) ?_
        refine x_iconst hC dd_L_217 ?_
        refine x_add hC dd_L_218 ?_
        refine x_sld hx hb hX hbl hbA hS.2.2.1 hL (i := i + 2) ⟨by omega, by omega⟩ dd_L_219 ?_
        refine lv_aload_n hx hb dd_L_220 rfl (lv_at hl 0 rfl) ?_
        refine lv_iload_n hx hb dd_L_221 rfl (lv_at hl 3 rfl) ?_
        refine x_iconst hC dd_L_222 ?_
        refine x_add hC dd_L_223 ?_
        refine x_sld hx hb hX hbl hbA hS.2.2.1 hL (i := i + 3) ⟨by omega, by omega⟩ dd_L_224 ?_
        refine x_callVi hC hS (As := [.int (iI (xs (i + 1).toNat).toInt), .int (iI (xs (i + 2).toNat).toInt), .int (iI (xs (i + 3).toNat).toInt)]) (rest := [.int (iI r1)]) hM0.1 rfl cv_M_blocks (mt_M_blocks l _ hC.2.2.1 hM0 ((xs (i + 1).toNat).toInt) (rng _) ((xs (i + 2).toNat).toInt) (rng _) ((xs (i + 3).toNat).toInt) (rng _) M1 hm_M1 _ _ hw) tb_630 rfl rfl ⟨Nat.le_of_ble_eq_true rfl, Nat.le_of_ble_eq_true rfl⟩ rfl hl.1 (Nat.le_of_ble_eq_true rfl) dd_L_225 ⟨Nat.le_of_ble_eq_true rfl, Nat.le_of_ble_eq_true rfl⟩ rfl (fun r2 M2 H locs rr2 hw hS => ?_)
        have hm_M2 := hS.2.2.2
        obtain ⟨he, hI2⟩ := hw
        refine x_icmp_eq hC rr1 rr2 (tgt := 641) dd_L_228 (by decide) (fun c_ => ?_) (fun c_ => ?_)
        · exact go M2 _ _ _ hI2 hS hl
        · exact absurd he c_
      · refine x_tin hC 3 rz hz dd_L_32 (by decide) (by decide) rfl (by decide) (tgt := 233) ?_
        refine lv_aload_n hx hb dd_L_233 rfl (lv_at hl 1 rfl) ?_
        have hw := h_join M hm_M hI 
        refine x_callVi hC hS (As := []) (rest := []) hT0.1 rfl cv_T_join (mt_T_join l _ hC.2.2.1 hT0  M hm_M _ _ hw) tb_252 rfl rfl ⟨Nat.le_of_ble_eq_true rfl, Nat.le_of_ble_eq_true rfl⟩ rfl hl.1 (Nat.le_of_ble_eq_true rfl) dd_L_234 ⟨Nat.le_of_ble_eq_true rfl, Nat.le_of_ble_eq_true rfl⟩ rfl (fun r1 M1 H locs rr1 hw hS => ?_)
        have hm_M1 := hS.2.2.2
        refine lv_aload_n hx hb dd_L_237 rfl (lv_at hl 2 rfl) ?_
        refine x_callVi hC hS (As := []) (rest := [.int (iI r1)]) hM0.1 rfl cv_M_join (mt_M_join l _ hC.2.2.1 hM0  M1 hm_M1 _ _ hw) tb_642 rfl rfl ⟨Nat.le_of_ble_eq_true rfl, Nat.le_of_ble_eq_true rfl⟩ rfl hl.1 (Nat.le_of_ble_eq_true rfl) dd_L_238 ⟨Nat.le_of_ble_eq_true rfl, Nat.le_of_ble_eq_true rfl⟩ rfl (fun r2 M2 H locs rr2 hw hS => ?_)
        have hm_M2 := hS.2.2.2
        obtain ⟨he, hI2⟩ := hw
        refine x_icmp_eq hC rr1 rr2 (tgt := 641) dd_L_241 (by decide) (fun c_ => ?_) (fun c_ => ?_)
        · exact go M2 _ _ _ hI2 hS hl
        · exact absurd he c_
      · refine x_tin hC 4 rz hz dd_L_32 (by decide) (by decide) rfl (by decide) (tgt := 246) ?_
        refine lv_aload_n hx hb dd_L_246 rfl (lv_at hl 1 rfl) ?_
        refine lv_aload_n hx hb dd_L_247 rfl (lv_at hl 0 rfl) ?_
        refine lv_iload_n hx hb dd_L_248 rfl (lv_at hl 3 rfl) ?_
        refine x_iconst hC dd_L_249 ?_
        refine x_add hC dd_L_250 ?_
        refine x_sld hx hb hX hbl hbA hS.2.2.1 hL (i := i + 1) ⟨by omega, by omega⟩ dd_L_251 ?_
        have hw := h_say M hm_M hI ((xs (i + 1).toNat).toInt) (rng _)
        refine x_callVi hC hS (As := [.int (iI (xs (i + 1).toNat).toInt)]) (rest := []) hT0.1 rfl cv_T_say (mt_T_say l _ hC.2.2.1 hT0 ((xs (i + 1).toNat).toInt) (rng _) M hm_M _ _ hw) tb_264 rfl rfl ⟨Nat.le_of_ble_eq_true rfl, Nat.le_of_ble_eq_true rfl⟩ rfl hl.1 (Nat.le_of_ble_eq_true rfl) dd_L_252 ⟨Nat.le_of_ble_eq_true rfl, Nat.le_of_ble_eq_true rfl⟩ rfl (fun r1 M1 H locs rr1 hw hS => ?_)
        have hm_M1 := hS.2.2.2
        refine lv_aload_n hx hb dd_L_255 rfl (lv_at hl 2 rfl) ?_
        refine lv_aload_n hx hb dd_L_256 rfl (lv_at hl 0 rfl) ?_
        refine lv_iload_n hx hb dd_L_257 rfl (lv_at hl 3 rfl) ?_
        refine x_iconst hC dd_L_258 ?_
        refine x_add hC dd_L_259 ?_
        refine x_sld hx hb hX hbl hbA hS.2.2.1 hL (i := i + 1) ⟨by omega, by omega⟩ dd_L_260 ?_
        refine x_callVi hC hS (As := [.int (iI (xs (i + 1).toNat).toInt)]) (rest := [.int (iI r1)]) hM0.1 rfl cv_M_say (mt_M_say l _ hC.2.2.1 hM0 ((xs (i + 1).toNat).toInt) (rng _) M1 hm_M1 _ _ hw) tb_634 rfl rfl ⟨Nat.le_of_ble_eq_true rfl, Nat.le_of_ble_eq_true rfl⟩ rfl hl.1 (Nat.le_of_ble_eq_true rfl) dd_L_261 ⟨Nat.le_of_ble_eq_true rfl, Nat.le_of_ble_eq_true rfl⟩ rfl (fun r2 M2 H locs rr2 hw hS => ?_)
        have hm_M2 := hS.2.2.2
        obtain ⟨he, hI2⟩ := hw
        refine x_icmp_eq hC rr1 rr2 (tgt := 641) dd_L_264 (by decide) (fun c_ => ?_) (fun c_ => ?_)
        · exact go M2 _ _ _ hI2 hS hl
        · exact absurd he c_
      · refine x_tin hC 5 rz hz dd_L_32 (by decide) (by decide) rfl (by decide) (tgt := 269) ?_
        refine lv_aload_n hx hb dd_L_269 rfl (lv_at hl 1 rfl) ?_
        have hw := h_wipe M hm_M hI 
        refine x_callVi hC hS (As := []) (rest := []) hT0.1 rfl cv_T_wipe (mt_T_wipe l _ hC.2.2.1 hT0  M hm_M _ _ hw) tb_268 rfl rfl ⟨Nat.le_of_ble_eq_true rfl, Nat.le_of_ble_eq_true rfl⟩ rfl hl.1 (Nat.le_of_ble_eq_true rfl) dd_L_270 ⟨Nat.le_of_ble_eq_true rfl, Nat.le_of_ble_eq_true rfl⟩ rfl (fun r1 M1 H locs rr1 hw hS => ?_)
        have hm_M1 := hS.2.2.2
        refine lv_aload_n hx hb dd_L_273 rfl (lv_at hl 2 rfl) ?_
        refine x_callVi hC hS (As := []) (rest := [.int (iI r1)]) hM0.1 rfl cv_M_wipe (mt_M_wipe l _ hC.2.2.1 hM0  M1 hm_M1 _ _ hw) tb_638 rfl rfl ⟨Nat.le_of_ble_eq_true rfl, Nat.le_of_ble_eq_true rfl⟩ rfl hl.1 (Nat.le_of_ble_eq_true rfl) dd_L_274 ⟨Nat.le_of_ble_eq_true rfl, Nat.le_of_ble_eq_true rfl⟩ rfl (fun r2 M2 H locs rr2 hw hS => ?_)
        have hm_M2 := hS.2.2.2
        obtain ⟨he, hI2⟩ := hw
        refine x_icmp_eq hC rr1 rr2 (tgt := 641) dd_L_277 (by decide) (fun c_ => ?_) (fun c_ => ?_)
        · exact go M2 _ _ _ hI2 hS hl
        · exact absurd he c_
      · refine x_tin hC 6 rz hz dd_L_32 (by decide) (by decide) rfl (by decide) (tgt := 282) ?_
        refine lv_aload_n hx hb dd_L_282 rfl (lv_at hl 1 rfl) ?_
        refine lv_aload_n hx hb dd_L_283 rfl (lv_at hl 0 rfl) ?_
        refine lv_iload_n hx hb dd_L_284 rfl (lv_at hl 3 rfl) ?_
        refine x_iconst hC dd_L_285 ?_
        refine x_add hC dd_L_286 ?_
        refine x_sld hx hb hX hbl hbA hS.2.2.1 hL (i := i + 1) ⟨by omega, by omega⟩ dd_L_287 ?_
        have hw := h_turn M hm_M hI ((xs (i + 1).toNat).toInt) (rng _)
        refine x_callVi hC hS (As := [.int (iI (xs (i + 1).toNat).toInt)]) (rest := []) hT0.1 rfl cv_T_turn (mt_T_turn l _ hC.2.2.1 hT0 ((xs (i + 1).toNat).toInt) (rng _) M hm_M _ _ hw) tb_272 rfl rfl ⟨Nat.le_of_ble_eq_true rfl, Nat.le_of_ble_eq_true rfl⟩ rfl hl.1 (Nat.le_of_ble_eq_true rfl) dd_L_288 ⟨Nat.le_of_ble_eq_true rfl, Nat.le_of_ble_eq_true rfl⟩ rfl (fun r1 Mx H locs rr1 hp hS => ?_)
        obtain ⟨hq, hw⟩ := hp
        rw [hq] at hS
        refine lv_aload_n hx hb dd_L_291 rfl (lv_at hl 2 rfl) ?_
        refine lv_aload_n hx hb dd_L_292 rfl (lv_at hl 0 rfl) ?_
        refine lv_iload_n hx hb dd_L_293 rfl (lv_at hl 3 rfl) ?_
        refine x_iconst hC dd_L_294 ?_
        refine x_add hC dd_L_295 ?_
        refine x_sld hx hb hX hbl hbA hS.2.2.1 hL (i := i + 1) ⟨by omega, by omega⟩ dd_L_296 ?_
        refine x_callVi hC hS (As := [.int (iI (xs (i + 1).toNat).toInt)]) (rest := [.int (iI r1)]) hM0.1 rfl cv_M_turn (mt_M_turn l _ hC.2.2.1 hM0 ((xs (i + 1).toNat).toInt) (rng _) M hm_M _ _ hw) tb_650 rfl rfl ⟨Nat.le_of_ble_eq_true rfl, Nat.le_of_ble_eq_true rfl⟩ rfl hl.1 (Nat.le_of_ble_eq_true rfl) dd_L_297 ⟨Nat.le_of_ble_eq_true rfl, Nat.le_of_ble_eq_true rfl⟩ rfl (fun r2 M2 H locs rr2 hw hS => ?_)
        have hm_M2 := hS.2.2.2
        obtain ⟨he, hI2⟩ := hw
        refine x_icmp_eq hC rr1 rr2 (tgt := 641) dd_L_300 (by decide) (fun c_ => ?_) (fun c_ => ?_)
        · exact go M2 _ _ _ hI2 hS hl
        · exact absurd he c_
      · refine x_tin hC 7 rz hz dd_L_32 (by decide) (by decide) rfl (by decide) (tgt := 305) ?_
        refine lv_aload_n hx hb dd_L_305 rfl (lv_at hl 1 rfl) ?_
        refine lv_aload_n hx hb dd_L_306 rfl (lv_at hl 0 rfl) ?_
        refine lv_iload_n hx hb dd_L_307 rfl (lv_at hl 3 rfl) ?_
        refine x_iconst hC dd_L_308 ?_
        refine x_add hC dd_L_309 ?_
        refine x_sld hx hb hX hbl hbA hS.2.2.1 hL (i := i + 1) ⟨by omega, by omega⟩ dd_L_310 ?_
        refine lv_aload_n hx hb dd_L_311 rfl (lv_at hl 0 rfl) ?_
        refine lv_iload_n hx hb dd_L_312 rfl (lv_at hl 3 rfl) ?_
        refine x_iconst hC dd_L_313 ?_
        refine x_add hC dd_L_314 ?_
        refine x_sld hx hb hX hbl hbA hS.2.2.1 hL (i := i + 2) ⟨by omega, by omega⟩ dd_L_315 ?_
        have hw := h_type M hm_M hI ((xs (i + 1).toNat).toInt) (rng _) ((xs (i + 2).toNat).toInt) (rng _)
        refine x_callVi hC hS (As := [.int (iI (xs (i + 1).toNat).toInt), .int (iI (xs (i + 2).toNat).toInt)]) (rest := []) hT0.1 rfl cv_T_type (mt_T_type l _ hC.2.2.1 hT0 ((xs (i + 1).toNat).toInt) (rng _) ((xs (i + 2).toNat).toInt) (rng _) M hm_M _ _ hw) tb_286 rfl rfl ⟨Nat.le_of_ble_eq_true rfl, Nat.le_of_ble_eq_true rfl⟩ rfl hl.1 (Nat.le_of_ble_eq_true rfl) dd_L_316 ⟨Nat.le_of_ble_eq_true rfl, Nat.le_of_ble_eq_true rfl⟩ rfl (fun r1 M1 H locs rr1 hw hS => ?_)
        have hm_M1 := hS.2.2.2
        refine lv_aload_n hx hb dd_L_319 rfl (lv_at hl 2 rfl) ?_
        refine lv_aload_n hx hb dd_L_320 rfl (lv_at hl 0 rfl) ?_
        refine lv_iload_n hx hb dd_L_321 rfl (lv_at hl 3 rfl) ?_
        refine x_iconst hC dd_L_322 ?_
        refine x_add hC dd_L_323 ?_
        refine x_sld hx hb hX hbl hbA hS.2.2.1 hL (i := i + 1) ⟨by omega, by omega⟩ dd_L_324 ?_
        refine lv_aload_n hx hb dd_L_325 rfl (lv_at hl 0 rfl) ?_
        refine lv_iload_n hx hb dd_L_326 rfl (lv_at hl 3 rfl) ?_
        refine x_iconst hC dd_L_327 ?_
        refine x_add hC dd_L_328 ?_
        refine x_sld hx hb hX hbl hbA hS.2.2.1 hL (i := i + 2) ⟨by omega, by omega⟩ dd_L_329 ?_
        refine x_callVi hC hS (As := [.int (iI (xs (i + 1).toNat).toInt), .int (iI (xs (i + 2).toNat).toInt)]) (rest := [.int (iI r1)]) hM0.1 rfl cv_M_type (mt_M_type l _ hC.2.2.1 hM0 ((xs (i + 1).toNat).toInt) (rng _) ((xs (i + 2).toNat).toInt) (rng _) M1 hm_M1 _ _ hw) tb_664 rfl rfl ⟨Nat.le_of_ble_eq_true rfl, Nat.le_of_ble_eq_true rfl⟩ rfl hl.1 (Nat.le_of_ble_eq_true rfl) dd_L_330 ⟨Nat.le_of_ble_eq_true rfl, Nat.le_of_ble_eq_true rfl⟩ rfl (fun r2 M2 H locs rr2 hw hS => ?_)
        have hm_M2 := hS.2.2.2
        obtain ⟨he, hI2⟩ := hw
        refine x_icmp_eq hC rr1 rr2 (tgt := 641) dd_L_333 (by decide) (fun c_ => ?_) (fun c_ => ?_)
        · exact go M2 _ _ _ hI2 hS hl
        · exact absurd he c_
      · refine x_tin hC 8 rz hz dd_L_32 (by decide) (by decide) rfl (by decide) (tgt := 338) ?_
        refine lv_aload_n hx hb dd_L_338 rfl (lv_at hl 1 rfl) ?_
        refine lv_aload_n hx hb dd_L_339 rfl (lv_at hl 0 rfl) ?_
        refine lv_iload_n hx hb dd_L_340 rfl (lv_at hl 3 rfl) ?_
        refine x_iconst hC dd_L_341 ?_
        refine x_add hC dd_L_342 ?_
        refine x_sld hx hb hX hbl hbA hS.2.2.1 hL (i := i + 1) ⟨by omega, by omega⟩ dd_L_343 ?_
        refine lv_aload_n hx hb dd_L_344 rfl (lv_at hl 0 rfl) ?_
        refine lv_iload_n hx hb dd_L_345 rfl (lv_at hl 3 rfl) ?_
        refine x_iconst hC dd_L_346 ?_
        refine x_add hC dd_L_347 ?_
        refine x_sld hx hb hX hbl hbA hS.2.2.1 hL (i := i + 2) ⟨by omega, by omega⟩ dd_L_348 ?_
        have hw := h_orbit M hm_M hI ((xs (i + 1).toNat).toInt) (rng _) ((xs (i + 2).toNat).toInt) (rng _)
        refine x_callVi hC hS (As := [.int (iI (xs (i + 1).toNat).toInt), .int (iI (xs (i + 2).toNat).toInt)]) (rest := []) hT0.1 rfl cv_T_orbit (mt_T_orbit l _ hC.2.2.1 hT0 ((xs (i + 1).toNat).toInt) (rng _) ((xs (i + 2).toNat).toInt) (rng _) M hm_M _ _ hw) tb_303 rfl rfl ⟨Nat.le_of_ble_eq_true rfl, Nat.le_of_ble_eq_true rfl⟩ rfl hl.1 (Nat.le_of_ble_eq_true rfl) dd_L_349 ⟨Nat.le_of_ble_eq_true rfl, Nat.le_of_ble_eq_true rfl⟩ rfl (fun r1 Mx H locs rr1 hp hS => ?_)
        obtain ⟨hq, hw⟩ := hp
        rw [hq] at hS
        refine lv_aload_n hx hb dd_L_352 rfl (lv_at hl 2 rfl) ?_
        refine lv_aload_n hx hb dd_L_353 rfl (lv_at hl 0 rfl) ?_
        refine lv_iload_n hx hb dd_L_354 rfl (lv_at hl 3 rfl) ?_
        refine x_iconst hC dd_L_355 ?_
        refine x_add hC dd_L_356 ?_
        refine x_sld hx hb hX hbl hbA hS.2.2.1 hL (i := i + 1) ⟨by omega, by omega⟩ dd_L_357 ?_
        refine lv_aload_n hx hb dd_L_358 rfl (lv_at hl 0 rfl) ?_
        refine lv_iload_n hx hb dd_L_359 rfl (lv_at hl 3 rfl) ?_
        refine x_iconst hC dd_L_360 ?_
        refine x_add hC dd_L_361 ?_
        refine x_sld hx hb hX hbl hbA hS.2.2.1 hL (i := i + 2) ⟨by omega, by omega⟩ dd_L_362 ?_
        refine x_callVi hC hS (As := [.int (iI (xs (i + 1).toNat).toInt), .int (iI (xs (i + 2).toNat).toInt)]) (rest := [.int (iI r1)]) hM0.1 rfl cv_M_orbit (mt_M_orbit l _ hC.2.2.1 hM0 ((xs (i + 1).toNat).toInt) (rng _) ((xs (i + 2).toNat).toInt) (rng _) M hm_M _ _ hw) tb_680 rfl rfl ⟨Nat.le_of_ble_eq_true rfl, Nat.le_of_ble_eq_true rfl⟩ rfl hl.1 (Nat.le_of_ble_eq_true rfl) dd_L_363 ⟨Nat.le_of_ble_eq_true rfl, Nat.le_of_ble_eq_true rfl⟩ rfl (fun r2 Mx H locs rr2 hp hS => ?_)
        obtain ⟨hq, hw⟩ := hp
        rw [hq] at hS
        obtain ⟨he, hI2⟩ := hw
        refine x_icmp_eq hC rr1 rr2 (tgt := 641) dd_L_366 (by decide) (fun c_ => ?_) (fun c_ => ?_)
        · exact go M _ _ _ hI2 hS hl
        · exact absurd he c_
      · refine x_tin hC 9 rz hz dd_L_32 (by decide) (by decide) rfl (by decide) (tgt := 371) ?_
        refine lv_aload_n hx hb dd_L_371 rfl (lv_at hl 1 rfl) ?_
        refine lv_aload_n hx hb dd_L_372 rfl (lv_at hl 0 rfl) ?_
        refine lv_iload_n hx hb dd_L_373 rfl (lv_at hl 3 rfl) ?_
        refine x_iconst hC dd_L_374 ?_
        refine x_add hC dd_L_375 ?_
        refine x_sld hx hb hX hbl hbA hS.2.2.1 hL (i := i + 1) ⟨by omega, by omega⟩ dd_L_376 ?_
        have hw := h_sorts M hm_M hI ((xs (i + 1).toNat).toInt) (rng _)
        refine x_callVi hC hS (As := [.int (iI (xs (i + 1).toNat).toInt)]) (rest := []) hT0.1 rfl cv_T_sorts (mt_T_sorts l _ hC.2.2.1 hT0 ((xs (i + 1).toNat).toInt) (rng _) M hm_M _ _ hw) tb_317 rfl rfl ⟨Nat.le_of_ble_eq_true rfl, Nat.le_of_ble_eq_true rfl⟩ rfl hl.1 (Nat.le_of_ble_eq_true rfl) dd_L_377 ⟨Nat.le_of_ble_eq_true rfl, Nat.le_of_ble_eq_true rfl⟩ rfl (fun r1 M1 H locs rr1 hw hS => ?_)
        have hm_M1 := hS.2.2.2
        refine lv_aload_n hx hb dd_L_380 rfl (lv_at hl 2 rfl) ?_
        refine lv_aload_n hx hb dd_L_381 rfl (lv_at hl 0 rfl) ?_
        refine lv_iload_n hx hb dd_L_382 rfl (lv_at hl 3 rfl) ?_
        refine x_iconst hC dd_L_383 ?_
        refine x_add hC dd_L_384 ?_
        refine x_sld hx hb hX hbl hbA hS.2.2.1 hL (i := i + 1) ⟨by omega, by omega⟩ dd_L_385 ?_
        refine x_callVi hC hS (As := [.int (iI (xs (i + 1).toNat).toInt)]) (rest := [.int (iI r1)]) hM0.1 rfl cv_M_sorts (mt_M_sorts l _ hC.2.2.1 hM0 ((xs (i + 1).toNat).toInt) (rng _) M1 hm_M1 _ _ hw) tb_688 rfl rfl ⟨Nat.le_of_ble_eq_true rfl, Nat.le_of_ble_eq_true rfl⟩ rfl hl.1 (Nat.le_of_ble_eq_true rfl) dd_L_386 ⟨Nat.le_of_ble_eq_true rfl, Nat.le_of_ble_eq_true rfl⟩ rfl (fun r2 M2 H locs rr2 hw hS => ?_)
        have hm_M2 := hS.2.2.2
        obtain ⟨he, hI2⟩ := hw
        refine x_icmp_eq hC rr1 rr2 (tgt := 641) dd_L_389 (by decide) (fun c_ => ?_) (fun c_ => ?_)
        · exact go M2 _ _ _ hI2 hS hl
        · exact absurd he c_
      · refine x_tin hC 10 rz hz dd_L_32 (by decide) (by decide) rfl (by decide) (tgt := 394) ?_
        refine lv_aload_n hx hb dd_L_394 rfl (lv_at hl 1 rfl) ?_
        refine lv_aload_n hx hb dd_L_395 rfl (lv_at hl 0 rfl) ?_
        refine lv_iload_n hx hb dd_L_396 rfl (lv_at hl 3 rfl) ?_
        refine x_iconst hC dd_L_397 ?_
        refine x_add hC dd_L_398 ?_
        refine x_sld hx hb hX hbl hbA hS.2.2.1 hL (i := i + 1) ⟨by omega, by omega⟩ dd_L_399 ?_
        refine lv_aload_n hx hb dd_L_400 rfl (lv_at hl 0 rfl) ?_
        refine lv_iload_n hx hb dd_L_401 rfl (lv_at hl 3 rfl) ?_
        refine x_iconst hC dd_L_402 ?_
        refine x_add hC dd_L_403 ?_
        refine x_sld hx hb hX hbl hbA hS.2.2.1 hL (i := i + 2) ⟨by omega, by omega⟩ dd_L_404 ?_
        have hw := h_weight M hm_M hI ((xs (i + 1).toNat).toInt) (rng _) ((xs (i + 2).toNat).toInt) (rng _)
        refine x_callVi hC hS (As := [.int (iI (xs (i + 1).toNat).toInt), .int (iI (xs (i + 2).toNat).toInt)]) (rest := []) hT0.1 rfl cv_T_weight (mt_T_weight l _ hC.2.2.1 hT0 ((xs (i + 1).toNat).toInt) (rng _) ((xs (i + 2).toNat).toInt) (rng _) M hm_M _ _ hw) tb_321 rfl rfl ⟨Nat.le_of_ble_eq_true rfl, Nat.le_of_ble_eq_true rfl⟩ rfl hl.1 (Nat.le_of_ble_eq_true rfl) dd_L_405 ⟨Nat.le_of_ble_eq_true rfl, Nat.le_of_ble_eq_true rfl⟩ rfl (fun r1 M1 H locs rr1 hw hS => ?_)
        have hm_M1 := hS.2.2.2
        refine lv_aload_n hx hb dd_L_408 rfl (lv_at hl 2 rfl) ?_
        refine lv_aload_n hx hb dd_L_409 rfl (lv_at hl 0 rfl) ?_
        refine lv_iload_n hx hb dd_L_410 rfl (lv_at hl 3 rfl) ?_
        refine x_iconst hC dd_L_411 ?_
        refine x_add hC dd_L_412 ?_
        refine x_sld hx hb hX hbl hbA hS.2.2.1 hL (i := i + 1) ⟨by omega, by omega⟩ dd_L_413 ?_
        refine lv_aload_n hx hb dd_L_414 rfl (lv_at hl 0 rfl) ?_
        refine lv_iload_n hx hb dd_L_415 rfl (lv_at hl 3 rfl) ?_
        refine x_iconst hC dd_L_416 ?_
        refine x_add hC dd_L_417 ?_
        refine x_sld hx hb hX hbl hbA hS.2.2.1 hL (i := i + 2) ⟨by omega, by omega⟩ dd_L_418 ?_
        refine x_callVi hC hS (As := [.int (iI (xs (i + 1).toNat).toInt), .int (iI (xs (i + 2).toNat).toInt)]) (rest := [.int (iI r1)]) hM0.1 rfl cv_M_weight (mt_M_weight l _ hC.2.2.1 hM0 ((xs (i + 1).toNat).toInt) (rng _) ((xs (i + 2).toNat).toInt) (rng _) M1 hm_M1 _ _ hw) tb_692 rfl rfl ⟨Nat.le_of_ble_eq_true rfl, Nat.le_of_ble_eq_true rfl⟩ rfl hl.1 (Nat.le_of_ble_eq_true rfl) dd_L_419 ⟨Nat.le_of_ble_eq_true rfl, Nat.le_of_ble_eq_true rfl⟩ rfl (fun r2 M2 H locs rr2 hw hS => ?_)
        have hm_M2 := hS.2.2.2
        obtain ⟨he, hI2⟩ := hw
        refine x_icmp_eq hC rr1 rr2 (tgt := 641) dd_L_422 (by decide) (fun c_ => ?_) (fun c_ => ?_)
        · exact go M2 _ _ _ hI2 hS hl
        · exact absurd he c_
      · refine x_tin hC 11 rz hz dd_L_32 (by decide) (by decide) rfl (by decide) (tgt := 427) ?_
        refine lv_aload_n hx hb dd_L_427 rfl (lv_at hl 1 rfl) ?_
        refine lv_aload_n hx hb dd_L_428 rfl (lv_at hl 0 rfl) ?_
        refine lv_iload_n hx hb dd_L_429 rfl (lv_at hl 3 rfl) ?_
        refine x_iconst hC dd_L_430 ?_
        refine x_add hC dd_L_431 ?_
        refine x_sld hx hb hX hbl hbA hS.2.2.1 hL (i := i + 1) ⟨by omega, by omega⟩ dd_L_432 ?_
        have hw := h_patterns M hm_M hI ((xs (i + 1).toNat).toInt) (rng _)
        refine x_callVi hC hS (As := [.int (iI (xs (i + 1).toNat).toInt)]) (rest := []) hT0.1 rfl cv_T_patterns (mt_T_patterns l _ hC.2.2.1 hT0 ((xs (i + 1).toNat).toInt) (rng _) M hm_M _ _ hw) tb_325 rfl rfl ⟨Nat.le_of_ble_eq_true rfl, Nat.le_of_ble_eq_true rfl⟩ rfl hl.1 (Nat.le_of_ble_eq_true rfl) dd_L_433 ⟨Nat.le_of_ble_eq_true rfl, Nat.le_of_ble_eq_true rfl⟩ rfl (fun r1 M1 H locs rr1 hw hS => ?_)
        have hm_M1 := hS.2.2.2
        refine lv_aload_n hx hb dd_L_436 rfl (lv_at hl 2 rfl) ?_
        refine lv_aload_n hx hb dd_L_437 rfl (lv_at hl 0 rfl) ?_
        refine lv_iload_n hx hb dd_L_438 rfl (lv_at hl 3 rfl) ?_
        refine x_iconst hC dd_L_439 ?_
        refine x_add hC dd_L_440 ?_
        refine x_sld hx hb hX hbl hbA hS.2.2.1 hL (i := i + 1) ⟨by omega, by omega⟩ dd_L_441 ?_
        refine x_callVi hC hS (As := [.int (iI (xs (i + 1).toNat).toInt)]) (rest := [.int (iI r1)]) hM0.1 rfl cv_M_patterns (mt_M_patterns l _ hC.2.2.1 hM0 ((xs (i + 1).toNat).toInt) (rng _) M1 hm_M1 _ _ hw) tb_696 rfl rfl ⟨Nat.le_of_ble_eq_true rfl, Nat.le_of_ble_eq_true rfl⟩ rfl hl.1 (Nat.le_of_ble_eq_true rfl) dd_L_442 ⟨Nat.le_of_ble_eq_true rfl, Nat.le_of_ble_eq_true rfl⟩ rfl (fun r2 M2 H locs rr2 hw hS => ?_)
        have hm_M2 := hS.2.2.2
        obtain ⟨he, hI2⟩ := hw
        refine x_icmp_eq hC rr1 rr2 (tgt := 641) dd_L_445 (by decide) (fun c_ => ?_) (fun c_ => ?_)
        · exact go M2 _ _ _ hI2 hS hl
        · exact absurd he c_
      · refine x_tin hC 12 rz hz dd_L_32 (by decide) (by decide) rfl (by decide) (tgt := 450) ?_
        refine lv_aload_n hx hb dd_L_450 rfl (lv_at hl 1 rfl) ?_
        refine lv_aload_n hx hb dd_L_451 rfl (lv_at hl 0 rfl) ?_
        refine lv_iload_n hx hb dd_L_452 rfl (lv_at hl 3 rfl) ?_
        refine x_iconst hC dd_L_453 ?_
        refine x_add hC dd_L_454 ?_
        refine x_sld hx hb hX hbl hbA hS.2.2.1 hL (i := i + 1) ⟨by omega, by omega⟩ dd_L_455 ?_
        refine lv_aload_n hx hb dd_L_456 rfl (lv_at hl 0 rfl) ?_
        refine lv_iload_n hx hb dd_L_457 rfl (lv_at hl 3 rfl) ?_
        refine x_iconst hC dd_L_458 ?_
        refine x_add hC dd_L_459 ?_
        refine x_sld hx hb hX hbl hbA hS.2.2.1 hL (i := i + 2) ⟨by omega, by omega⟩ dd_L_460 ?_
        have hw := h_pattern M hm_M hI ((xs (i + 1).toNat).toInt) (rng _) ((xs (i + 2).toNat).toInt) (rng _)
        refine x_callVi hC hS (As := [.int (iI (xs (i + 1).toNat).toInt), .int (iI (xs (i + 2).toNat).toInt)]) (rest := []) hT0.1 rfl cv_T_pattern (mt_T_pattern l _ hC.2.2.1 hT0 ((xs (i + 1).toNat).toInt) (rng _) ((xs (i + 2).toNat).toInt) (rng _) M hm_M _ _ hw) tb_375 rfl rfl ⟨Nat.le_of_ble_eq_true rfl, Nat.le_of_ble_eq_true rfl⟩ rfl hl.1 (Nat.le_of_ble_eq_true rfl) dd_L_461 ⟨Nat.le_of_ble_eq_true rfl, Nat.le_of_ble_eq_true rfl⟩ rfl (fun r1 M1 H locs rr1 hw hS => ?_)
        have hm_M1 := hS.2.2.2
        refine lv_aload_n hx hb dd_L_464 rfl (lv_at hl 2 rfl) ?_
        refine lv_aload_n hx hb dd_L_465 rfl (lv_at hl 0 rfl) ?_
        refine lv_iload_n hx hb dd_L_466 rfl (lv_at hl 3 rfl) ?_
        refine x_iconst hC dd_L_467 ?_
        refine x_add hC dd_L_468 ?_
        refine x_sld hx hb hX hbl hbA hS.2.2.1 hL (i := i + 1) ⟨by omega, by omega⟩ dd_L_469 ?_
        refine lv_aload_n hx hb dd_L_470 rfl (lv_at hl 0 rfl) ?_
        refine lv_iload_n hx hb dd_L_471 rfl (lv_at hl 3 rfl) ?_
        refine x_iconst hC dd_L_472 ?_
        refine x_add hC dd_L_473 ?_
        refine x_sld hx hb hX hbl hbA hS.2.2.1 hL (i := i + 2) ⟨by omega, by omega⟩ dd_L_474 ?_
        refine x_callVi hC hS (As := [.int (iI (xs (i + 1).toNat).toInt), .int (iI (xs (i + 2).toNat).toInt)]) (rest := [.int (iI r1)]) hM0.1 rfl cv_M_pattern (mt_M_pattern l _ hC.2.2.1 hM0 ((xs (i + 1).toNat).toInt) (rng _) ((xs (i + 2).toNat).toInt) (rng _) M1 hm_M1 _ _ hw) tb_724 rfl rfl ⟨Nat.le_of_ble_eq_true rfl, Nat.le_of_ble_eq_true rfl⟩ rfl hl.1 (Nat.le_of_ble_eq_true rfl) dd_L_475 ⟨Nat.le_of_ble_eq_true rfl, Nat.le_of_ble_eq_true rfl⟩ rfl (fun r2 M2 H locs rr2 hw hS => ?_)
        have hm_M2 := hS.2.2.2
        obtain ⟨he, hI2⟩ := hw
        refine x_icmp_eq hC rr1 rr2 (tgt := 641) dd_L_478 (by decide) (fun c_ => ?_) (fun c_ => ?_)
        · exact go M2 _ _ _ hI2 hS hl
        · exact absurd he c_
      · refine x_tin hC 13 rz hz dd_L_32 (by decide) (by decide) rfl (by decide) (tgt := 483) ?_
        refine lv_aload_n hx hb dd_L_483 rfl (lv_at hl 1 rfl) ?_
        refine lv_aload_n hx hb dd_L_484 rfl (lv_at hl 0 rfl) ?_
        refine lv_iload_n hx hb dd_L_485 rfl (lv_at hl 3 rfl) ?_
        refine x_iconst hC dd_L_486 ?_
        refine x_add hC dd_L_487 ?_
        refine x_sld hx hb hX hbl hbA hS.2.2.1 hL (i := i + 1) ⟨by omega, by omega⟩ dd_L_488 ?_
        refine lv_aload_n hx hb dd_L_489 rfl (lv_at hl 0 rfl) ?_
        refine lv_iload_n hx hb dd_L_490 rfl (lv_at hl 3 rfl) ?_
        refine x_iconst hC dd_L_491 ?_
        refine x_add hC dd_L_492 ?_
        refine x_sld hx hb hX hbl hbA hS.2.2.1 hL (i := i + 2) ⟨by omega, by omega⟩ dd_L_493 ?_
        have hw := h_of M hm_M hI ((xs (i + 1).toNat).toInt) (rng _) ((xs (i + 2).toNat).toInt) (rng _)
        refine x_callVi hC hS (As := [.int (iI (xs (i + 1).toNat).toInt), .int (iI (xs (i + 2).toNat).toInt)]) (rest := []) hT0.1 rfl cv_T_of (mt_T_of l _ hC.2.2.1 hT0 ((xs (i + 1).toNat).toInt) (rng _) ((xs (i + 2).toNat).toInt) (rng _) M hm_M _ _ hw) tb_402 rfl rfl ⟨Nat.le_of_ble_eq_true rfl, Nat.le_of_ble_eq_true rfl⟩ rfl hl.1 (Nat.le_of_ble_eq_true rfl) dd_L_494 ⟨Nat.le_of_ble_eq_true rfl, Nat.le_of_ble_eq_true rfl⟩ rfl (fun r1 M1 H locs rr1 hw hS => ?_)
        have hm_M1 := hS.2.2.2
        refine lv_aload_n hx hb dd_L_497 rfl (lv_at hl 2 rfl) ?_
        refine lv_aload_n hx hb dd_L_498 rfl (lv_at hl 0 rfl) ?_
        refine lv_iload_n hx hb dd_L_499 rfl (lv_at hl 3 rfl) ?_
        refine x_iconst hC dd_L_500 ?_
        refine x_add hC dd_L_501 ?_
        refine x_sld hx hb hX hbl hbA hS.2.2.1 hL (i := i + 1) ⟨by omega, by omega⟩ dd_L_502 ?_
        refine lv_aload_n hx hb dd_L_503 rfl (lv_at hl 0 rfl) ?_
        refine lv_iload_n hx hb dd_L_504 rfl (lv_at hl 3 rfl) ?_
        refine x_iconst hC dd_L_505 ?_
        refine x_add hC dd_L_506 ?_
        refine x_sld hx hb hX hbl hbA hS.2.2.1 hL (i := i + 2) ⟨by omega, by omega⟩ dd_L_507 ?_
        refine x_callVi hC hS (As := [.int (iI (xs (i + 1).toNat).toInt), .int (iI (xs (i + 2).toNat).toInt)]) (rest := [.int (iI r1)]) hM0.1 rfl cv_M_of (mt_M_of l _ hC.2.2.1 hM0 ((xs (i + 1).toNat).toInt) (rng _) ((xs (i + 2).toNat).toInt) (rng _) M1 hm_M1 _ _ hw) tb_740 rfl rfl ⟨Nat.le_of_ble_eq_true rfl, Nat.le_of_ble_eq_true rfl⟩ rfl hl.1 (Nat.le_of_ble_eq_true rfl) dd_L_508 ⟨Nat.le_of_ble_eq_true rfl, Nat.le_of_ble_eq_true rfl⟩ rfl (fun r2 M2 H locs rr2 hw hS => ?_)
        have hm_M2 := hS.2.2.2
        obtain ⟨he, hI2⟩ := hw
        refine x_icmp_eq hC rr1 rr2 (tgt := 641) dd_L_511 (by decide) (fun c_ => ?_) (fun c_ => ?_)
        · exact go M2 _ _ _ hI2 hS hl
        · exact absurd he c_
      · refine x_tin hC 14 rz hz dd_L_32 (by decide) (by decide) rfl (by decide) (tgt := 516) ?_
        refine lv_aload_n hx hb dd_L_516 rfl (lv_at hl 1 rfl) ?_
        refine lv_aload_n hx hb dd_L_517 rfl (lv_at hl 0 rfl) ?_
        refine lv_iload_n hx hb dd_L_518 rfl (lv_at hl 3 rfl) ?_
        refine x_iconst hC dd_L_519 ?_
        refine x_add hC dd_L_520 ?_
        refine x_sld hx hb hX hbl hbA hS.2.2.1 hL (i := i + 1) ⟨by omega, by omega⟩ dd_L_521 ?_
        have hw := h_kinds M hm_M hI ((xs (i + 1).toNat).toInt) (rng _)
        refine x_callVi hC hS (As := [.int (iI (xs (i + 1).toNat).toInt)]) (rest := []) hT0.1 rfl cv_T_kinds (mt_T_kinds l _ hC.2.2.1 hT0 ((xs (i + 1).toNat).toInt) (rng _) M hm_M _ _ hw) tb_418 rfl rfl ⟨Nat.le_of_ble_eq_true rfl, Nat.le_of_ble_eq_true rfl⟩ rfl hl.1 (Nat.le_of_ble_eq_true rfl) dd_L_522 ⟨Nat.le_of_ble_eq_true rfl, Nat.le_of_ble_eq_true rfl⟩ rfl (fun r1 M1 H locs rr1 hw hS => ?_)
        have hm_M1 := hS.2.2.2
        refine lv_aload_n hx hb dd_L_525 rfl (lv_at hl 2 rfl) ?_
        refine lv_aload_n hx hb dd_L_526 rfl (lv_at hl 0 rfl) ?_
        refine lv_iload_n hx hb dd_L_527 rfl (lv_at hl 3 rfl) ?_
        refine x_iconst hC dd_L_528 ?_
        refine x_add hC dd_L_529 ?_
        refine x_sld hx hb hX hbl hbA hS.2.2.1 hL (i := i + 1) ⟨by omega, by omega⟩ dd_L_530 ?_
        refine x_callVi hC hS (As := [.int (iI (xs (i + 1).toNat).toInt)]) (rest := [.int (iI r1)]) hM0.1 rfl cv_M_kinds (mt_M_kinds l _ hC.2.2.1 hM0 ((xs (i + 1).toNat).toInt) (rng _) M1 hm_M1 _ _ hw) tb_748 rfl rfl ⟨Nat.le_of_ble_eq_true rfl, Nat.le_of_ble_eq_true rfl⟩ rfl hl.1 (Nat.le_of_ble_eq_true rfl) dd_L_531 ⟨Nat.le_of_ble_eq_true rfl, Nat.le_of_ble_eq_true rfl⟩ rfl (fun r2 M2 H locs rr2 hw hS => ?_)
        have hm_M2 := hS.2.2.2
        obtain ⟨he, hI2⟩ := hw
        refine x_icmp_eq hC rr1 rr2 (tgt := 641) dd_L_534 (by decide) (fun c_ => ?_) (fun c_ => ?_)
        · exact go M2 _ _ _ hI2 hS hl
        · exact absurd he c_
      · refine x_tin hC 15 rz hz dd_L_32 (by decide) (by decide) rfl (by decide) (tgt := 539) ?_
        refine lv_aload_n hx hb dd_L_539 rfl (lv_at hl 1 rfl) ?_
        refine lv_aload_n hx hb dd_L_540 rfl (lv_at hl 0 rfl) ?_
        refine lv_iload_n hx hb dd_L_541 rfl (lv_at hl 3 rfl) ?_
        refine x_iconst hC dd_L_542 ?_
        refine x_add hC dd_L_543 ?_
        refine x_sld hx hb hX hbl hbA hS.2.2.1 hL (i := i + 1) ⟨by omega, by omega⟩ dd_L_544 ?_
        refine lv_aload_n hx hb dd_L_545 rfl (lv_at hl 0 rfl) ?_
        refine lv_iload_n hx hb dd_L_546 rfl (lv_at hl 3 rfl) ?_
        refine x_iconst hC dd_L_547 ?_
        refine x_add hC dd_L_548 ?_
        refine x_sld hx hb hX hbl hbA hS.2.2.1 hL (i := i + 2) ⟨by omega, by omega⟩ dd_L_549 ?_
        have hw := h_by M hm_M hI ((xs (i + 1).toNat).toInt) (rng _) ((xs (i + 2).toNat).toInt) (rng _)
        refine x_callVi hC hS (As := [.int (iI (xs (i + 1).toNat).toInt), .int (iI (xs (i + 2).toNat).toInt)]) (rest := []) hT0.1 rfl cv_T_by (mt_T_by l _ hC.2.2.1 hT0 ((xs (i + 1).toNat).toInt) (rng _) ((xs (i + 2).toNat).toInt) (rng _) M hm_M _ _ hw) tb_443 rfl rfl ⟨Nat.le_of_ble_eq_true rfl, Nat.le_of_ble_eq_true rfl⟩ rfl hl.1 (Nat.le_of_ble_eq_true rfl) dd_L_550 ⟨Nat.le_of_ble_eq_true rfl, Nat.le_of_ble_eq_true rfl⟩ rfl (fun r1 M1 H locs rr1 hw hS => ?_)
        have hm_M1 := hS.2.2.2
        refine lv_aload_n hx hb dd_L_553 rfl (lv_at hl 2 rfl) ?_
        refine lv_aload_n hx hb dd_L_554 rfl (lv_at hl 0 rfl) ?_
        refine lv_iload_n hx hb dd_L_555 rfl (lv_at hl 3 rfl) ?_
        refine x_iconst hC dd_L_556 ?_
        refine x_add hC dd_L_557 ?_
        refine x_sld hx hb hX hbl hbA hS.2.2.1 hL (i := i + 1) ⟨by omega, by omega⟩ dd_L_558 ?_
        refine lv_aload_n hx hb dd_L_559 rfl (lv_at hl 0 rfl) ?_
        refine lv_iload_n hx hb dd_L_560 rfl (lv_at hl 3 rfl) ?_
        refine x_iconst hC dd_L_561 ?_
        refine x_add hC dd_L_562 ?_
        refine x_sld hx hb hX hbl hbA hS.2.2.1 hL (i := i + 2) ⟨by omega, by omega⟩ dd_L_563 ?_
        refine x_callVi hC hS (As := [.int (iI (xs (i + 1).toNat).toInt), .int (iI (xs (i + 2).toNat).toInt)]) (rest := [.int (iI r1)]) hM0.1 rfl cv_M_by (mt_M_by l _ hC.2.2.1 hM0 ((xs (i + 1).toNat).toInt) (rng _) ((xs (i + 2).toNat).toInt) (rng _) M1 hm_M1 _ _ hw) tb_756 rfl rfl ⟨Nat.le_of_ble_eq_true rfl, Nat.le_of_ble_eq_true rfl⟩ rfl hl.1 (Nat.le_of_ble_eq_true rfl) dd_L_564 ⟨Nat.le_of_ble_eq_true rfl, Nat.le_of_ble_eq_true rfl⟩ rfl (fun r2 M2 H locs rr2 hw hS => ?_)
        have hm_M2 := hS.2.2.2
        obtain ⟨he, hI2⟩ := hw
        refine x_icmp_eq hC rr1 rr2 (tgt := 641) dd_L_567 (by decide) (fun c_ => ?_) (fun c_ => ?_)
        · exact go M2 _ _ _ hI2 hS hl
        · exact absurd he c_
      · refine x_tin hC 16 rz hz dd_L_32 (by decide) (by decide) rfl (by decide) (tgt := 572) ?_
        refine lv_aload_n hx hb dd_L_572 rfl (lv_at hl 1 rfl) ?_
        refine lv_aload_n hx hb dd_L_573 rfl (lv_at hl 0 rfl) ?_
        refine lv_iload_n hx hb dd_L_574 rfl (lv_at hl 3 rfl) ?_
        refine x_iconst hC dd_L_575 ?_
        refine x_add hC dd_L_576 ?_
        refine x_sld hx hb hX hbl hbA hS.2.2.1 hL (i := i + 1) ⟨by omega, by omega⟩ dd_L_577 ?_
        have hw := h_image M hm_M hI ((xs (i + 1).toNat).toInt) (rng _)
        refine x_callVi hC hS (As := [.int (iI (xs (i + 1).toNat).toInt)]) (rest := []) hT0.1 rfl cv_T_image (mt_T_image l _ hC.2.2.1 hT0 ((xs (i + 1).toNat).toInt) (rng _) M hm_M _ _ hw) tb_452 rfl rfl ⟨Nat.le_of_ble_eq_true rfl, Nat.le_of_ble_eq_true rfl⟩ rfl hl.1 (Nat.le_of_ble_eq_true rfl) dd_L_578 ⟨Nat.le_of_ble_eq_true rfl, Nat.le_of_ble_eq_true rfl⟩ rfl (fun r1 M1 H locs rr1 hw hS => ?_)
        have hm_M1 := hS.2.2.2
        refine lv_aload_n hx hb dd_L_581 rfl (lv_at hl 2 rfl) ?_
        refine lv_aload_n hx hb dd_L_582 rfl (lv_at hl 0 rfl) ?_
        refine lv_iload_n hx hb dd_L_583 rfl (lv_at hl 3 rfl) ?_
        refine x_iconst hC dd_L_584 ?_
        refine x_add hC dd_L_585 ?_
        refine x_sld hx hb hX hbl hbA hS.2.2.1 hL (i := i + 1) ⟨by omega, by omega⟩ dd_L_586 ?_
        refine x_callVi hC hS (As := [.int (iI (xs (i + 1).toNat).toInt)]) (rest := [.int (iI r1)]) hM0.1 rfl cv_M_image (mt_M_image l _ hC.2.2.1 hM0 ((xs (i + 1).toNat).toInt) (rng _) M1 hm_M1 _ _ hw) tb_760 rfl rfl ⟨Nat.le_of_ble_eq_true rfl, Nat.le_of_ble_eq_true rfl⟩ rfl hl.1 (Nat.le_of_ble_eq_true rfl) dd_L_587 ⟨Nat.le_of_ble_eq_true rfl, Nat.le_of_ble_eq_true rfl⟩ rfl (fun r2 M2 H locs rr2 hw hS => ?_)
        have hm_M2 := hS.2.2.2
        obtain ⟨he, hI2⟩ := hw
        refine x_icmp_eq hC rr1 rr2 (tgt := 641) dd_L_590 (by decide) (fun c_ => ?_) (fun c_ => ?_)
        · exact go M2 _ _ _ hI2 hS hl
        · exact absurd he c_
      · refine x_tin hC 17 rz hz dd_L_32 (by decide) (by decide) rfl (by decide) (tgt := 595) ?_
        refine lv_aload_n hx hb dd_L_595 rfl (lv_at hl 1 rfl) ?_
        refine lv_aload_n hx hb dd_L_596 rfl (lv_at hl 0 rfl) ?_
        refine lv_iload_n hx hb dd_L_597 rfl (lv_at hl 3 rfl) ?_
        refine x_iconst hC dd_L_598 ?_
        refine x_add hC dd_L_599 ?_
        refine x_sld hx hb hX hbl hbA hS.2.2.1 hL (i := i + 1) ⟨by omega, by omega⟩ dd_L_600 ?_
        have hw := h_restore M hm_M hI ((xs (i + 1).toNat).toInt) (rng _)
        refine x_callVi hC hS (As := [.int (iI (xs (i + 1).toNat).toInt)]) (rest := []) hT0.1 rfl cv_T_restore (mt_T_restore l _ hC.2.2.1 hT0 ((xs (i + 1).toNat).toInt) (rng _) M hm_M _ _ hw) tb_468 rfl rfl ⟨Nat.le_of_ble_eq_true rfl, Nat.le_of_ble_eq_true rfl⟩ rfl hl.1 (Nat.le_of_ble_eq_true rfl) dd_L_601 ⟨Nat.le_of_ble_eq_true rfl, Nat.le_of_ble_eq_true rfl⟩ rfl (fun r1 M1 H locs rr1 hw hS => ?_)
        have hm_M1 := hS.2.2.2
        refine lv_aload_n hx hb dd_L_604 rfl (lv_at hl 2 rfl) ?_
        refine lv_aload_n hx hb dd_L_605 rfl (lv_at hl 0 rfl) ?_
        refine lv_iload_n hx hb dd_L_606 rfl (lv_at hl 3 rfl) ?_
        refine x_iconst hC dd_L_607 ?_
        refine x_add hC dd_L_608 ?_
        refine x_sld hx hb hX hbl hbA hS.2.2.1 hL (i := i + 1) ⟨by omega, by omega⟩ dd_L_609 ?_
        refine x_callVi hC hS (As := [.int (iI (xs (i + 1).toNat).toInt)]) (rest := [.int (iI r1)]) hM0.1 rfl cv_M_restore (mt_M_restore l _ hC.2.2.1 hM0 ((xs (i + 1).toNat).toInt) (rng _) M1 hm_M1 _ _ hw) tb_764 rfl rfl ⟨Nat.le_of_ble_eq_true rfl, Nat.le_of_ble_eq_true rfl⟩ rfl hl.1 (Nat.le_of_ble_eq_true rfl) dd_L_610 ⟨Nat.le_of_ble_eq_true rfl, Nat.le_of_ble_eq_true rfl⟩ rfl (fun r2 M2 H locs rr2 hw hS => ?_)
        have hm_M2 := hS.2.2.2
        obtain ⟨he, hI2⟩ := hw
        refine x_icmp_eq hC rr1 rr2 (tgt := 641) dd_L_613 (by decide) (fun c_ => ?_) (fun c_ => ?_)
        · exact go M2 _ _ _ hI2 hS hl
        · exact absurd he c_
      · refine x_tin hC 18 rz hz dd_L_32 (by decide) (by decide) rfl (by decide) (tgt := 618) ?_
        refine lv_aload_n hx hb dd_L_618 rfl (lv_at hl 1 rfl) ?_
        refine lv_aload_n hx hb dd_L_619 rfl (lv_at hl 0 rfl) ?_
        refine lv_iload_n hx hb dd_L_620 rfl (lv_at hl 3 rfl) ?_
        refine x_iconst hC dd_L_621 ?_
        refine x_add hC dd_L_622 ?_
        refine x_sld hx hb hX hbl hbA hS.2.2.1 hL (i := i + 1) ⟨by omega, by omega⟩ dd_L_623 ?_
        have hw := h_count M hm_M hI ((xs (i + 1).toNat).toInt) (rng _)
        refine x_callVi hC hS (As := [.int (iI (xs (i + 1).toNat).toInt)]) (rest := []) hT0.1 rfl cv_T_count (mt_T_count l _ hC.2.2.1 hT0 ((xs (i + 1).toNat).toInt) (rng _) M hm_M _ _ hw) tb_472 rfl rfl ⟨Nat.le_of_ble_eq_true rfl, Nat.le_of_ble_eq_true rfl⟩ rfl hl.1 (Nat.le_of_ble_eq_true rfl) dd_L_624 ⟨Nat.le_of_ble_eq_true rfl, Nat.le_of_ble_eq_true rfl⟩ rfl (fun r1 Mx H locs rr1 hp hS => ?_)
        obtain ⟨hq, hw⟩ := hp
        rw [hq] at hS
        refine lv_aload_n hx hb dd_L_627 rfl (lv_at hl 2 rfl) ?_
        refine lv_aload_n hx hb dd_L_628 rfl (lv_at hl 0 rfl) ?_
        refine lv_iload_n hx hb dd_L_629 rfl (lv_at hl 3 rfl) ?_
        refine x_iconst hC dd_L_630 ?_
        refine x_add hC dd_L_631 ?_
        refine x_sld hx hb hX hbl hbA hS.2.2.1 hL (i := i + 1) ⟨by omega, by omega⟩ dd_L_632 ?_
        refine x_callVi hC hS (As := [.int (iI (xs (i + 1).toNat).toInt)]) (rest := [.int (iI r1)]) hM0.1 rfl cv_M_count (mt_M_count l _ hC.2.2.1 hM0 ((xs (i + 1).toNat).toInt) (rng _) M hm_M _ _ hw) tb_768 rfl rfl ⟨Nat.le_of_ble_eq_true rfl, Nat.le_of_ble_eq_true rfl⟩ rfl hl.1 (Nat.le_of_ble_eq_true rfl) dd_L_633 ⟨Nat.le_of_ble_eq_true rfl, Nat.le_of_ble_eq_true rfl⟩ rfl (fun r2 Mx H locs rr2 hp hS => ?_)
        obtain ⟨hq, hw⟩ := hp
        rw [hq] at hS
        obtain ⟨he, hI2⟩ := hw
        refine x_icmp_eq hC rr1 rr2 (tgt := 641) dd_L_636 (by decide) (fun c_ => ?_) (fun c_ => ?_)
        · exact go M _ _ _ hI2 hS hl
        · exact absurd he c_
      · refine x_tout hC rz dd_L_32 hz (by decide) (tgt := 641) ?_
        exact go M _ _ _ hI hS hl
