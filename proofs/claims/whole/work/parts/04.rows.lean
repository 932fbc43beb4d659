section XR
variable {p : Program} {l : Launch} {e : Env} {R : Room} {s : State} {m : MethodId} {args : Array Value} {below : List Frame} {meth : Method} {c : Code} {H : Heap} {locs : List Loc} {cells slots : Nat} {Q : State → Prop}
variable {cc : ByteArray} {pc : Nat} {ls : Array Slot} {rest : List Value} {nL : Nat} {own : String} {X : Xw} {A : Nat → Prop} {M : Mm}
theorem x_get (hC : Cx p s m args c cc nL own X A) (hS : St X A s M H locs) {k ci N idx : Nat} {C nm ds : String} {T : u_T} {b : Bool} {fs : Mm → List Value} (ho : Ob X k ci fs) (hc : vc[ci]? = some (C, T, N)) (hin : ∀ w ∈ u_ws C T N, w ∈ tg) (j : Nat) (hj : j < N) (hlk : Cond.fieldLink own idx C nm ds ∈ tg) (e1 : T j = (C, nm, ds, b)) {v : Value} (hv : (fs M)[j]? = some v) (hd : decode cc pc = .ok (.getfield idx, 3))
    (kk : W p l e R s m args below meth c H locs cells slots Q (F0 m (pc + 3) ls (v :: rest))) : W p l e R s m args below meth c H locs cells slots Q (F0 m pc ls (.ref (xA X k) :: rest)) := by
  obtain ⟨⟨hx, hb, hml, hown, hts⟩, hK, hl, hA, hN⟩ := hC
  obtain ⟨q, hq⟩ := List.getElem?_of_mem ho.1
  refine va_get (D := xD X) (ci := ci) (v := v) (C := C) (T := T) (N := N) (fs := fs M) (ref := C) hx hb hts hin hown hK hS.1 q (by rw [wl_get hq, ho.2 M]) hc j hj (by rw [e1]; exact hts _ hlk) (by rw [e1]; exact fun _ h => h) hv hd kk
theorem x_put (hC : Cx p s m args c cc nL own X A) (hS : St X A s M H locs) {k ci N idx : Nat} {C nm ds : String} {T : u_T} {fs : Mm → List Value} (ho : Ob X k ci fs) (hc : vc[ci]? = some (C, T, N)) (hin : ∀ w ∈ u_ws C T N, w ∈ tg) (ty0 : Nat → FieldType) (hty : ∀ k, k < N → parseFieldDescriptor (T k).2.2.1 = some (ty0 k)) (hnm : ∀ a, a < N → ∀ b, b < N → a ≠ b → (T a).2.1 ≠ (T b).2.1) (j : Nat) (hj : j < N) (hlk : Cond.fieldLink own idx C nm ds ∈ tg) (e1 : T j = (C, nm, ds, false)) {v : Int} (hv : inR v) (hn : narrow (ty0 j) (.int (iI v)) = .int (iI v)) (hfit : fits (ty0 j) (.int (iI v)) = true) (hset : fs (ms M k j v) = (fs M).set j (.int (iI v))) (hlen : j < (fs M).length) (hd : decode cc pc = .ok (.putfield idx, 3))
    (kk : ∀ (H1 : Heap) (locs1 : List Loc), St X A s (ms M k j v) H1 locs1 → W p l e R s m args below meth c H1 locs1 cells slots Q (F0 m (pc + 3) ls rest)) : W p l e R s m args below meth c H locs cells slots Q (F0 m pc ls (.int (iI v) :: .ref (xA X k) :: rest)) := by
  obtain ⟨⟨hx, hb, hml, hown, hts⟩, hK, hl, hA, hN⟩ := hC
  obtain ⟨hP, hD, hSS, hr⟩ := hS
  obtain ⟨q, hq⟩ := List.getElem?_of_mem ho.1
  refine va_put (D := xD X) (ci := ci) (v := .int (iI v)) (ty := ty0 j) (C := C) (T := T) (N := N) (fs := fs M) (ref := C) hx hb hts hin ty0 hty hnm hown hK hP hD hSS q (by rw [wl_get hq, ho.2 M]) hc j hj (by rw [e1]; exact hts _ hlk) (by rw [e1]; exact fun _ h => h) (by rw [e1]) (hty j hj) hn hfit hlen hd (fun H1 locs1 hP1 hD1 hS1 => ?_)
  have e2 : (wl X M).set q (xA X k, .inr (ci, (fs M).set j (.int (iI v)))) = wl X (ms M k j v) := wl_set hl hq (by rw [ho.2, hset]) (fun a ha => ms_o M j v ha)
  rw [e2] at hP1 hD1
  exact kk H1 locs1 ⟨hP1, hD1, hS1, ms_r hr hv⟩

theorem x_iald (hC : Cx p s m args c cc nL own X A) (hS : St X A s M H locs) {k n : Nat} (ha : AI X k n) {i : Int} (hi : 0 ≤ i ∧ i < (n : Int)) (hd : decode cc pc = .ok (.iaload, 1))
    (kk : W p l e R s m args below meth c H locs cells slots Q (F0 m (pc + 1) ls (.int (iI (M k i.toNat)) :: rest))) : W p l e R s m args below meth c H locs cells slots Q (F0 m pc ls (.int (iI i) :: .ref (xA X k) :: rest)) := by
  obtain ⟨⟨hx, hb, hml, hown, hts⟩, hK, hl, hA, hN⟩ := hC
  obtain ⟨hk, hn, cA, hcA, hsh⟩ := ha
  obtain ⟨q, hq⟩ := List.getElem?_of_mem hk
  obtain ⟨t, ht⟩ := List.getElem?_of_mem hcA
  refine va_iald hx hb hK hS.1 q t (by rw [wl_get hq, hsh M]) ht (iI_in hi hn) hd ?_
  rw [iI_clamp (inR_ix hi hn)]
  exact kk

theorem x_zald (hC : Cx p s m args c cc nL own X A) (hS : St X A s M H locs) {k n : Nat} (ha : AZ X k n) {i : Int} (hi : 0 ≤ i ∧ i < (n : Int)) (hd : decode cc pc = .ok (.baload, 1))
    (kk : W p l e R s m args below meth c H locs cells slots Q (F0 m (pc + 1) ls (.int (iI (M k i.toNat)) :: rest))) : W p l e R s m args below meth c H locs cells slots Q (F0 m pc ls (.int (iI i) :: .ref (xA X k) :: rest)) := by
  obtain ⟨⟨hx, hb, hml, hown, hts⟩, hK, hl, hA, hN⟩ := hC
  obtain ⟨hk, hn, cA, hcA, hsh⟩ := ha
  obtain ⟨q, hq⟩ := List.getElem?_of_mem hk
  obtain ⟨t, ht⟩ := List.getElem?_of_mem hcA
  refine va_zald hx hb hK hS.1 q t (by rw [wl_get hq, hsh M]) ht (iI_in hi hn) hd ?_
  rw [iI_clamp (inR_ix hi hn)]
  exact kk

theorem upd_ms {M : Mm} {k j : Nat} {v : Int} : upd (fun b => iI (M k b)) j (iI v) = fun b => iI (ms M k j v k b) := by
  funext b
  unfold upd
  by_cases h : b = j
  · rw [if_pos h, h, ms_self]
  · rw [if_neg h, ms_ne M v h]
theorem x_iast (hC : Cx p s m args c cc nL own X A) (hS : St X A s M H locs) {k n : Nat} (ha : AI X k n) {i v : Int} (hi : 0 ≤ i ∧ i < (n : Int)) (hv : inR v) (hd : decode cc pc = .ok (.iastore, 1))
    (kk : ∀ (H1 : Heap) (locs1 : List Loc), St X A s (ms M k i.toNat v) H1 locs1 → W p l e R s m args below meth c H1 locs1 cells slots Q (F0 m (pc + 1) ls rest)) : W p l e R s m args below meth c H locs cells slots Q (F0 m pc ls (.int (iI v) :: .int (iI i) :: .ref (xA X k) :: rest)) := by
  obtain ⟨⟨hx, hb, hml, hown, hts⟩, hK, hl, hA, hN⟩ := hC
  obtain ⟨hP, hD, hSS, hr⟩ := hS
  obtain ⟨hk, hn, cA, hcA, hsh⟩ := ha
  obtain ⟨q, hq⟩ := List.getElem?_of_mem hk
  obtain ⟨t, ht⟩ := List.getElem?_of_mem hcA
  refine va_iast hx hb hK hP hD hSS q t (by rw [wl_get hq, hsh M]) ht (iI_in hi hn) hd (fun H1 locs1 hP1 hD1 hS1 => ?_)
  rw [iI_clamp (inR_ix hi hn), upd_ms] at hP1 hD1
  have e2 : (wl X M).set q (xA X k, .inl (cA, n, .inl (fun b => iI (ms M k i.toNat v k b)))) = wl X (ms M k i.toNat v) := wl_set hl hq (by rw [hsh]) (fun a ha => ms_o M _ v ha)
  rw [e2] at hP1 hD1
  exact kk H1 locs1 ⟨hP1, hD1, hS1, ms_r hr hv⟩
theorem x_zast (hC : Cx p s m args c cc nL own X A) (hS : St X A s M H locs) {k n : Nat} (ha : AZ X k n) {i v : Int} (hi : 0 ≤ i ∧ i < (n : Int)) (hv : inR v) (hz : vp_nar .boolean (iI v) = iI v) (hd : decode cc pc = .ok (.bastore, 1))
    (kk : ∀ (H1 : Heap) (locs1 : List Loc), St X A s (ms M k i.toNat v) H1 locs1 → W p l e R s m args below meth c H1 locs1 cells slots Q (F0 m (pc + 1) ls rest)) : W p l e R s m args below meth c H locs cells slots Q (F0 m pc ls (.int (iI v) :: .int (iI i) :: .ref (xA X k) :: rest)) := by
  obtain ⟨⟨hx, hb, hml, hown, hts⟩, hK, hl, hA, hN⟩ := hC
  obtain ⟨hP, hD, hSS, hr⟩ := hS
  obtain ⟨hk, hn, cA, hcA, hsh⟩ := ha
  obtain ⟨q, hq⟩ := List.getElem?_of_mem hk
  obtain ⟨t, ht⟩ := List.getElem?_of_mem hcA
  refine va_zast hx hb hK hP hD hSS q t (by rw [wl_get hq, hsh M]) ht (iI_in hi hn) hd (fun H1 locs1 hP1 hD1 hS1 => ?_)
  rw [iI_clamp (inR_ix hi hn), hz, upd_ms] at hP1 hD1
  have e2 : (wl X M).set q (xA X k, .inl (cA, n, .inl (fun b => iI (ms M k i.toNat v k b)))) = wl X (ms M k i.toNat v) := wl_set hl hq (by rw [hsh]) (fun a ha => ms_o M _ v ha)
  rw [e2] at hP1 hD1
  exact kk H1 locs1 ⟨hP1, hD1, hS1, ms_r hr hv⟩
theorem x_alen (hC : Cx p s m args c cc nL own X A) (hS : St X A s M H locs) {k n : Nat} {z : Int} (ha : AI X k n) (hz : (n : Int) = z) (hd : decode cc pc = .ok (.arraylength, 1))
    (kk : W p l e R s m args below meth c H locs cells slots Q (F0 m (pc + 1) ls (.int (iI z) :: rest))) : W p l e R s m args below meth c H locs cells slots Q (F0 m pc ls (.ref (xA X k) :: rest)) := by
  obtain ⟨⟨hx, hb, hml, hown, hts⟩, hK, hl, hA, hN⟩ := hC
  obtain ⟨hk, hn, cA, hcA, hsh⟩ := ha
  obtain ⟨q, hq⟩ := List.getElem?_of_mem hk
  obtain ⟨t, ht⟩ := List.getElem?_of_mem hcA
  refine va_alen (v := iI z) hx hb hK hS.1 q t (x := (n, .inl (fun j => iI (M k j)))) (by rw [wl_get hq, hsh M]) ht (by rw [← hz, iI_nat]; rfl) hd kk
theorem x_aald (hC : Cx p s m args c cc nL own X A) (hS : St X A s M H locs) {k n a : Nat} {f : Nat → Option Nat} (ha : AQ X k n f) {i : Int} (hi : 0 ≤ i ∧ i < (n : Int)) (hf : f i.toNat = some a) (hd : decode cc pc = .ok (.aaload, 1))
    (kk : W p l e R s m args below meth c H locs cells slots Q (F0 m (pc + 1) ls (.ref a :: rest))) : W p l e R s m args below meth c H locs cells slots Q (F0 m pc ls (.int (iI i) :: .ref (xA X k) :: rest)) := by
  obtain ⟨⟨hx, hb, hml, hown, hts⟩, hK, hl, hA, hN⟩ := hC
  obtain ⟨hk, hn, cA, hcA, hsh⟩ := ha
  obtain ⟨q, hq⟩ := List.getElem?_of_mem hk
  obtain ⟨t, ht⟩ := List.getElem?_of_mem hcA
  refine va_aldq (C := "TurnCounts$Setting") (f := f) hx hb hK hS.1 q t (by rw [wl_get hq, hsh M]) ht (iI_in hi hn) hd ?_
  rw [iI_clamp (inR_ix hi hn), hf]
  exact kk
theorem cpy_mc {M : Mm} {k1 sp k2 dp n : Nat} : va_cpy (fun b => iI (M k1 b)) (fun b => iI (M k2 b)) sp dp n = fun b => iI (mc M k1 sp k2 dp n k2 b) := by
  funext b
  unfold va_cpy mc
  rw [if_pos rfl]
  split <;> rfl
theorem x_copy (hC : Cx p s m args c cc nL own X A) (hS : St X A s M H locs) {k1 k2 n1 n2 idx : Nat} (ha1 : AI X k1 n1) (ha2 : AI X k2 n2) {sp dp n : Int} (h1 : 0 ≤ sp) (h2 : 0 ≤ dp) (h3 : 0 ≤ n) (h4 : sp + n ≤ (n1 : Int)) (h5 : dp + n ≤ (n2 : Int)) (hls : ls.size = nL)
    (hlk : Cond.methodLink own idx arraycopyName ∈ tg) (hnat : Cond.native arraycopyName ∈ tg) (hst : Cond.static arraycopyName ∈ tg) (hini : Cond.initialized "java/lang/System" ∈ tg) (hframes : 1 ≤ R.frames) (hlocals : (rest.map fun v => v.category).sum + (nativeFrameWords "java/lang/System" "arraycopy" 5 + 11) ≤ R.locals) (hd : decode cc pc = .ok (.invokestatic idx, 3))
    (kk : ∀ (H1 : Heap) (locs1 : List Loc), St X A s (mc M k1 sp.toNat k2 dp.toNat n.toNat) H1 locs1 → W p l e R s m args below meth c H1 locs1 cells slots Q (F0 m (pc + 3) ls rest)) : W p l e R s m args below meth c H locs cells slots Q (F0 m pc ls (.int (iI n) :: .int (iI dp) :: .ref (xA X k2) :: .int (iI sp) :: .ref (xA X k1) :: rest)) := by
  obtain ⟨⟨hx, hb, hml, hown, hts⟩, hK, hl, hA, hN⟩ := hC
  obtain ⟨hP, hD, hSS, hr⟩ := hS
  obtain ⟨hk1, hn1, c1, hc1, hsh1⟩ := ha1
  obtain ⟨hk2, hn2, c2, hc2, hsh2⟩ := ha2
  obtain ⟨q1, hq1⟩ := List.getElem?_of_mem hk1
  obtain ⟨t1, ht1⟩ := List.getElem?_of_mem hc1
  obtain ⟨q2, hq2⟩ := List.getElem?_of_mem hk2
  obtain ⟨t2, ht2⟩ := List.getElem?_of_mem hc2
  have r1 : inR sp := ⟨by omega, by omega⟩
  have r2 : inR dp := ⟨by omega, by omega⟩
  have r3 : inR n := ⟨by omega, by omega⟩
  have z0 : ∀ {x : Int}, inR x → 0 ≤ x → ¬ iI x < 0 := fun {x} hx h0 h => by
    have h9 : iI x < iI 0 := h
    rw [iI_lt hx (rk rfl)] at h9
    omega
  refine va_copyi (ty := .int) hx hb (by rw [hml, hls]) hown (hts _ hlk) (hts _ hnat) (hts _ hst) (hts _ hini) hK hP hD hSS q1 q2 t1 t2 (by rw [wl_get hq1, hsh1 M]) (by rw [wl_get hq2, hsh2 M]) ht1 ht2 rfl (z0 r1 h1) (z0 r2 h2) (z0 r3 h3) (by rw [iI_clamp r1, iI_clamp r3]; omega) (by rw [iI_clamp r2, iI_clamp r3]; omega) (fun i _ => rfl) hframes hlocals hd (fun H1 locs1 hP1 hD1 hS1 => ?_)
  rw [iI_clamp r1, iI_clamp r2, iI_clamp r3, cpy_mc] at hP1 hD1
  have e2 : (wl X M).set q2 (xA X k2, .inl (c2, n2, .inl (fun b => iI (mc M k1 sp.toNat k2 dp.toNat n.toNat k2 b)))) = wl X (mc M k1 sp.toNat k2 dp.toNat n.toNat) := wl_set hl hq2 (by rw [hsh2]) (fun a ha => mc_o M _ _ _ _ ha)
  rw [e2] at hP1 hD1
  exact kk H1 locs1 ⟨hP1, hD1, hS1, mc_r hr⟩

theorem x_add (hC : Cx p s m args c cc nL own X A) {a b : Int} (hd : decode cc pc = .ok (.iadd, 1)) (kk : W p l e R s m args below meth c H locs cells slots Q (F0 m (pc + 1) ls (.int (iI (a + b)) :: rest))) : W p l e R s m args below meth c H locs cells slots Q (F0 m pc ls (.int (iI b) :: .int (iI a) :: rest)) := lv_iadd hC.1.1 hC.1.2.1 hd (by rw [iI_add]; exact kk)

theorem x_sub (hC : Cx p s m args c cc nL own X A) {a b : Int} (hd : decode cc pc = .ok (.isub, 1)) (kk : W p l e R s m args below meth c H locs cells slots Q (F0 m (pc + 1) ls (.int (iI (a - b)) :: rest))) : W p l e R s m args below meth c H locs cells slots Q (F0 m pc ls (.int (iI b) :: .int (iI a) :: rest)) := lv_isub hC.1.1 hC.1.2.1 hd (by rw [iI_sub]; exact kk)

theorem x_mul (hC : Cx p s m args c cc nL own X A) {a b : Int} (hd : decode cc pc = .ok (.imul, 1)) (kk : W p l e R s m args below meth c H locs cells slots Q (F0 m (pc + 1) ls (.int (iI (a * b)) :: rest))) : W p l e R s m args below meth c H locs cells slots Q (F0 m pc ls (.int (iI b) :: .int (iI a) :: rest)) := lv_imul hC.1.1 hC.1.2.1 hd (by rw [iI_mul]; exact kk)

theorem x_div (hC : Cx p s m args c cc nL own X A) {a b : Int} (ha : inR a) (hb : inR b) (h : 0 ≤ a ∧ 0 < b) (hd : decode cc pc = .ok (.idiv, 1)) (kk : W p l e R s m args below meth c H locs cells slots Q (F0 m (pc + 1) ls (.int (iI (a / b)) :: rest))) : W p l e R s m args below meth c H locs cells slots Q (F0 m pc ls (.int (iI b) :: .int (iI a) :: rest)) := lv_idiv hC.1.1 hC.1.2.1 hd (iI_ne0 hb h.2) (by rw [iI_div ha hb h.1 h.2]; exact kk)
theorem x_rem (hC : Cx p s m args c cc nL own X A) {a b : Int} (ha : inR a) (hb : inR b) (h : 0 ≤ a ∧ 0 < b) (hd : decode cc pc = .ok (.irem, 1)) (kk : W p l e R s m args below meth c H locs cells slots Q (F0 m (pc + 1) ls (.int (iI (a % b)) :: rest))) : W p l e R s m args below meth c H locs cells slots Q (F0 m pc ls (.int (iI b) :: .int (iI a) :: rest)) := lv_irem hC.1.1 hC.1.2.1 hd (iI_ne0 hb h.2) (by rw [iI_rem ha hb h.1 h.2]; exact kk)

theorem x_shl (hC : Cx p s m args c cc nL own X A) {a b : Int} (hd : decode cc pc = .ok (.ishl, 1)) (kk : W p l e R s m args below meth c H locs cells slots Q (F0 m (pc + 1) ls (.int (iI (bShl a b)) :: rest))) : W p l e R s m args below meth c H locs cells slots Q (F0 m pc ls (.int (iI b) :: .int (iI a) :: rest)) := lv_ishl hC.1.1 hC.1.2.1 hd (by rw [bShl, iI_of] at kk; exact kk)

theorem x_shr (hC : Cx p s m args c cc nL own X A) {a b : Int} (hd : decode cc pc = .ok (.ishr, 1)) (kk : W p l e R s m args below meth c H locs cells slots Q (F0 m (pc + 1) ls (.int (iI (bShr a b)) :: rest))) : W p l e R s m args below meth c H locs cells slots Q (F0 m pc ls (.int (iI b) :: .int (iI a) :: rest)) := lv_ishr hC.1.1 hC.1.2.1 hd (by rw [bShr, iI_of] at kk; exact kk)

theorem x_and (hC : Cx p s m args c cc nL own X A) {a b : Int} (hd : decode cc pc = .ok (.iand, 1)) (kk : W p l e R s m args below meth c H locs cells slots Q (F0 m (pc + 1) ls (.int (iI (bAnd a b)) :: rest))) : W p l e R s m args below meth c H locs cells slots Q (F0 m pc ls (.int (iI b) :: .int (iI a) :: rest)) := lv_iand hC.1.1 hC.1.2.1 hd (by rw [bAnd, iI_of] at kk; exact kk)

theorem x_or (hC : Cx p s m args c cc nL own X A) {a b : Int} (hd : decode cc pc = .ok (.ior, 1)) (kk : W p l e R s m args below meth c H locs cells slots Q (F0 m (pc + 1) ls (.int (iI (bOr a b)) :: rest))) : W p l e R s m args below meth c H locs cells slots Q (F0 m pc ls (.int (iI b) :: .int (iI a) :: rest)) := lv_ior hC.1.1 hC.1.2.1 hd (by rw [bOr, iI_of] at kk; exact kk)

theorem x_xor (hC : Cx p s m args c cc nL own X A) {a b : Int} (hd : decode cc pc = .ok (.ixor, 1)) (kk : W p l e R s m args below meth c H locs cells slots Q (F0 m (pc + 1) ls (.int (iI (bXor a b)) :: rest))) : W p l e R s m args below meth c H locs cells slots Q (F0 m pc ls (.int (iI b) :: .int (iI a) :: rest)) := lv_ixor hC.1.1 hC.1.2.1 hd (by rw [bXor, iI_of] at kk; exact kk)

theorem x_ushr (hC : Cx p s m args c cc nL own X A) {a b : Int} (hd : decode cc pc = .ok (.iushr, 1)) (kk : W p l e R s m args below meth c H locs cells slots Q (F0 m (pc + 1) ls (.int (iI (bUshr a b)) :: rest))) : W p l e R s m args below meth c H locs cells slots Q (F0 m pc ls (.int (iI b) :: .int (iI a) :: rest)) := lv_iushr hC.1.1 hC.1.2.1 hd rfl (by rw [bUshr, iI_of] at kk; exact kk)
theorem x_iconst (hC : Cx p s m args c cc nL own X A) {n : Int} (hd : decode cc pc = .ok (.iconst n, 1)) (kk : W p l e R s m args below meth c H locs cells slots Q (F0 m (pc + 1) ls (.int (iI n) :: rest))) : W p l e R s m args below meth c H locs cells slots Q (F0 m pc ls rest) := lv_iconst hC.1.1 hC.1.2.1 hd rfl kk
theorem x_bipush (hC : Cx p s m args c cc nL own X A) {n : Int} (hd : decode cc pc = .ok (.bipush n, 2)) (hn : (Int8.ofInt n).toInt32 = iI n) (kk : W p l e R s m args below meth c H locs cells slots Q (F0 m (pc + 2) ls (.int (iI n) :: rest))) : W p l e R s m args below meth c H locs cells slots Q (F0 m pc ls rest) := lv_bipush hC.1.1 hC.1.2.1 hd hn kk
theorem x_sipush (hC : Cx p s m args c cc nL own X A) {n : Int} (hd : decode cc pc = .ok (.sipush n, 3)) (hn : (Int16.ofInt n).toInt32 = iI n) (kk : W p l e R s m args below meth c H locs cells slots Q (F0 m (pc + 3) ls (.int (iI n) :: rest))) : W p l e R s m args below meth c H locs cells slots Q (F0 m pc ls rest) := lv_sipush hC.1.1 hC.1.2.1 hd hn kk
theorem x_ldc (hC : Cx p s m args c cc nL own X A) {idx : Nat} {v : Int32} {n : Int} (hk : Cond.constant own idx v ∈ tg) (hn : v = iI n) (hd : decode cc pc = .ok (.ldc idx, 2)) (kk : W p l e R s m args below meth c H locs cells slots Q (F0 m (pc + 2) ls (.int (iI n) :: rest))) : W p l e R s m args below meth c H locs cells slots Q (F0 m pc ls rest) := lv_ldc hC.1.1 hC.1.2.1 hC.1.2.2.2.1 (hC.1.2.2.2.2 _ hk) hd (by rw [hn]; exact kk)
theorem x_ldcw (hC : Cx p s m args c cc nL own X A) {idx : Nat} {v : Int32} {n : Int} (hk : Cond.constant own idx v ∈ tg) (hn : v = iI n) (hd : decode cc pc = .ok (.ldc_w idx, 3)) (kk : W p l e R s m args below meth c H locs cells slots Q (F0 m (pc + 3) ls (.int (iI n) :: rest))) : W p l e R s m args below meth c H locs cells slots Q (F0 m pc ls rest) := lv_ldcw hC.1.1 hC.1.2.1 hC.1.2.2.2.1 (hC.1.2.2.2.2 _ hk) hd (by rw [hn]; exact kk)
/-- a number gets a name -/
theorem x_nm {a : Int} (ha : inR a) (kk : ∀ y : Int, inR y → y = a → W p l e R s m args below meth c H locs cells slots Q (F0 m pc ls (.int (iI y) :: rest))) : W p l e R s m args below meth c H locs cells slots Q (F0 m pc ls (.int (iI a) :: rest)) := kk a ha rfl

theorem x_icmp_eq (hC : Cx p s m args c cc nL own X A) {a b : Int} (ha : inR a) (hb : inR b) {off : Int} {tgt : Nat} (hd : decode cc pc = .ok (.if_icmp .eq off, 3)) (ht : (pc : Int) + off = (tgt : Int)) (kt : a = b → W p l e R s m args below meth c H locs cells slots Q (F0 m tgt ls rest)) (kf : ¬ a = b → W p l e R s m args below meth c H locs cells slots Q (F0 m (pc + 3) ls rest)) : W p l e R s m args below meth c H locs cells slots Q (F0 m pc ls (.int (iI b) :: .int (iI a) :: rest)) := lv_icmp_eq hC.1.1 hC.1.2.1 hd ht (fun h => kt ((iI_inj ha hb).mp h)) (fun h => kf (fun q => h ((iI_inj ha hb).mpr q)))

theorem x_if_eq (hC : Cx p s m args c cc nL own X A) {a : Int} (ha : inR a) {off : Int} {tgt : Nat} (hd : decode cc pc = .ok (.ifCond .eq off, 3)) (ht : (pc : Int) + off = (tgt : Int)) (kt : a = 0 → W p l e R s m args below meth c H locs cells slots Q (F0 m tgt ls rest)) (kf : ¬ a = 0 → W p l e R s m args below meth c H locs cells slots Q (F0 m (pc + 3) ls rest)) : W p l e R s m args below meth c H locs cells slots Q (F0 m pc ls (.int (iI a) :: rest)) := by
  have hb : inR 0 := rk rfl
  exact lv_if_eq hC.1.1 hC.1.2.1 hd ht (fun h => kt ((iI_inj ha hb).mp h)) (fun h => kf (fun q => h ((iI_inj ha hb).mpr q)))

theorem x_icmp_ne (hC : Cx p s m args c cc nL own X A) {a b : Int} (ha : inR a) (hb : inR b) {off : Int} {tgt : Nat} (hd : decode cc pc = .ok (.if_icmp .ne off, 3)) (ht : (pc : Int) + off = (tgt : Int)) (kt : ¬ a = b → W p l e R s m args below meth c H locs cells slots Q (F0 m tgt ls rest)) (kf : a = b → W p l e R s m args below meth c H locs cells slots Q (F0 m (pc + 3) ls rest)) : W p l e R s m args below meth c H locs cells slots Q (F0 m pc ls (.int (iI b) :: .int (iI a) :: rest)) := lv_icmp_ne hC.1.1 hC.1.2.1 hd ht (fun h => kt ((not_congr (iI_inj ha hb)).mp h)) (fun h => kf ((iI_inj ha hb).mp h))

theorem x_if_ne (hC : Cx p s m args c cc nL own X A) {a : Int} (ha : inR a) {off : Int} {tgt : Nat} (hd : decode cc pc = .ok (.ifCond .ne off, 3)) (ht : (pc : Int) + off = (tgt : Int)) (kt : ¬ a = 0 → W p l e R s m args below meth c H locs cells slots Q (F0 m tgt ls rest)) (kf : a = 0 → W p l e R s m args below meth c H locs cells slots Q (F0 m (pc + 3) ls rest)) : W p l e R s m args below meth c H locs cells slots Q (F0 m pc ls (.int (iI a) :: rest)) := by
  have hb : inR 0 := rk rfl
  exact lv_if_ne hC.1.1 hC.1.2.1 hd ht (fun h => kt ((not_congr (iI_inj ha hb)).mp h)) (fun h => kf ((iI_inj ha hb).mp h))

theorem x_icmp_lt (hC : Cx p s m args c cc nL own X A) {a b : Int} (ha : inR a) (hb : inR b) {off : Int} {tgt : Nat} (hd : decode cc pc = .ok (.if_icmp .lt off, 3)) (ht : (pc : Int) + off = (tgt : Int)) (kt : a < b → W p l e R s m args below meth c H locs cells slots Q (F0 m tgt ls rest)) (kf : ¬ a < b → W p l e R s m args below meth c H locs cells slots Q (F0 m (pc + 3) ls rest)) : W p l e R s m args below meth c H locs cells slots Q (F0 m pc ls (.int (iI b) :: .int (iI a) :: rest)) := lv_icmp_lt hC.1.1 hC.1.2.1 hd ht (fun h => kt ((iI_lt ha hb).mp h)) (fun h => kf (fun q => h ((iI_lt ha hb).mpr q)))

theorem x_if_lt (hC : Cx p s m args c cc nL own X A) {a : Int} (ha : inR a) {off : Int} {tgt : Nat} (hd : decode cc pc = .ok (.ifCond .lt off, 3)) (ht : (pc : Int) + off = (tgt : Int)) (kt : a < 0 → W p l e R s m args below meth c H locs cells slots Q (F0 m tgt ls rest)) (kf : ¬ a < 0 → W p l e R s m args below meth c H locs cells slots Q (F0 m (pc + 3) ls rest)) : W p l e R s m args below meth c H locs cells slots Q (F0 m pc ls (.int (iI a) :: rest)) := by
  have hb : inR 0 := rk rfl
  exact lv_if_lt hC.1.1 hC.1.2.1 hd ht (fun h => kt ((iI_lt ha hb).mp h)) (fun h => kf (fun q => h ((iI_lt ha hb).mpr q)))

theorem x_icmp_ge (hC : Cx p s m args c cc nL own X A) {a b : Int} (ha : inR a) (hb : inR b) {off : Int} {tgt : Nat} (hd : decode cc pc = .ok (.if_icmp .ge off, 3)) (ht : (pc : Int) + off = (tgt : Int)) (kt : b ≤ a → W p l e R s m args below meth c H locs cells slots Q (F0 m tgt ls rest)) (kf : ¬ b ≤ a → W p l e R s m args below meth c H locs cells slots Q (F0 m (pc + 3) ls rest)) : W p l e R s m args below meth c H locs cells slots Q (F0 m pc ls (.int (iI b) :: .int (iI a) :: rest)) := lv_icmp_ge hC.1.1 hC.1.2.1 hd ht (fun h => kt ((iI_le hb ha).mp h)) (fun h => kf (fun q => h ((iI_le hb ha).mpr q)))

theorem x_if_ge (hC : Cx p s m args c cc nL own X A) {a : Int} (ha : inR a) {off : Int} {tgt : Nat} (hd : decode cc pc = .ok (.ifCond .ge off, 3)) (ht : (pc : Int) + off = (tgt : Int)) (kt : 0 ≤ a → W p l e R s m args below meth c H locs cells slots Q (F0 m tgt ls rest)) (kf : ¬ 0 ≤ a → W p l e R s m args below meth c H locs cells slots Q (F0 m (pc + 3) ls rest)) : W p l e R s m args below meth c H locs cells slots Q (F0 m pc ls (.int (iI a) :: rest)) := by
  have hb : inR 0 := rk rfl
  exact lv_if_ge hC.1.1 hC.1.2.1 hd ht (fun h => kt ((iI_le hb ha).mp h)) (fun h => kf (fun q => h ((iI_le hb ha).mpr q)))

theorem x_icmp_gt (hC : Cx p s m args c cc nL own X A) {a b : Int} (ha : inR a) (hb : inR b) {off : Int} {tgt : Nat} (hd : decode cc pc = .ok (.if_icmp .gt off, 3)) (ht : (pc : Int) + off = (tgt : Int)) (kt : b < a → W p l e R s m args below meth c H locs cells slots Q (F0 m tgt ls rest)) (kf : ¬ b < a → W p l e R s m args below meth c H locs cells slots Q (F0 m (pc + 3) ls rest)) : W p l e R s m args below meth c H locs cells slots Q (F0 m pc ls (.int (iI b) :: .int (iI a) :: rest)) := lv_icmp_gt hC.1.1 hC.1.2.1 hd ht (fun h => kt ((iI_lt hb ha).mp h)) (fun h => kf (fun q => h ((iI_lt hb ha).mpr q)))

theorem x_if_gt (hC : Cx p s m args c cc nL own X A) {a : Int} (ha : inR a) {off : Int} {tgt : Nat} (hd : decode cc pc = .ok (.ifCond .gt off, 3)) (ht : (pc : Int) + off = (tgt : Int)) (kt : 0 < a → W p l e R s m args below meth c H locs cells slots Q (F0 m tgt ls rest)) (kf : ¬ 0 < a → W p l e R s m args below meth c H locs cells slots Q (F0 m (pc + 3) ls rest)) : W p l e R s m args below meth c H locs cells slots Q (F0 m pc ls (.int (iI a) :: rest)) := by
  have hb : inR 0 := rk rfl
  exact lv_if_gt hC.1.1 hC.1.2.1 hd ht (fun h => kt ((iI_lt hb ha).mp h)) (fun h => kf (fun q => h ((iI_lt hb ha).mpr q)))

theorem x_icmp_le (hC : Cx p s m args c cc nL own X A) {a b : Int} (ha : inR a) (hb : inR b) {off : Int} {tgt : Nat} (hd : decode cc pc = .ok (.if_icmp .le off, 3)) (ht : (pc : Int) + off = (tgt : Int)) (kt : a ≤ b → W p l e R s m args below meth c H locs cells slots Q (F0 m tgt ls rest)) (kf : ¬ a ≤ b → W p l e R s m args below meth c H locs cells slots Q (F0 m (pc + 3) ls rest)) : W p l e R s m args below meth c H locs cells slots Q (F0 m pc ls (.int (iI b) :: .int (iI a) :: rest)) := lv_icmp_le hC.1.1 hC.1.2.1 hd ht (fun h => kt ((iI_le ha hb).mp h)) (fun h => kf (fun q => h ((iI_le ha hb).mpr q)))

theorem x_if_le (hC : Cx p s m args c cc nL own X A) {a : Int} (ha : inR a) {off : Int} {tgt : Nat} (hd : decode cc pc = .ok (.ifCond .le off, 3)) (ht : (pc : Int) + off = (tgt : Int)) (kt : a ≤ 0 → W p l e R s m args below meth c H locs cells slots Q (F0 m tgt ls rest)) (kf : ¬ a ≤ 0 → W p l e R s m args below meth c H locs cells slots Q (F0 m (pc + 3) ls rest)) : W p l e R s m args below meth c H locs cells slots Q (F0 m pc ls (.int (iI a) :: rest)) := by
  have hb : inR 0 := rk rfl
  exact lv_if_le hC.1.1 hC.1.2.1 hd ht (fun h => kt ((iI_le ha hb).mp h)) (fun h => kf (fun q => h ((iI_le ha hb).mpr q)))

theorem x_tin (hC : Cx p s m args c cc nL own X A) {dflt lo hi : Int} {offs : Array Int} {len : Nat} {a off : Int} {tgt : Nat} (v : Int) (ha : inR a) (hv : a = v) (hd : decode cc pc = .ok (.tableswitch dflt lo hi offs, len)) (h1 : ¬ v < lo) (h2 : ¬ hi < v) (ho : offs[(v - lo).toNat]? = some off) (ht : (pc : Int) + off = (tgt : Int)) (kk : W p l e R s m args below meth c H locs cells slots Q (F0 m tgt ls rest)) : W p l e R s m args below meth c H locs cells slots Q (F0 m pc ls (.int (iI a) :: rest)) := by
  subst hv
  exact lv_tableIn hC.1.1 hC.1.2.1 hd (by rw [iI_toInt ha]; exact h1) (by rw [iI_toInt ha]; exact h2) (by rw [iI_toInt ha]; exact ho) ht kk
theorem x_tout (hC : Cx p s m args c cc nL own X A) {dflt lo hi : Int} {offs : Array Int} {len : Nat} {a : Int} {tgt : Nat} (ha : inR a) (hd : decode cc pc = .ok (.tableswitch dflt lo hi offs, len)) (h : a < lo ∨ hi < a) (ht : (pc : Int) + dflt = (tgt : Int)) (kk : W p l e R s m args below meth c H locs cells slots Q (F0 m tgt ls rest)) : W p l e R s m args below meth c H locs cells slots Q (F0 m pc ls (.int (iI a) :: rest)) :=
  lv_tableOut hC.1.1 hC.1.2.1 hd (by rw [iI_toInt ha]; exact h) ht kk
theorem x_look (hC : Cx p s m args c cc nL own X A) {dflt : Int} {ps : Array (Int × Int)} {len : Nat} {a off : Int} {tgt : Nat} (ha : inR a) (hd : decode cc pc = .ok (.lookupswitch dflt ps, len)) (hp : (ps.toList.zip (ps.toList.drop 1)).all (fun (a, next) => a.1 < next.1) = true) (ho : Op.lookupswitch.offset ps.toList dflt a = off) (ht : (pc : Int) + off = (tgt : Int)) (kk : W p l e R s m args below meth c H locs cells slots Q (F0 m tgt ls rest)) : W p l e R s m args below meth c H locs cells slots Q (F0 m pc ls (.int (iI a) :: rest)) :=
  lv_lookup hC.1.1 hC.1.2.1 hd hp (by rw [iI_toInt ha]; exact ho) ht kk
/-! ===== a method: its start, its ends, its calls ===== -/
def Pw (X : Xw) (av : List Value) (M : Mm) (sz : Nat) : Array Value → State → Prop := va_Pc av (fun U => U.heap.size = sz ∧ va_P (xD X) vc (wl X M) U.heap ∧ va_K (xD X) vc (xT X) U ∧ va_D (fun _ => True) (wl X M) ∧ nW U)
def Bw (X : Xw) : Mm → State → Prop := fun M t => va_P (xD X) vc (wl X M) t.heap ∧ va_K (xD X) vc (xT X) t
def Qi (X : Xw) (sz : Nat) (post : Int → Mm → Prop) : Array Value → State → Outcome → State → Prop := va_Qi (S := Mm) (fun r M1 => ∃ i : Int, r = iI i ∧ inR i ∧ mr M1 ∧ post i M1) (Bw X) (xF X sz)
def Qv (X : Xw) (sz : Nat) (post : Mm → Prop) : Array Value → State → Outcome → State → Prop := va_Qv (S := Mm) (fun M1 => mr M1 ∧ post M1) (Bw X) (xF X sz)
theorem Pw_blind {av : List Value} {sz : Nat} : FrameBlind (Pw X av M sz) := fun a U g mk q => by
  obtain ⟨q0, q1, qP, qK, qD, qN⟩ := q
  exact ⟨q0, q1, qP, va_K.moved (u := U) (U := U.calling g mk a) (Vm.Alike.refl U.vm) qK, qD, nW.same (u := U) (U := U.calling g mk a) rfl qN⟩
theorem x_iret (hC : Cx p s m args c cc nL own X A) {sz : Nat} {post : Int → Mm → Prop} (hS : St X (xF X sz) s M H locs) (hlocks : meth.locks = false) (hr : meth.sig.returnType = some .int) {r : Int} (hi : inR r) (hp : post r M) (hd : decode cc pc = .ok (.ireturn, 1)) : W p l e R s m args below meth c H locs cells slots (MQ below (Qi X sz post) args s cells slots (xF X sz)) (F0 m pc ls [.int (iI r)]) :=
  W.iret hC.1.1 hC.1.2.1 hr (fun t ht hW => ⟨⟨iI r, M, rfl, ⟨r, rfl, hi, hS.2.2.2, hp⟩, by rw [ht]; exact hS.1, va_K.moved hW.alike hC.2.1⟩, hS.2.2.1.F ht⟩) hS.2.2.1.2.2 hd hlocks
theorem x_zret (hC : Cx p s m args c cc nL own X A) {sz : Nat} {post : Int → Mm → Prop} (hS : St X (xF X sz) s M H locs) (hlocks : meth.locks = false) (hr : meth.sig.returnType = some .boolean) {r : Int} (h01 : r = 0 ∨ r = 1) (hp : post r M) (hd : decode cc pc = .ok (.ireturn, 1)) : W p l e R s m args below meth c H locs cells slots (MQ below (Qi X sz post) args s cells slots (xF X sz)) (F0 m pc ls [.int (iI r)]) :=
  W.zret (ty := .boolean) hC.1.1 hC.1.2.1 hr (by rcases h01 with rfl | rfl <;> decide) (fun t ht hW => ⟨⟨iI r, M, rfl, ⟨r, rfl, by rcases h01 with rfl | rfl <;> exact rk rfl, hS.2.2.2, hp⟩, by rw [ht]; exact hS.1, va_K.moved hW.alike hC.2.1⟩, hS.2.2.1.F ht⟩) hS.2.2.1.2.2 hd hlocks
theorem x_vret (hC : Cx p s m args c cc nL own X A) {sz : Nat} {post : Mm → Prop} (hS : St X (xF X sz) s M H locs) (hlocks : meth.locks = false) (hr : meth.sig.returnType = none) (hp : post M) (hd : decode cc pc = .ok (.return_, 1)) : W p l e R s m args below meth c H locs cells slots (MQ below (Qv X sz post) args s cells slots (xF X sz)) (F0 m pc ls []) :=
  W.vret hC.1.1 hC.1.2.1 hr (fun t ht hW => ⟨⟨M, rfl, ⟨hS.2.2.2, hp⟩, by rw [ht]; exact hS.1, va_K.moved hW.alike hC.2.1⟩, hS.2.2.1.F ht⟩) hS.2.2.1.2.2 hd hlocks
theorem x_enter {y : MethodName} {maxL : Nat} {ret : Option FieldType} {rm : Room} {av : List Value} {sz : Nat} {Qc : Array Value → State → Outcome → State → Prop} (hy : plainName y.cls = true) (hlc : lcl X) (hm : mr M) (hav : (lg_sl av).length ≤ maxL)
    (body : ∀ (p : Program) (e : Env) (s : State) (m : MethodId) (below : List Frame) (meth : Method) (c : Code) (ls : Array Slot), Cx p s m av.toArray c cc maxL y.cls X (xF X sz) → s.heap.size = sz → meth.sig.returnType = ret → meth.locks = false → St X (xF X sz) s M s.heap [] → lv_has ls maxL (lv_args 0 av) → W p l e rm s m av.toArray below meth c s.heap [] 0 0 (MQ below Qc av.toArray s 0 0 (xF X sz)) (F0 m 0 ls [])) : Met l y (Cond.code y cc maxL ret :: tg) rm (Pw X av M sz) Qc 0 0 (xF X sz) := by
  refine Met.ofW (cc := cc) (maxL := maxL) (ret := ret) hy rfl ?_
  intro p e s m args below meth c s₁ B hml hv
  obtain ⟨rfl, hsz, hP, hK, hD, hN⟩ := hv
  have hts := atoms_spec (ws := Cond.code y cc maxL ret :: tg) B.pre
  have hl := lv_entry av (n := maxL) hav
  rw [lg_entry_eq]
  exact body p e s m below meth c _ ⟨⟨B.exec, B.bytes, hml, findClass_of_methodNamed B.named, fun w hw => hts w (List.mem_cons_of_mem _ hw)⟩, hK, hlc, fun q hq => Or.inr (by rw [← hsz]; exact hq), hN⟩ hsz B.returns B.notSynchronized ⟨hP, xF_D hD, va_S.rf, hm⟩ hl
/-- what a caller must know of a method that it calls: its words in the tables, its descriptor -/
def cV (y : MethodName) (bytes : ByteArray) (maxL : Nat) (ret : Option FieldType) (n : Nat) : Prop := Cond.code y bytes maxL ret ∈ tg ∧ Cond.instanceMethod y ∈ tg ∧ Cond.selects y.cls y y ∈ tg ∧ Cond.initialized y.cls ∈ tg ∧ y.cls ≠ "java/lang/invoke/MethodHandle" ∧ y.cls ≠ "java/lang/invoke/VarHandle" ∧ (parseMethodDescriptor y.desc).map (fun d => d.parameters.length) = some n
def cS (y : MethodName) (bytes : ByteArray) (maxL : Nat) (ret : Option FieldType) (n : Nat) : Prop := Cond.code y bytes maxL ret ∈ tg ∧ Cond.static y ∈ tg ∧ Cond.initialized y.cls ∈ tg ∧ y.cls ≠ "java/lang/invoke/MethodHandle" ∧ y.cls ≠ "java/lang/invoke/VarHandle" ∧ (parseMethodDescriptor y.desc).map (fun d => d.parameters.length) = some n

theorem x_callVi (hC : Cx p s m args c cc nL own X A) (hS : St X A s M H locs) {y : MethodName} {bytes : ByteArray} {maxL n idx : Nat} {rt : FieldType} {rm : Room} {As : List Value} {post : Int → Mm → Prop} {k ci N : Nat} {T : u_T} {fs : Mm → List Value} (ho : Ob X k ci fs) (hc : vc[ci]? = some (y.cls, T, N)) (hy : cV y bytes maxL (some rt) n) (hM : Met l y (Cond.code y bytes maxL (some rt) :: tg) rm (Pw X (.ref (xA X k) :: As) M H.size) (Qi X H.size post) 0 0 (xF X H.size)) (hlk : Cond.methodLink own idx y ∈ tg) (hr1 : rm.cells = 0) (hr2 : rm.slots = 0) (hR : rm.frames + 1 ≤ R.frames ∧ 8 + (maxL + 11) + rm.locals ≤ R.locals) (hn : As.length = n) (hls : ls.size = nL) (hroom : (rest.map fun v => v.category).sum ≤ 8) (hd : decode cc pc = .ok (.invokevirtual idx, 3)) (hcs : cells ≤ R.cells ∧ slots ≤ R.slots) {st0 : List Value} (hst0 : st0 = As.reverse ++ .ref (xA X k) :: rest)
    (kk : ∀ (r : Int) (M1 : Mm) (H1 : Heap) (locs1 : List Loc), inR r → post r M1 → St X A s M1 H1 locs1 → W p l e R s m args below meth c H1 locs1 cells slots Q (F0 m (pc + 3) ls (.int (iI r) :: rest))) : W p l e R s m args below meth c H locs cells slots Q (F0 m pc ls st0) := by
  obtain ⟨⟨hx, hb, hml, hown, hts⟩, hK, hl, hA, hN⟩ := hC
  obtain ⟨hP, hD, hSS, hr⟩ := hS
  obtain ⟨hco, hin, hse, hini, hy1, hy2, hy3⟩ := hy
  obtain ⟨q, hq⟩ := List.getElem?_of_mem ho.1
  have hf := xF_in (sz := H.size) hD (fun q h => hA q (Nat.le_trans hSS.1 h))
  refine va_calli (va_runV (As := As) (rest := rest) ⟨hx, hb, hml, hown, hts⟩ hM (cwV n hts (tb_cons hlk (tb_cons hin (tb_cons hse (tb_cons hini (tb_cons hco tb_gi))))) rfl hr1 hr2 ⟨rfl, hy1, hy2, hy3⟩ hR) ⟨Pw_blind, va_recv hK hP hc (by rw [wl_get hq, ho.2 M]), fun U hU hW => ⟨rfl, by rw [hU], by rw [hU]; exact hP, va_K.moved hW.alike hK, hD.weaken (fun _ _ _ _ => trivial), nW.warm hW hN⟩⟩ rfl hn hls hst0 (lv_room hroom) hd hcs) hSS (fun q _ h => hf q h) hf (fun r u t H1 locs1 ht hvm hw hB hz1 hk1 hS1 => ?_)
  obtain ⟨i, rfl, hi, hm1, hp1⟩ := hw
  obtain ⟨hP1, hK1⟩ := hB
  exact kk i u H1 locs1 hi hp1 ⟨by rw [← ht]; exact hP1, wl_D hD, hS1, hm1⟩

theorem x_callVv (hC : Cx p s m args c cc nL own X A) (hS : St X A s M H locs) {y : MethodName} {bytes : ByteArray} {maxL n idx : Nat} {rm : Room} {As : List Value} {post : Mm → Prop} {k ci N : Nat} {T : u_T} {fs : Mm → List Value} (ho : Ob X k ci fs) (hc : vc[ci]? = some (y.cls, T, N)) (hy : cV y bytes maxL none n) (hM : Met l y (Cond.code y bytes maxL none :: tg) rm (Pw X (.ref (xA X k) :: As) M H.size) (Qv X H.size post) 0 0 (xF X H.size)) (hlk : Cond.methodLink own idx y ∈ tg) (hr1 : rm.cells = 0) (hr2 : rm.slots = 0) (hR : rm.frames + 1 ≤ R.frames ∧ 8 + (maxL + 11) + rm.locals ≤ R.locals) (hn : As.length = n) (hls : ls.size = nL) (hroom : (rest.map fun v => v.category).sum ≤ 8) (hd : decode cc pc = .ok (.invokevirtual idx, 3)) (hcs : cells ≤ R.cells ∧ slots ≤ R.slots) {st0 : List Value} (hst0 : st0 = As.reverse ++ .ref (xA X k) :: rest)
    (kk : ∀ (M1 : Mm) (H1 : Heap) (locs1 : List Loc), post M1 → St X A s M1 H1 locs1 → W p l e R s m args below meth c H1 locs1 cells slots Q (F0 m (pc + 3) ls rest)) : W p l e R s m args below meth c H locs cells slots Q (F0 m pc ls st0) := by
  obtain ⟨⟨hx, hb, hml, hown, hts⟩, hK, hl, hA, hN⟩ := hC
  obtain ⟨hP, hD, hSS, hr⟩ := hS
  obtain ⟨hco, hin, hse, hini, hy1, hy2, hy3⟩ := hy
  obtain ⟨q, hq⟩ := List.getElem?_of_mem ho.1
  have hf := xF_in (sz := H.size) hD (fun q h => hA q (Nat.le_trans hSS.1 h))
  refine va_callv (va_runV (As := As) (rest := rest) ⟨hx, hb, hml, hown, hts⟩ hM (cwV n hts (tb_cons hlk (tb_cons hin (tb_cons hse (tb_cons hini (tb_cons hco tb_gi))))) rfl hr1 hr2 ⟨rfl, hy1, hy2, hy3⟩ hR) ⟨Pw_blind, va_recv hK hP hc (by rw [wl_get hq, ho.2 M]), fun U hU hW => ⟨rfl, by rw [hU], by rw [hU]; exact hP, va_K.moved hW.alike hK, hD.weaken (fun _ _ _ _ => trivial), nW.warm hW hN⟩⟩ rfl hn hls hst0 (lv_room hroom) hd hcs) hSS (fun q _ h => hf q h) hf (fun u t H1 locs1 ht hvm hw hB hz1 hk1 hS1 => ?_)
  obtain ⟨hm1, hp1⟩ := hw
  obtain ⟨hP1, hK1⟩ := hB
  exact kk u H1 locs1 hp1 ⟨by rw [← ht]; exact hP1, wl_D hD, hS1, hm1⟩

theorem x_callSi (hC : Cx p s m args c cc nL own X A) (hS : St X A s M H locs) {y : MethodName} {bytes : ByteArray} {maxL n idx : Nat} {rt : FieldType} {rm : Room} {As : List Value} {post : Int → Mm → Prop} (hy : cS y bytes maxL (some rt) n) (hM : Met l y (Cond.code y bytes maxL (some rt) :: tg) rm (Pw X As M H.size) (Qi X H.size post) 0 0 (xF X H.size)) (hlk : Cond.methodLink own idx y ∈ tg) (hr1 : rm.cells = 0) (hr2 : rm.slots = 0) (hR : rm.frames + 1 ≤ R.frames ∧ 8 + (maxL + 11) + rm.locals ≤ R.locals) (hn : As.length = n) (hls : ls.size = nL) (hroom : (rest.map fun v => v.category).sum ≤ 8) (hd : decode cc pc = .ok (.invokestatic idx, 3)) (hcs : cells ≤ R.cells ∧ slots ≤ R.slots) {st0 : List Value} (hst0 : st0 = As.reverse ++ rest)
    (kk : ∀ (r : Int) (M1 : Mm) (H1 : Heap) (locs1 : List Loc), inR r → post r M1 → St X A s M1 H1 locs1 → W p l e R s m args below meth c H1 locs1 cells slots Q (F0 m (pc + 3) ls (.int (iI r) :: rest))) : W p l e R s m args below meth c H locs cells slots Q (F0 m pc ls st0) := by
  obtain ⟨⟨hx, hb, hml, hown, hts⟩, hK, hl, hA, hN⟩ := hC
  obtain ⟨hP, hD, hSS, hr⟩ := hS
  obtain ⟨hco, hst, hini, hy1, hy2, hy3⟩ := hy
  have hf := xF_in (sz := H.size) hD (fun q h => hA q (Nat.le_trans hSS.1 h))
  refine va_calli (va_runS (As := As) (rest := rest) ⟨hx, hb, hml, hown, hts⟩ hM (va_cwS n hts (tb_cons hlk (tb_cons hst (tb_cons hini (tb_cons hco tb_gi)))) rfl hr1 hr2 ⟨hy1, hy2, hy3⟩ hR) ⟨Pw_blind, fun U hU hW => ⟨rfl, by rw [hU], by rw [hU]; exact hP, va_K.moved hW.alike hK, hD.weaken (fun _ _ _ _ => trivial), nW.warm hW hN⟩⟩ rfl hn hls hst0 (lv_room hroom) hd hcs) hSS (fun q _ h => hf q h) hf (fun r u t H1 locs1 ht hvm hw hB hz1 hk1 hS1 => ?_)
  obtain ⟨i, rfl, hi, hm1, hp1⟩ := hw
  obtain ⟨hP1, hK1⟩ := hB
  exact kk i u H1 locs1 hi hp1 ⟨by rw [← ht]; exact hP1, wl_D hD, hS1, hm1⟩

theorem x_callSv (hC : Cx p s m args c cc nL own X A) (hS : St X A s M H locs) {y : MethodName} {bytes : ByteArray} {maxL n idx : Nat} {rm : Room} {As : List Value} {post : Mm → Prop} (hy : cS y bytes maxL none n) (hM : Met l y (Cond.code y bytes maxL none :: tg) rm (Pw X As M H.size) (Qv X H.size post) 0 0 (xF X H.size)) (hlk : Cond.methodLink own idx y ∈ tg) (hr1 : rm.cells = 0) (hr2 : rm.slots = 0) (hR : rm.frames + 1 ≤ R.frames ∧ 8 + (maxL + 11) + rm.locals ≤ R.locals) (hn : As.length = n) (hls : ls.size = nL) (hroom : (rest.map fun v => v.category).sum ≤ 8) (hd : decode cc pc = .ok (.invokestatic idx, 3)) (hcs : cells ≤ R.cells ∧ slots ≤ R.slots) {st0 : List Value} (hst0 : st0 = As.reverse ++ rest)
    (kk : ∀ (M1 : Mm) (H1 : Heap) (locs1 : List Loc), post M1 → St X A s M1 H1 locs1 → W p l e R s m args below meth c H1 locs1 cells slots Q (F0 m (pc + 3) ls rest)) : W p l e R s m args below meth c H locs cells slots Q (F0 m pc ls st0) := by
  obtain ⟨⟨hx, hb, hml, hown, hts⟩, hK, hl, hA, hN⟩ := hC
  obtain ⟨hP, hD, hSS, hr⟩ := hS
  obtain ⟨hco, hst, hini, hy1, hy2, hy3⟩ := hy
  have hf := xF_in (sz := H.size) hD (fun q h => hA q (Nat.le_trans hSS.1 h))
  refine va_callv (va_runS (As := As) (rest := rest) ⟨hx, hb, hml, hown, hts⟩ hM (va_cwS n hts (tb_cons hlk (tb_cons hst (tb_cons hini (tb_cons hco tb_gi)))) rfl hr1 hr2 ⟨hy1, hy2, hy3⟩ hR) ⟨Pw_blind, fun U hU hW => ⟨rfl, by rw [hU], by rw [hU]; exact hP, va_K.moved hW.alike hK, hD.weaken (fun _ _ _ _ => trivial), nW.warm hW hN⟩⟩ rfl hn hls hst0 (lv_room hroom) hd hcs) hSS (fun q _ h => hf q h) hf (fun u t H1 locs1 ht hvm hw hB hz1 hk1 hS1 => ?_)
  obtain ⟨hm1, hp1⟩ := hw
  obtain ⟨hP1, hK1⟩ := hB
  exact kk u H1 locs1 hp1 ⟨by rw [← ht]; exact hP1, wl_D hD, hS1, hm1⟩

theorem x_callSiN (hC : Cx p s m args c cc nL own X A) (hS : St X A s M H locs) {y : MethodName} {bytes : ByteArray} {maxL n idx : Nat} {host : String} {rt : FieldType} {rm : Room} {As : List Value} {post : Int → Mm → Prop} (hy : cS y bytes maxL (some rt) n) (hM : Met l y (Cond.code y bytes maxL (some rt) :: tg) rm (Pw X As M H.size) (Qi X H.size post) 0 0 (xF X H.size)) (hlk : va_Nw (.methodLinkNest own idx y host) s) (hr1 : rm.cells = 0) (hr2 : rm.slots = 0) (hR : rm.frames + 1 ≤ R.frames ∧ 8 + (maxL + 11) + rm.locals ≤ R.locals) (hn : As.length = n) (hls : ls.size = nL) (hroom : (rest.map fun v => v.category).sum ≤ 8) (hd : decode cc pc = .ok (.invokestatic idx, 3)) (hcs : cells ≤ R.cells ∧ slots ≤ R.slots) {st0 : List Value} (hst0 : st0 = As.reverse ++ rest)
    (kk : ∀ (r : Int) (M1 : Mm) (H1 : Heap) (locs1 : List Loc), inR r → post r M1 → St X A s M1 H1 locs1 → W p l e R s m args below meth c H1 locs1 cells slots Q (F0 m (pc + 3) ls (.int (iI r) :: rest))) : W p l e R s m args below meth c H locs cells slots Q (F0 m pc ls st0) := by
  obtain ⟨⟨hx, hb, hml, hown, hts⟩, hK, hl, hA, hN⟩ := hC
  obtain ⟨hP, hD, hSS, hr⟩ := hS
  obtain ⟨hco, hst, hini, hy1, hy2, hy3⟩ := hy
  have hf := xF_in (sz := H.size) hD (fun q h => hA q (Nat.le_trans hSS.1 h))
  refine va_calli (va_runSN (As := As) (rest := rest) ⟨hx, hb, hml, hown, hts⟩ hM (⟨va_cnB n hts (tb_cons hco tb_gi) rfl hr1 hr2 hlk (hts _ hini) ⟨hy1, hy2, hy3⟩ hR, hts _ hst, trivial⟩) ⟨Pw_blind, fun U hU hW => ⟨rfl, by rw [hU], by rw [hU]; exact hP, va_K.moved hW.alike hK, hD.weaken (fun _ _ _ _ => trivial), nW.warm hW hN⟩⟩ rfl hn hls hst0 (lv_room hroom) hd hcs) hSS (fun q _ h => hf q h) hf (fun r u t H1 locs1 ht hvm hw hB hz1 hk1 hS1 => ?_)
  obtain ⟨i, rfl, hi, hm1, hp1⟩ := hw
  obtain ⟨hP1, hK1⟩ := hB
  exact kk i u H1 locs1 hi hp1 ⟨by rw [← ht]; exact hP1, wl_D hD, hS1, hm1⟩

end XR
