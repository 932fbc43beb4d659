theorem iw_G : ∀ w ∈ u_ws rr_G ft_G 5, w ∈ tg := by
  have e : u_ws rr_G ft_G 5 = [Cond.laysFinal "TurnCounts$Group" "TurnCounts$Group" "turns" "[I", Cond.lays "TurnCounts$Group" "TurnCounts$Group" "size" "I", Cond.laysFinal "TurnCounts$Group" "TurnCounts$Group" "makers" "[I", Cond.lays "TurnCounts$Group" "TurnCounts$Group" "makerCount" "I", Cond.laysFinal "TurnCounts$Group" "TurnCounts$Group" "members" "[I"] := by decide +kernel
  rw [e]
  exact List.forall_mem_cons.mpr ⟨tb_71, List.forall_mem_cons.mpr ⟨tb_73, List.forall_mem_cons.mpr ⟨tb_75, List.forall_mem_cons.mpr ⟨tb_77, List.forall_mem_cons.mpr ⟨tb_79, fun _ h => absurd h List.not_mem_nil⟩⟩⟩⟩⟩
theorem iw_D : ∀ w ∈ u_ws rr_D ft_D 2, w ∈ tg := by
  have e : u_ws rr_D ft_D 2 = [Cond.laysFinal "TurnCounts$Pad" "TurnCounts$Pad" "signs" "[I", Cond.lays "TurnCounts$Pad" "TurnCounts$Pad" "length" "I"] := by decide +kernel
  rw [e]
  exact List.forall_mem_cons.mpr ⟨tb_116, List.forall_mem_cons.mpr ⟨tb_118, fun _ h => absurd h List.not_mem_nil⟩⟩
theorem iw_P : ∀ w ∈ u_ws rr_P ft_P 9, w ∈ tg := by
  have e : u_ws rr_P ft_P 9 = [Cond.laysFinal "TurnCounts$PatternTable" "TurnCounts$PatternTable" "patternNumbers" "[I", Cond.laysFinal "TurnCounts$PatternTable" "TurnCounts$PatternTable" "colourings" "[I", Cond.laysFinal "TurnCounts$PatternTable" "TurnCounts$PatternTable" "starts" "[I", Cond.laysFinal "TurnCounts$PatternTable" "TurnCounts$PatternTable" "places" "[I", Cond.lays "TurnCounts$PatternTable" "TurnCounts$PatternTable" "many" "I", Cond.lays "TurnCounts$PatternTable" "TurnCounts$PatternTable" "sortCount" "I", Cond.lays "TurnCounts$PatternTable" "TurnCounts$PatternTable" "filled" "I", Cond.lays "TurnCounts$PatternTable" "TurnCounts$PatternTable" "amount" "I", Cond.lays "TurnCounts$PatternTable" "TurnCounts$PatternTable" "upToDate" "Z"] := by decide +kernel
  rw [e]
  exact List.forall_mem_cons.mpr ⟨tb_161, List.forall_mem_cons.mpr ⟨tb_163, List.forall_mem_cons.mpr ⟨tb_165, List.forall_mem_cons.mpr ⟨tb_167, List.forall_mem_cons.mpr ⟨tb_169, List.forall_mem_cons.mpr ⟨tb_171, List.forall_mem_cons.mpr ⟨tb_173, List.forall_mem_cons.mpr ⟨tb_175, List.forall_mem_cons.mpr ⟨tb_177, fun _ h => absurd h List.not_mem_nil⟩⟩⟩⟩⟩⟩⟩⟩⟩
theorem iw_S : ∀ w ∈ u_ws rr_S ft_S 4, w ∈ tg := by
  have e : u_ws rr_S ft_S 4 = [Cond.lays "TurnCounts$Setting" "TurnCounts$Setting" "many" "I", Cond.lays "TurnCounts$Setting" "TurnCounts$Setting" "sortCount" "I", Cond.laysFinal "TurnCounts$Setting" "TurnCounts$Setting" "weights" "[I", Cond.laysFinal "TurnCounts$Setting" "TurnCounts$Setting" "group" "LTurnCounts$Group;"] := by decide +kernel
  rw [e]
  exact List.forall_mem_cons.mpr ⟨tb_96, List.forall_mem_cons.mpr ⟨tb_98, List.forall_mem_cons.mpr ⟨tb_100, List.forall_mem_cons.mpr ⟨tb_102, fun _ h => absurd h List.not_mem_nil⟩⟩⟩⟩
theorem iw_Y : ∀ w ∈ u_ws rr_Y ft_Y 4, w ∈ tg := by
  have e : u_ws rr_Y ft_Y 4 = [Cond.laysFinal "TurnCounts$TypeTable" "TurnCounts$TypeTable" "figures" "[I", Cond.laysFinal "TurnCounts$TypeTable" "TurnCounts$TypeTable" "turns" "[I", Cond.lays "TurnCounts$TypeTable" "TurnCounts$TypeTable" "amount" "I", Cond.lays "TurnCounts$TypeTable" "TurnCounts$TypeTable" "upToDate" "Z"] := by decide +kernel
  rw [e]
  exact List.forall_mem_cons.mpr ⟨tb_135, List.forall_mem_cons.mpr ⟨tb_137, List.forall_mem_cons.mpr ⟨tb_139, List.forall_mem_cons.mpr ⟨tb_141, fun _ h => absurd h List.not_mem_nil⟩⟩⟩⟩
theorem iw_T : ∀ w ∈ u_ws rr_T ft_T 6, w ∈ tg := by
  have e : u_ws rr_T ft_T 6 = [Cond.laysFinal "TurnCounts" "TurnCounts" "now" "LTurnCounts$Setting;", Cond.laysFinal "TurnCounts" "TurnCounts" "kept" "[LTurnCounts$Setting;", Cond.lays "TurnCounts" "TurnCounts" "keptSet" "I", Cond.laysFinal "TurnCounts" "TurnCounts" "pad" "LTurnCounts$Pad;", Cond.laysFinal "TurnCounts" "TurnCounts" "types" "LTurnCounts$TypeTable;", Cond.laysFinal "TurnCounts" "TurnCounts" "table" "LTurnCounts$PatternTable;"] := by decide +kernel
  rw [e]
  exact List.forall_mem_cons.mpr ⟨tb_186, List.forall_mem_cons.mpr ⟨tb_188, List.forall_mem_cons.mpr ⟨tb_190, List.forall_mem_cons.mpr ⟨tb_192, List.forall_mem_cons.mpr ⟨tb_194, List.forall_mem_cons.mpr ⟨tb_196, fun _ h => absurd h List.not_mem_nil⟩⟩⟩⟩⟩⟩
theorem iw_M : ∀ w ∈ u_ws rr_M ft_M 25, w ∈ tg := by
  have e : u_ws rr_M ft_M 25 = [Cond.laysFinal "TurnCountsModel" "TurnCountsModel" "state" "[I", Cond.laysFinal "TurnCountsModel" "TurnCountsModel" "images" "[I", Cond.laysFinal "TurnCountsModel" "TurnCountsModel" "isKept" "[Z", Cond.laysFinal "TurnCountsModel" "TurnCountsModel" "pad" "[I", Cond.lays "TurnCountsModel" "TurnCountsModel" "said" "I", Cond.laysFinal "TurnCountsModel" "TurnCountsModel" "row" "[I", Cond.laysFinal "TurnCountsModel" "TurnCountsModel" "isUsed" "[Z", Cond.laysFinal "TurnCountsModel" "TurnCountsModel" "maker" "[I", Cond.lays "TurnCountsModel" "TurnCountsModel" "makers" "I", Cond.laysFinal "TurnCountsModel" "TurnCountsModel" "wave" "[I", Cond.lays "TurnCountsModel" "TurnCountsModel" "waved" "I", Cond.laysFinal "TurnCountsModel" "TurnCountsModel" "turnOf" "[I", Cond.lays "TurnCountsModel" "TurnCountsModel" "turns" "I", Cond.laysFinal "TurnCountsModel" "TurnCountsModel" "had" "[I", Cond.laysFinal "TurnCountsModel" "TurnCountsModel" "longs" "[I", Cond.laysFinal "TurnCountsModel" "TurnCountsModel" "types" "[I", Cond.laysFinal "TurnCountsModel" "TurnCountsModel" "typeMany" "[I", Cond.lays "TurnCountsModel" "TurnCountsModel" "typesMany" "I", Cond.laysFinal "TurnCountsModel" "TurnCountsModel" "colour" "[I", Cond.laysFinal "TurnCountsModel" "TurnCountsModel" "patternOf" "[I", Cond.laysFinal "TurnCountsModel" "TurnCountsModel" "leastOf" "[I", Cond.laysFinal "TurnCountsModel" "TurnCountsModel" "sizeOf" "[I", Cond.lays "TurnCountsModel" "TurnCountsModel" "patternMany" "I", Cond.lays "TurnCountsModel" "TurnCountsModel" "colourings" "I", Cond.laysFinal "TurnCountsModel" "TurnCountsModel" "placeWorth" "[I"] := by decide +kernel
  rw [e]
  exact List.forall_mem_cons.mpr ⟨tb_540, List.forall_mem_cons.mpr ⟨tb_542, List.forall_mem_cons.mpr ⟨tb_544, List.forall_mem_cons.mpr ⟨tb_546, List.forall_mem_cons.mpr ⟨tb_548, List.forall_mem_cons.mpr ⟨tb_550, List.forall_mem_cons.mpr ⟨tb_552, List.forall_mem_cons.mpr ⟨tb_554, List.forall_mem_cons.mpr ⟨tb_556, List.forall_mem_cons.mpr ⟨tb_558, List.forall_mem_cons.mpr ⟨tb_560, List.forall_mem_cons.mpr ⟨tb_562, List.forall_mem_cons.mpr ⟨tb_564, List.forall_mem_cons.mpr ⟨tb_566, List.forall_mem_cons.mpr ⟨tb_568, List.forall_mem_cons.mpr ⟨tb_570, List.forall_mem_cons.mpr ⟨tb_572, List.forall_mem_cons.mpr ⟨tb_574, List.forall_mem_cons.mpr ⟨tb_576, List.forall_mem_cons.mpr ⟨tb_578, List.forall_mem_cons.mpr ⟨tb_580, List.forall_mem_cons.mpr ⟨tb_582, List.forall_mem_cons.mpr ⟨tb_584, List.forall_mem_cons.mpr ⟨tb_586, List.forall_mem_cons.mpr ⟨tb_588, fun _ h => absurd h List.not_mem_nil⟩⟩⟩⟩⟩⟩⟩⟩⟩⟩⟩⟩⟩⟩⟩⟩⟩⟩⟩⟩⟩⟩⟩⟩⟩
def fs_G (X : Xw) (g : Nat) (M : Mm) : List Value := [.ref (xA X (g + 1)), .int (iI (M g 1)), .ref (xA X (g + 2)), .int (iI (M g 3)), .ref (xA X (g + 3))]
theorem ps_G_1 (X : Xw) (g : Nat) (M : Mm) (v : Int) : fs_G X g (ms M g 1 v) = (fs_G X g M).set 1 (.int (iI v)) := by simp [fs_G, ms]
theorem ps_G_3 (X : Xw) (g : Nat) (M : Mm) (v : Int) : fs_G X g (ms M g 3 v) = (fs_G X g M).set 3 (.int (iI v)) := by simp [fs_G, ms]
def fs_D (X : Xw) (M : Mm) : List Value := [.ref (xA X 3), .int (iI (M 2 1))]
theorem ps_D_1 (X : Xw) (M : Mm) (v : Int) : fs_D X (ms M 2 1 v) = (fs_D X M).set 1 (.int (iI v)) := by simp [fs_D, ms]
def fs_P (X : Xw) (M : Mm) : List Value := [.ref (xA X 8), .ref (xA X 9), .ref (xA X 10), .ref (xA X 11), .int (iI (M 7 4)), .int (iI (M 7 5)), .int (iI (M 7 6)), .int (iI (M 7 7)), .int (iI (M 7 8))]
theorem ps_P_4 (X : Xw) (M : Mm) (v : Int) : fs_P X (ms M 7 4 v) = (fs_P X M).set 4 (.int (iI v)) := by simp [fs_P, ms]
theorem ps_P_5 (X : Xw) (M : Mm) (v : Int) : fs_P X (ms M 7 5 v) = (fs_P X M).set 5 (.int (iI v)) := by simp [fs_P, ms]
theorem ps_P_6 (X : Xw) (M : Mm) (v : Int) : fs_P X (ms M 7 6 v) = (fs_P X M).set 6 (.int (iI v)) := by simp [fs_P, ms]
theorem ps_P_7 (X : Xw) (M : Mm) (v : Int) : fs_P X (ms M 7 7 v) = (fs_P X M).set 7 (.int (iI v)) := by simp [fs_P, ms]
theorem ps_P_8 (X : Xw) (M : Mm) (v : Int) : fs_P X (ms M 7 8 v) = (fs_P X M).set 8 (.int (iI v)) := by simp [fs_P, ms]
def fs_S (X : Xw) (s : Nat) (M : Mm) : List Value := [.int (iI (M s 0)), .int (iI (M s 1)), .ref (xA X (s + 1)), .ref (xA X (s + 2))]
theorem ps_S_0 (X : Xw) (s : Nat) (M : Mm) (v : Int) : fs_S X s (ms M s 0 v) = (fs_S X s M).set 0 (.int (iI v)) := by simp [fs_S, ms]
theorem ps_S_1 (X : Xw) (s : Nat) (M : Mm) (v : Int) : fs_S X s (ms M s 1 v) = (fs_S X s M).set 1 (.int (iI v)) := by simp [fs_S, ms]
def fs_Y (X : Xw) (M : Mm) : List Value := [.ref (xA X 5), .ref (xA X 6), .int (iI (M 4 2)), .int (iI (M 4 3))]
theorem ps_Y_2 (X : Xw) (M : Mm) (v : Int) : fs_Y X (ms M 4 2 v) = (fs_Y X M).set 2 (.int (iI v)) := by simp [fs_Y, ms]
theorem ps_Y_3 (X : Xw) (M : Mm) (v : Int) : fs_Y X (ms M 4 3 v) = (fs_Y X M).set 3 (.int (iI v)) := by simp [fs_Y, ms]
def fs_T (X : Xw) (M : Mm) : List Value := [.ref (xA X 12), .ref (xA X 1), .int (iI (M 0 2)), .ref (xA X 2), .ref (xA X 4), .ref (xA X 7)]
theorem ps_T_2 (X : Xw) (M : Mm) (v : Int) : fs_T X (ms M 0 2 v) = (fs_T X M).set 2 (.int (iI v)) := by simp [fs_T, ms]
def fs_M (X : Xw) (M : Mm) : List Value := [.ref (xA X 31), .ref (xA X 32), .ref (xA X 33), .ref (xA X 34), .int (iI (M 30 4)), .ref (xA X 35), .ref (xA X 36), .ref (xA X 37), .int (iI (M 30 8)), .ref (xA X 38), .int (iI (M 30 10)), .ref (xA X 39), .int (iI (M 30 12)), .ref (xA X 40), .ref (xA X 41), .ref (xA X 42), .ref (xA X 43), .int (iI (M 30 17)), .ref (xA X 44), .ref (xA X 45), .ref (xA X 46), .ref (xA X 47), .int (iI (M 30 22)), .int (iI (M 30 23)), .ref (xA X 48)]
theorem ps_M_4 (X : Xw) (M : Mm) (v : Int) : fs_M X (ms M 30 4 v) = (fs_M X M).set 4 (.int (iI v)) := by simp [fs_M, ms]
theorem ps_M_8 (X : Xw) (M : Mm) (v : Int) : fs_M X (ms M 30 8 v) = (fs_M X M).set 8 (.int (iI v)) := by simp [fs_M, ms]
theorem ps_M_10 (X : Xw) (M : Mm) (v : Int) : fs_M X (ms M 30 10 v) = (fs_M X M).set 10 (.int (iI v)) := by simp [fs_M, ms]
theorem ps_M_12 (X : Xw) (M : Mm) (v : Int) : fs_M X (ms M 30 12 v) = (fs_M X M).set 12 (.int (iI v)) := by simp [fs_M, ms]
theorem ps_M_17 (X : Xw) (M : Mm) (v : Int) : fs_M X (ms M 30 17 v) = (fs_M X M).set 17 (.int (iI v)) := by simp [fs_M, ms]
theorem ps_M_22 (X : Xw) (M : Mm) (v : Int) : fs_M X (ms M 30 22 v) = (fs_M X M).set 22 (.int (iI v)) := by simp [fs_M, ms]
theorem ps_M_23 (X : Xw) (M : Mm) (v : Int) : fs_M X (ms M 30 23 v) = (fs_M X M).set 23 (.int (iI v)) := by simp [fs_M, ms]
def IsG (X : Xw) (g : Nat) : Prop := Ob X g 0 (fs_G X g) ∧ AI X (g + 1) 5040 ∧ AI X (g + 2) 12 ∧ AI X (g + 3) 158
def IsS (X : Xw) (s : Nat) : Prop := Ob X s 3 (fs_S X s) ∧ AI X (s + 1) 4 ∧ IsG X (s + 2)
def IsD (X : Xw) : Prop := Ob X 2 1 (fs_D X) ∧ AI X 3 7
def IsY (X : Xw) : Prop := Ob X 4 4 (fs_Y X) ∧ AI X 5 15 ∧ AI X 6 15
def IsP (X : Xw) : Prop := Ob X 7 2 (fs_P X) ∧ AI X 8 16384 ∧ AI X 9 16384 ∧ AI X 10 16385 ∧ AI X 11 8
def IsT (X : Xw) : Prop := Ob X 0 5 (fs_T X) ∧ AQ X 1 2 (fun i => some (xA X (18 + 6 * i))) ∧ IsD X ∧ IsY X ∧ IsP X ∧ IsS X 12 ∧ ∀ i, i < 2 → IsS X (18 + 6 * i)
def IsM (X : Xw) : Prop := Ob X 30 6 (fs_M X) ∧ AI X 31 5046 ∧ AI X 32 10092 ∧ AZ X 33 2 ∧ AI X 34 7 ∧ AI X 35 7 ∧ AZ X 36 7 ∧ AI X 37 420 ∧ AI X 38 5040 ∧ AI X 39 35280 ∧ AI X 40 5040 ∧ AI X 41 8 ∧ AI X 42 16 ∧ AI X 43 16 ∧ AI X 44 7 ∧ AI X 45 16384 ∧ AI X 46 16384 ∧ AI X 47 16384 ∧ AI X 48 7
theorem cv_G_makeStill : cV yy_G_makeStill bc_G_makeStill 2 none 0 := ⟨tb_35, tb_33, tb_34, tb_3, by decide, by decide, by decide +kernel⟩
theorem cv_G_copyFrom : cV yy_G_copyFrom bc_G_copyFrom 2 none 1 := ⟨tb_466, tb_464, tb_465, tb_3, by decide, by decide, by decide +kernel⟩
theorem cv_G_has : cV yy_G_has bc_G_has 3 (some .boolean) 1 := ⟨tb_237, tb_235, tb_236, tb_3, by decide, by decide, by decide +kernel⟩
theorem cs_G_isRank : cS yy_G_isRank bc_G_isRank 1 (some .boolean) 1 := ⟨tb_55, tb_54, tb_3, by decide, by decide, by decide +kernel⟩
theorem cv_G_add : cV yy_G_add bc_G_add 3 none 1 := ⟨tb_40, tb_39, tp_0, tb_3, by decide, by decide, by decide +kernel⟩
theorem cv_G_widenByKind : cV yy_G_widenByKind bc_G_widenByKind 6 none 4 := ⟨tb_219, tb_217, tb_218, tb_3, by decide, by decide, by decide +kernel⟩
theorem cv_G_widen : cV yy_G_widen bc_G_widen 6 none 1 := ⟨tb_233, tb_231, tb_232, tb_3, by decide, by decide, by decide +kernel⟩
theorem cv_G_addCopy : cV yy_G_addCopy bc_G_addCopy 4 none 2 := ⟨tb_241, tb_240, tp_2, tb_3, by decide, by decide, by decide +kernel⟩
theorem cv_G_reachFrom : cV yy_G_reachFrom bc_G_reachFrom 4 (some .int) 1 := ⟨tb_310, tb_308, tb_309, tb_3, by decide, by decide, by decide +kernel⟩
theorem cv_G_holding : cV yy_G_holding bc_G_holding 4 (some .int) 1 := ⟨tb_316, tb_314, tb_315, tb_3, by decide, by decide, by decide +kernel⟩
theorem cv_D_toldTurn : cV yy_D_toldTurn bc_D_toldTurn 6 (some .int) 1 := ⟨tb_259, tb_257, tb_258, tb_6, by decide, by decide, by decide +kernel⟩
theorem cv_P_bringUp : cV yy_P_bringUp bc_P_bringUp 4 none 1 := ⟨tb_332, tb_330, tb_331, tb_8, by decide, by decide, by decide +kernel⟩
theorem cv_P_setPlaces : cV yy_P_setPlaces bc_P_setPlaces 4 none 1 := ⟨tb_336, tb_335, tp_5, tb_8, by decide, by decide, by decide +kernel⟩
theorem cv_P_gather : cV yy_P_gather bc_P_gather 6 none 2 := ⟨tb_347, tb_346, tp_6, tb_8, by decide, by decide, by decide +kernel⟩
theorem cv_P_put : cV yy_P_put bc_P_put 2 none 1 := ⟨tb_351, tb_350, tp_7, tb_8, by decide, by decide, by decide +kernel⟩
theorem cv_P_patternOf : cV yy_P_patternOf bc_P_patternOf 2 (some .int) 1 := ⟨tb_396, tb_394, tb_395, tb_8, by decide, by decide, by decide +kernel⟩
theorem cv_P_turned : cV yy_P_turned bc_P_turned 6 (some .int) 2 := ⟨tb_356, tb_355, tp_8, tb_8, by decide, by decide, by decide +kernel⟩
theorem cv_P_leastOf : cV yy_P_leastOf bc_P_leastOf 3 (some .int) 1 := ⟨tb_365, tb_363, tb_364, tb_8, by decide, by decide, by decide +kernel⟩
theorem cv_P_sizeOf : cV yy_P_sizeOf bc_P_sizeOf 2 (some .int) 1 := ⟨tb_383, tb_381, tb_382, tb_8, by decide, by decide, by decide +kernel⟩
theorem cv_P_twinOf : cV yy_P_twinOf bc_P_twinOf 3 (some .int) 2 := ⟨tb_388, tb_386, tb_387, tb_8, by decide, by decide, by decide +kernel⟩
theorem cv_P_keepersOf : cV yy_P_keepersOf bc_P_keepersOf 4 (some .int) 2 := ⟨tb_416, tb_414, tb_415, tb_8, by decide, by decide, by decide +kernel⟩
theorem cv_P_firstToLeast : cV yy_P_firstToLeast bc_P_firstToLeast 7 (some .int) 2 := ⟨tb_450, tb_448, tb_449, tb_8, by decide, by decide, by decide +kernel⟩
theorem cv_P_amountOfWeight : cV yy_P_amountOfWeight bc_P_amountOfWeight 5 (some .int) 2 := ⟨tb_361, tb_359, tb_360, tb_8, by decide, by decide, by decide +kernel⟩
theorem cv_P_amountHanded : cV yy_P_amountHanded bc_P_amountHanded 4 (some .int) 1 := ⟨tb_425, tb_423, tb_424, tb_8, by decide, by decide, by decide +kernel⟩
theorem cv_P_amountOfAllColours : cV yy_P_amountOfAllColours bc_P_amountOfAllColours 4 (some .int) 1 := ⟨tb_430, tb_428, tb_429, tb_8, by decide, by decide, by decide +kernel⟩
theorem cv_P_amountAlone : cV yy_P_amountAlone bc_P_amountAlone 3 (some .int) 0 := ⟨tb_435, tb_433, tb_434, tb_8, by decide, by decide, by decide +kernel⟩
theorem cv_P_greatestSize : cV yy_P_greatestSize bc_P_greatestSize 3 (some .int) 0 := ⟨tb_439, tb_437, tb_438, tb_8, by decide, by decide, by decide +kernel⟩
theorem cv_S_copyFrom : cV yy_S_copyFrom bc_S_copyFrom 2 none 1 := ⟨tb_459, tb_457, tb_458, tb_2, by decide, by decide, by decide +kernel⟩
theorem cv_S_colourings : cV yy_S_colourings bc_S_colourings 3 (some .int) 0 := ⟨tb_343, tb_341, tb_342, tb_2, by decide, by decide, by decide +kernel⟩
theorem cv_S_isReadable : cV yy_S_isReadable bc_S_isReadable 2 (some .boolean) 1 := ⟨tb_373, tb_372, tp_9, tb_2, by decide, by decide, by decide +kernel⟩
theorem cv_S_mirrored : cV yy_S_mirrored bc_S_mirrored 5 (some .int) 1 := ⟨tb_392, tb_390, tb_391, tb_2, by decide, by decide, by decide +kernel⟩
theorem cv_S_weightOf : cV yy_S_weightOf bc_S_weightOf 5 (some .int) 1 := ⟨tb_369, tb_367, tb_368, tb_2, by decide, by decide, by decide +kernel⟩
theorem cv_S_coloursOf : cV yy_S_coloursOf bc_S_coloursOf 5 (some .int) 1 := ⟨tb_400, tb_398, tb_399, tb_2, by decide, by decide, by decide +kernel⟩
theorem cs_U_goal : cS yy_U_goal bc_U_goal 2 (some .int) 2 := ⟨tb_46, tb_45, tb_4, by decide, by decide, by decide +kernel⟩
theorem cs_U_withGoal : cS yy_U_withGoal bc_U_withGoal 4 (some .int) 3 := ⟨tb_229, tb_228, tb_4, by decide, by decide, by decide +kernel⟩
theorem cs_U_oneThenOther : cS yy_U_oneThenOther bc_U_oneThenOther 4 (some .int) 2 := ⟨tb_244, tb_243, tb_4, by decide, by decide, by decide +kernel⟩
theorem cs_U_rank : cS yy_U_rank bc_U_rank 6 (some .int) 1 := ⟨tb_43, tb_42, tb_4, by decide, by decide, by decide +kernel⟩
theorem cs_U_typeOf : cS yy_U_typeOf bc_U_typeOf 7 (some .int) 2 := ⟨tb_278, tb_277, tb_4, by decide, by decide, by decide +kernel⟩
theorem cs_U_tallyCycles : cS yy_U_tallyCycles bc_U_tallyCycles 7 (some .int) 2 := ⟨tb_281, tb_280, tb_4, by decide, by decide, by decide +kernel⟩
theorem cs_U_timesTillStill : cS yy_U_timesTillStill bc_U_timesTillStill 3 (some .int) 1 := ⟨tb_284, tb_283, tb_4, by decide, by decide, by decide +kernel⟩
theorem cs_U_roundTurn : cS yy_U_roundTurn bc_U_roundTurn 6 (some .int) 3 := ⟨tb_222, tb_221, tb_4, by decide, by decide, by decide +kernel⟩
theorem cs_U_flipTurn : cS yy_U_flipTurn bc_U_flipTurn 5 (some .int) 3 := ⟨tb_247, tb_246, tb_4, by decide, by decide, by decide +kernel⟩
theorem cs_U_withThing : cS yy_U_withThing bc_U_withThing 6 (some .int) 4 := ⟨tb_226, tb_225, tb_4, by decide, by decide, by decide +kernel⟩
theorem cv_Y_bringUp : cV yy_Y_bringUp bc_Y_bringUp 3 none 1 := ⟨tb_293, tb_291, tb_292, tb_7, by decide, by decide, by decide +kernel⟩
theorem cv_Y_add : cV yy_Y_add bc_Y_add 3 none 1 := ⟨tb_298, tb_297, tp_3, tb_7, by decide, by decide, by decide +kernel⟩
theorem cv_Y_insert : cV yy_Y_insert bc_Y_insert 4 none 2 := ⟨tb_302, tb_301, tp_4, tb_7, by decide, by decide, by decide +kernel⟩
theorem cv_T_points : cV yy_T_points bc_T_points 3 (some .int) 1 := ⟨tb_202, tb_200, tb_201, tb_1, by decide, by decide, by decide +kernel⟩
theorem cv_T_beside : cV yy_T_beside bc_T_beside 4 (some .int) 3 := ⟨tb_212, tb_210, tb_211, tb_1, by decide, by decide, by decide +kernel⟩
theorem cv_T_blocks : cV yy_T_blocks bc_T_blocks 6 (some .int) 3 := ⟨tb_251, tb_249, tb_250, tb_1, by decide, by decide, by decide +kernel⟩
theorem cv_T_join : cV yy_T_join bc_T_join 2 (some .int) 0 := ⟨tb_255, tb_253, tb_254, tb_1, by decide, by decide, by decide +kernel⟩
theorem cv_T_say : cV yy_T_say bc_T_say 2 (some .int) 1 := ⟨tb_267, tb_265, tb_266, tb_1, by decide, by decide, by decide +kernel⟩
theorem cv_T_wipe : cV yy_T_wipe bc_T_wipe 2 (some .int) 0 := ⟨tb_271, tb_269, tb_270, tb_1, by decide, by decide, by decide +kernel⟩
theorem cv_T_turn : cV yy_T_turn bc_T_turn 3 (some .int) 1 := ⟨tb_275, tb_273, tb_274, tb_1, by decide, by decide, by decide +kernel⟩
theorem cv_T_type : cV yy_T_type bc_T_type 3 (some .int) 2 := ⟨tb_289, tb_287, tb_288, tb_1, by decide, by decide, by decide +kernel⟩
theorem cv_T_orbit : cV yy_T_orbit bc_T_orbit 3 (some .int) 2 := ⟨tb_306, tb_304, tb_305, tb_1, by decide, by decide, by decide +kernel⟩
theorem cv_T_sorts : cV yy_T_sorts bc_T_sorts 3 (some .int) 1 := ⟨tb_320, tb_318, tb_319, tb_1, by decide, by decide, by decide +kernel⟩
theorem cv_T_weight : cV yy_T_weight bc_T_weight 4 (some .int) 2 := ⟨tb_324, tb_322, tb_323, tb_1, by decide, by decide, by decide +kernel⟩
theorem cv_T_patterns : cV yy_T_patterns bc_T_patterns 2 (some .int) 1 := ⟨tb_328, tb_326, tb_327, tb_1, by decide, by decide, by decide +kernel⟩
theorem cv_T_pattern : cV yy_T_pattern bc_T_pattern 4 (some .int) 2 := ⟨tb_378, tb_376, tb_377, tb_1, by decide, by decide, by decide +kernel⟩
theorem cv_T_of : cV yy_T_of bc_T_of 4 (some .int) 2 := ⟨tb_405, tb_403, tb_404, tb_1, by decide, by decide, by decide +kernel⟩
theorem cv_T_kinds : cV yy_T_kinds bc_T_kinds 2 (some .int) 1 := ⟨tb_421, tb_419, tb_420, tb_1, by decide, by decide, by decide +kernel⟩
theorem cv_T_by : cV yy_T_by bc_T_by 3 (some .int) 2 := ⟨tb_446, tb_444, tb_445, tb_1, by decide, by decide, by decide +kernel⟩
theorem cv_T_image : cV yy_T_image bc_T_image 2 (some .int) 1 := ⟨tb_455, tb_453, tb_454, tb_1, by decide, by decide, by decide +kernel⟩
theorem cv_T_restore : cV yy_T_restore bc_T_restore 2 (some .int) 1 := ⟨tb_471, tb_469, tb_470, tb_1, by decide, by decide, by decide +kernel⟩
theorem cv_T_count : cV yy_T_count bc_T_count 2 (some .int) 1 := ⟨tb_475, tb_473, tb_474, tb_1, by decide, by decide, by decide +kernel⟩
theorem cs_T_isWithin : cS yy_T_isWithin bc_T_isWithin 3 (some .boolean) 3 := ⟨tb_58, tb_57, tb_1, by decide, by decide, by decide +kernel⟩
theorem cs_T_isKind : cS yy_T_isKind bc_T_isKind 1 (some .boolean) 1 := ⟨tb_215, tb_214, tb_1, by decide, by decide, by decide +kernel⟩
theorem cv_T_isNumber : cV yy_T_isNumber bc_T_isNumber 2 (some .boolean) 1 := ⟨tb_409, tb_408, tp_10, tb_1, by decide, by decide, by decide +kernel⟩
theorem cv_T_forgetGroup : cV yy_T_forgetGroup bc_T_forgetGroup 1 none 0 := ⟨tb_208, tb_207, tp_1, tb_1, by decide, by decide, by decide +kernel⟩
theorem cs_M_in : cS yy_M_in bc_M_in 3 (some .boolean) 3 := ⟨tb_598, tb_597, tb_9, by decide, by decide, by decide +kernel⟩
theorem cv_M_many : cV yy_M_many bc_M_many 1 (some .int) 0 := ⟨tb_498, tb_497, tp_14, tb_9, by decide, by decide, by decide +kernel⟩
theorem cv_M_rank : cV yy_M_rank bc_M_rank 5 (some .int) 0 := ⟨tb_502, tb_501, tp_15, tb_9, by decide, by decide, by decide +kernel⟩
theorem cv_M_layRank : cV yy_M_layRank bc_M_layRank 6 none 1 := ⟨tb_510, tb_509, tp_17, tb_9, by decide, by decide, by decide +kernel⟩
theorem cv_M_beginGroup : cV yy_M_beginGroup bc_M_beginGroup 1 none 0 := ⟨tb_486, tb_485, tp_11, tb_9, by decide, by decide, by decide +kernel⟩
theorem cv_M_addMaker : cV yy_M_addMaker bc_M_addMaker 2 none 0 := ⟨tb_621, tb_620, tp_22, tb_9, by decide, by decide, by decide +kernel⟩
theorem cv_M_layStill : cV yy_M_layStill bc_M_layStill 2 none 0 := ⟨tb_494, tb_493, tp_13, tb_9, by decide, by decide, by decide +kernel⟩
theorem cv_M_meet : cV yy_M_meet bc_M_meet 2 none 1 := ⟨tb_506, tb_505, tp_16, tb_9, by decide, by decide, by decide +kernel⟩
theorem cv_M_closeGroup : cV yy_M_closeGroup bc_M_closeGroup 4 none 0 := ⟨tb_490, tb_489, tp_12, tb_9, by decide, by decide, by decide +kernel⟩
theorem cv_M_layTurns : cV yy_M_layTurns bc_M_layTurns 3 none 0 := ⟨tb_514, tb_513, tp_18, tb_9, by decide, by decide, by decide +kernel⟩
theorem cv_M_points : cV yy_M_points bc_M_points 3 (some .int) 1 := ⟨tb_595, tb_593, tb_594, tb_9, by decide, by decide, by decide +kernel⟩
theorem cs_M_isKind : cS yy_M_isKind bc_M_isKind 1 (some .boolean) 1 := ⟨tb_605, tb_604, tb_9, by decide, by decide, by decide +kernel⟩
theorem cv_M_bring : cV yy_M_bring bc_M_bring 6 none 4 := ⟨tb_617, tb_616, tp_21, tb_9, by decide, by decide, by decide +kernel⟩
theorem cv_M_addRound : cV yy_M_addRound bc_M_addRound 5 none 3 := ⟨tb_613, tb_612, tp_20, tb_9, by decide, by decide, by decide +kernel⟩
theorem cv_M_addFlip : cV yy_M_addFlip bc_M_addFlip 5 none 3 := ⟨tb_625, tb_624, tp_23, tb_9, by decide, by decide, by decide +kernel⟩
theorem cv_M_addNext : cV yy_M_addNext bc_M_addNext 6 none 4 := ⟨tb_629, tb_628, tp_24, tb_9, by decide, by decide, by decide +kernel⟩
theorem cv_M_addKind : cV yy_M_addKind bc_M_addKind 7 none 4 := ⟨tb_609, tb_608, tp_19, tb_9, by decide, by decide, by decide +kernel⟩
theorem cv_M_beside : cV yy_M_beside bc_M_beside 4 (some .int) 3 := ⟨tb_602, tb_600, tb_601, tb_9, by decide, by decide, by decide +kernel⟩
theorem cv_M_blocks : cV yy_M_blocks bc_M_blocks 5 (some .int) 3 := ⟨tb_633, tb_631, tb_632, tb_9, by decide, by decide, by decide +kernel⟩
theorem cv_M_say : cV yy_M_say bc_M_say 2 (some .int) 1 := ⟨tb_637, tb_635, tb_636, tb_9, by decide, by decide, by decide +kernel⟩
theorem cv_M_wipe : cV yy_M_wipe bc_M_wipe 2 (some .int) 0 := ⟨tb_641, tb_639, tb_640, tb_9, by decide, by decide, by decide +kernel⟩
theorem cv_M_layPad : cV yy_M_layPad bc_M_layPad 4 (some .boolean) 0 := ⟨tb_649, tb_648, tp_25, tb_9, by decide, by decide, by decide +kernel⟩
theorem cv_M_join : cV yy_M_join bc_M_join 3 (some .int) 0 := ⟨tb_645, tb_643, tb_644, tb_9, by decide, by decide, by decide +kernel⟩
theorem cv_M_typeOfRow : cV yy_M_typeOfRow bc_M_typeOfRow 5 (some .int) 0 := ⟨tb_657, tb_656, tp_26, tb_9, by decide, by decide, by decide +kernel⟩
theorem cs_M_common : cS yy_M_common bc_M_common 5 (some .int) 2 := ⟨tb_663, tb_662, tb_9, by decide, by decide, by decide +kernel⟩
theorem cs_M_orderOf : cS yy_M_orderOf bc_M_orderOf 3 (some .int) 1 := ⟨tb_660, tb_659, tb_9, by decide, by decide, by decide +kernel⟩
theorem cv_M_turn : cV yy_M_turn bc_M_turn 2 (some .int) 1 := ⟨tb_653, tb_651, tb_652, tb_9, by decide, by decide, by decide +kernel⟩
theorem cv_M_addType : cV yy_M_addType bc_M_addType 4 none 1 := ⟨tb_679, tb_678, tp_29, tb_9, by decide, by decide, by decide +kernel⟩
theorem cv_M_layTurn : cV yy_M_layTurn bc_M_layTurn 3 none 1 := ⟨tb_675, tb_674, tp_28, tb_9, by decide, by decide, by decide +kernel⟩
theorem cv_M_layTypes : cV yy_M_layTypes bc_M_layTypes 2 none 0 := ⟨tb_671, tb_670, tp_27, tb_9, by decide, by decide, by decide +kernel⟩
theorem cv_M_type : cV yy_M_type bc_M_type 3 (some .int) 2 := ⟨tb_667, tb_665, tb_666, tb_9, by decide, by decide, by decide +kernel⟩
theorem cv_M_isPoint : cV yy_M_isPoint bc_M_isPoint 2 (some .boolean) 1 := ⟨tb_687, tb_686, tp_30, tb_9, by decide, by decide, by decide +kernel⟩
theorem cv_M_orbit : cV yy_M_orbit bc_M_orbit 7 (some .int) 2 := ⟨tb_683, tb_681, tb_682, tb_9, by decide, by decide, by decide +kernel⟩
theorem cv_M_layColours : cV yy_M_layColours bc_M_layColours 4 none 1 := ⟨tb_715, tb_714, tp_34, tb_9, by decide, by decide, by decide +kernel⟩
theorem cv_M_layWorths : cV yy_M_layWorths bc_M_layWorths 3 none 0 := ⟨tb_707, tb_706, tp_32, tb_9, by decide, by decide, by decide +kernel⟩
theorem cv_M_turned : cV yy_M_turned bc_M_turned 4 (some .int) 1 := ⟨tb_719, tb_718, tp_35, tb_9, by decide, by decide, by decide +kernel⟩
theorem cv_M_layPatterns : cV yy_M_layPatterns bc_M_layPatterns 2 none 0 := ⟨tb_703, tb_702, tp_31, tb_9, by decide, by decide, by decide +kernel⟩
theorem cv_M_strike : cV yy_M_strike bc_M_strike 4 none 1 := ⟨tb_711, tb_710, tp_33, tb_9, by decide, by decide, by decide +kernel⟩
theorem cv_M_weightOf : cV yy_M_weightOf bc_M_weightOf 4 (some .int) 1 := ⟨tb_723, tb_722, tp_36, tb_9, by decide, by decide, by decide +kernel⟩
theorem cv_M_coloursOf : cV yy_M_coloursOf bc_M_coloursOf 4 (some .int) 1 := ⟨tb_739, tb_738, tp_39, tb_9, by decide, by decide, by decide +kernel⟩
theorem cv_M_mirrored : cV yy_M_mirrored bc_M_mirrored 4 (some .int) 1 := ⟨tb_735, tb_734, tp_38, tb_9, by decide, by decide, by decide +kernel⟩
theorem cv_M_sorts : cV yy_M_sorts bc_M_sorts 3 (some .int) 1 := ⟨tb_691, tb_689, tb_690, tb_9, by decide, by decide, by decide +kernel⟩
theorem cv_M_weight : cV yy_M_weight bc_M_weight 4 (some .int) 2 := ⟨tb_695, tb_693, tb_694, tb_9, by decide, by decide, by decide +kernel⟩
theorem cv_M_patterns : cV yy_M_patterns bc_M_patterns 4 (some .int) 1 := ⟨tb_699, tb_697, tb_698, tb_9, by decide, by decide, by decide +kernel⟩
theorem cv_M_twin : cV yy_M_twin bc_M_twin 2 (some .int) 1 := ⟨tb_731, tb_730, tp_37, tb_9, by decide, by decide, by decide +kernel⟩
theorem cv_M_pattern : cV yy_M_pattern bc_M_pattern 3 (some .int) 2 := ⟨tb_727, tb_725, tb_726, tb_9, by decide, by decide, by decide +kernel⟩
theorem cv_M_isNumber : cV yy_M_isNumber bc_M_isNumber 2 (some .boolean) 1 := ⟨tb_747, tb_746, tp_40, tb_9, by decide, by decide, by decide +kernel⟩
theorem cv_M_of : cV yy_M_of bc_M_of 4 (some .int) 2 := ⟨tb_743, tb_741, tb_742, tb_9, by decide, by decide, by decide +kernel⟩
theorem cv_M_isOf : cV yy_M_isOf bc_M_isOf 3 (some .boolean) 2 := ⟨tb_755, tb_754, tp_41, tb_9, by decide, by decide, by decide +kernel⟩
theorem cv_M_kinds : cV yy_M_kinds bc_M_kinds 5 (some .int) 1 := ⟨tb_751, tb_749, tb_750, tb_9, by decide, by decide, by decide +kernel⟩
theorem cv_M_by : cV yy_M_by bc_M_by 5 (some .int) 2 := ⟨tb_759, tb_757, tb_758, tb_9, by decide, by decide, by decide +kernel⟩
theorem cv_M_image : cV yy_M_image bc_M_image 3 (some .int) 1 := ⟨tb_763, tb_761, tb_762, tb_9, by decide, by decide, by decide +kernel⟩
theorem cv_M_restore : cV yy_M_restore bc_M_restore 3 (some .int) 1 := ⟨tb_767, tb_765, tb_766, tb_9, by decide, by decide, by decide +kernel⟩
theorem cv_M_count : cV yy_M_count bc_M_count 2 (some .int) 1 := ⟨tb_771, tb_769, tb_770, tb_9, by decide, by decide, by decide +kernel⟩
theorem cs_J_bitCount : cS yy_J_bitCount bc_J_bitCount 1 (some .int) 1 := ⟨tb_49, tb_48, tb_5, by decide, by decide, by decide +kernel⟩
section XM
variable {p : Program} {l : Launch} {e : Env} {R : Room} {s : State} {m : MethodId} {args : Array Value} {below : List Frame} {meth : Method} {c : Code} {H : Heap} {locs : List Loc} {cells slots : Nat} {Q : State → Prop}
variable {cc : ByteArray} {pc : Nat} {ls : Array Slot} {rest : List Value} {nL : Nat} {own : String} {X : Xw} {A : Nat → Prop}
theorem x_max (hC : Cx p s m args c cc nL own X A) {a b : Int} (ha : inR a) (hb : inR b) {idx : Nat} (hls : ls.size = nL) (hlk : Cond.methodLink own idx ⟨"java/lang/Math", "max", "(II)I"⟩ ∈ tg) (hframes : 1 ≤ R.frames) (hlocals : (rest.map fun v => v.category).sum + 13 ≤ R.locals) (hcs : cells ≤ R.cells ∧ slots ≤ R.slots) (hd : decode cc pc = .ok (.invokestatic idx, 3))
    (kk : ∀ z : Int, inR z → z = (if a < b then b else a) → W p l e R s m args below meth c H locs cells slots Q (F0 m (pc + 3) ls (.int (iI z) :: rest))) : W p l e R s m args below meth c H locs cells slots Q (F0 m pc ls (.int (iI b) :: .int (iI a) :: rest)) := by
  obtain ⟨⟨hx, hbb, hml, hown, hts⟩, hK, hl, hA, hN⟩ := hC
  refine va_mmax hx hbb (by rw [hml, hls]) hown (hts _ hlk) (hts _ tb_441) (hts _ tb_10) (hts _ tb_442) hframes hlocals hcs.1 hcs.2 hd ?_
  have e1 : (if iI a < iI b then iI b else iI a) = iI (if a < b then b else a) := by
    by_cases h : a < b
    · rw [if_pos ((iI_lt ha hb).mpr h), if_pos h]
    · rw [if_neg (fun q => h ((iI_lt ha hb).mp q)), if_neg h]
  rw [e1]
  exact kk _ (by split <;> assumption) rfl
theorem x_min (hC : Cx p s m args c cc nL own X A) {a b : Int} (ha : inR a) (hb : inR b) {idx : Nat} (hls : ls.size = nL) (hlk : Cond.methodLink own idx ⟨"java/lang/Math", "min", "(II)I"⟩ ∈ tg) (hframes : 1 ≤ R.frames) (hlocals : (rest.map fun v => v.category).sum + 13 ≤ R.locals) (hcs : cells ≤ R.cells ∧ slots ≤ R.slots) (hd : decode cc pc = .ok (.invokestatic idx, 3))
    (kk : ∀ z : Int, inR z → z = (if b < a then b else a) → W p l e R s m args below meth c H locs cells slots Q (F0 m (pc + 3) ls (.int (iI z) :: rest))) : W p l e R s m args below meth c H locs cells slots Q (F0 m pc ls (.int (iI b) :: .int (iI a) :: rest)) := by
  obtain ⟨⟨hx, hbb, hml, hown, hts⟩, hK, hl, hA, hN⟩ := hC
  refine va_mmin hx hbb (by rw [hml, hls]) hown (hts _ hlk) (hts _ tb_338) (hts _ tb_10) (hts _ tb_339) hframes hlocals hcs.1 hcs.2 hd ?_
  have e1 : (if iI b < iI a then iI b else iI a) = iI (if b < a then b else a) := by
    by_cases h : b < a
    · rw [if_pos ((iI_lt hb ha).mpr h), if_pos h]
    · rw [if_neg (fun q => h ((iI_lt hb ha).mp q)), if_neg h]
  rw [e1]
  exact kk _ (by split <;> assumption) rfl
end XM
