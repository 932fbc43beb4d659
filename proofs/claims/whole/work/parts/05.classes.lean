theorem iw_G : ∀ w ∈ u_ws rr_G ft_G 5, w ∈ tg := by
  have e : u_ws rr_G ft_G 5 = [Cond.laysFinal "TurnCounts$Group" "TurnCounts$Group" "turns" "[I", Cond.lays "TurnCounts$Group" "TurnCounts$Group" "size" "I", Cond.laysFinal "TurnCounts$Group" "TurnCounts$Group" "makers" "[I", Cond.lays "TurnCounts$Group" "TurnCounts$Group" "makerCount" "I", Cond.laysFinal "TurnCounts$Group" "TurnCounts$Group" "members" "[I"] := by decide +kernel
  rw [e]
  exact List.forall_mem_cons.mpr ⟨tb_65, List.forall_mem_cons.mpr ⟨tb_67, List.forall_mem_cons.mpr ⟨tb_69, List.forall_mem_cons.mpr ⟨tb_71, List.forall_mem_cons.mpr ⟨tb_73, fun _ h => absurd h List.not_mem_nil⟩⟩⟩⟩⟩
theorem iw_D : ∀ w ∈ u_ws rr_D ft_D 2, w ∈ tg := by
  have e : u_ws rr_D ft_D 2 = [Cond.laysFinal "TurnCounts$Pad" "TurnCounts$Pad" "signs" "[I", Cond.lays "TurnCounts$Pad" "TurnCounts$Pad" "length" "I"] := by decide +kernel
  rw [e]
  exact List.forall_mem_cons.mpr ⟨tb_110, List.forall_mem_cons.mpr ⟨tb_112, fun _ h => absurd h List.not_mem_nil⟩⟩
theorem iw_P : ∀ w ∈ u_ws rr_P ft_P 9, w ∈ tg := by
  have e : u_ws rr_P ft_P 9 = [Cond.laysFinal "TurnCounts$PatternTable" "TurnCounts$PatternTable" "patternOf" "[I", Cond.laysFinal "TurnCounts$PatternTable" "TurnCounts$PatternTable" "colourings" "[I", Cond.laysFinal "TurnCounts$PatternTable" "TurnCounts$PatternTable" "starts" "[I", Cond.laysFinal "TurnCounts$PatternTable" "TurnCounts$PatternTable" "places" "[I", Cond.lays "TurnCounts$PatternTable" "TurnCounts$PatternTable" "many" "I", Cond.lays "TurnCounts$PatternTable" "TurnCounts$PatternTable" "sortCount" "I", Cond.lays "TurnCounts$PatternTable" "TurnCounts$PatternTable" "filled" "I", Cond.lays "TurnCounts$PatternTable" "TurnCounts$PatternTable" "amount" "I", Cond.lays "TurnCounts$PatternTable" "TurnCounts$PatternTable" "upToDate" "Z"] := by decide +kernel
  rw [e]
  exact List.forall_mem_cons.mpr ⟨tb_156, List.forall_mem_cons.mpr ⟨tb_158, List.forall_mem_cons.mpr ⟨tb_160, List.forall_mem_cons.mpr ⟨tb_162, List.forall_mem_cons.mpr ⟨tb_164, List.forall_mem_cons.mpr ⟨tb_166, List.forall_mem_cons.mpr ⟨tb_168, List.forall_mem_cons.mpr ⟨tb_170, List.forall_mem_cons.mpr ⟨tb_172, fun _ h => absurd h List.not_mem_nil⟩⟩⟩⟩⟩⟩⟩⟩⟩
theorem iw_S : ∀ w ∈ u_ws rr_S ft_S 4, w ∈ tg := by
  have e : u_ws rr_S ft_S 4 = [Cond.lays "TurnCounts$Setting" "TurnCounts$Setting" "many" "I", Cond.lays "TurnCounts$Setting" "TurnCounts$Setting" "sortCount" "I", Cond.laysFinal "TurnCounts$Setting" "TurnCounts$Setting" "weights" "[I", Cond.laysFinal "TurnCounts$Setting" "TurnCounts$Setting" "group" "LTurnCounts$Group;"] := by decide +kernel
  rw [e]
  exact List.forall_mem_cons.mpr ⟨tb_90, List.forall_mem_cons.mpr ⟨tb_92, List.forall_mem_cons.mpr ⟨tb_94, List.forall_mem_cons.mpr ⟨tb_96, fun _ h => absurd h List.not_mem_nil⟩⟩⟩⟩
theorem iw_Y : ∀ w ∈ u_ws rr_Y ft_Y 4, w ∈ tg := by
  have e : u_ws rr_Y ft_Y 4 = [Cond.laysFinal "TurnCounts$TypeTable" "TurnCounts$TypeTable" "figures" "[I", Cond.laysFinal "TurnCounts$TypeTable" "TurnCounts$TypeTable" "turns" "[I", Cond.lays "TurnCounts$TypeTable" "TurnCounts$TypeTable" "amount" "I", Cond.lays "TurnCounts$TypeTable" "TurnCounts$TypeTable" "upToDate" "Z"] := by decide +kernel
  rw [e]
  exact List.forall_mem_cons.mpr ⟨tb_129, List.forall_mem_cons.mpr ⟨tb_131, List.forall_mem_cons.mpr ⟨tb_133, List.forall_mem_cons.mpr ⟨tb_135, fun _ h => absurd h List.not_mem_nil⟩⟩⟩⟩
theorem iw_T : ∀ w ∈ u_ws rr_T ft_T 6, w ∈ tg := by
  have e : u_ws rr_T ft_T 6 = [Cond.laysFinal "TurnCounts" "TurnCounts" "now" "LTurnCounts$Setting;", Cond.laysFinal "TurnCounts" "TurnCounts" "kept" "[LTurnCounts$Setting;", Cond.lays "TurnCounts" "TurnCounts" "keptSet" "I", Cond.laysFinal "TurnCounts" "TurnCounts" "pad" "LTurnCounts$Pad;", Cond.laysFinal "TurnCounts" "TurnCounts" "types" "LTurnCounts$TypeTable;", Cond.laysFinal "TurnCounts" "TurnCounts" "table" "LTurnCounts$PatternTable;"] := by decide +kernel
  rw [e]
  exact List.forall_mem_cons.mpr ⟨tb_181, List.forall_mem_cons.mpr ⟨tb_183, List.forall_mem_cons.mpr ⟨tb_185, List.forall_mem_cons.mpr ⟨tb_187, List.forall_mem_cons.mpr ⟨tb_189, List.forall_mem_cons.mpr ⟨tb_191, fun _ h => absurd h List.not_mem_nil⟩⟩⟩⟩⟩⟩
theorem iw_M : ∀ w ∈ u_ws rr_M ft_M 25, w ∈ tg := by
  have e : u_ws rr_M ft_M 25 = [Cond.laysFinal "TurnCountsModel" "TurnCountsModel" "state" "[I", Cond.laysFinal "TurnCountsModel" "TurnCountsModel" "images" "[I", Cond.laysFinal "TurnCountsModel" "TurnCountsModel" "isKept" "[Z", Cond.laysFinal "TurnCountsModel" "TurnCountsModel" "pad" "[I", Cond.lays "TurnCountsModel" "TurnCountsModel" "said" "I", Cond.laysFinal "TurnCountsModel" "TurnCountsModel" "row" "[I", Cond.laysFinal "TurnCountsModel" "TurnCountsModel" "isUsed" "[Z", Cond.laysFinal "TurnCountsModel" "TurnCountsModel" "maker" "[I", Cond.lays "TurnCountsModel" "TurnCountsModel" "makers" "I", Cond.laysFinal "TurnCountsModel" "TurnCountsModel" "wave" "[I", Cond.lays "TurnCountsModel" "TurnCountsModel" "waved" "I", Cond.laysFinal "TurnCountsModel" "TurnCountsModel" "turnOf" "[I", Cond.lays "TurnCountsModel" "TurnCountsModel" "turns" "I", Cond.laysFinal "TurnCountsModel" "TurnCountsModel" "had" "[I", Cond.laysFinal "TurnCountsModel" "TurnCountsModel" "longs" "[I", Cond.laysFinal "TurnCountsModel" "TurnCountsModel" "types" "[I", Cond.laysFinal "TurnCountsModel" "TurnCountsModel" "typeMany" "[I", Cond.lays "TurnCountsModel" "TurnCountsModel" "typesMany" "I", Cond.laysFinal "TurnCountsModel" "TurnCountsModel" "colour" "[I", Cond.laysFinal "TurnCountsModel" "TurnCountsModel" "patternOf" "[I", Cond.laysFinal "TurnCountsModel" "TurnCountsModel" "leastOf" "[I", Cond.laysFinal "TurnCountsModel" "TurnCountsModel" "sizeOf" "[I", Cond.lays "TurnCountsModel" "TurnCountsModel" "patternMany" "I", Cond.lays "TurnCountsModel" "TurnCountsModel" "colourings" "I", Cond.laysFinal "TurnCountsModel" "TurnCountsModel" "placeWorth" "[I"] := by decide +kernel
  rw [e]
  exact List.forall_mem_cons.mpr ⟨tb_523, List.forall_mem_cons.mpr ⟨tb_525, List.forall_mem_cons.mpr ⟨tb_527, List.forall_mem_cons.mpr ⟨tb_529, List.forall_mem_cons.mpr ⟨tb_531, List.forall_mem_cons.mpr ⟨tb_533, List.forall_mem_cons.mpr ⟨tb_535, List.forall_mem_cons.mpr ⟨tb_537, List.forall_mem_cons.mpr ⟨tb_539, List.forall_mem_cons.mpr ⟨tb_541, List.forall_mem_cons.mpr ⟨tb_543, List.forall_mem_cons.mpr ⟨tb_545, List.forall_mem_cons.mpr ⟨tb_547, List.forall_mem_cons.mpr ⟨tb_549, List.forall_mem_cons.mpr ⟨tb_551, List.forall_mem_cons.mpr ⟨tb_553, List.forall_mem_cons.mpr ⟨tb_555, List.forall_mem_cons.mpr ⟨tb_557, List.forall_mem_cons.mpr ⟨tb_559, List.forall_mem_cons.mpr ⟨tb_561, List.forall_mem_cons.mpr ⟨tb_563, List.forall_mem_cons.mpr ⟨tb_565, List.forall_mem_cons.mpr ⟨tb_567, List.forall_mem_cons.mpr ⟨tb_569, List.forall_mem_cons.mpr ⟨tb_571, fun _ h => absurd h List.not_mem_nil⟩⟩⟩⟩⟩⟩⟩⟩⟩⟩⟩⟩⟩⟩⟩⟩⟩⟩⟩⟩⟩⟩⟩⟩⟩
def fs_G (X : Xw) (g : Nat) (M : Mm) : List Value := [.ref (xA X (g + 1)), .int (iI (M g 1)), .ref (xA X (g + 2)), .int (iI (M g 3)), .ref (xA X (g + 3))]
theorem ps_G_1 (X : Xw) (g : Nat) (M : Mm) (v : Int) : fs_G X g (ms M g 1 v) = (fs_G X g M).set 1 (.int (iI v)) := by simp [fs_G, ms]
theorem ps_G_3 (X : Xw) (g : Nat) (M : Mm) (v : Int) : fs_G X g (ms M g 3 v) = (fs_G X g M).set 3 (.int (iI v)) := by simp [fs_G, ms]
def fs_D (X : Xw) (M : Mm) : List Value := [.ref (xA X 3), .int (iI (M 2 1))]
theorem ps_D_1 (X : Xw) (M : Mm) (v : Int) : fs_D X (ms M 2 1 v) = (fs_D X M).set 1 (.int (iI v)) := by simp [fs_D, ms]
def fs_P (X : Xw) (M : Mm) : List Value := [.ref (xA X 8), .ref (xA X 9), .ref (xA X 10), .ref (xA X 11), .int (iI (M 7 4)), .int (iI (M 7 5)), .int (iI (M 7 6)), .int (iI (M 7 7)), .int (iI (M 7 8))]
theorem ps_P_4 (X : Xw) (M : Mm) (v : Int) : fs_P X (ms M 7 4 v) = (fs_P X M).set 4 (.int (iI v)) := by simp [fs_P, ms]
theorem ps_P_5 (X : Xw) (M : Mm) (v : Int) : fs_P X (ms M 7 5 v) = (fs_P X M).set 5 (.int (iI v)) := by simp [fs_P, ms]
theorem ps_P_6 (X : Xw) (M : Mm) (v : Int) : fs_P X (ms M 7 6 v) = (fs_P X M).set 6 (.int (iI v)) := by simp [fs_P, ms]
theorem ps_P_7 (X : Xw) (M : Mm) (v : Int) : fs_P X (ms M 7 7 v) = (fs_P X M).set 7 (.int (iI v)) := by simp [fs_P, ms]
theorem ps_P_8 (X : Xw) (M : Mm) (v : Int) : fs_P X (ms M 7 8 v) = (fs_P X M).set 8 (.int (iI v)) := by simp [fs_P, ms]
def fs_S (X : Xw) (s : Nat) (M : Mm) : List Value := [.int (iI (M s 0)), .int (iI (M s 1)), .ref (xA X (s + 1)), .ref (xA X (s + 2))]
theorem ps_S_0 (X : Xw) (s : Nat) (M : Mm) (v : Int) : fs_S X s (ms M s 0 v) = (fs_S X s M).set 0 (.int (iI v)) := by simp [fs_S, ms]
theorem ps_S_1 (X : Xw) (s : Nat) (M : Mm) (v : Int) : fs_S X s (ms M s 1 v) = (fs_S X s M).set 1 (.int (iI v)) := by simp [fs_S, ms]
def fs_Y (X : Xw) (M : Mm) : List Value := [.ref (xA X 5), .ref (xA X 6), .int (iI (M 4 2)), .int (iI (M 4 3))]
theorem ps_Y_2 (X : Xw) (M : Mm) (v : Int) : fs_Y X (ms M 4 2 v) = (fs_Y X M).set 2 (.int (iI v)) := by simp [fs_Y, ms]
theorem ps_Y_3 (X : Xw) (M : Mm) (v : Int) : fs_Y X (ms M 4 3 v) = (fs_Y X M).set 3 (.int (iI v)) := by simp [fs_Y, ms]
def fs_T (X : Xw) (M : Mm) : List Value := [.ref (xA X 12), .ref (xA X 1), .int (iI (M 0 2)), .ref (xA X 2), .ref (xA X 4), .ref (xA X 7)]
theorem ps_T_2 (X : Xw) (M : Mm) (v : Int) : fs_T X (ms M 0 2 v) = (fs_T X M).set 2 (.int (iI v)) := by simp [fs_T, ms]
def fs_M (X : Xw) (M : Mm) : List Value := [.ref (xA X 31), .ref (xA X 32), .ref (xA X 33), .ref (xA X 34), .int (iI (M 30 4)), .ref (xA X 35), .ref (xA X 36), .ref (xA X 37), .int (iI (M 30 8)), .ref (xA X 38), .int (iI (M 30 10)), .ref (xA X 39), .int (iI (M 30 12)), .ref (xA X 40), .ref (xA X 41), .ref (xA X 42), .ref (xA X 43), .int (iI (M 30 17)), .ref (xA X 44), .ref (xA X 45), .ref (xA X 46), .ref (xA X 47), .int (iI (M 30 22)), .int (iI (M 30 23)), .ref (xA X 48)]
theorem ps_M_4 (X : Xw) (M : Mm) (v : Int) : fs_M X (ms M 30 4 v) = (fs_M X M).set 4 (.int (iI v)) := by simp [fs_M, ms]
theorem ps_M_8 (X : Xw) (M : Mm) (v : Int) : fs_M X (ms M 30 8 v) = (fs_M X M).set 8 (.int (iI v)) := by simp [fs_M, ms]
theorem ps_M_10 (X : Xw) (M : Mm) (v : Int) : fs_M X (ms M 30 10 v) = (fs_M X M).set 10 (.int (iI v)) := by simp [fs_M, ms]
theorem ps_M_12 (X : Xw) (M : Mm) (v : Int) : fs_M X (ms M 30 12 v) = (fs_M X M).set 12 (.int (iI v)) := by simp [fs_M, ms]
theorem ps_M_17 (X : Xw) (M : Mm) (v : Int) : fs_M X (ms M 30 17 v) = (fs_M X M).set 17 (.int (iI v)) := by simp [fs_M, ms]
theorem ps_M_22 (X : Xw) (M : Mm) (v : Int) : fs_M X (ms M 30 22 v) = (fs_M X M).set 22 (.int (iI v)) := by simp [fs_M, ms]
theorem ps_M_23 (X : Xw) (M : Mm) (v : Int) : fs_M X (ms M 30 23 v) = (fs_M X M).set 23 (.int (iI v)) := by simp [fs_M, ms]
def IsG (X : Xw) (g : Nat) : Prop := Ob X g 0 (fs_G X g) ∧ AI X (g + 1) 5040 ∧ AI X (g + 2) 12 ∧ AI X (g + 3) 158
def IsS (X : Xw) (s : Nat) : Prop := Ob X s 3 (fs_S X s) ∧ AI X (s + 1) 4 ∧ IsG X (s + 2)
def IsD (X : Xw) : Prop := Ob X 2 1 (fs_D X) ∧ AI X 3 7
def IsY (X : Xw) : Prop := Ob X 4 4 (fs_Y X) ∧ AI X 5 15 ∧ AI X 6 15
def IsP (X : Xw) : Prop := Ob X 7 2 (fs_P X) ∧ AI X 8 16384 ∧ AI X 9 16384 ∧ AI X 10 16385 ∧ AI X 11 7
def IsT (X : Xw) : Prop := Ob X 0 5 (fs_T X) ∧ AQ X 1 2 (fun i => some (xA X (18 + 6 * i))) ∧ IsD X ∧ IsY X ∧ IsP X ∧ IsS X 12 ∧ ∀ i, i < 2 → IsS X (18 + 6 * i)
def IsM (X : Xw) : Prop := Ob X 30 6 (fs_M X) ∧ AI X 31 5046 ∧ AI X 32 10092 ∧ AZ X 33 2 ∧ AI X 34 7 ∧ AI X 35 7 ∧ AZ X 36 7 ∧ AI X 37 420 ∧ AI X 38 5040 ∧ AI X 39 35280 ∧ AI X 40 5040 ∧ AI X 41 8 ∧ AI X 42 16 ∧ AI X 43 16 ∧ AI X 44 7 ∧ AI X 45 16384 ∧ AI X 46 16384 ∧ AI X 47 16384 ∧ AI X 48 7
theorem cv_G_makeStill : cV yy_G_makeStill bc_G_makeStill 2 none 0 := ⟨tb_35, tb_33, tb_34, tb_3, by decide, by decide, by decide +kernel⟩
theorem cv_G_copyFrom : cV yy_G_copyFrom bc_G_copyFrom 2 none 1 := ⟨tb_449, tb_447, tb_448, tb_3, by decide, by decide, by decide +kernel⟩
theorem cv_G_has : cV yy_G_has bc_G_has 3 (some .boolean) 1 := ⟨tb_234, tb_232, tb_233, tb_3, by decide, by decide, by decide +kernel⟩
theorem cv_G_add : cV yy_G_add bc_G_add 3 none 1 := ⟨tb_40, tb_39, tp_0, tb_3, by decide, by decide, by decide +kernel⟩
theorem cv_G_widenByKind : cV yy_G_widenByKind bc_G_widenByKind 6 none 4 := ⟨tb_216, tb_214, tb_215, tb_3, by decide, by decide, by decide +kernel⟩
theorem cv_G_widen : cV yy_G_widen bc_G_widen 6 none 1 := ⟨tb_230, tb_228, tb_229, tb_3, by decide, by decide, by decide +kernel⟩
theorem cv_G_addCopy : cV yy_G_addCopy bc_G_addCopy 4 none 2 := ⟨tb_238, tb_237, tp_2, tb_3, by decide, by decide, by decide +kernel⟩
theorem cv_G_reachFrom : cV yy_G_reachFrom bc_G_reachFrom 4 (some .int) 1 := ⟨tb_307, tb_305, tb_306, tb_3, by decide, by decide, by decide +kernel⟩
theorem cv_G_holding : cV yy_G_holding bc_G_holding 4 (some .int) 1 := ⟨tb_313, tb_311, tb_312, tb_3, by decide, by decide, by decide +kernel⟩
theorem cv_D_toldTurn : cV yy_D_toldTurn bc_D_toldTurn 6 (some .int) 1 := ⟨tb_256, tb_254, tb_255, tb_6, by decide, by decide, by decide +kernel⟩
theorem cv_P_bringUp : cV yy_P_bringUp bc_P_bringUp 4 none 1 := ⟨tb_329, tb_327, tb_328, tb_8, by decide, by decide, by decide +kernel⟩
theorem cv_P_setPlaces : cV yy_P_setPlaces bc_P_setPlaces 4 none 1 := ⟨tb_333, tb_332, tp_5, tb_8, by decide, by decide, by decide +kernel⟩
theorem cv_P_gather : cV yy_P_gather bc_P_gather 6 none 2 := ⟨tb_341, tb_340, tp_6, tb_8, by decide, by decide, by decide +kernel⟩
theorem cv_P_put : cV yy_P_put bc_P_put 2 none 1 := ⟨tb_345, tb_344, tp_7, tb_8, by decide, by decide, by decide +kernel⟩
theorem cv_P_turned : cV yy_P_turned bc_P_turned 6 (some .int) 2 := ⟨tb_349, tb_348, tp_8, tb_8, by decide, by decide, by decide +kernel⟩
theorem cv_P_leastOf : cV yy_P_leastOf bc_P_leastOf 2 (some .int) 1 := ⟨tb_358, tb_356, tb_357, tb_8, by decide, by decide, by decide +kernel⟩
theorem cv_P_sizeOf : cV yy_P_sizeOf bc_P_sizeOf 2 (some .int) 1 := ⟨tb_371, tb_369, tb_370, tb_8, by decide, by decide, by decide +kernel⟩
theorem cv_P_twinOf : cV yy_P_twinOf bc_P_twinOf 3 (some .int) 2 := ⟨tb_376, tb_374, tb_375, tb_8, by decide, by decide, by decide +kernel⟩
theorem cv_P_keepersOf : cV yy_P_keepersOf bc_P_keepersOf 4 (some .int) 2 := ⟨tb_399, tb_397, tb_398, tb_8, by decide, by decide, by decide +kernel⟩
theorem cv_P_firstToLeast : cV yy_P_firstToLeast bc_P_firstToLeast 7 (some .int) 2 := ⟨tb_433, tb_431, tb_432, tb_8, by decide, by decide, by decide +kernel⟩
theorem cv_P_amountOfWeight : cV yy_P_amountOfWeight bc_P_amountOfWeight 5 (some .int) 2 := ⟨tb_354, tb_352, tb_353, tb_8, by decide, by decide, by decide +kernel⟩
theorem cv_P_amountHanded : cV yy_P_amountHanded bc_P_amountHanded 4 (some .int) 1 := ⟨tb_408, tb_406, tb_407, tb_8, by decide, by decide, by decide +kernel⟩
theorem cv_P_amountOfAllColours : cV yy_P_amountOfAllColours bc_P_amountOfAllColours 4 (some .int) 1 := ⟨tb_413, tb_411, tb_412, tb_8, by decide, by decide, by decide +kernel⟩
theorem cv_P_amountAlone : cV yy_P_amountAlone bc_P_amountAlone 3 (some .int) 0 := ⟨tb_418, tb_416, tb_417, tb_8, by decide, by decide, by decide +kernel⟩
theorem cv_P_greatestSize : cV yy_P_greatestSize bc_P_greatestSize 3 (some .int) 0 := ⟨tb_422, tb_420, tb_421, tb_8, by decide, by decide, by decide +kernel⟩
theorem cv_S_copyFrom : cV yy_S_copyFrom bc_S_copyFrom 2 none 1 := ⟨tb_442, tb_440, tb_441, tb_2, by decide, by decide, by decide +kernel⟩
theorem cv_S_colourings : cV yy_S_colourings bc_S_colourings 3 (some .int) 0 := ⟨tb_337, tb_335, tb_336, tb_2, by decide, by decide, by decide +kernel⟩
theorem cv_S_mirrored : cV yy_S_mirrored bc_S_mirrored 5 (some .int) 1 := ⟨tb_380, tb_378, tb_379, tb_2, by decide, by decide, by decide +kernel⟩
theorem cv_S_weightOf : cV yy_S_weightOf bc_S_weightOf 5 (some .int) 1 := ⟨tb_362, tb_360, tb_361, tb_2, by decide, by decide, by decide +kernel⟩
theorem cv_S_coloursOf : cV yy_S_coloursOf bc_S_coloursOf 5 (some .int) 1 := ⟨tb_384, tb_382, tb_383, tb_2, by decide, by decide, by decide +kernel⟩
theorem cs_U_goal : cS yy_U_goal bc_U_goal 2 (some .int) 2 := ⟨tb_46, tb_45, tb_4, by decide, by decide, by decide +kernel⟩
theorem cs_U_withGoal : cS yy_U_withGoal bc_U_withGoal 4 (some .int) 3 := ⟨tb_226, tb_225, tb_4, by decide, by decide, by decide +kernel⟩
theorem cs_U_oneThenOther : cS yy_U_oneThenOther bc_U_oneThenOther 4 (some .int) 2 := ⟨tb_241, tb_240, tb_4, by decide, by decide, by decide +kernel⟩
theorem cs_U_rank : cS yy_U_rank bc_U_rank 6 (some .int) 1 := ⟨tb_43, tb_42, tb_4, by decide, by decide, by decide +kernel⟩
theorem cs_U_typeOf : cS yy_U_typeOf bc_U_typeOf 7 (some .int) 2 := ⟨tb_275, tb_274, tb_4, by decide, by decide, by decide +kernel⟩
theorem cs_U_tallyCycles : cS yy_U_tallyCycles bc_U_tallyCycles 7 (some .int) 2 := ⟨tb_278, tb_277, tb_4, by decide, by decide, by decide +kernel⟩
theorem cs_U_timesTillStill : cS yy_U_timesTillStill bc_U_timesTillStill 3 (some .int) 1 := ⟨tb_281, tb_280, tb_4, by decide, by decide, by decide +kernel⟩
theorem cs_U_roundTurn : cS yy_U_roundTurn bc_U_roundTurn 6 (some .int) 3 := ⟨tb_219, tb_218, tb_4, by decide, by decide, by decide +kernel⟩
theorem cs_U_flipTurn : cS yy_U_flipTurn bc_U_flipTurn 5 (some .int) 3 := ⟨tb_244, tb_243, tb_4, by decide, by decide, by decide +kernel⟩
theorem cs_U_withThing : cS yy_U_withThing bc_U_withThing 6 (some .int) 4 := ⟨tb_223, tb_222, tb_4, by decide, by decide, by decide +kernel⟩
theorem cv_Y_bringUp : cV yy_Y_bringUp bc_Y_bringUp 3 none 1 := ⟨tb_290, tb_288, tb_289, tb_7, by decide, by decide, by decide +kernel⟩
theorem cv_Y_add : cV yy_Y_add bc_Y_add 3 none 1 := ⟨tb_295, tb_294, tp_3, tb_7, by decide, by decide, by decide +kernel⟩
theorem cv_Y_insert : cV yy_Y_insert bc_Y_insert 4 none 2 := ⟨tb_299, tb_298, tp_4, tb_7, by decide, by decide, by decide +kernel⟩
theorem cv_T_points : cV yy_T_points bc_T_points 3 (some .int) 1 := ⟨tb_197, tb_195, tb_196, tb_1, by decide, by decide, by decide +kernel⟩
theorem cv_T_beside : cV yy_T_beside bc_T_beside 4 (some .int) 3 := ⟨tb_209, tb_207, tb_208, tb_1, by decide, by decide, by decide +kernel⟩
theorem cv_T_blocks : cV yy_T_blocks bc_T_blocks 6 (some .int) 3 := ⟨tb_248, tb_246, tb_247, tb_1, by decide, by decide, by decide +kernel⟩
theorem cv_T_join : cV yy_T_join bc_T_join 2 (some .int) 0 := ⟨tb_252, tb_250, tb_251, tb_1, by decide, by decide, by decide +kernel⟩
theorem cv_T_say : cV yy_T_say bc_T_say 2 (some .int) 1 := ⟨tb_264, tb_262, tb_263, tb_1, by decide, by decide, by decide +kernel⟩
theorem cv_T_wipe : cV yy_T_wipe bc_T_wipe 2 (some .int) 0 := ⟨tb_268, tb_266, tb_267, tb_1, by decide, by decide, by decide +kernel⟩
theorem cv_T_turn : cV yy_T_turn bc_T_turn 3 (some .int) 1 := ⟨tb_272, tb_270, tb_271, tb_1, by decide, by decide, by decide +kernel⟩
theorem cv_T_type : cV yy_T_type bc_T_type 3 (some .int) 2 := ⟨tb_286, tb_284, tb_285, tb_1, by decide, by decide, by decide +kernel⟩
theorem cv_T_orbit : cV yy_T_orbit bc_T_orbit 3 (some .int) 2 := ⟨tb_303, tb_301, tb_302, tb_1, by decide, by decide, by decide +kernel⟩
theorem cv_T_sorts : cV yy_T_sorts bc_T_sorts 3 (some .int) 1 := ⟨tb_317, tb_315, tb_316, tb_1, by decide, by decide, by decide +kernel⟩
theorem cv_T_weight : cV yy_T_weight bc_T_weight 4 (some .int) 2 := ⟨tb_321, tb_319, tb_320, tb_1, by decide, by decide, by decide +kernel⟩
theorem cv_T_patterns : cV yy_T_patterns bc_T_patterns 2 (some .int) 1 := ⟨tb_325, tb_323, tb_324, tb_1, by decide, by decide, by decide +kernel⟩
theorem cv_T_pattern : cV yy_T_pattern bc_T_pattern 4 (some .int) 2 := ⟨tb_366, tb_364, tb_365, tb_1, by decide, by decide, by decide +kernel⟩
theorem cv_T_of : cV yy_T_of bc_T_of 4 (some .int) 2 := ⟨tb_389, tb_387, tb_388, tb_1, by decide, by decide, by decide +kernel⟩
theorem cv_T_kinds : cV yy_T_kinds bc_T_kinds 2 (some .int) 1 := ⟨tb_404, tb_402, tb_403, tb_1, by decide, by decide, by decide +kernel⟩
theorem cv_T_by : cV yy_T_by bc_T_by 3 (some .int) 2 := ⟨tb_429, tb_427, tb_428, tb_1, by decide, by decide, by decide +kernel⟩
theorem cv_T_image : cV yy_T_image bc_T_image 2 (some .int) 1 := ⟨tb_438, tb_436, tb_437, tb_1, by decide, by decide, by decide +kernel⟩
theorem cv_T_restore : cV yy_T_restore bc_T_restore 2 (some .int) 1 := ⟨tb_454, tb_452, tb_453, tb_1, by decide, by decide, by decide +kernel⟩
theorem cv_T_count : cV yy_T_count bc_T_count 2 (some .int) 1 := ⟨tb_458, tb_456, tb_457, tb_1, by decide, by decide, by decide +kernel⟩
theorem cs_T_isWithin : cS yy_T_isWithin bc_T_isWithin 3 (some .boolean) 3 := ⟨tb_200, tb_199, tb_1, by decide, by decide, by decide +kernel⟩
theorem cs_T_isKind : cS yy_T_isKind bc_T_isKind 1 (some .boolean) 1 := ⟨tb_212, tb_211, tb_1, by decide, by decide, by decide +kernel⟩
theorem cv_T_isNumber : cV yy_T_isNumber bc_T_isNumber 2 (some .boolean) 1 := ⟨tb_393, tb_392, tp_9, tb_1, by decide, by decide, by decide +kernel⟩
theorem cv_T_forgetGroup : cV yy_T_forgetGroup bc_T_forgetGroup 1 none 0 := ⟨tb_205, tb_204, tp_1, tb_1, by decide, by decide, by decide +kernel⟩
theorem cs_M_in : cS yy_M_in bc_M_in 3 (some .boolean) 3 := ⟨tb_581, tb_580, tb_9, by decide, by decide, by decide +kernel⟩
theorem cv_M_many : cV yy_M_many bc_M_many 1 (some .int) 0 := ⟨tb_481, tb_480, tp_13, tb_9, by decide, by decide, by decide +kernel⟩
theorem cv_M_rank : cV yy_M_rank bc_M_rank 5 (some .int) 0 := ⟨tb_485, tb_484, tp_14, tb_9, by decide, by decide, by decide +kernel⟩
theorem cv_M_layRank : cV yy_M_layRank bc_M_layRank 6 none 1 := ⟨tb_493, tb_492, tp_16, tb_9, by decide, by decide, by decide +kernel⟩
theorem cv_M_beginGroup : cV yy_M_beginGroup bc_M_beginGroup 1 none 0 := ⟨tb_469, tb_468, tp_10, tb_9, by decide, by decide, by decide +kernel⟩
theorem cv_M_addMaker : cV yy_M_addMaker bc_M_addMaker 2 none 0 := ⟨tb_604, tb_603, tp_21, tb_9, by decide, by decide, by decide +kernel⟩
theorem cv_M_layStill : cV yy_M_layStill bc_M_layStill 2 none 0 := ⟨tb_477, tb_476, tp_12, tb_9, by decide, by decide, by decide +kernel⟩
theorem cv_M_meet : cV yy_M_meet bc_M_meet 2 none 1 := ⟨tb_489, tb_488, tp_15, tb_9, by decide, by decide, by decide +kernel⟩
theorem cv_M_closeGroup : cV yy_M_closeGroup bc_M_closeGroup 4 none 0 := ⟨tb_473, tb_472, tp_11, tb_9, by decide, by decide, by decide +kernel⟩
theorem cv_M_layTurns : cV yy_M_layTurns bc_M_layTurns 3 none 0 := ⟨tb_497, tb_496, tp_17, tb_9, by decide, by decide, by decide +kernel⟩
theorem cv_M_points : cV yy_M_points bc_M_points 3 (some .int) 1 := ⟨tb_578, tb_576, tb_577, tb_9, by decide, by decide, by decide +kernel⟩
theorem cs_M_isKind : cS yy_M_isKind bc_M_isKind 1 (some .boolean) 1 := ⟨tb_588, tb_587, tb_9, by decide, by decide, by decide +kernel⟩
theorem cv_M_bring : cV yy_M_bring bc_M_bring 6 none 4 := ⟨tb_600, tb_599, tp_20, tb_9, by decide, by decide, by decide +kernel⟩
theorem cv_M_addRound : cV yy_M_addRound bc_M_addRound 5 none 3 := ⟨tb_596, tb_595, tp_19, tb_9, by decide, by decide, by decide +kernel⟩
theorem cv_M_addFlip : cV yy_M_addFlip bc_M_addFlip 5 none 3 := ⟨tb_608, tb_607, tp_22, tb_9, by decide, by decide, by decide +kernel⟩
theorem cv_M_addNext : cV yy_M_addNext bc_M_addNext 6 none 4 := ⟨tb_612, tb_611, tp_23, tb_9, by decide, by decide, by decide +kernel⟩
theorem cv_M_addKind : cV yy_M_addKind bc_M_addKind 7 none 4 := ⟨tb_592, tb_591, tp_18, tb_9, by decide, by decide, by decide +kernel⟩
theorem cv_M_beside : cV yy_M_beside bc_M_beside 4 (some .int) 3 := ⟨tb_585, tb_583, tb_584, tb_9, by decide, by decide, by decide +kernel⟩
theorem cv_M_blocks : cV yy_M_blocks bc_M_blocks 5 (some .int) 3 := ⟨tb_616, tb_614, tb_615, tb_9, by decide, by decide, by decide +kernel⟩
theorem cv_M_say : cV yy_M_say bc_M_say 2 (some .int) 1 := ⟨tb_620, tb_618, tb_619, tb_9, by decide, by decide, by decide +kernel⟩
theorem cv_M_wipe : cV yy_M_wipe bc_M_wipe 2 (some .int) 0 := ⟨tb_624, tb_622, tb_623, tb_9, by decide, by decide, by decide +kernel⟩
theorem cv_M_layPad : cV yy_M_layPad bc_M_layPad 4 (some .boolean) 0 := ⟨tb_632, tb_631, tp_24, tb_9, by decide, by decide, by decide +kernel⟩
theorem cv_M_join : cV yy_M_join bc_M_join 3 (some .int) 0 := ⟨tb_628, tb_626, tb_627, tb_9, by decide, by decide, by decide +kernel⟩
theorem cv_M_typeOfRow : cV yy_M_typeOfRow bc_M_typeOfRow 5 (some .int) 0 := ⟨tb_640, tb_639, tp_25, tb_9, by decide, by decide, by decide +kernel⟩
theorem cs_M_common : cS yy_M_common bc_M_common 5 (some .int) 2 := ⟨tb_646, tb_645, tb_9, by decide, by decide, by decide +kernel⟩
theorem cs_M_orderOf : cS yy_M_orderOf bc_M_orderOf 3 (some .int) 1 := ⟨tb_643, tb_642, tb_9, by decide, by decide, by decide +kernel⟩
theorem cv_M_turn : cV yy_M_turn bc_M_turn 2 (some .int) 1 := ⟨tb_636, tb_634, tb_635, tb_9, by decide, by decide, by decide +kernel⟩
theorem cv_M_addType : cV yy_M_addType bc_M_addType 4 none 1 := ⟨tb_662, tb_661, tp_28, tb_9, by decide, by decide, by decide +kernel⟩
theorem cv_M_layTurn : cV yy_M_layTurn bc_M_layTurn 3 none 1 := ⟨tb_658, tb_657, tp_27, tb_9, by decide, by decide, by decide +kernel⟩
theorem cv_M_layTypes : cV yy_M_layTypes bc_M_layTypes 2 none 0 := ⟨tb_654, tb_653, tp_26, tb_9, by decide, by decide, by decide +kernel⟩
theorem cv_M_type : cV yy_M_type bc_M_type 3 (some .int) 2 := ⟨tb_650, tb_648, tb_649, tb_9, by decide, by decide, by decide +kernel⟩
theorem cv_M_isPoint : cV yy_M_isPoint bc_M_isPoint 2 (some .boolean) 1 := ⟨tb_670, tb_669, tp_29, tb_9, by decide, by decide, by decide +kernel⟩
theorem cv_M_orbit : cV yy_M_orbit bc_M_orbit 7 (some .int) 2 := ⟨tb_666, tb_664, tb_665, tb_9, by decide, by decide, by decide +kernel⟩
theorem cv_M_layColours : cV yy_M_layColours bc_M_layColours 4 none 1 := ⟨tb_698, tb_697, tp_33, tb_9, by decide, by decide, by decide +kernel⟩
theorem cv_M_layWorths : cV yy_M_layWorths bc_M_layWorths 3 none 0 := ⟨tb_690, tb_689, tp_31, tb_9, by decide, by decide, by decide +kernel⟩
theorem cv_M_turned : cV yy_M_turned bc_M_turned 4 (some .int) 1 := ⟨tb_702, tb_701, tp_34, tb_9, by decide, by decide, by decide +kernel⟩
theorem cv_M_layPatterns : cV yy_M_layPatterns bc_M_layPatterns 2 none 0 := ⟨tb_686, tb_685, tp_30, tb_9, by decide, by decide, by decide +kernel⟩
theorem cv_M_strike : cV yy_M_strike bc_M_strike 4 none 1 := ⟨tb_694, tb_693, tp_32, tb_9, by decide, by decide, by decide +kernel⟩
theorem cv_M_weightOf : cV yy_M_weightOf bc_M_weightOf 4 (some .int) 1 := ⟨tb_706, tb_705, tp_35, tb_9, by decide, by decide, by decide +kernel⟩
theorem cv_M_coloursOf : cV yy_M_coloursOf bc_M_coloursOf 4 (some .int) 1 := ⟨tb_722, tb_721, tp_38, tb_9, by decide, by decide, by decide +kernel⟩
theorem cv_M_mirrored : cV yy_M_mirrored bc_M_mirrored 4 (some .int) 1 := ⟨tb_718, tb_717, tp_37, tb_9, by decide, by decide, by decide +kernel⟩
theorem cv_M_sorts : cV yy_M_sorts bc_M_sorts 3 (some .int) 1 := ⟨tb_674, tb_672, tb_673, tb_9, by decide, by decide, by decide +kernel⟩
theorem cv_M_weight : cV yy_M_weight bc_M_weight 4 (some .int) 2 := ⟨tb_678, tb_676, tb_677, tb_9, by decide, by decide, by decide +kernel⟩
theorem cv_M_patterns : cV yy_M_patterns bc_M_patterns 4 (some .int) 1 := ⟨tb_682, tb_680, tb_681, tb_9, by decide, by decide, by decide +kernel⟩
theorem cv_M_twin : cV yy_M_twin bc_M_twin 2 (some .int) 1 := ⟨tb_714, tb_713, tp_36, tb_9, by decide, by decide, by decide +kernel⟩
theorem cv_M_pattern : cV yy_M_pattern bc_M_pattern 3 (some .int) 2 := ⟨tb_710, tb_708, tb_709, tb_9, by decide, by decide, by decide +kernel⟩
theorem cv_M_isNumber : cV yy_M_isNumber bc_M_isNumber 2 (some .boolean) 1 := ⟨tb_730, tb_729, tp_39, tb_9, by decide, by decide, by decide +kernel⟩
theorem cv_M_of : cV yy_M_of bc_M_of 4 (some .int) 2 := ⟨tb_726, tb_724, tb_725, tb_9, by decide, by decide, by decide +kernel⟩
theorem cv_M_isOf : cV yy_M_isOf bc_M_isOf 3 (some .boolean) 2 := ⟨tb_738, tb_737, tp_40, tb_9, by decide, by decide, by decide +kernel⟩
theorem cv_M_kinds : cV yy_M_kinds bc_M_kinds 5 (some .int) 1 := ⟨tb_734, tb_732, tb_733, tb_9, by decide, by decide, by decide +kernel⟩
theorem cv_M_by : cV yy_M_by bc_M_by 5 (some .int) 2 := ⟨tb_742, tb_740, tb_741, tb_9, by decide, by decide, by decide +kernel⟩
theorem cv_M_image : cV yy_M_image bc_M_image 3 (some .int) 1 := ⟨tb_746, tb_744, tb_745, tb_9, by decide, by decide, by decide +kernel⟩
theorem cv_M_restore : cV yy_M_restore bc_M_restore 3 (some .int) 1 := ⟨tb_750, tb_748, tb_749, tb_9, by decide, by decide, by decide +kernel⟩
theorem cv_M_count : cV yy_M_count bc_M_count 2 (some .int) 1 := ⟨tb_754, tb_752, tb_753, tb_9, by decide, by decide, by decide +kernel⟩
theorem cs_J_bitCount : cS yy_J_bitCount bc_J_bitCount 1 (some .int) 1 := ⟨tb_49, tb_48, tb_5, by decide, by decide, by decide +kernel⟩
section XM
variable {p : Program} {l : Launch} {e : Env} {R : Room} {s : State} {m : MethodId} {args : Array Value} {below : List Frame} {meth : Method} {c : Code} {H : Heap} {locs : List Loc} {cells slots : Nat} {Q : State → Prop}
variable {cc : ByteArray} {pc : Nat} {ls : Array Slot} {rest : List Value} {nL : Nat} {own : String} {X : Xw} {A : Nat → Prop}
theorem x_max (hC : Cx p s m args c cc nL own X A) {a b : Int} (ha : inR a) (hb : inR b) {idx : Nat} (hls : ls.size = nL) (hlk : Cond.methodLink own idx ⟨"java/lang/Math", "max", "(II)I"⟩ ∈ tg) (hframes : 1 ≤ R.frames) (hlocals : (rest.map fun v => v.category).sum + 13 ≤ R.locals) (hcs : cells ≤ R.cells ∧ slots ≤ R.slots) (hd : decode cc pc = .ok (.invokestatic idx, 3))
    (kk : ∀ z : Int, inR z → z = (if a < b then b else a) → W p l e R s m args below meth c H locs cells slots Q (F0 m (pc + 3) ls (.int (iI z) :: rest))) : W p l e R s m args below meth c H locs cells slots Q (F0 m pc ls (.int (iI b) :: .int (iI a) :: rest)) := by
  obtain ⟨⟨hx, hbb, hml, hown, hts⟩, hK, hl, hA⟩ := hC
  refine va_mmax hx hbb (by rw [hml, hls]) hown (hts _ hlk) (hts _ tb_424) (hts _ tb_10) (hts _ tb_425) hframes hlocals hcs.1 hcs.2 hd ?_
  have e1 : (if iI a < iI b then iI b else iI a) = iI (if a < b then b else a) := by
    by_cases h : a < b
    · rw [if_pos ((iI_lt ha hb).mpr h), if_pos h]
    · rw [if_neg (fun q => h ((iI_lt ha hb).mp q)), if_neg h]
  rw [e1]
  exact kk _ (by split <;> assumption) rfl
end XM
