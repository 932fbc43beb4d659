theorem okI_1_0 : chI 1 0 0 cl_1_0 = true := by decide +kernel
theorem okN_1_0 : cl_1_0.length = 1 := by decide +kernel
theorem okZ_1_0 : ∀ z, cl_1_0.getLastD z = 42798 := fun z => by rw [List.getLastD_eq_getLast?, show cl_1_0.getLast? = some 42798 by decide +kernel]; rfl
theorem okI_1 : chI 1 0 0 cl_1 = true := by
  unfold cl_1
  exact okI_1_0
theorem okI_2_0 : chI 2 0 0 cl_2_0 = true := by decide +kernel
theorem okN_2_0 : cl_2_0.length = 2 := by decide +kernel
theorem okZ_2_0 : ∀ z, cl_2_0.getLastD z = 272174 := fun z => by rw [List.getLastD_eq_getLast?, show cl_2_0.getLast? = some 272174 by decide +kernel]; rfl
theorem okI_2 : chI 2 0 0 cl_2 = true := by
  unfold cl_2
  exact okI_2_0
theorem okI_3_0 : chI 3 0 0 cl_3_0 = true := by decide +kernel
theorem okN_3_0 : cl_3_0.length = 6 := by decide +kernel
theorem okZ_3_0 : ∀ z, cl_3_0.getLastD z = 558894 := fun z => by rw [List.getLastD_eq_getLast?, show cl_3_0.getLast? = some 558894 by decide +kernel]; rfl
theorem okI_3 : chI 3 0 0 cl_3 = true := by
  unfold cl_3
  exact okI_3_0
theorem okI_4_0 : chI 4 0 0 cl_4_0 = true := by decide +kernel
theorem okN_4_0 : cl_4_0.length = 24 := by decide +kernel
theorem okZ_4_0 : ∀ z, cl_4_0.getLastD z = 856366 := fun z => by rw [List.getLastD_eq_getLast?, show cl_4_0.getLast? = some 856366 by decide +kernel]; rfl
theorem okI_4 : chI 4 0 0 cl_4 = true := by
  unfold cl_4
  exact okI_4_0
theorem okI_5_0 : chI 5 0 0 cl_5_0 = true := by decide +kernel
theorem okN_5_0 : cl_5_0.length = 120 := by decide +kernel
theorem okZ_5_0 : ∀ z, cl_5_0.getLastD z = 1155630 := fun z => by rw [List.getLastD_eq_getLast?, show cl_5_0.getLast? = some 1155630 by decide +kernel]; rfl
theorem okI_5 : chI 5 0 0 cl_5 = true := by
  unfold cl_5
  exact okI_5_0
theorem okI_6_0 : chI 6 0 0 cl_6_0 = true := by decide +kernel
theorem okN_6_0 : cl_6_0.length = 240 := by decide +kernel
theorem okZ_6_0 : ∀ z, cl_6_0.getLastD z = 444038 := fun z => by rw [List.getLastD_eq_getLast?, show cl_6_0.getLast? = some 444038 by decide +kernel]; rfl
theorem okI_6_1 : chI 6 240 444038 cl_6_1 = true := by decide +kernel
theorem okN_6_1 : cl_6_1.length = 240 := by decide +kernel
theorem okZ_6_1 : ∀ z, cl_6_1.getLastD z = 967750 := fun z => by rw [List.getLastD_eq_getLast?, show cl_6_1.getLast? = some 967750 by decide +kernel]; rfl
theorem okI_6_2 : chI 6 480 967750 cl_6_2 = true := by decide +kernel
theorem okN_6_2 : cl_6_2.length = 240 := by decide +kernel
theorem okZ_6_2 : ∀ z, cl_6_2.getLastD z = 1455174 := fun z => by rw [List.getLastD_eq_getLast?, show cl_6_2.getLast? = some 1455174 by decide +kernel]; rfl
theorem okI_6 : chI 6 0 0 cl_6 = true := by
  unfold cl_6
  simp only [List.append_assoc]
  rw [chI_app, okI_6_0, okN_6_0, okZ_6_0, Bool.true_and, show 0 + 240 = 240 from rfl]
  rw [chI_app, okI_6_1, okN_6_1, okZ_6_1, Bool.true_and, show 240 + 240 = 480 from rfl]
  exact okI_6_2
theorem okI_7_0 : chI 7 0 0 cl_7_0 = true := by decide +kernel
theorem okN_7_0 : cl_7_0.length = 240 := by decide +kernel
theorem okZ_7_0 : ∀ z, cl_7_0.getLastD z = 92953 := fun z => by rw [List.getLastD_eq_getLast?, show cl_7_0.getLast? = some 92953 by decide +kernel]; rfl
theorem okI_7_1 : chI 7 240 92953 cl_7_1 = true := by decide +kernel
theorem okN_7_1 : cl_7_1.length = 240 := by decide +kernel
theorem okZ_7_1 : ∀ z, cl_7_1.getLastD z = 158417 := fun z => by rw [List.getLastD_eq_getLast?, show cl_7_1.getLast? = some 158417 by decide +kernel]; rfl
theorem okI_7_2 : chI 7 480 158417 cl_7_2 = true := by decide +kernel
theorem okN_7_2 : cl_7_2.length = 240 := by decide +kernel
theorem okZ_7_2 : ∀ z, cl_7_2.getLastD z = 219345 := fun z => by rw [List.getLastD_eq_getLast?, show cl_7_2.getLast? = some 219345 by decide +kernel]; rfl
theorem okI_7_3 : chI 7 720 219345 cl_7_3 = true := by decide +kernel
theorem okN_7_3 : cl_7_3.length = 240 := by decide +kernel
theorem okZ_7_3 : ∀ z, cl_7_3.getLastD z = 355096 := fun z => by rw [List.getLastD_eq_getLast?, show cl_7_3.getLast? = some 355096 by decide +kernel]; rfl
theorem okI_7_4 : chI 7 960 355096 cl_7_4 = true := by decide +kernel
theorem okN_7_4 : cl_7_4.length = 240 := by decide +kernel
theorem okZ_7_4 : ∀ z, cl_7_4.getLastD z = 420560 := fun z => by rw [List.getLastD_eq_getLast?, show cl_7_4.getLast? = some 420560 by decide +kernel]; rfl
theorem okI_7_5 : chI 7 1200 420560 cl_7_5 = true := by decide +kernel
theorem okN_7_5 : cl_7_5.length = 240 := by decide +kernel
theorem okZ_7_5 : ∀ z, cl_7_5.getLastD z = 481488 := fun z => by rw [List.getLastD_eq_getLast?, show cl_7_5.getLast? = some 481488 by decide +kernel]; rfl
theorem okI_7_6 : chI 7 1440 481488 cl_7_6 = true := by decide +kernel
theorem okN_7_6 : cl_7_6.length = 240 := by decide +kernel
theorem okZ_7_6 : ∀ z, cl_7_6.getLastD z = 584472 := fun z => by rw [List.getLastD_eq_getLast?, show cl_7_6.getLast? = some 584472 by decide +kernel]; rfl
theorem okI_7_7 : chI 7 1680 584472 cl_7_7 = true := by decide +kernel
theorem okN_7_7 : cl_7_7.length = 240 := by decide +kernel
theorem okZ_7_7 : ∀ z, cl_7_7.getLastD z = 682696 := fun z => by rw [List.getLastD_eq_getLast?, show cl_7_7.getLast? = some 682696 by decide +kernel]; rfl
theorem okI_7_8 : chI 7 1920 682696 cl_7_8 = true := by decide +kernel
theorem okN_7_8 : cl_7_8.length = 240 := by decide +kernel
theorem okZ_7_8 : ∀ z, cl_7_8.getLastD z = 743624 := fun z => by rw [List.getLastD_eq_getLast?, show cl_7_8.getLast? = some 743624 by decide +kernel]; rfl
theorem okI_7_9 : chI 7 2160 743624 cl_7_9 = true := by decide +kernel
theorem okN_7_9 : cl_7_9.length = 240 := by decide +kernel
theorem okZ_7_9 : ∀ z, cl_7_9.getLastD z = 846608 := fun z => by rw [List.getLastD_eq_getLast?, show cl_7_9.getLast? = some 846608 by decide +kernel]; rfl
theorem okI_7_10 : chI 7 2400 846608 cl_7_10 = true := by decide +kernel
theorem okN_7_10 : cl_7_10.length = 240 := by decide +kernel
theorem okZ_7_10 : ∀ z, cl_7_10.getLastD z = 944776 := fun z => by rw [List.getLastD_eq_getLast?, show cl_7_10.getLast? = some 944776 by decide +kernel]; rfl
theorem okI_7_11 : chI 7 2640 944776 cl_7_11 = true := by decide +kernel
theorem okN_7_11 : cl_7_11.length = 240 := by decide +kernel
theorem okZ_7_11 : ∀ z, cl_7_11.getLastD z = 1005704 := fun z => by rw [List.getLastD_eq_getLast?, show cl_7_11.getLast? = some 1005704 by decide +kernel]; rfl
theorem okI_7_12 : chI 7 2880 1005704 cl_7_12 = true := by decide +kernel
theorem okN_7_12 : cl_7_12.length = 240 := by decide +kernel
theorem okZ_7_12 : ∀ z, cl_7_12.getLastD z = 1108688 := fun z => by rw [List.getLastD_eq_getLast?, show cl_7_12.getLast? = some 1108688 by decide +kernel]; rfl
theorem okI_7_13 : chI 7 3120 1108688 cl_7_13 = true := by decide +kernel
theorem okN_7_13 : cl_7_13.length = 240 := by decide +kernel
theorem okZ_7_13 : ∀ z, cl_7_13.getLastD z = 1174152 := fun z => by rw [List.getLastD_eq_getLast?, show cl_7_13.getLast? = some 1174152 by decide +kernel]; rfl
theorem okI_7_14 : chI 7 3360 1174152 cl_7_14 = true := by decide +kernel
theorem okN_7_14 : cl_7_14.length = 240 := by decide +kernel
theorem okZ_7_14 : ∀ z, cl_7_14.getLastD z = 1267336 := fun z => by rw [List.getLastD_eq_getLast?, show cl_7_14.getLast? = some 1267336 by decide +kernel]; rfl
theorem okI_7_15 : chI 7 3600 1267336 cl_7_15 = true := by decide +kernel
theorem okN_7_15 : cl_7_15.length = 240 := by decide +kernel
theorem okZ_7_15 : ∀ z, cl_7_15.getLastD z = 1370320 := fun z => by rw [List.getLastD_eq_getLast?, show cl_7_15.getLast? = some 1370320 by decide +kernel]; rfl
theorem okI_7_16 : chI 7 3840 1370320 cl_7_16 = true := by decide +kernel
theorem okN_7_16 : cl_7_16.length = 240 := by decide +kernel
theorem okZ_7_16 : ∀ z, cl_7_16.getLastD z = 1435784 := fun z => by rw [List.getLastD_eq_getLast?, show cl_7_16.getLast? = some 1435784 by decide +kernel]; rfl
theorem okI_7_17 : chI 7 4080 1435784 cl_7_17 = true := by decide +kernel
theorem okN_7_17 : cl_7_17.length = 240 := by decide +kernel
theorem okZ_7_17 : ∀ z, cl_7_17.getLastD z = 1525384 := fun z => by rw [List.getLastD_eq_getLast?, show cl_7_17.getLast? = some 1525384 by decide +kernel]; rfl
theorem okI_7_18 : chI 7 4320 1525384 cl_7_18 = true := by decide +kernel
theorem okN_7_18 : cl_7_18.length = 240 := by decide +kernel
theorem okZ_7_18 : ∀ z, cl_7_18.getLastD z = 1628368 := fun z => by rw [List.getLastD_eq_getLast?, show cl_7_18.getLast? = some 1628368 by decide +kernel]; rfl
theorem okI_7_19 : chI 7 4560 1628368 cl_7_19 = true := by decide +kernel
theorem okN_7_19 : cl_7_19.length = 240 := by decide +kernel
theorem okZ_7_19 : ∀ z, cl_7_19.getLastD z = 1693832 := fun z => by rw [List.getLastD_eq_getLast?, show cl_7_19.getLast? = some 1693832 by decide +kernel]; rfl
theorem okI_7_20 : chI 7 4800 1693832 cl_7_20 = true := by decide +kernel
theorem okN_7_20 : cl_7_20.length = 240 := by decide +kernel
theorem okZ_7_20 : ∀ z, cl_7_20.getLastD z = 1754760 := fun z => by rw [List.getLastD_eq_getLast?, show cl_7_20.getLast? = some 1754760 by decide +kernel]; rfl
theorem okI_7 : chI 7 0 0 cl_7 = true := by
  unfold cl_7
  simp only [List.append_assoc]
  rw [chI_app, okI_7_0, okN_7_0, okZ_7_0, Bool.true_and, show 0 + 240 = 240 from rfl]
  rw [chI_app, okI_7_1, okN_7_1, okZ_7_1, Bool.true_and, show 240 + 240 = 480 from rfl]
  rw [chI_app, okI_7_2, okN_7_2, okZ_7_2, Bool.true_and, show 480 + 240 = 720 from rfl]
  rw [chI_app, okI_7_3, okN_7_3, okZ_7_3, Bool.true_and, show 720 + 240 = 960 from rfl]
  rw [chI_app, okI_7_4, okN_7_4, okZ_7_4, Bool.true_and, show 960 + 240 = 1200 from rfl]
  rw [chI_app, okI_7_5, okN_7_5, okZ_7_5, Bool.true_and, show 1200 + 240 = 1440 from rfl]
  rw [chI_app, okI_7_6, okN_7_6, okZ_7_6, Bool.true_and, show 1440 + 240 = 1680 from rfl]
  rw [chI_app, okI_7_7, okN_7_7, okZ_7_7, Bool.true_and, show 1680 + 240 = 1920 from rfl]
  rw [chI_app, okI_7_8, okN_7_8, okZ_7_8, Bool.true_and, show 1920 + 240 = 2160 from rfl]
  rw [chI_app, okI_7_9, okN_7_9, okZ_7_9, Bool.true_and, show 2160 + 240 = 2400 from rfl]
  rw [chI_app, okI_7_10, okN_7_10, okZ_7_10, Bool.true_and, show 2400 + 240 = 2640 from rfl]
  rw [chI_app, okI_7_11, okN_7_11, okZ_7_11, Bool.true_and, show 2640 + 240 = 2880 from rfl]
  rw [chI_app, okI_7_12, okN_7_12, okZ_7_12, Bool.true_and, show 2880 + 240 = 3120 from rfl]
  rw [chI_app, okI_7_13, okN_7_13, okZ_7_13, Bool.true_and, show 3120 + 240 = 3360 from rfl]
  rw [chI_app, okI_7_14, okN_7_14, okZ_7_14, Bool.true_and, show 3360 + 240 = 3600 from rfl]
  rw [chI_app, okI_7_15, okN_7_15, okZ_7_15, Bool.true_and, show 3600 + 240 = 3840 from rfl]
  rw [chI_app, okI_7_16, okN_7_16, okZ_7_16, Bool.true_and, show 3840 + 240 = 4080 from rfl]
  rw [chI_app, okI_7_17, okN_7_17, okZ_7_17, Bool.true_and, show 4080 + 240 = 4320 from rfl]
  rw [chI_app, okI_7_18, okN_7_18, okZ_7_18, Bool.true_and, show 4320 + 240 = 4560 from rfl]
  rw [chI_app, okI_7_19, okN_7_19, okZ_7_19, Bool.true_and, show 4560 + 240 = 4800 from rfl]
  exact okI_7_20
theorem okL_1_0 : cl_1_0.all (okL 1) = true := by decide +kernel
theorem okL_1 : (cdA 1).all (okL 1) = true := by
  rw [cl_eq_1]
  simp only [cl_1, List.all_append, okL_1_0, Bool.and_self]
theorem okL_2_0 : cl_2_0.all (okL 2) = true := by decide +kernel
theorem okL_2 : (cdA 2).all (okL 2) = true := by
  rw [cl_eq_2]
  simp only [cl_2, List.all_append, okL_2_0, Bool.and_self]
theorem okL_3_0 : cl_3_0.all (okL 3) = true := by decide +kernel
theorem okL_3 : (cdA 3).all (okL 3) = true := by
  rw [cl_eq_3]
  simp only [cl_3, List.all_append, okL_3_0, Bool.and_self]
theorem okL_4_0 : cl_4_0.all (okL 4) = true := by decide +kernel
theorem okL_4 : (cdA 4).all (okL 4) = true := by
  rw [cl_eq_4]
  simp only [cl_4, List.all_append, okL_4_0, Bool.and_self]
theorem okL_5_0 : cl_5_0.all (okL 5) = true := by decide +kernel
theorem okL_5 : (cdA 5).all (okL 5) = true := by
  rw [cl_eq_5]
  simp only [cl_5, List.all_append, okL_5_0, Bool.and_self]
theorem okL_6_0 : cl_6_0.all (okL 6) = true := by decide +kernel
theorem okL_6_1 : cl_6_1.all (okL 6) = true := by decide +kernel
theorem okL_6_2 : cl_6_2.all (okL 6) = true := by decide +kernel
theorem okL_6 : (cdA 6).all (okL 6) = true := by
  rw [cl_eq_6]
  simp only [cl_6, List.all_append, okL_6_0, okL_6_1, okL_6_2, Bool.and_self]
theorem okL_7_0 : cl_7_0.all (okL 7) = true := by decide +kernel
theorem okL_7_1 : cl_7_1.all (okL 7) = true := by decide +kernel
theorem okL_7_2 : cl_7_2.all (okL 7) = true := by decide +kernel
theorem okL_7_3 : cl_7_3.all (okL 7) = true := by decide +kernel
theorem okL_7_4 : cl_7_4.all (okL 7) = true := by decide +kernel
theorem okL_7_5 : cl_7_5.all (okL 7) = true := by decide +kernel
theorem okL_7_6 : cl_7_6.all (okL 7) = true := by decide +kernel
theorem okL_7_7 : cl_7_7.all (okL 7) = true := by decide +kernel
theorem okL_7_8 : cl_7_8.all (okL 7) = true := by decide +kernel
theorem okL_7_9 : cl_7_9.all (okL 7) = true := by decide +kernel
theorem okL_7_10 : cl_7_10.all (okL 7) = true := by decide +kernel
theorem okL_7_11 : cl_7_11.all (okL 7) = true := by decide +kernel
theorem okL_7_12 : cl_7_12.all (okL 7) = true := by decide +kernel
theorem okL_7_13 : cl_7_13.all (okL 7) = true := by decide +kernel
theorem okL_7_14 : cl_7_14.all (okL 7) = true := by decide +kernel
theorem okL_7_15 : cl_7_15.all (okL 7) = true := by decide +kernel
theorem okL_7_16 : cl_7_16.all (okL 7) = true := by decide +kernel
theorem okL_7_17 : cl_7_17.all (okL 7) = true := by decide +kernel
theorem okL_7_18 : cl_7_18.all (okL 7) = true := by decide +kernel
theorem okL_7_19 : cl_7_19.all (okL 7) = true := by decide +kernel
theorem okL_7_20 : cl_7_20.all (okL 7) = true := by decide +kernel
theorem okL_7 : (cdA 7).all (okL 7) = true := by
  rw [cl_eq_7]
  simp only [cl_7, List.all_append, okL_7_0, okL_7_1, okL_7_2, okL_7_3, okL_7_4, okL_7_5, okL_7_6, okL_7_7, okL_7_8, okL_7_9, okL_7_10, okL_7_11, okL_7_12, okL_7_13, okL_7_14, okL_7_15, okL_7_16, okL_7_17, okL_7_18, okL_7_19, okL_7_20, Bool.and_self]
theorem okC_7_0 : cl_7_0.all (fun t => crGo t 7 0 0 0 == some (rkF 7 t)) = true := by decide +kernel
theorem okC_7_1 : cl_7_1.all (fun t => crGo t 7 0 0 0 == some (rkF 7 t)) = true := by decide +kernel
theorem okC_7_2 : cl_7_2.all (fun t => crGo t 7 0 0 0 == some (rkF 7 t)) = true := by decide +kernel
theorem okC_7_3 : cl_7_3.all (fun t => crGo t 7 0 0 0 == some (rkF 7 t)) = true := by decide +kernel
theorem okC_7_4 : cl_7_4.all (fun t => crGo t 7 0 0 0 == some (rkF 7 t)) = true := by decide +kernel
theorem okC_7_5 : cl_7_5.all (fun t => crGo t 7 0 0 0 == some (rkF 7 t)) = true := by decide +kernel
theorem okC_7_6 : cl_7_6.all (fun t => crGo t 7 0 0 0 == some (rkF 7 t)) = true := by decide +kernel
theorem okC_7_7 : cl_7_7.all (fun t => crGo t 7 0 0 0 == some (rkF 7 t)) = true := by decide +kernel
theorem okC_7_8 : cl_7_8.all (fun t => crGo t 7 0 0 0 == some (rkF 7 t)) = true := by decide +kernel
theorem okC_7_9 : cl_7_9.all (fun t => crGo t 7 0 0 0 == some (rkF 7 t)) = true := by decide +kernel
theorem okC_7_10 : cl_7_10.all (fun t => crGo t 7 0 0 0 == some (rkF 7 t)) = true := by decide +kernel
theorem okC_7_11 : cl_7_11.all (fun t => crGo t 7 0 0 0 == some (rkF 7 t)) = true := by decide +kernel
theorem okC_7_12 : cl_7_12.all (fun t => crGo t 7 0 0 0 == some (rkF 7 t)) = true := by decide +kernel
theorem okC_7_13 : cl_7_13.all (fun t => crGo t 7 0 0 0 == some (rkF 7 t)) = true := by decide +kernel
theorem okC_7_14 : cl_7_14.all (fun t => crGo t 7 0 0 0 == some (rkF 7 t)) = true := by decide +kernel
theorem okC_7_15 : cl_7_15.all (fun t => crGo t 7 0 0 0 == some (rkF 7 t)) = true := by decide +kernel
theorem okC_7_16 : cl_7_16.all (fun t => crGo t 7 0 0 0 == some (rkF 7 t)) = true := by decide +kernel
theorem okC_7_17 : cl_7_17.all (fun t => crGo t 7 0 0 0 == some (rkF 7 t)) = true := by decide +kernel
theorem okC_7_18 : cl_7_18.all (fun t => crGo t 7 0 0 0 == some (rkF 7 t)) = true := by decide +kernel
theorem okC_7_19 : cl_7_19.all (fun t => crGo t 7 0 0 0 == some (rkF 7 t)) = true := by decide +kernel
theorem okC_7_20 : cl_7_20.all (fun t => crGo t 7 0 0 0 == some (rkF 7 t)) = true := by decide +kernel
theorem okC_7 : (cdA 7).all (fun t => crGo t 7 0 0 0 == some (rkF 7 t)) = true := by
  rw [cl_eq_7]
  simp only [cl_7, List.all_append, okC_7_0, okC_7_1, okC_7_2, okC_7_3, okC_7_4, okC_7_5, okC_7_6, okC_7_7, okC_7_8, okC_7_9, okC_7_10, okC_7_11, okC_7_12, okC_7_13, okC_7_14, okC_7_15, okC_7_16, okC_7_17, okC_7_18, okC_7_19, okC_7_20, Bool.and_self]
