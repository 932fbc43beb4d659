theorem okT_1_0 : cl_1_0.all (okT 1) = true := by decide +kernel
theorem okT_1 : (cdA 1).all (okT 1) = true := by
  rw [cl_eq_1]
  simp only [cl_1, List.all_append, okT_1_0, Bool.and_self]
theorem okT_2_0 : cl_2_0.all (okT 2) = true := by decide +kernel
theorem okT_2 : (cdA 2).all (okT 2) = true := by
  rw [cl_eq_2]
  simp only [cl_2, List.all_append, okT_2_0, Bool.and_self]
theorem okT_3_0 : cl_3_0.all (okT 3) = true := by decide +kernel
theorem okT_3 : (cdA 3).all (okT 3) = true := by
  rw [cl_eq_3]
  simp only [cl_3, List.all_append, okT_3_0, Bool.and_self]
theorem okT_4_0 : cl_4_0.all (okT 4) = true := by decide +kernel
theorem okT_4 : (cdA 4).all (okT 4) = true := by
  rw [cl_eq_4]
  simp only [cl_4, List.all_append, okT_4_0, Bool.and_self]
theorem okT_5_0 : cl_5_0.all (okT 5) = true := by decide +kernel
theorem okT_5 : (cdA 5).all (okT 5) = true := by
  rw [cl_eq_5]
  simp only [cl_5, List.all_append, okT_5_0, Bool.and_self]
theorem okT_6_0 : cl_6_0.all (okT 6) = true := by decide +kernel
theorem okT_6_1 : cl_6_1.all (okT 6) = true := by decide +kernel
theorem okT_6_2 : cl_6_2.all (okT 6) = true := by decide +kernel
theorem okT_6 : (cdA 6).all (okT 6) = true := by
  rw [cl_eq_6]
  simp only [cl_6, List.all_append, okT_6_0, okT_6_1, okT_6_2, Bool.and_self]
theorem okT_7_0 : cl_7_0.all (okT 7) = true := by decide +kernel
theorem okT_7_1 : cl_7_1.all (okT 7) = true := by decide +kernel
theorem okT_7_2 : cl_7_2.all (okT 7) = true := by decide +kernel
theorem okT_7_3 : cl_7_3.all (okT 7) = true := by decide +kernel
theorem okT_7_4 : cl_7_4.all (okT 7) = true := by decide +kernel
theorem okT_7_5 : cl_7_5.all (okT 7) = true := by decide +kernel
theorem okT_7_6 : cl_7_6.all (okT 7) = true := by decide +kernel
theorem okT_7_7 : cl_7_7.all (okT 7) = true := by decide +kernel
theorem okT_7_8 : cl_7_8.all (okT 7) = true := by decide +kernel
theorem okT_7_9 : cl_7_9.all (okT 7) = true := by decide +kernel
theorem okT_7_10 : cl_7_10.all (okT 7) = true := by decide +kernel
theorem okT_7_11 : cl_7_11.all (okT 7) = true := by decide +kernel
theorem okT_7_12 : cl_7_12.all (okT 7) = true := by decide +kernel
theorem okT_7_13 : cl_7_13.all (okT 7) = true := by decide +kernel
theorem okT_7_14 : cl_7_14.all (okT 7) = true := by decide +kernel
theorem okT_7_15 : cl_7_15.all (okT 7) = true := by decide +kernel
theorem okT_7_16 : cl_7_16.all (okT 7) = true := by decide +kernel
theorem okT_7_17 : cl_7_17.all (okT 7) = true := by decide +kernel
theorem okT_7_18 : cl_7_18.all (okT 7) = true := by decide +kernel
theorem okT_7_19 : cl_7_19.all (okT 7) = true := by decide +kernel
theorem okT_7_20 : cl_7_20.all (okT 7) = true := by decide +kernel
theorem okT_7 : (cdA 7).all (okT 7) = true := by
  rw [cl_eq_7]
  simp only [cl_7, List.all_append, okT_7_0, okT_7_1, okT_7_2, okT_7_3, okT_7_4, okT_7_5, okT_7_6, okT_7_7, okT_7_8, okT_7_9, okT_7_10, okT_7_11, okT_7_12, okT_7_13, okT_7_14, okT_7_15, okT_7_16, okT_7_17, okT_7_18, okT_7_19, okT_7_20, Bool.and_self]
