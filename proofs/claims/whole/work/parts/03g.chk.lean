set_option maxRecDepth 100000 in
theorem okLaw_12 : mc294_12.all (fun q => chkI 294 q.1 q.2) = true := by decide +kernel
set_option maxRecDepth 100000 in
theorem okLaw_13 : mc294_13.all (fun q => chkI 294 q.1 q.2) = true := by decide +kernel
set_option maxRecDepth 100000 in
theorem okLaw_14 : mc294_14.all (fun q => chkI 294 q.1 q.2) = true := by decide +kernel
set_option maxRecDepth 100000 in
theorem okLaw_15 : mc294_15.all (fun q => chkI 294 q.1 q.2) = true := by decide +kernel
set_option maxRecDepth 100000 in
theorem okLaw_16 : mc294_16.all (fun q => chkI 294 q.1 q.2) = true := by decide +kernel
set_option maxRecDepth 100000 in
theorem okLaw_17 : mc294_17.all (fun q => chkI 294 q.1 q.2) = true := by decide +kernel
set_option maxRecDepth 100000 in
theorem okLaw_18 : mc294_18.all (fun q => chkI 294 q.1 q.2) = true := by decide +kernel
set_option maxRecDepth 100000 in
theorem okLaw_19 : mc294_19.all (fun q => chkI 294 q.1 q.2) = true := by decide +kernel
set_option maxRecDepth 100000 in
theorem okLaw_20 : mc294_20.all (fun q => chkI 294 q.1 q.2) = true := by decide +kernel
set_option maxRecDepth 100000 in
theorem okLaw_21 : mc294_21.all (fun q => chkI 294 q.1 q.2) = true := by decide +kernel
set_option maxRecDepth 100000 in
theorem okLaw_22 : mc294_22.all (fun q => chkI 294 q.1 q.2) = true := by decide +kernel
set_option maxRecDepth 100000 in
theorem okLaw_23 : mc294_23.all (fun q => chkI 294 q.1 q.2) = true := by decide +kernel
def mcLaw : List (Nat × Ins) := mcLaw_0 ++ (mc294_1 ++ (mc294_2 ++ (mc294_3 ++ (mc294_4 ++ (mc294_5 ++ (mc294_6 ++ (mc294_7 ++ (mc294_8 ++ (mc294_9 ++ (mc294_10 ++ (mc294_11 ++ (mc294_12 ++ (mc294_13 ++ (mc294_14 ++ (mc294_15 ++ (mc294_16 ++ (mc294_17 ++ (mc294_18 ++ (mc294_19 ++ (mc294_20 ++ (mc294_21 ++ (mc294_22 ++ (mc294_23)))))))))))))))))))))))
theorem okLaw : mcLaw.all (fun q => chkI 294 q.1 q.2) = true := by
  simp only [mcLaw, List.all_append, Bool.and_eq_true]
  exact ⟨okLaw_0, okLaw_1, okLaw_2, okLaw_3, okLaw_4, okLaw_5, okLaw_6, okLaw_7, okLaw_8, okLaw_9, okLaw_10, okLaw_11, okLaw_12, okLaw_13, okLaw_14, okLaw_15, okLaw_16, okLaw_17, okLaw_18, okLaw_19, okLaw_20, okLaw_21, okLaw_22, okLaw_23⟩
