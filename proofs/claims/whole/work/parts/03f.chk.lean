def mcLaw_0 : List (Nat × Ins) := mc294_0.drop 10
set_option maxRecDepth 100000 in
theorem okLaw_0 : mcLaw_0.all (fun q => chkI 294 q.1 q.2) = true := by decide +kernel
set_option maxRecDepth 100000 in
theorem okLaw_1 : mc294_1.all (fun q => chkI 294 q.1 q.2) = true := by decide +kernel
set_option maxRecDepth 100000 in
theorem okLaw_2 : mc294_2.all (fun q => chkI 294 q.1 q.2) = true := by decide +kernel
set_option maxRecDepth 100000 in
theorem okLaw_3 : mc294_3.all (fun q => chkI 294 q.1 q.2) = true := by decide +kernel
set_option maxRecDepth 100000 in
theorem okLaw_4 : mc294_4.all (fun q => chkI 294 q.1 q.2) = true := by decide +kernel
set_option maxRecDepth 100000 in
theorem okLaw_5 : mc294_5.all (fun q => chkI 294 q.1 q.2) = true := by decide +kernel
set_option maxRecDepth 100000 in
theorem okLaw_6 : mc294_6.all (fun q => chkI 294 q.1 q.2) = true := by decide +kernel
set_option maxRecDepth 100000 in
theorem okLaw_7 : mc294_7.all (fun q => chkI 294 q.1 q.2) = true := by decide +kernel
set_option maxRecDepth 100000 in
theorem okLaw_8 : mc294_8.all (fun q => chkI 294 q.1 q.2) = true := by decide +kernel
set_option maxRecDepth 100000 in
theorem okLaw_9 : mc294_9.all (fun q => chkI 294 q.1 q.2) = true := by decide +kernel
set_option maxRecDepth 100000 in
theorem okLaw_10 : mc294_10.all (fun q => chkI 294 q.1 q.2) = true := by decide +kernel
set_option maxRecDepth 100000 in
theorem okLaw_11 : mc294_11.all (fun q => chkI 294 q.1 q.2) = true := by decide +kernel
