-- 294: LikeYearsLaw.law([I)Z
set_option maxRecDepth 100000 in
set_option maxHeartbeats 4000000 in
theorem B294_18 {Θ : Th} {d : Nat} {σ : Mem} {Q : Po} {x3 : Int32} 
    (h : ((((Int32.ofNat Θ.2.2.2.2.1) - 6) < x3 → Q (some (.int 1)) σ) ∧ (¬ ((Int32.ofNat Θ.2.2.2.2.1) - 6) < x3 → (vp_in x3 Θ.2.2.2.2.1 ∧ (((((Θ.2.2.2.2.2 x3.toNatClampNeg) &&& 63).toInt < 0 ∨ 37 < ((Θ.2.2.2.2.2 x3.toNatClampNeg) &&& 63).toInt) → G Θ (d + 1) 294 1345 [some (.ref 1000), some (.ref 0), some (.ref 124), some (.int x3)] [] σ Q) ∧ (((Θ.2.2.2.2.2 x3.toNatClampNeg) &&& 63).toInt = 0 → (vp_in (x3 + 1) Θ.2.2.2.2.1 ∧ (vp_in (x3 + 2) Θ.2.2.2.2.1 ∧ (vp_in (x3 + 3) Θ.2.2.2.2.1 ∧ (vp_in (x3 + 4) Θ.2.2.2.2.1 ∧ (vp_in (x3 + 5) Θ.2.2.2.2.1 ∧ Ci Θ d 117 [.ref 0, .int (Θ.2.2.2.2.2 (x3 + 1).toNatClampNeg), .int (Θ.2.2.2.2.2 (x3 + 2).toNatClampNeg), .int (Θ.2.2.2.2.2 (x3 + 3).toNatClampNeg), .int (Θ.2.2.2.2.2 (x3 + 4).toNatClampNeg), .int (Θ.2.2.2.2.2 (x3 + 5).toNatClampNeg)] σ (fun v9 σ9 => (vp_in (x3 + 1) Θ.2.2.2.2.1 ∧ (vp_in (x3 + 2) Θ.2.2.2.2.1 ∧ (vp_in (x3 + 3) Θ.2.2.2.2.1 ∧ (vp_in (x3 + 4) Θ.2.2.2.2.1 ∧ (vp_in (x3 + 5) Θ.2.2.2.2.1 ∧ Ci Θ d 168 [.ref 124, .int (Θ.2.2.2.2.2 (x3 + 1).toNatClampNeg), .int (Θ.2.2.2.2.2 (x3 + 2).toNatClampNeg), .int (Θ.2.2.2.2.2 (x3 + 3).toNatClampNeg), .int (Θ.2.2.2.2.2 (x3 + 4).toNatClampNeg), .int (Θ.2.2.2.2.2 (x3 + 5).toNatClampNeg)] σ9 (fun v15 σ15 => ((v9 = v15 → G Θ (d + 1) 294 1345 [some (.ref 1000), some (.ref 0), some (.ref 124), some (.int x3)] [] σ15 Q) ∧ (¬ v9 = v15 → Q (some (.int 0)) σ15))))))))))))))) ∧ (((Θ.2.2.2.2.2 x3.toNatClampNeg) &&& 63).toInt = 1 → (vp_in (x3 + 1) Θ.2.2.2.2.1 ∧ Ci Θ d 118 [.ref 0, .int (Θ.2.2.2.2.2 (x3 + 1).toNatClampNeg)] σ (fun v18 σ18 => (vp_in (x3 + 1) Θ.2.2.2.2.1 ∧ Ci Θ d 170 [.ref 124, .int (Θ.2.2.2.2.2 (x3 + 1).toNatClampNeg)] σ18 (fun v20 σ20 => ((v18 = v20 → G Θ (d + 1) 294 1345 [some (.ref 1000), some (.ref 0), some (.ref 124), some (.int x3)] [] σ20 Q) ∧ (¬ v18 = v20 → Q (some (.int 0)) σ20))))))) ∧ (((Θ.2.2.2.2.2 x3.toNatClampNeg) &&& 63).toInt = 2 → Ci Θ d 119 [.ref 0] σ (fun v22 σ22 => Ci Θ d 191 [.ref 124] σ22 (fun v23 σ23 => ((v22 = v23 → G Θ (d + 1) 294 1345 [some (.ref 1000), some (.ref 0), some (.ref 124), some (.int x3)] [] σ23 Q) ∧ (¬ v22 = v23 → Q (some (.int 0)) σ23))))) ∧ (((Θ.2.2.2.2.2 x3.toNatClampNeg) &&& 63).toInt = 3 → Ci Θ d 120 [.ref 0] σ (fun v25 σ25 => Ci Θ d 263 [.ref 124] σ25 (fun v26 σ26 => ((v25 = v26 → G Θ (d + 1) 294 1345 [some (.ref 1000), some (.ref 0), some (.ref 124), some (.int x3)] [] σ26 Q) ∧ (¬ v25 = v26 → Q (some (.int 0)) σ26))))) ∧ (((Θ.2.2.2.2.2 x3.toNatClampNeg) &&& 63).toInt = 4 → (vp_in (x3 + 1) Θ.2.2.2.2.1 ∧ Ci Θ d 121 [.ref 0, .int (Θ.2.2.2.2.2 (x3 + 1).toNatClampNeg)] σ (fun v29 σ29 => (vp_in (x3 + 1) Θ.2.2.2.2.1 ∧ Ci Θ d 192 [.ref 124, .int (Θ.2.2.2.2.2 (x3 + 1).toNatClampNeg)] σ29 (fun v31 σ31 => ((v29 = v31 → G Θ (d + 1) 294 1345 [some (.ref 1000), some (.ref 0), some (.ref 124), some (.int x3)] [] σ31 Q) ∧ (¬ v29 = v31 → Q (some (.int 0)) σ31))))))) ∧ (((Θ.2.2.2.2.2 x3.toNatClampNeg) &&& 63).toInt = 5 → (vp_in (x3 + 1) Θ.2.2.2.2.1 ∧ (vp_in (x3 + 2) Θ.2.2.2.2.1 ∧ Ci Θ d 122 [.ref 0, .int (Θ.2.2.2.2.2 (x3 + 1).toNatClampNeg), .int (Θ.2.2.2.2.2 (x3 + 2).toNatClampNeg)] σ (fun v35 σ35 => (vp_in (x3 + 1) Θ.2.2.2.2.1 ∧ (vp_in (x3 + 2) Θ.2.2.2.2.1 ∧ Ci Θ d 203 [.ref 124, .int (Θ.2.2.2.2.2 (x3 + 1).toNatClampNeg), .int (Θ.2.2.2.2.2 (x3 + 2).toNatClampNeg)] σ35 (fun v38 σ38 => ((v35 = v38 → G Θ (d + 1) 294 1345 [some (.ref 1000), some (.ref 0), some (.ref 124), some (.int x3)] [] σ38 Q) ∧ (¬ v35 = v38 → Q (some (.int 0)) σ38))))))))) ∧ (((Θ.2.2.2.2.2 x3.toNatClampNeg) &&& 63).toInt = 6 → (vp_in (x3 + 1) Θ.2.2.2.2.1 ∧ Ci Θ d 123 [.ref 0, .int (Θ.2.2.2.2.2 (x3 + 1).toNatClampNeg)] σ (fun v41 σ41 => (vp_in (x3 + 1) Θ.2.2.2.2.1 ∧ Ci Θ d 207 [.ref 124, .int (Θ.2.2.2.2.2 (x3 + 1).toNatClampNeg)] σ41 (fun v43 σ43 => ((v41 = v43 → G Θ (d + 1) 294 1345 [some (.ref 1000), some (.ref 0), some (.ref 124), some (.int x3)] [] σ43 Q) ∧ (¬ v41 = v43 → Q (some (.int 0)) σ43))))))) ∧ (((Θ.2.2.2.2.2 x3.toNatClampNeg) &&& 63).toInt = 7 → (vp_in (x3 + 1) Θ.2.2.2.2.1 ∧ Ci Θ d 124 [.ref 0, .int (Θ.2.2.2.2.2 (x3 + 1).toNatClampNeg)] σ (fun v46 σ46 => (vp_in (x3 + 1) Θ.2.2.2.2.1 ∧ Ci Θ d 208 [.ref 124, .int (Θ.2.2.2.2.2 (x3 + 1).toNatClampNeg)] σ46 (fun v48 σ48 => ((v46 = v48 → G Θ (d + 1) 294 1345 [some (.ref 1000), some (.ref 0), some (.ref 124), some (.int x3)] [] σ48 Q) ∧ (¬ v46 = v48 → Q (some (.int 0)) σ48))))))) ∧ (((Θ.2.2.2.2.2 x3.toNatClampNeg) &&& 63).toInt = 8 → (vp_in (x3 + 1) Θ.2.2.2.2.1 ∧ Ci Θ d 125 [.ref 0, .int (Θ.2.2.2.2.2 (x3 + 1).toNatClampNeg)] σ (fun v51 σ51 => (vp_in (x3 + 1) Θ.2.2.2.2.1 ∧ Ci Θ d 209 [.ref 124, .int (Θ.2.2.2.2.2 (x3 + 1).toNatClampNeg)] σ51 (fun v53 σ53 => ((v51 = v53 → G Θ (d + 1) 294 1345 [some (.ref 1000), some (.ref 0), some (.ref 124), some (.int x3)] [] σ53 Q) ∧ (¬ v51 = v53 → Q (some (.int 0)) σ53))))))) ∧ (((Θ.2.2.2.2.2 x3.toNatClampNeg) &&& 63).toInt = 9 → (vp_in (x3 + 1) Θ.2.2.2.2.1 ∧ (vp_in (x3 + 2) Θ.2.2.2.2.1 ∧ (vp_in (x3 + 3) Θ.2.2.2.2.1 ∧ Cl Θ d 126 [.ref 0, .int (Θ.2.2.2.2.2 (x3 + 1).toNatClampNeg), .int (Θ.2.2.2.2.2 (x3 + 2).toNatClampNeg), .int (Θ.2.2.2.2.2 (x3 + 3).toNatClampNeg)] σ (fun v58 σ58 => (vp_in (x3 + 1) Θ.2.2.2.2.1 ∧ (vp_in (x3 + 2) Θ.2.2.2.2.1 ∧ (vp_in (x3 + 3) Θ.2.2.2.2.1 ∧ Cl Θ d 228 [.ref 124, .int (Θ.2.2.2.2.2 (x3 + 1).toNatClampNeg), .int (Θ.2.2.2.2.2 (x3 + 2).toNatClampNeg), .int (Θ.2.2.2.2.2 (x3 + 3).toNatClampNeg)] σ58 (fun v62 σ62 => (((lg_cmp v58 v62) = 0 → G Θ (d + 1) 294 1345 [some (.ref 1000), some (.ref 0), some (.ref 124), some (.int x3)] [] σ62 Q) ∧ (¬ (lg_cmp v58 v62) = 0 → Q (some (.int 0)) σ62))))))))))) ∧ (((Θ.2.2.2.2.2 x3.toNatClampNeg) &&& 63).toInt = 10 → (vp_in (x3 + 1) Θ.2.2.2.2.1 ∧ (vp_in (x3 + 2) Θ.2.2.2.2.1 ∧ Cl Θ d 127 [.ref 0, .int (Θ.2.2.2.2.2 (x3 + 1).toNatClampNeg), .int (Θ.2.2.2.2.2 (x3 + 2).toNatClampNeg)] σ (fun v66 σ66 => (vp_in (x3 + 1) Θ.2.2.2.2.1 ∧ (vp_in (x3 + 2) Θ.2.2.2.2.1 ∧ Cl Θ d 229 [.ref 124, .int (Θ.2.2.2.2.2 (x3 + 1).toNatClampNeg), .int (Θ.2.2.2.2.2 (x3 + 2).toNatClampNeg)] σ66 (fun v69 σ69 => (((lg_cmp v66 v69) = 0 → G Θ (d + 1) 294 1345 [some (.ref 1000), some (.ref 0), some (.ref 124), some (.int x3)] [] σ69 Q) ∧ (¬ (lg_cmp v66 v69) = 0 → Q (some (.int 0)) σ69))))))))) ∧ (((Θ.2.2.2.2.2 x3.toNatClampNeg) &&& 63).toInt = 11 → (vp_in (x3 + 1) Θ.2.2.2.2.1 ∧ Ci Θ d 128 [.ref 0, .int (Θ.2.2.2.2.2 (x3 + 1).toNatClampNeg)] σ (fun v72 σ72 => (vp_in (x3 + 1) Θ.2.2.2.2.1 ∧ Ci Θ d 226 [.ref 124, .int (Θ.2.2.2.2.2 (x3 + 1).toNatClampNeg)] σ72 (fun v74 σ74 => ((v72 = v74 → G Θ (d + 1) 294 1345 [some (.ref 1000), some (.ref 0), some (.ref 124), some (.int x3)] [] σ74 Q) ∧ (¬ v72 = v74 → Q (some (.int 0)) σ74))))))) ∧ (((Θ.2.2.2.2.2 x3.toNatClampNeg) &&& 63).toInt = 12 → (vp_in (x3 + 1) Θ.2.2.2.2.1 ∧ Ci Θ d 129 [.ref 0, .int (Θ.2.2.2.2.2 (x3 + 1).toNatClampNeg)] σ (fun v77 σ77 => (vp_in (x3 + 1) Θ.2.2.2.2.1 ∧ Ci Θ d 231 [.ref 124, .int (Θ.2.2.2.2.2 (x3 + 1).toNatClampNeg)] σ77 (fun v79 σ79 => ((v77 = v79 → G Θ (d + 1) 294 1345 [some (.ref 1000), some (.ref 0), some (.ref 124), some (.int x3)] [] σ79 Q) ∧ (¬ v77 = v79 → Q (some (.int 0)) σ79))))))) ∧ (((Θ.2.2.2.2.2 x3.toNatClampNeg) &&& 63).toInt = 13 → (vp_in (x3 + 1) Θ.2.2.2.2.1 ∧ (vp_in (x3 + 2) Θ.2.2.2.2.1 ∧ (vp_in (x3 + 3) Θ.2.2.2.2.1 ∧ Cl Θ d 130 [.ref 0, .int (Θ.2.2.2.2.2 (x3 + 1).toNatClampNeg), .int (Θ.2.2.2.2.2 (x3 + 2).toNatClampNeg), .int (Θ.2.2.2.2.2 (x3 + 3).toNatClampNeg)] σ (fun v84 σ84 => (vp_in (x3 + 1) Θ.2.2.2.2.1 ∧ (vp_in (x3 + 2) Θ.2.2.2.2.1 ∧ (vp_in (x3 + 3) Θ.2.2.2.2.1 ∧ Cl Θ d 233 [.ref 124, .int (Θ.2.2.2.2.2 (x3 + 1).toNatClampNeg), .int (Θ.2.2.2.2.2 (x3 + 2).toNatClampNeg), .int (Θ.2.2.2.2.2 (x3 + 3).toNatClampNeg)] σ84 (fun v88 σ88 => (((lg_cmp v84 v88) = 0 → G Θ (d + 1) 294 1345 [some (.ref 1000), some (.ref 0), some (.ref 124), some (.int x3)] [] σ88 Q) ∧ (¬ (lg_cmp v84 v88) = 0 → Q (some (.int 0)) σ88))))))))))) ∧ (((Θ.2.2.2.2.2 x3.toNatClampNeg) &&& 63).toInt = 14 → (vp_in (x3 + 1) Θ.2.2.2.2.1 ∧ (vp_in (x3 + 2) Θ.2.2.2.2.1 ∧ (vp_in (x3 + 3) Θ.2.2.2.2.1 ∧ Cl Θ d 131 [.ref 0, .int (Θ.2.2.2.2.2 (x3 + 1).toNatClampNeg), .int (Θ.2.2.2.2.2 (x3 + 2).toNatClampNeg), .int (Θ.2.2.2.2.2 (x3 + 3).toNatClampNeg)] σ (fun v93 σ93 => (vp_in (x3 + 1) Θ.2.2.2.2.1 ∧ (vp_in (x3 + 2) Θ.2.2.2.2.1 ∧ (vp_in (x3 + 3) Θ.2.2.2.2.1 ∧ Cl Θ d 234 [.ref 124, .int (Θ.2.2.2.2.2 (x3 + 1).toNatClampNeg), .int (Θ.2.2.2.2.2 (x3 + 2).toNatClampNeg), .int (Θ.2.2.2.2.2 (x3 + 3).toNatClampNeg)] σ93 (fun v97 σ97 => (((lg_cmp v93 v97) = 0 → G Θ (d + 1) 294 1345 [some (.ref 1000), some (.ref 0), some (.ref 124), some (.int x3)] [] σ97 Q) ∧ (¬ (lg_cmp v93 v97) = 0 → Q (some (.int 0)) σ97))))))))))) ∧ (((Θ.2.2.2.2.2 x3.toNatClampNeg) &&& 63).toInt = 15 → Ci Θ d 132 [.ref 0] σ (fun v99 σ99 => Ci Θ d 235 [.ref 124] σ99 (fun v100 σ100 => ((v99 = v100 → G Θ (d + 1) 294 1345 [some (.ref 1000), some (.ref 0), some (.ref 124), some (.int x3)] [] σ100 Q) ∧ (¬ v99 = v100 → Q (some (.int 0)) σ100))))) ∧ (((Θ.2.2.2.2.2 x3.toNatClampNeg) &&& 63).toInt = 16 → (vp_in (x3 + 1) Θ.2.2.2.2.1 ∧ (vp_in (x3 + 2) Θ.2.2.2.2.1 ∧ (vp_in (x3 + 3) Θ.2.2.2.2.1 ∧ Cl Θ d 133 [.ref 0, .int (Θ.2.2.2.2.2 (x3 + 1).toNatClampNeg), .int (Θ.2.2.2.2.2 (x3 + 2).toNatClampNeg), .int (Θ.2.2.2.2.2 (x3 + 3).toNatClampNeg)] σ (fun v105 σ105 => (vp_in (x3 + 1) Θ.2.2.2.2.1 ∧ (vp_in (x3 + 2) Θ.2.2.2.2.1 ∧ (vp_in (x3 + 3) Θ.2.2.2.2.1 ∧ Cl Θ d 239 [.ref 124, .int (Θ.2.2.2.2.2 (x3 + 1).toNatClampNeg), .int (Θ.2.2.2.2.2 (x3 + 2).toNatClampNeg), .int (Θ.2.2.2.2.2 (x3 + 3).toNatClampNeg)] σ105 (fun v109 σ109 => (((lg_cmp v105 v109) = 0 → G Θ (d + 1) 294 1345 [some (.ref 1000), some (.ref 0), some (.ref 124), some (.int x3)] [] σ109 Q) ∧ (¬ (lg_cmp v105 v109) = 0 → Q (some (.int 0)) σ109))))))))))) ∧ (((Θ.2.2.2.2.2 x3.toNatClampNeg) &&& 63).toInt = 17 → (vp_in (x3 + 1) Θ.2.2.2.2.1 ∧ (vp_in (x3 + 2) Θ.2.2.2.2.1 ∧ Ci Θ d 134 [.ref 0, .int (Θ.2.2.2.2.2 (x3 + 1).toNatClampNeg), .int (Θ.2.2.2.2.2 (x3 + 2).toNatClampNeg)] σ (fun v113 σ113 => (vp_in (x3 + 1) Θ.2.2.2.2.1 ∧ (vp_in (x3 + 2) Θ.2.2.2.2.1 ∧ Ci Θ d 240 [.ref 124, .int (Θ.2.2.2.2.2 (x3 + 1).toNatClampNeg), .int (Θ.2.2.2.2.2 (x3 + 2).toNatClampNeg)] σ113 (fun v116 σ116 => ((v113 = v116 → G Θ (d + 1) 294 1345 [some (.ref 1000), some (.ref 0), some (.ref 124), some (.int x3)] [] σ116 Q) ∧ (¬ v113 = v116 → Q (some (.int 0)) σ116))))))))) ∧ (((Θ.2.2.2.2.2 x3.toNatClampNeg) &&& 63).toInt = 18 → (vp_in (x3 + 1) Θ.2.2.2.2.1 ∧ Ci Θ d 135 [.ref 0, .int (Θ.2.2.2.2.2 (x3 + 1).toNatClampNeg)] σ (fun v119 σ119 => (vp_in (x3 + 1) Θ.2.2.2.2.1 ∧ Ci Θ d 243 [.ref 124, .int (Θ.2.2.2.2.2 (x3 + 1).toNatClampNeg)] σ119 (fun v121 σ121 => ((v119 = v121 → G Θ (d + 1) 294 1345 [some (.ref 1000), some (.ref 0), some (.ref 124), some (.int x3)] [] σ121 Q) ∧ (¬ v119 = v121 → Q (some (.int 0)) σ121))))))) ∧ (((Θ.2.2.2.2.2 x3.toNatClampNeg) &&& 63).toInt = 19 → (vp_in (x3 + 1) Θ.2.2.2.2.1 ∧ (vp_in (x3 + 2) Θ.2.2.2.2.1 ∧ Cl Θ d 136 [.ref 0, .int (Θ.2.2.2.2.2 (x3 + 1).toNatClampNeg), .int (Θ.2.2.2.2.2 (x3 + 2).toNatClampNeg)] σ (fun v125 σ125 => (vp_in (x3 + 1) Θ.2.2.2.2.1 ∧ (vp_in (x3 + 2) Θ.2.2.2.2.1 ∧ Cl Θ d 244 [.ref 124, .int (Θ.2.2.2.2.2 (x3 + 1).toNatClampNeg), .int (Θ.2.2.2.2.2 (x3 + 2).toNatClampNeg)] σ125 (fun v128 σ128 => (((lg_cmp v125 v128) = 0 → G Θ (d + 1) 294 1345 [some (.ref 1000), some (.ref 0), some (.ref 124), some (.int x3)] [] σ128 Q) ∧ (¬ (lg_cmp v125 v128) = 0 → Q (some (.int 0)) σ128))))))))) ∧ (((Θ.2.2.2.2.2 x3.toNatClampNeg) &&& 63).toInt = 20 → (vp_in (x3 + 1) Θ.2.2.2.2.1 ∧ (vp_in (x3 + 2) Θ.2.2.2.2.1 ∧ Cl Θ d 137 [.ref 0, .int (Θ.2.2.2.2.2 (x3 + 1).toNatClampNeg), .int (Θ.2.2.2.2.2 (x3 + 2).toNatClampNeg)] σ (fun v132 σ132 => (vp_in (x3 + 1) Θ.2.2.2.2.1 ∧ (vp_in (x3 + 2) Θ.2.2.2.2.1 ∧ Cl Θ d 245 [.ref 124, .int (Θ.2.2.2.2.2 (x3 + 1).toNatClampNeg), .int (Θ.2.2.2.2.2 (x3 + 2).toNatClampNeg)] σ132 (fun v135 σ135 => (((lg_cmp v132 v135) = 0 → G Θ (d + 1) 294 1345 [some (.ref 1000), some (.ref 0), some (.ref 124), some (.int x3)] [] σ135 Q) ∧ (¬ (lg_cmp v132 v135) = 0 → Q (some (.int 0)) σ135))))))))) ∧ (((Θ.2.2.2.2.2 x3.toNatClampNeg) &&& 63).toInt = 21 → (vp_in (x3 + 1) Θ.2.2.2.2.1 ∧ (vp_in (x3 + 2) Θ.2.2.2.2.1 ∧ Cl Θ d 138 [.ref 0, .int (Θ.2.2.2.2.2 (x3 + 1).toNatClampNeg), .int (Θ.2.2.2.2.2 (x3 + 2).toNatClampNeg)] σ (fun v139 σ139 => (vp_in (x3 + 1) Θ.2.2.2.2.1 ∧ (vp_in (x3 + 2) Θ.2.2.2.2.1 ∧ Cl Θ d 247 [.ref 124, .int (Θ.2.2.2.2.2 (x3 + 1).toNatClampNeg), .int (Θ.2.2.2.2.2 (x3 + 2).toNatClampNeg)] σ139 (fun v142 σ142 => (((lg_cmp v139 v142) = 0 → G Θ (d + 1) 294 1345 [some (.ref 1000), some (.ref 0), some (.ref 124), some (.int x3)] [] σ142 Q) ∧ (¬ (lg_cmp v139 v142) = 0 → Q (some (.int 0)) σ142))))))))) ∧ (((Θ.2.2.2.2.2 x3.toNatClampNeg) &&& 63).toInt = 22 → Ci Θ d 139 [.ref 0] σ (fun v144 σ144 => Ci Θ d 246 [.ref 124] σ144 (fun v145 σ145 => ((v144 = v145 → G Θ (d + 1) 294 1345 [some (.ref 1000), some (.ref 0), some (.ref 124), some (.int x3)] [] σ145 Q) ∧ (¬ v144 = v145 → Q (some (.int 0)) σ145))))) ∧ (((Θ.2.2.2.2.2 x3.toNatClampNeg) &&& 63).toInt = 23 → (vp_in (x3 + 1) Θ.2.2.2.2.1 ∧ (vp_in (x3 + 2) Θ.2.2.2.2.1 ∧ (vp_in (x3 + 3) Θ.2.2.2.2.1 ∧ (vp_in (x3 + 4) Θ.2.2.2.2.1 ∧ (vp_in (x3 + 5) Θ.2.2.2.2.1 ∧ Ci Θ d 140 [.ref 0, .int (Θ.2.2.2.2.2 (x3 + 1).toNatClampNeg), .int (Θ.2.2.2.2.2 (x3 + 2).toNatClampNeg), .int (Θ.2.2.2.2.2 (x3 + 3).toNatClampNeg), .int (Θ.2.2.2.2.2 (x3 + 4).toNatClampNeg), .int (Θ.2.2.2.2.2 (x3 + 5).toNatClampNeg)] σ (fun v152 σ152 => (vp_in (x3 + 1) Θ.2.2.2.2.1 ∧ (vp_in (x3 + 2) Θ.2.2.2.2.1 ∧ (vp_in (x3 + 3) Θ.2.2.2.2.1 ∧ (vp_in (x3 + 4) Θ.2.2.2.2.1 ∧ (vp_in (x3 + 5) Θ.2.2.2.2.1 ∧ Ci Θ d 249 [.ref 124, .int (Θ.2.2.2.2.2 (x3 + 1).toNatClampNeg), .int (Θ.2.2.2.2.2 (x3 + 2).toNatClampNeg), .int (Θ.2.2.2.2.2 (x3 + 3).toNatClampNeg), .int (Θ.2.2.2.2.2 (x3 + 4).toNatClampNeg), .int (Θ.2.2.2.2.2 (x3 + 5).toNatClampNeg)] σ152 (fun v158 σ158 => ((v152 = v158 → G Θ (d + 1) 294 1345 [some (.ref 1000), some (.ref 0), some (.ref 124), some (.int x3)] [] σ158 Q) ∧ (¬ v152 = v158 → Q (some (.int 0)) σ158))))))))))))))) ∧ (((Θ.2.2.2.2.2 x3.toNatClampNeg) &&& 63).toInt = 24 → (vp_in (x3 + 1) Θ.2.2.2.2.1 ∧ Ci Θ d 141 [.ref 0, .int (Θ.2.2.2.2.2 (x3 + 1).toNatClampNeg)] σ (fun v161 σ161 => (vp_in (x3 + 1) Θ.2.2.2.2.1 ∧ Ci Θ d 268 [.ref 124, .int (Θ.2.2.2.2.2 (x3 + 1).toNatClampNeg)] σ161 (fun v163 σ163 => ((v161 = v163 → G Θ (d + 1) 294 1345 [some (.ref 1000), some (.ref 0), some (.ref 124), some (.int x3)] [] σ163 Q) ∧ (¬ v161 = v163 → Q (some (.int 0)) σ163))))))) ∧ (((Θ.2.2.2.2.2 x3.toNatClampNeg) &&& 63).toInt = 25 → (vp_in (x3 + 1) Θ.2.2.2.2.1 ∧ Ci Θ d 142 [.ref 0, .int (Θ.2.2.2.2.2 (x3 + 1).toNatClampNeg)] σ (fun v166 σ166 => (vp_in (x3 + 1) Θ.2.2.2.2.1 ∧ Ci Θ d 270 [.ref 124, .int (Θ.2.2.2.2.2 (x3 + 1).toNatClampNeg)] σ166 (fun v168 σ168 => ((v166 = v168 → G Θ (d + 1) 294 1345 [some (.ref 1000), some (.ref 0), some (.ref 124), some (.int x3)] [] σ168 Q) ∧ (¬ v166 = v168 → Q (some (.int 0)) σ168))))))) ∧ (((Θ.2.2.2.2.2 x3.toNatClampNeg) &&& 63).toInt = 26 → (vp_in (x3 + 1) Θ.2.2.2.2.1 ∧ Ci Θ d 143 [.ref 0, .int (Θ.2.2.2.2.2 (x3 + 1).toNatClampNeg)] σ (fun v171 σ171 => (vp_in (x3 + 1) Θ.2.2.2.2.1 ∧ Ci Θ d 250 [.ref 124, .int (Θ.2.2.2.2.2 (x3 + 1).toNatClampNeg)] σ171 (fun v173 σ173 => ((v171 = v173 → G Θ (d + 1) 294 1345 [some (.ref 1000), some (.ref 0), some (.ref 124), some (.int x3)] [] σ173 Q) ∧ (¬ v171 = v173 → Q (some (.int 0)) σ173))))))) ∧ (((Θ.2.2.2.2.2 x3.toNatClampNeg) &&& 63).toInt = 27 → (vp_in (x3 + 1) Θ.2.2.2.2.1 ∧ (vp_in (x3 + 2) Θ.2.2.2.2.1 ∧ Ci Θ d 144 [.ref 0, .int (Θ.2.2.2.2.2 (x3 + 1).toNatClampNeg), .int (Θ.2.2.2.2.2 (x3 + 2).toNatClampNeg)] σ (fun v177 σ177 => (vp_in (x3 + 1) Θ.2.2.2.2.1 ∧ (vp_in (x3 + 2) Θ.2.2.2.2.1 ∧ Ci Θ d 271 [.ref 124, .int (Θ.2.2.2.2.2 (x3 + 1).toNatClampNeg), .int (Θ.2.2.2.2.2 (x3 + 2).toNatClampNeg)] σ177 (fun v180 σ180 => ((v177 = v180 → G Θ (d + 1) 294 1345 [some (.ref 1000), some (.ref 0), some (.ref 124), some (.int x3)] [] σ180 Q) ∧ (¬ v177 = v180 → Q (some (.int 0)) σ180))))))))) ∧ (((Θ.2.2.2.2.2 x3.toNatClampNeg) &&& 63).toInt = 28 → (vp_in (x3 + 1) Θ.2.2.2.2.1 ∧ (((Θ.2.2.2.2.2 (x3 + 1).toNatClampNeg) = 0 → (vp_in (x3 + 2) Θ.2.2.2.2.1 ∧ Cl Θ d 145 [.ref 0, .int 0, .int (Θ.2.2.2.2.2 (x3 + 2).toNatClampNeg)] σ (fun v185 σ185 => (vp_in (x3 + 1) Θ.2.2.2.2.1 ∧ (((Θ.2.2.2.2.2 (x3 + 1).toNatClampNeg) = 0 → (vp_in (x3 + 2) Θ.2.2.2.2.1 ∧ Cl Θ d 273 [.ref 124, .int 0, .int (Θ.2.2.2.2.2 (x3 + 2).toNatClampNeg)] σ185 (fun v189 σ189 => (((lg_cmp v185 v189) = 0 → G Θ (d + 1) 294 1345 [some (.ref 1000), some (.ref 0), some (.ref 124), some (.int x3)] [] σ189 Q) ∧ (¬ (lg_cmp v185 v189) = 0 → Q (some (.int 0)) σ189))))) ∧ (¬ (Θ.2.2.2.2.2 (x3 + 1).toNatClampNeg) = 0 → (vp_in (x3 + 2) Θ.2.2.2.2.1 ∧ Cl Θ d 273 [.ref 124, .int 1, .int (Θ.2.2.2.2.2 (x3 + 2).toNatClampNeg)] σ185 (fun v192 σ192 => (((lg_cmp v185 v192) = 0 → G Θ (d + 1) 294 1345 [some (.ref 1000), some (.ref 0), some (.ref 124), some (.int x3)] [] σ192 Q) ∧ (¬ (lg_cmp v185 v192) = 0 → Q (some (.int 0)) σ192)))))))))) ∧ (¬ (Θ.2.2.2.2.2 (x3 + 1).toNatClampNeg) = 0 → (vp_in (x3 + 2) Θ.2.2.2.2.1 ∧ Cl Θ d 145 [.ref 0, .int 1, .int (Θ.2.2.2.2.2 (x3 + 2).toNatClampNeg)] σ (fun v195 σ195 => (vp_in (x3 + 1) Θ.2.2.2.2.1 ∧ (((Θ.2.2.2.2.2 (x3 + 1).toNatClampNeg) = 0 → (vp_in (x3 + 2) Θ.2.2.2.2.1 ∧ Cl Θ d 273 [.ref 124, .int 0, .int (Θ.2.2.2.2.2 (x3 + 2).toNatClampNeg)] σ195 (fun v199 σ199 => (((lg_cmp v195 v199) = 0 → G Θ (d + 1) 294 1345 [some (.ref 1000), some (.ref 0), some (.ref 124), some (.int x3)] [] σ199 Q) ∧ (¬ (lg_cmp v195 v199) = 0 → Q (some (.int 0)) σ199))))) ∧ (¬ (Θ.2.2.2.2.2 (x3 + 1).toNatClampNeg) = 0 → (vp_in (x3 + 2) Θ.2.2.2.2.1 ∧ Cl Θ d 273 [.ref 124, .int 1, .int (Θ.2.2.2.2.2 (x3 + 2).toNatClampNeg)] σ195 (fun v202 σ202 => (((lg_cmp v195 v202) = 0 → G Θ (d + 1) 294 1345 [some (.ref 1000), some (.ref 0), some (.ref 124), some (.int x3)] [] σ202 Q) ∧ (¬ (lg_cmp v195 v202) = 0 → Q (some (.int 0)) σ202))))))))))))) ∧ (((Θ.2.2.2.2.2 x3.toNatClampNeg) &&& 63).toInt = 29 → (vp_in (x3 + 1) Θ.2.2.2.2.1 ∧ Ci Θ d 146 [.ref 0, .int (Θ.2.2.2.2.2 (x3 + 1).toNatClampNeg)] σ (fun v205 σ205 => (vp_in (x3 + 1) Θ.2.2.2.2.1 ∧ Ci Θ d 274 [.ref 124, .int (Θ.2.2.2.2.2 (x3 + 1).toNatClampNeg)] σ205 (fun v207 σ207 => ((v205 = v207 → G Θ (d + 1) 294 1345 [some (.ref 1000), some (.ref 0), some (.ref 124), some (.int x3)] [] σ207 Q) ∧ (¬ v205 = v207 → Q (some (.int 0)) σ207))))))) ∧ (((Θ.2.2.2.2.2 x3.toNatClampNeg) &&& 63).toInt = 30 → (vp_in (x3 + 1) Θ.2.2.2.2.1 ∧ (vp_in (x3 + 2) Θ.2.2.2.2.1 ∧ (vp_in (x3 + 3) Θ.2.2.2.2.1 ∧ (vp_in (x3 + 4) Θ.2.2.2.2.1 ∧ Ci Θ d 147 [.ref 0, .int (Θ.2.2.2.2.2 (x3 + 1).toNatClampNeg), .int (Θ.2.2.2.2.2 (x3 + 2).toNatClampNeg), .int (Θ.2.2.2.2.2 (x3 + 3).toNatClampNeg), .int (Θ.2.2.2.2.2 (x3 + 4).toNatClampNeg)] σ (fun v213 σ213 => (vp_in (x3 + 1) Θ.2.2.2.2.1 ∧ (vp_in (x3 + 2) Θ.2.2.2.2.1 ∧ (vp_in (x3 + 3) Θ.2.2.2.2.1 ∧ (vp_in (x3 + 4) Θ.2.2.2.2.1 ∧ Ci Θ d 277 [.ref 124, .int (Θ.2.2.2.2.2 (x3 + 1).toNatClampNeg), .int (Θ.2.2.2.2.2 (x3 + 2).toNatClampNeg), .int (Θ.2.2.2.2.2 (x3 + 3).toNatClampNeg), .int (Θ.2.2.2.2.2 (x3 + 4).toNatClampNeg)] σ213 (fun v218 σ218 => ((v213 = v218 → G Θ (d + 1) 294 1345 [some (.ref 1000), some (.ref 0), some (.ref 124), some (.int x3)] [] σ218 Q) ∧ (¬ v213 = v218 → Q (some (.int 0)) σ218))))))))))))) ∧ (((Θ.2.2.2.2.2 x3.toNatClampNeg) &&& 63).toInt = 31 → (vp_in (x3 + 1) Θ.2.2.2.2.1 ∧ (vp_in (x3 + 2) Θ.2.2.2.2.1 ∧ (((Θ.2.2.2.2.2 (x3 + 2).toNatClampNeg) = 0 → Ci Θ d 148 [.ref 0, .int (Θ.2.2.2.2.2 (x3 + 1).toNatClampNeg), .int 0] σ (fun v223 σ223 => (vp_in (x3 + 1) Θ.2.2.2.2.1 ∧ (vp_in (x3 + 2) Θ.2.2.2.2.1 ∧ (((Θ.2.2.2.2.2 (x3 + 2).toNatClampNeg) = 0 → Ci Θ d 278 [.ref 124, .int (Θ.2.2.2.2.2 (x3 + 1).toNatClampNeg), .int 0] σ223 (fun v227 σ227 => ((v223 = v227 → G Θ (d + 1) 294 1345 [some (.ref 1000), some (.ref 0), some (.ref 124), some (.int x3)] [] σ227 Q) ∧ (¬ v223 = v227 → Q (some (.int 0)) σ227)))) ∧ (¬ (Θ.2.2.2.2.2 (x3 + 2).toNatClampNeg) = 0 → Ci Θ d 278 [.ref 124, .int (Θ.2.2.2.2.2 (x3 + 1).toNatClampNeg), .int 1] σ223 (fun v229 σ229 => ((v223 = v229 → G Θ (d + 1) 294 1345 [some (.ref 1000), some (.ref 0), some (.ref 124), some (.int x3)] [] σ229 Q) ∧ (¬ v223 = v229 → Q (some (.int 0)) σ229))))))))) ∧ (¬ (Θ.2.2.2.2.2 (x3 + 2).toNatClampNeg) = 0 → Ci Θ d 148 [.ref 0, .int (Θ.2.2.2.2.2 (x3 + 1).toNatClampNeg), .int 1] σ (fun v231 σ231 => (vp_in (x3 + 1) Θ.2.2.2.2.1 ∧ (vp_in (x3 + 2) Θ.2.2.2.2.1 ∧ (((Θ.2.2.2.2.2 (x3 + 2).toNatClampNeg) = 0 → Ci Θ d 278 [.ref 124, .int (Θ.2.2.2.2.2 (x3 + 1).toNatClampNeg), .int 0] σ231 (fun v235 σ235 => ((v231 = v235 → G Θ (d + 1) 294 1345 [some (.ref 1000), some (.ref 0), some (.ref 124), some (.int x3)] [] σ235 Q) ∧ (¬ v231 = v235 → Q (some (.int 0)) σ235)))) ∧ (¬ (Θ.2.2.2.2.2 (x3 + 2).toNatClampNeg) = 0 → Ci Θ d 278 [.ref 124, .int (Θ.2.2.2.2.2 (x3 + 1).toNatClampNeg), .int 1] σ231 (fun v237 σ237 => ((v231 = v237 → G Θ (d + 1) 294 1345 [some (.ref 1000), some (.ref 0), some (.ref 124), some (.int x3)] [] σ237 Q) ∧ (¬ v231 = v237 → Q (some (.int 0)) σ237))))))))))))) ∧ (((Θ.2.2.2.2.2 x3.toNatClampNeg) &&& 63).toInt = 32 → (vp_in (x3 + 1) Θ.2.2.2.2.1 ∧ (vp_in (x3 + 2) Θ.2.2.2.2.1 ∧ Ci Θ d 149 [.ref 0, .int (Θ.2.2.2.2.2 (x3 + 1).toNatClampNeg), .int (Θ.2.2.2.2.2 (x3 + 2).toNatClampNeg)] σ (fun v241 σ241 => (vp_in (x3 + 1) Θ.2.2.2.2.1 ∧ (vp_in (x3 + 2) Θ.2.2.2.2.1 ∧ Ci Θ d 279 [.ref 124, .int (Θ.2.2.2.2.2 (x3 + 1).toNatClampNeg), .int (Θ.2.2.2.2.2 (x3 + 2).toNatClampNeg)] σ241 (fun v244 σ244 => ((v241 = v244 → G Θ (d + 1) 294 1345 [some (.ref 1000), some (.ref 0), some (.ref 124), some (.int x3)] [] σ244 Q) ∧ (¬ v241 = v244 → Q (some (.int 0)) σ244))))))))) ∧ (((Θ.2.2.2.2.2 x3.toNatClampNeg) &&& 63).toInt = 33 → Ci Θ d 150 [.ref 0] σ (fun v246 σ246 => Ci Θ d 280 [.ref 124] σ246 (fun v247 σ247 => ((v246 = v247 → G Θ (d + 1) 294 1345 [some (.ref 1000), some (.ref 0), some (.ref 124), some (.int x3)] [] σ247 Q) ∧ (¬ v246 = v247 → Q (some (.int 0)) σ247))))) ∧ (((Θ.2.2.2.2.2 x3.toNatClampNeg) &&& 63).toInt = 34 → Ci Θ d 151 [.ref 0] σ (fun v249 σ249 => Ci Θ d 281 [.ref 124] σ249 (fun v250 σ250 => ((v249 = v250 → G Θ (d + 1) 294 1345 [some (.ref 1000), some (.ref 0), some (.ref 124), some (.int x3)] [] σ250 Q) ∧ (¬ v249 = v250 → Q (some (.int 0)) σ250))))) ∧ (((Θ.2.2.2.2.2 x3.toNatClampNeg) &&& 63).toInt = 35 → (vp_in (x3 + 1) Θ.2.2.2.2.1 ∧ Ci Θ d 152 [.ref 0, .int (Θ.2.2.2.2.2 (x3 + 1).toNatClampNeg)] σ (fun v253 σ253 => (vp_in (x3 + 1) Θ.2.2.2.2.1 ∧ Ci Θ d 283 [.ref 124, .int (Θ.2.2.2.2.2 (x3 + 1).toNatClampNeg)] σ253 (fun v255 σ255 => ((v253 = v255 → G Θ (d + 1) 294 1345 [some (.ref 1000), some (.ref 0), some (.ref 124), some (.int x3)] [] σ255 Q) ∧ (¬ v253 = v255 → Q (some (.int 0)) σ255))))))) ∧ (((Θ.2.2.2.2.2 x3.toNatClampNeg) &&& 63).toInt = 36 → (vp_in (x3 + 1) Θ.2.2.2.2.1 ∧ Ci Θ d 153 [.ref 0, .int (Θ.2.2.2.2.2 (x3 + 1).toNatClampNeg)] σ (fun v258 σ258 => (vp_in (x3 + 1) Θ.2.2.2.2.1 ∧ Ci Θ d 284 [.ref 124, .int (Θ.2.2.2.2.2 (x3 + 1).toNatClampNeg)] σ258 (fun v260 σ260 => ((v258 = v260 → G Θ (d + 1) 294 1345 [some (.ref 1000), some (.ref 0), some (.ref 124), some (.int x3)] [] σ260 Q) ∧ (¬ v258 = v260 → Q (some (.int 0)) σ260))))))) ∧ (((Θ.2.2.2.2.2 x3.toNatClampNeg) &&& 63).toInt = 37 → (vp_in (x3 + 1) Θ.2.2.2.2.1 ∧ Ci Θ d 154 [.ref 0, .int (Θ.2.2.2.2.2 (x3 + 1).toNatClampNeg)] σ (fun v263 σ263 => (vp_in (x3 + 1) Θ.2.2.2.2.1 ∧ Ci Θ d 285 [.ref 124, .int (Θ.2.2.2.2.2 (x3 + 1).toNatClampNeg)] σ263 (fun v265 σ265 => ((v263 = v265 → G Θ (d + 1) 294 1345 [some (.ref 1000), some (.ref 0), some (.ref 124), some (.int x3)] [] σ265 Q) ∧ (¬ v263 = v265 → Q (some (.int 0)) σ265)))))))))))) :
    G Θ (d + 1) 294 18 [some (.ref 1000), some (.ref 0), some (.ref 124), some (.int x3)] [] σ Q := by
  refine r_iload_n okLaw 0 rfl rfl rfl ?_
  refine r_aload_n okLaw 1 rfl rfl rfl ?_
  refine r_slen okLaw 2 rfl rfl ?_
  refine r_bipush (v := 6) okLaw 3 rfl rfl rfl ?_
  refine r_isub okLaw 4 rfl rfl ?_
  refine r_icmp_gt okLaw 5 rfl rfl (fun c1 => ?_) (fun c1 => ?_)
  · have h1 := h.1 c1
    refine r_iconst (v := 1) okLaw 915 rfl rfl rfl ?_
    exact r_zret okLaw 916 rfl rfl rfl (Or.inr rfl) h1
  · have h1 := h.2 c1
    refine r_aload_n okLaw 6 rfl rfl rfl ?_
    refine r_iload_n okLaw 7 rfl rfl rfl ?_
    obtain ⟨c2, h2⟩ := h1
    refine r_sld okLaw 8 rfl rfl c2 ?_
    refine r_bipush (v := 63) okLaw 9 rfl rfl rfl ?_
    refine r_iand okLaw 10 rfl rfl ?_
    refine r_tsw (tl := [200, 263, 286, 299, 312, 335, 368, 391, 414, 437, 481, 515, 538, 561, 605, 649, 662, 706, 739, 762, 796, 830, 864, 877, 940, 963, 986, 1009, 1042, 1092, 1115, 1168, 1217, 1250, 1263, 1276, 1299, 1322]) okLaw 11 rfl rfl rfl rfl (fun c3 => ?_) ?_
    · have h3 := h2.1 c3
      exact h3
    · refine And.intro (fun c3 => ?_) ?_
      · have h3 := h2.2.1 c3
        refine r_aload_n okLaw 12 rfl rfl rfl ?_
        refine r_aload_n okLaw 13 rfl rfl rfl ?_
        refine r_iload_n okLaw 14 rfl rfl rfl ?_
        refine r_iconst (v := 1) okLaw 15 rfl rfl rfl ?_
        refine r_iadd okLaw 16 rfl rfl ?_
        obtain ⟨c4, h4⟩ := h3
        refine r_sld okLaw 17 rfl rfl c4 ?_
        refine r_aload_n okLaw 18 rfl rfl rfl ?_
        refine r_iload_n okLaw 19 rfl rfl rfl ?_
        refine r_iconst (v := 2) okLaw 20 rfl rfl rfl ?_
        refine r_iadd okLaw 21 rfl rfl ?_
        obtain ⟨c5, h5⟩ := h4
        refine r_sld okLaw 22 rfl rfl c5 ?_
        refine r_aload_n okLaw 23 rfl rfl rfl ?_
        refine r_iload_n okLaw 24 rfl rfl rfl ?_
        refine r_iconst (v := 3) okLaw 25 rfl rfl rfl ?_
        refine r_iadd okLaw 26 rfl rfl ?_
        obtain ⟨c6, h6⟩ := h5
        refine r_sld okLaw 27 rfl rfl c6 ?_
        refine r_aload_n okLaw 28 rfl rfl rfl ?_
        refine r_iload_n okLaw 29 rfl rfl rfl ?_
        refine r_iconst (v := 4) okLaw 30 rfl rfl rfl ?_
        refine r_iadd okLaw 31 rfl rfl ?_
        obtain ⟨c7, h7⟩ := h6
        refine r_sld okLaw 32 rfl rfl c7 ?_
        refine r_aload_n okLaw 33 rfl rfl rfl ?_
        refine r_iload_n okLaw 34 rfl rfl rfl ?_
        refine r_iconst (v := 5) okLaw 35 rfl rfl rfl ?_
        refine r_iadd okLaw 36 rfl rfl ?_
        obtain ⟨c8, h8⟩ := h7
        refine r_sld okLaw 37 rfl rfl c8 ?_
        refine r_invVi (as := [.int (Θ.2.2.2.2.2 (x3 + 1).toNatClampNeg), .int (Θ.2.2.2.2.2 (x3 + 2).toNatClampNeg), .int (Θ.2.2.2.2.2 (x3 + 3).toNatClampNeg), .int (Θ.2.2.2.2.2 (x3 + 4).toNatClampNeg), .int (Θ.2.2.2.2.2 (x3 + 5).toNatClampNeg)]) (S := []) okLaw 38 rfl rfl mf117 rfl rfl (Nat.le_of_ble_eq_true rfl) rfl h8 (fun v9 σ9 h9 => ?_)
        refine r_aload_n okLaw 39 rfl rfl rfl ?_
        refine r_aload_n okLaw 40 rfl rfl rfl ?_
        refine r_iload_n okLaw 41 rfl rfl rfl ?_
        refine r_iconst (v := 1) okLaw 42 rfl rfl rfl ?_
        refine r_iadd okLaw 43 rfl rfl ?_
        obtain ⟨c10, h10⟩ := h9
        refine r_sld okLaw 44 rfl rfl c10 ?_
        refine r_aload_n okLaw 45 rfl rfl rfl ?_
        refine r_iload_n okLaw 46 rfl rfl rfl ?_
        refine r_iconst (v := 2) okLaw 47 rfl rfl rfl ?_
        refine r_iadd okLaw 48 rfl rfl ?_
        obtain ⟨c11, h11⟩ := h10
        refine r_sld okLaw 49 rfl rfl c11 ?_
        refine r_aload_n okLaw 50 rfl rfl rfl ?_
        refine r_iload_n okLaw 51 rfl rfl rfl ?_
        refine r_iconst (v := 3) okLaw 52 rfl rfl rfl ?_
        refine r_iadd okLaw 53 rfl rfl ?_
        obtain ⟨c12, h12⟩ := h11
        refine r_sld okLaw 54 rfl rfl c12 ?_
        refine r_aload_n okLaw 55 rfl rfl rfl ?_
        refine r_iload_n okLaw 56 rfl rfl rfl ?_
        refine r_iconst (v := 4) okLaw 57 rfl rfl rfl ?_
        refine r_iadd okLaw 58 rfl rfl ?_
        obtain ⟨c13, h13⟩ := h12
        refine r_sld okLaw 59 rfl rfl c13 ?_
        refine r_aload_n okLaw 60 rfl rfl rfl ?_
        refine r_iload_n okLaw 61 rfl rfl rfl ?_
        refine r_iconst (v := 5) okLaw 62 rfl rfl rfl ?_
        refine r_iadd okLaw 63 rfl rfl ?_
        obtain ⟨c14, h14⟩ := h13
        refine r_sld okLaw 64 rfl rfl c14 ?_
        refine r_invVi (as := [.int (Θ.2.2.2.2.2 (x3 + 1).toNatClampNeg), .int (Θ.2.2.2.2.2 (x3 + 2).toNatClampNeg), .int (Θ.2.2.2.2.2 (x3 + 3).toNatClampNeg), .int (Θ.2.2.2.2.2 (x3 + 4).toNatClampNeg), .int (Θ.2.2.2.2.2 (x3 + 5).toNatClampNeg)]) (S := [.int v9]) okLaw 65 rfl rfl mf168 rfl rfl (Nat.le_of_ble_eq_true rfl) rfl h14 (fun v15 σ15 h15 => ?_)
        refine r_icmp_eq okLaw 66 rfl rfl (fun c16 => ?_) (fun c16 => ?_)
        · have h16 := h15.1 c16
          exact h16
        · have h16 := h15.2 c16
          refine r_iconst (v := 0) okLaw 67 rfl rfl rfl ?_
          exact r_zret okLaw 68 rfl rfl rfl (Or.inl rfl) h16
      · refine And.intro (fun c3 => ?_) ?_
        · have h3 := h2.2.2.1 c3
          refine r_aload_n okLaw 69 rfl rfl rfl ?_
          refine r_aload_n okLaw 70 rfl rfl rfl ?_
          refine r_iload_n okLaw 71 rfl rfl rfl ?_
          refine r_iconst (v := 1) okLaw 72 rfl rfl rfl ?_
          refine r_iadd okLaw 73 rfl rfl ?_
          obtain ⟨c17, h17⟩ := h3
          refine r_sld okLaw 74 rfl rfl c17 ?_
          refine r_invVi (as := [.int (Θ.2.2.2.2.2 (x3 + 1).toNatClampNeg)]) (S := []) okLaw 75 rfl rfl mf118 rfl rfl (Nat.le_of_ble_eq_true rfl) rfl h17 (fun v18 σ18 h18 => ?_)
          refine r_aload_n okLaw 76 rfl rfl rfl ?_
          refine r_aload_n okLaw 77 rfl rfl rfl ?_
          refine r_iload_n okLaw 78 rfl rfl rfl ?_
          refine r_iconst (v := 1) okLaw 79 rfl rfl rfl ?_
          refine r_iadd okLaw 80 rfl rfl ?_
          obtain ⟨c19, h19⟩ := h18
          refine r_sld okLaw 81 rfl rfl c19 ?_
          refine r_invVi (as := [.int (Θ.2.2.2.2.2 (x3 + 1).toNatClampNeg)]) (S := [.int v18]) okLaw 82 rfl rfl mf170 rfl rfl (Nat.le_of_ble_eq_true rfl) rfl h19 (fun v20 σ20 h20 => ?_)
          refine r_icmp_eq okLaw 83 rfl rfl (fun c21 => ?_) (fun c21 => ?_)
          · have h21 := h20.1 c21
            exact h21
          · have h21 := h20.2 c21
            refine r_iconst (v := 0) okLaw 84 rfl rfl rfl ?_
            exact r_zret okLaw 85 rfl rfl rfl (Or.inl rfl) h21
        · refine And.intro (fun c3 => ?_) ?_
          · have h3 := h2.2.2.2.1 c3
            refine r_aload_n okLaw 86 rfl rfl rfl ?_
            refine r_invVi (as := []) (S := []) okLaw 87 rfl rfl mf119 rfl rfl (Nat.le_of_ble_eq_true rfl) rfl h3 (fun v22 σ22 h22 => ?_)
            refine r_aload_n okLaw 88 rfl rfl rfl ?_
            refine r_invVi (as := []) (S := [.int v22]) okLaw 89 rfl rfl mf191 rfl rfl (Nat.le_of_ble_eq_true rfl) rfl h22 (fun v23 σ23 h23 => ?_)
            refine r_icmp_eq okLaw 90 rfl rfl (fun c24 => ?_) (fun c24 => ?_)
            · have h24 := h23.1 c24
              exact h24
            · have h24 := h23.2 c24
              refine r_iconst (v := 0) okLaw 91 rfl rfl rfl ?_
              exact r_zret okLaw 92 rfl rfl rfl (Or.inl rfl) h24
          · refine And.intro (fun c3 => ?_) ?_
            · have h3 := h2.2.2.2.2.1 c3
              refine r_aload_n okLaw 93 rfl rfl rfl ?_
              refine r_invVi (as := []) (S := []) okLaw 94 rfl rfl mf120 rfl rfl (Nat.le_of_ble_eq_true rfl) rfl h3 (fun v25 σ25 h25 => ?_)
              refine r_aload_n okLaw 95 rfl rfl rfl ?_
              refine r_invVi (as := []) (S := [.int v25]) okLaw 96 rfl rfl mf263 rfl rfl (Nat.le_of_ble_eq_true rfl) rfl h25 (fun v26 σ26 h26 => ?_)
              refine r_icmp_eq okLaw 97 rfl rfl (fun c27 => ?_) (fun c27 => ?_)
              · have h27 := h26.1 c27
                exact h27
              · have h27 := h26.2 c27
                refine r_iconst (v := 0) okLaw 98 rfl rfl rfl ?_
                exact r_zret okLaw 99 rfl rfl rfl (Or.inl rfl) h27
            · refine And.intro (fun c3 => ?_) ?_
              · have h3 := h2.2.2.2.2.2.1 c3
                refine r_aload_n okLaw 100 rfl rfl rfl ?_
                refine r_aload_n okLaw 101 rfl rfl rfl ?_
                refine r_iload_n okLaw 102 rfl rfl rfl ?_
                refine r_iconst (v := 1) okLaw 103 rfl rfl rfl ?_
                refine r_iadd okLaw 104 rfl rfl ?_
                obtain ⟨c28, h28⟩ := h3
                refine r_sld okLaw 105 rfl rfl c28 ?_
                refine r_invVi (as := [.int (Θ.2.2.2.2.2 (x3 + 1).toNatClampNeg)]) (S := []) okLaw 106 rfl rfl mf121 rfl rfl (Nat.le_of_ble_eq_true rfl) rfl h28 (fun v29 σ29 h29 => ?_)
                refine r_aload_n okLaw 107 rfl rfl rfl ?_
                refine r_aload_n okLaw 108 rfl rfl rfl ?_
                refine r_iload_n okLaw 109 rfl rfl rfl ?_
                refine r_iconst (v := 1) okLaw 110 rfl rfl rfl ?_
                refine r_iadd okLaw 111 rfl rfl ?_
                obtain ⟨c30, h30⟩ := h29
                refine r_sld okLaw 112 rfl rfl c30 ?_
                refine r_invVi (as := [.int (Θ.2.2.2.2.2 (x3 + 1).toNatClampNeg)]) (S := [.int v29]) okLaw 113 rfl rfl mf192 rfl rfl (Nat.le_of_ble_eq_true rfl) rfl h30 (fun v31 σ31 h31 => ?_)
                refine r_icmp_eq okLaw 114 rfl rfl (fun c32 => ?_) (fun c32 => ?_)
                · have h32 := h31.1 c32
                  exact h32
                · have h32 := h31.2 c32
                  refine r_iconst (v := 0) okLaw 115 rfl rfl rfl ?_
                  exact r_zret okLaw 116 rfl rfl rfl (Or.inl rfl) h32
              · refine And.intro (fun c3 => ?_) ?_
                · have h3 := h2.2.2.2.2.2.2.1 c3
                  refine r_aload_n okLaw 117 rfl rfl rfl ?_
                  refine r_aload_n okLaw 118 rfl rfl rfl ?_
                  refine r_iload_n okLaw 119 rfl rfl rfl ?_
                  refine r_iconst (v := 1) okLaw 120 rfl rfl rfl ?_
                  refine r_iadd okLaw 121 rfl rfl ?_
                  obtain ⟨c33, h33⟩ := h3
                  refine r_sld okLaw 122 rfl rfl c33 ?_
                  refine r_aload_n okLaw 123 rfl rfl rfl ?_
                  refine r_iload_n okLaw 124 rfl rfl rfl ?_
                  refine r_iconst (v := 2) okLaw 125 rfl rfl rfl ?_
                  refine r_iadd okLaw 126 rfl rfl ?_
                  obtain ⟨c34, h34⟩ := h33
                  refine r_sld okLaw 127 rfl rfl c34 ?_
                  refine r_invVi (as := [.int (Θ.2.2.2.2.2 (x3 + 1).toNatClampNeg), .int (Θ.2.2.2.2.2 (x3 + 2).toNatClampNeg)]) (S := []) okLaw 128 rfl rfl mf122 rfl rfl (Nat.le_of_ble_eq_true rfl) rfl h34 (fun v35 σ35 h35 => ?_)
                  refine r_aload_n okLaw 129 rfl rfl rfl ?_
                  refine r_aload_n okLaw 130 rfl rfl rfl ?_
                  refine r_iload_n okLaw 131 rfl rfl rfl ?_
                  refine r_iconst (v := 1) okLaw 132 rfl rfl rfl ?_
                  refine r_iadd okLaw 133 rfl rfl ?_
                  obtain ⟨c36, h36⟩ := h35
                  refine r_sld okLaw 134 rfl rfl c36 ?_
                  refine r_aload_n okLaw 135 rfl rfl rfl ?_
                  refine r_iload_n okLaw 136 rfl rfl rfl ?_
                  refine r_iconst (v := 2) okLaw 137 rfl rfl rfl ?_
                  refine r_iadd okLaw 138 rfl rfl ?_
                  obtain ⟨c37, h37⟩ := h36
                  refine r_sld okLaw 139 rfl rfl c37 ?_
                  refine r_invVi (as := [.int (Θ.2.2.2.2.2 (x3 + 1).toNatClampNeg), .int (Θ.2.2.2.2.2 (x3 + 2).toNatClampNeg)]) (S := [.int v35]) okLaw 140 rfl rfl mf203 rfl rfl (Nat.le_of_ble_eq_true rfl) rfl h37 (fun v38 σ38 h38 => ?_)
                  refine r_icmp_eq okLaw 141 rfl rfl (fun c39 => ?_) (fun c39 => ?_)
                  · have h39 := h38.1 c39
                    exact h39
                  · have h39 := h38.2 c39
                    refine r_iconst (v := 0) okLaw 142 rfl rfl rfl ?_
                    exact r_zret okLaw 143 rfl rfl rfl (Or.inl rfl) h39
                · refine And.intro (fun c3 => ?_) ?_
                  · have h3 := h2.2.2.2.2.2.2.2.1 c3
                    refine r_aload_n okLaw 144 rfl rfl rfl ?_
                    refine r_aload_n okLaw 145 rfl rfl rfl ?_
                    refine r_iload_n okLaw 146 rfl rfl rfl ?_
                    refine r_iconst (v := 1) okLaw 147 rfl rfl rfl ?_
                    refine r_iadd okLaw 148 rfl rfl ?_
                    obtain ⟨c40, h40⟩ := h3
                    refine r_sld okLaw 149 rfl rfl c40 ?_
                    refine r_invVi (as := [.int (Θ.2.2.2.2.2 (x3 + 1).toNatClampNeg)]) (S := []) okLaw 150 rfl rfl mf123 rfl rfl (Nat.le_of_ble_eq_true rfl) rfl h40 (fun v41 σ41 h41 => ?_)
                    refine r_aload_n okLaw 151 rfl rfl rfl ?_
                    refine r_aload_n okLaw 152 rfl rfl rfl ?_
                    refine r_iload_n okLaw 153 rfl rfl rfl ?_
                    refine r_iconst (v := 1) okLaw 154 rfl rfl rfl ?_
                    refine r_iadd okLaw 155 rfl rfl ?_
                    obtain ⟨c42, h42⟩ := h41
                    refine r_sld okLaw 156 rfl rfl c42 ?_
                    refine r_invVi (as := [.int (Θ.2.2.2.2.2 (x3 + 1).toNatClampNeg)]) (S := [.int v41]) okLaw 157 rfl rfl mf207 rfl rfl (Nat.le_of_ble_eq_true rfl) rfl h42 (fun v43 σ43 h43 => ?_)
                    refine r_icmp_eq okLaw 158 rfl rfl (fun c44 => ?_) (fun c44 => ?_)
                    · have h44 := h43.1 c44
                      exact h44
                    · have h44 := h43.2 c44
                      refine r_iconst (v := 0) okLaw 159 rfl rfl rfl ?_
                      exact r_zret okLaw 160 rfl rfl rfl (Or.inl rfl) h44
                  · refine And.intro (fun c3 => ?_) ?_
                    · have h3 := h2.2.2.2.2.2.2.2.2.1 c3
                      refine r_aload_n okLaw 161 rfl rfl rfl ?_
                      refine r_aload_n okLaw 162 rfl rfl rfl ?_
                      refine r_iload_n okLaw 163 rfl rfl rfl ?_
                      refine r_iconst (v := 1) okLaw 164 rfl rfl rfl ?_
                      refine r_iadd okLaw 165 rfl rfl ?_
                      obtain ⟨c45, h45⟩ := h3
                      refine r_sld okLaw 166 rfl rfl c45 ?_
                      refine r_invVi (as := [.int (Θ.2.2.2.2.2 (x3 + 1).toNatClampNeg)]) (S := []) okLaw 167 rfl rfl mf124 rfl rfl (Nat.le_of_ble_eq_true rfl) rfl h45 (fun v46 σ46 h46 => ?_)
                      refine r_aload_n okLaw 168 rfl rfl rfl ?_
                      refine r_aload_n okLaw 169 rfl rfl rfl ?_
                      refine r_iload_n okLaw 170 rfl rfl rfl ?_
                      refine r_iconst (v := 1) okLaw 171 rfl rfl rfl ?_
                      refine r_iadd okLaw 172 rfl rfl ?_
                      obtain ⟨c47, h47⟩ := h46
                      refine r_sld okLaw 173 rfl rfl c47 ?_
                      refine r_invVi (as := [.int (Θ.2.2.2.2.2 (x3 + 1).toNatClampNeg)]) (S := [.int v46]) okLaw 174 rfl rfl mf208 rfl rfl (Nat.le_of_ble_eq_true rfl) rfl h47 (fun v48 σ48 h48 => ?_)
                      refine r_icmp_eq okLaw 175 rfl rfl (fun c49 => ?_) (fun c49 => ?_)
                      · have h49 := h48.1 c49
                        exact h49
                      · have h49 := h48.2 c49
                        refine r_iconst (v := 0) okLaw 176 rfl rfl rfl ?_
                        exact r_zret okLaw 177 rfl rfl rfl (Or.inl rfl) h49
                    · refine And.intro (fun c3 => ?_) ?_
                      · have h3 := h2.2.2.2.2.2.2.2.2.2.1 c3
                        refine r_aload_n okLaw 178 rfl rfl rfl ?_
                        refine r_aload_n okLaw 179 rfl rfl rfl ?_
                        refine r_iload_n okLaw 180 rfl rfl rfl ?_
                        refine r_iconst (v := 1) okLaw 181 rfl rfl rfl ?_
                        refine r_iadd okLaw 182 rfl rfl ?_
                        obtain ⟨c50, h50⟩ := h3
                        refine r_sld okLaw 183 rfl rfl c50 ?_
                        refine r_invVi (as := [.int (Θ.2.2.2.2.2 (x3 + 1).toNatClampNeg)]) (S := []) okLaw 184 rfl rfl mf125 rfl rfl (Nat.le_of_ble_eq_true rfl) rfl h50 (fun v51 σ51 h51 => ?_)
                        refine r_aload_n okLaw 185 rfl rfl rfl ?_
                        refine r_aload_n okLaw 186 rfl rfl rfl ?_
                        refine r_iload_n okLaw 187 rfl rfl rfl ?_
                        refine r_iconst (v := 1) okLaw 188 rfl rfl rfl ?_
                        refine r_iadd okLaw 189 rfl rfl ?_
                        obtain ⟨c52, h52⟩ := h51
                        refine r_sld okLaw 190 rfl rfl c52 ?_
                        refine r_invVi (as := [.int (Θ.2.2.2.2.2 (x3 + 1).toNatClampNeg)]) (S := [.int v51]) okLaw 191 rfl rfl mf209 rfl rfl (Nat.le_of_ble_eq_true rfl) rfl h52 (fun v53 σ53 h53 => ?_)
                        refine r_icmp_eq okLaw 192 rfl rfl (fun c54 => ?_) (fun c54 => ?_)
                        · have h54 := h53.1 c54
                          exact h54
                        · have h54 := h53.2 c54
                          refine r_iconst (v := 0) okLaw 193 rfl rfl rfl ?_
                          exact r_zret okLaw 194 rfl rfl rfl (Or.inl rfl) h54
                      · refine And.intro (fun c3 => ?_) ?_
                        · have h3 := h2.2.2.2.2.2.2.2.2.2.2.1 c3
                          refine r_aload_n okLaw 195 rfl rfl rfl ?_
                          refine r_aload_n okLaw 196 rfl rfl rfl ?_
                          refine r_iload_n okLaw 197 rfl rfl rfl ?_
                          refine r_iconst (v := 1) okLaw 198 rfl rfl rfl ?_
                          refine r_iadd okLaw 199 rfl rfl ?_
                          obtain ⟨c55, h55⟩ := h3
                          refine r_sld okLaw 200 rfl rfl c55 ?_
                          refine r_aload_n okLaw 201 rfl rfl rfl ?_
                          refine r_iload_n okLaw 202 rfl rfl rfl ?_
                          refine r_iconst (v := 2) okLaw 203 rfl rfl rfl ?_
                          refine r_iadd okLaw 204 rfl rfl ?_
                          obtain ⟨c56, h56⟩ := h55
                          refine r_sld okLaw 205 rfl rfl c56 ?_
                          refine r_aload_n okLaw 206 rfl rfl rfl ?_
                          refine r_iload_n okLaw 207 rfl rfl rfl ?_
                          refine r_iconst (v := 3) okLaw 208 rfl rfl rfl ?_
                          refine r_iadd okLaw 209 rfl rfl ?_
                          obtain ⟨c57, h57⟩ := h56
                          refine r_sld okLaw 210 rfl rfl c57 ?_
                          refine r_invVl (as := [.int (Θ.2.2.2.2.2 (x3 + 1).toNatClampNeg), .int (Θ.2.2.2.2.2 (x3 + 2).toNatClampNeg), .int (Θ.2.2.2.2.2 (x3 + 3).toNatClampNeg)]) (S := []) okLaw 211 rfl rfl mf126 rfl rfl (Nat.le_of_ble_eq_true rfl) rfl h57 (fun v58 σ58 h58 => ?_)
                          refine r_aload_n okLaw 212 rfl rfl rfl ?_
                          refine r_aload_n okLaw 213 rfl rfl rfl ?_
                          refine r_iload_n okLaw 214 rfl rfl rfl ?_
                          refine r_iconst (v := 1) okLaw 215 rfl rfl rfl ?_
                          refine r_iadd okLaw 216 rfl rfl ?_
                          obtain ⟨c59, h59⟩ := h58
                          refine r_sld okLaw 217 rfl rfl c59 ?_
                          refine r_aload_n okLaw 218 rfl rfl rfl ?_
                          refine r_iload_n okLaw 219 rfl rfl rfl ?_
                          refine r_iconst (v := 2) okLaw 220 rfl rfl rfl ?_
                          refine r_iadd okLaw 221 rfl rfl ?_
                          obtain ⟨c60, h60⟩ := h59
                          refine r_sld okLaw 222 rfl rfl c60 ?_
                          refine r_aload_n okLaw 223 rfl rfl rfl ?_
                          refine r_iload_n okLaw 224 rfl rfl rfl ?_
                          refine r_iconst (v := 3) okLaw 225 rfl rfl rfl ?_
                          refine r_iadd okLaw 226 rfl rfl ?_
                          obtain ⟨c61, h61⟩ := h60
                          refine r_sld okLaw 227 rfl rfl c61 ?_
                          refine r_invVl (as := [.int (Θ.2.2.2.2.2 (x3 + 1).toNatClampNeg), .int (Θ.2.2.2.2.2 (x3 + 2).toNatClampNeg), .int (Θ.2.2.2.2.2 (x3 + 3).toNatClampNeg)]) (S := [.long v58]) okLaw 228 rfl rfl mf228 rfl rfl (Nat.le_of_ble_eq_true rfl) rfl h61 (fun v62 σ62 h62 => ?_)
                          refine r_lcmp okLaw 229 rfl rfl ?_
                          refine r_if_eq okLaw 230 rfl rfl (fun c63 => ?_) (fun c63 => ?_)
                          · have h63 := h62.1 c63
                            exact h63
                          · have h63 := h62.2 c63
                            refine r_iconst (v := 0) okLaw 231 rfl rfl rfl ?_
                            exact r_zret okLaw 232 rfl rfl rfl (Or.inl rfl) h63
                        · refine And.intro (fun c3 => ?_) ?_
                          · have h3 := h2.2.2.2.2.2.2.2.2.2.2.2.1 c3
                            refine r_aload_n okLaw 233 rfl rfl rfl ?_
                            refine r_aload_n okLaw 234 rfl rfl rfl ?_
                            refine r_iload_n okLaw 235 rfl rfl rfl ?_
                            refine r_iconst (v := 1) okLaw 236 rfl rfl rfl ?_
                            refine r_iadd okLaw 237 rfl rfl ?_
                            obtain ⟨c64, h64⟩ := h3
                            refine r_sld okLaw 238 rfl rfl c64 ?_
                            refine r_aload_n okLaw 239 rfl rfl rfl ?_
                            refine r_iload_n okLaw 240 rfl rfl rfl ?_
                            refine r_iconst (v := 2) okLaw 241 rfl rfl rfl ?_
                            refine r_iadd okLaw 242 rfl rfl ?_
                            obtain ⟨c65, h65⟩ := h64
                            refine r_sld okLaw 243 rfl rfl c65 ?_
                            refine r_invVl (as := [.int (Θ.2.2.2.2.2 (x3 + 1).toNatClampNeg), .int (Θ.2.2.2.2.2 (x3 + 2).toNatClampNeg)]) (S := []) okLaw 244 rfl rfl mf127 rfl rfl (Nat.le_of_ble_eq_true rfl) rfl h65 (fun v66 σ66 h66 => ?_)
                            refine r_aload_n okLaw 245 rfl rfl rfl ?_
                            refine r_aload_n okLaw 246 rfl rfl rfl ?_
                            refine r_iload_n okLaw 247 rfl rfl rfl ?_
                            refine r_iconst (v := 1) okLaw 248 rfl rfl rfl ?_
                            refine r_iadd okLaw 249 rfl rfl ?_
                            obtain ⟨c67, h67⟩ := h66
                            refine r_sld okLaw 250 rfl rfl c67 ?_
                            refine r_aload_n okLaw 251 rfl rfl rfl ?_
                            refine r_iload_n okLaw 252 rfl rfl rfl ?_
                            refine r_iconst (v := 2) okLaw 253 rfl rfl rfl ?_
                            refine r_iadd okLaw 254 rfl rfl ?_
                            obtain ⟨c68, h68⟩ := h67
                            refine r_sld okLaw 255 rfl rfl c68 ?_
                            refine r_invVl (as := [.int (Θ.2.2.2.2.2 (x3 + 1).toNatClampNeg), .int (Θ.2.2.2.2.2 (x3 + 2).toNatClampNeg)]) (S := [.long v66]) okLaw 256 rfl rfl mf229 rfl rfl (Nat.le_of_ble_eq_true rfl) rfl h68 (fun v69 σ69 h69 => ?_)
                            refine r_lcmp okLaw 257 rfl rfl ?_
                            refine r_if_eq okLaw 258 rfl rfl (fun c70 => ?_) (fun c70 => ?_)
                            · have h70 := h69.1 c70
                              exact h70
                            · have h70 := h69.2 c70
                              refine r_iconst (v := 0) okLaw 259 rfl rfl rfl ?_
                              exact r_zret okLaw 260 rfl rfl rfl (Or.inl rfl) h70
                          · refine And.intro (fun c3 => ?_) ?_
                            · have h3 := h2.2.2.2.2.2.2.2.2.2.2.2.2.1 c3
                              refine r_aload_n okLaw 261 rfl rfl rfl ?_
                              refine r_aload_n okLaw 262 rfl rfl rfl ?_
                              refine r_iload_n okLaw 263 rfl rfl rfl ?_
                              refine r_iconst (v := 1) okLaw 264 rfl rfl rfl ?_
                              refine r_iadd okLaw 265 rfl rfl ?_
                              obtain ⟨c71, h71⟩ := h3
                              refine r_sld okLaw 266 rfl rfl c71 ?_
                              refine r_invVi (as := [.int (Θ.2.2.2.2.2 (x3 + 1).toNatClampNeg)]) (S := []) okLaw 267 rfl rfl mf128 rfl rfl (Nat.le_of_ble_eq_true rfl) rfl h71 (fun v72 σ72 h72 => ?_)
                              refine r_aload_n okLaw 268 rfl rfl rfl ?_
                              refine r_aload_n okLaw 269 rfl rfl rfl ?_
                              refine r_iload_n okLaw 270 rfl rfl rfl ?_
                              refine r_iconst (v := 1) okLaw 271 rfl rfl rfl ?_
                              refine r_iadd okLaw 272 rfl rfl ?_
                              obtain ⟨c73, h73⟩ := h72
                              refine r_sld okLaw 273 rfl rfl c73 ?_
                              refine r_invVi (as := [.int (Θ.2.2.2.2.2 (x3 + 1).toNatClampNeg)]) (S := [.int v72]) okLaw 274 rfl rfl mf226 rfl rfl (Nat.le_of_ble_eq_true rfl) rfl h73 (fun v74 σ74 h74 => ?_)
                              refine r_icmp_eq okLaw 275 rfl rfl (fun c75 => ?_) (fun c75 => ?_)
                              · have h75 := h74.1 c75
                                exact h75
                              · have h75 := h74.2 c75
                                refine r_iconst (v := 0) okLaw 276 rfl rfl rfl ?_
                                exact r_zret okLaw 277 rfl rfl rfl (Or.inl rfl) h75
                            · refine And.intro (fun c3 => ?_) ?_
                              · have h3 := h2.2.2.2.2.2.2.2.2.2.2.2.2.2.1 c3
                                refine r_aload_n okLaw 278 rfl rfl rfl ?_
                                refine r_aload_n okLaw 279 rfl rfl rfl ?_
                                refine r_iload_n okLaw 280 rfl rfl rfl ?_
                                refine r_iconst (v := 1) okLaw 281 rfl rfl rfl ?_
                                refine r_iadd okLaw 282 rfl rfl ?_
                                obtain ⟨c76, h76⟩ := h3
                                refine r_sld okLaw 283 rfl rfl c76 ?_
                                refine r_invVi (as := [.int (Θ.2.2.2.2.2 (x3 + 1).toNatClampNeg)]) (S := []) okLaw 284 rfl rfl mf129 rfl rfl (Nat.le_of_ble_eq_true rfl) rfl h76 (fun v77 σ77 h77 => ?_)
                                refine r_aload_n okLaw 285 rfl rfl rfl ?_
                                refine r_aload_n okLaw 286 rfl rfl rfl ?_
                                refine r_iload_n okLaw 287 rfl rfl rfl ?_
                                refine r_iconst (v := 1) okLaw 288 rfl rfl rfl ?_
                                refine r_iadd okLaw 289 rfl rfl ?_
                                obtain ⟨c78, h78⟩ := h77
                                refine r_sld okLaw 290 rfl rfl c78 ?_
                                refine r_invVi (as := [.int (Θ.2.2.2.2.2 (x3 + 1).toNatClampNeg)]) (S := [.int v77]) okLaw 291 rfl rfl mf231 rfl rfl (Nat.le_of_ble_eq_true rfl) rfl h78 (fun v79 σ79 h79 => ?_)
                                refine r_icmp_eq okLaw 292 rfl rfl (fun c80 => ?_) (fun c80 => ?_)
                                · have h80 := h79.1 c80
                                  exact h80
                                · have h80 := h79.2 c80
                                  refine r_iconst (v := 0) okLaw 293 rfl rfl rfl ?_
                                  exact r_zret okLaw 294 rfl rfl rfl (Or.inl rfl) h80
                              · refine And.intro (fun c3 => ?_) ?_
                                · have h3 := h2.2.2.2.2.2.2.2.2.2.2.2.2.2.2.1 c3
                                  refine r_aload_n okLaw 295 rfl rfl rfl ?_
                                  refine r_aload_n okLaw 296 rfl rfl rfl ?_
                                  refine r_iload_n okLaw 297 rfl rfl rfl ?_
                                  refine r_iconst (v := 1) okLaw 298 rfl rfl rfl ?_
                                  refine r_iadd okLaw 299 rfl rfl ?_
                                  obtain ⟨c81, h81⟩ := h3
                                  refine r_sld okLaw 300 rfl rfl c81 ?_
                                  refine r_aload_n okLaw 301 rfl rfl rfl ?_
                                  refine r_iload_n okLaw 302 rfl rfl rfl ?_
                                  refine r_iconst (v := 2) okLaw 303 rfl rfl rfl ?_
                                  refine r_iadd okLaw 304 rfl rfl ?_
                                  obtain ⟨c82, h82⟩ := h81
                                  refine r_sld okLaw 305 rfl rfl c82 ?_
                                  refine r_aload_n okLaw 306 rfl rfl rfl ?_
                                  refine r_iload_n okLaw 307 rfl rfl rfl ?_
                                  refine r_iconst (v := 3) okLaw 308 rfl rfl rfl ?_
                                  refine r_iadd okLaw 309 rfl rfl ?_
                                  obtain ⟨c83, h83⟩ := h82
                                  refine r_sld okLaw 310 rfl rfl c83 ?_
                                  refine r_invVl (as := [.int (Θ.2.2.2.2.2 (x3 + 1).toNatClampNeg), .int (Θ.2.2.2.2.2 (x3 + 2).toNatClampNeg), .int (Θ.2.2.2.2.2 (x3 + 3).toNatClampNeg)]) (S := []) okLaw 311 rfl rfl mf130 rfl rfl (Nat.le_of_ble_eq_true rfl) rfl h83 (fun v84 σ84 h84 => ?_)
                                  refine r_aload_n okLaw 312 rfl rfl rfl ?_
                                  refine r_aload_n okLaw 313 rfl rfl rfl ?_
                                  refine r_iload_n okLaw 314 rfl rfl rfl ?_
                                  refine r_iconst (v := 1) okLaw 315 rfl rfl rfl ?_
                                  refine r_iadd okLaw 316 rfl rfl ?_
                                  obtain ⟨c85, h85⟩ := h84
                                  refine r_sld okLaw 317 rfl rfl c85 ?_
                                  refine r_aload_n okLaw 318 rfl rfl rfl ?_
                                  refine r_iload_n okLaw 319 rfl rfl rfl ?_
                                  refine r_iconst (v := 2) okLaw 320 rfl rfl rfl ?_
                                  refine r_iadd okLaw 321 rfl rfl ?_
                                  obtain ⟨c86, h86⟩ := h85
                                  refine r_sld okLaw 322 rfl rfl c86 ?_
                                  refine r_aload_n okLaw 323 rfl rfl rfl ?_
                                  refine r_iload_n okLaw 324 rfl rfl rfl ?_
                                  refine r_iconst (v := 3) okLaw 325 rfl rfl rfl ?_
                                  refine r_iadd okLaw 326 rfl rfl ?_
                                  obtain ⟨c87, h87⟩ := h86
                                  refine r_sld okLaw 327 rfl rfl c87 ?_
                                  refine r_invVl (as := [.int (Θ.2.2.2.2.2 (x3 + 1).toNatClampNeg), .int (Θ.2.2.2.2.2 (x3 + 2).toNatClampNeg), .int (Θ.2.2.2.2.2 (x3 + 3).toNatClampNeg)]) (S := [.long v84]) okLaw 328 rfl rfl mf233 rfl rfl (Nat.le_of_ble_eq_true rfl) rfl h87 (fun v88 σ88 h88 => ?_)
                                  refine r_lcmp okLaw 329 rfl rfl ?_
                                  refine r_if_eq okLaw 330 rfl rfl (fun c89 => ?_) (fun c89 => ?_)
                                  · have h89 := h88.1 c89
                                    exact h89
                                  · have h89 := h88.2 c89
                                    refine r_iconst (v := 0) okLaw 331 rfl rfl rfl ?_
                                    exact r_zret okLaw 332 rfl rfl rfl (Or.inl rfl) h89
                                · refine And.intro (fun c3 => ?_) ?_
                                  · have h3 := h2.2.2.2.2.2.2.2.2.2.2.2.2.2.2.2.1 c3
                                    refine r_aload_n okLaw 333 rfl rfl rfl ?_
                                    refine r_aload_n okLaw 334 rfl rfl rfl ?_
                                    refine r_iload_n okLaw 335 rfl rfl rfl ?_
                                    refine r_iconst (v := 1) okLaw 336 rfl rfl rfl ?_
                                    refine r_iadd okLaw 337 rfl rfl ?_
                                    obtain ⟨c90, h90⟩ := h3
                                    refine r_sld okLaw 338 rfl rfl c90 ?_
                                    refine r_aload_n okLaw 339 rfl rfl rfl ?_
                                    refine r_iload_n okLaw 340 rfl rfl rfl ?_
                                    refine r_iconst (v := 2) okLaw 341 rfl rfl rfl ?_
                                    refine r_iadd okLaw 342 rfl rfl ?_
                                    obtain ⟨c91, h91⟩ := h90
                                    refine r_sld okLaw 343 rfl rfl c91 ?_
                                    refine r_aload_n okLaw 344 rfl rfl rfl ?_
                                    refine r_iload_n okLaw 345 rfl rfl rfl ?_
                                    refine r_iconst (v := 3) okLaw 346 rfl rfl rfl ?_
                                    refine r_iadd okLaw 347 rfl rfl ?_
                                    obtain ⟨c92, h92⟩ := h91
                                    refine r_sld okLaw 348 rfl rfl c92 ?_
                                    refine r_invVl (as := [.int (Θ.2.2.2.2.2 (x3 + 1).toNatClampNeg), .int (Θ.2.2.2.2.2 (x3 + 2).toNatClampNeg), .int (Θ.2.2.2.2.2 (x3 + 3).toNatClampNeg)]) (S := []) okLaw 349 rfl rfl mf131 rfl rfl (Nat.le_of_ble_eq_true rfl) rfl h92 (fun v93 σ93 h93 => ?_)
                                    refine r_aload_n okLaw 350 rfl rfl rfl ?_
                                    refine r_aload_n okLaw 351 rfl rfl rfl ?_
                                    refine r_iload_n okLaw 352 rfl rfl rfl ?_
                                    refine r_iconst (v := 1) okLaw 353 rfl rfl rfl ?_
                                    refine r_iadd okLaw 354 rfl rfl ?_
                                    obtain ⟨c94, h94⟩ := h93
                                    refine r_sld okLaw 355 rfl rfl c94 ?_
                                    refine r_aload_n okLaw 356 rfl rfl rfl ?_
                                    refine r_iload_n okLaw 357 rfl rfl rfl ?_
                                    refine r_iconst (v := 2) okLaw 358 rfl rfl rfl ?_
                                    refine r_iadd okLaw 359 rfl rfl ?_
                                    obtain ⟨c95, h95⟩ := h94
                                    refine r_sld okLaw 360 rfl rfl c95 ?_
                                    refine r_aload_n okLaw 361 rfl rfl rfl ?_
                                    refine r_iload_n okLaw 362 rfl rfl rfl ?_
                                    refine r_iconst (v := 3) okLaw 363 rfl rfl rfl ?_
                                    refine r_iadd okLaw 364 rfl rfl ?_
                                    obtain ⟨c96, h96⟩ := h95
                                    refine r_sld okLaw 365 rfl rfl c96 ?_
                                    refine r_invVl (as := [.int (Θ.2.2.2.2.2 (x3 + 1).toNatClampNeg), .int (Θ.2.2.2.2.2 (x3 + 2).toNatClampNeg), .int (Θ.2.2.2.2.2 (x3 + 3).toNatClampNeg)]) (S := [.long v93]) okLaw 366 rfl rfl mf234 rfl rfl (Nat.le_of_ble_eq_true rfl) rfl h96 (fun v97 σ97 h97 => ?_)
                                    refine r_lcmp okLaw 367 rfl rfl ?_
                                    refine r_if_eq okLaw 368 rfl rfl (fun c98 => ?_) (fun c98 => ?_)
                                    · have h98 := h97.1 c98
                                      exact h98
                                    · have h98 := h97.2 c98
                                      refine r_iconst (v := 0) okLaw 369 rfl rfl rfl ?_
                                      exact r_zret okLaw 370 rfl rfl rfl (Or.inl rfl) h98
                                  · refine And.intro (fun c3 => ?_) ?_
                                    · have h3 := h2.2.2.2.2.2.2.2.2.2.2.2.2.2.2.2.2.1 c3
                                      refine r_aload_n okLaw 371 rfl rfl rfl ?_
                                      refine r_invVi (as := []) (S := []) okLaw 372 rfl rfl mf132 rfl rfl (Nat.le_of_ble_eq_true rfl) rfl h3 (fun v99 σ99 h99 => ?_)
                                      refine r_aload_n okLaw 373 rfl rfl rfl ?_
                                      refine r_invVi (as := []) (S := [.int v99]) okLaw 374 rfl rfl mf235 rfl rfl (Nat.le_of_ble_eq_true rfl) rfl h99 (fun v100 σ100 h100 => ?_)
                                      refine r_icmp_eq okLaw 375 rfl rfl (fun c101 => ?_) (fun c101 => ?_)
                                      · have h101 := h100.1 c101
                                        exact h101
                                      · have h101 := h100.2 c101
                                        refine r_iconst (v := 0) okLaw 376 rfl rfl rfl ?_
                                        exact r_zret okLaw 377 rfl rfl rfl (Or.inl rfl) h101
                                    · refine And.intro (fun c3 => ?_) ?_
                                      · have h3 := h2.2.2.2.2.2.2.2.2.2.2.2.2.2.2.2.2.2.1 c3
                                        refine r_aload_n okLaw 378 rfl rfl rfl ?_
                                        refine r_aload_n okLaw 379 rfl rfl rfl ?_
                                        refine r_iload_n okLaw 380 rfl rfl rfl ?_
                                        refine r_iconst (v := 1) okLaw 381 rfl rfl rfl ?_
                                        refine r_iadd okLaw 382 rfl rfl ?_
                                        obtain ⟨c102, h102⟩ := h3
                                        refine r_sld okLaw 383 rfl rfl c102 ?_
                                        refine r_aload_n okLaw 384 rfl rfl rfl ?_
                                        refine r_iload_n okLaw 385 rfl rfl rfl ?_
                                        refine r_iconst (v := 2) okLaw 386 rfl rfl rfl ?_
                                        refine r_iadd okLaw 387 rfl rfl ?_
                                        obtain ⟨c103, h103⟩ := h102
                                        refine r_sld okLaw 388 rfl rfl c103 ?_
                                        refine r_aload_n okLaw 389 rfl rfl rfl ?_
                                        refine r_iload_n okLaw 390 rfl rfl rfl ?_
                                        refine r_iconst (v := 3) okLaw 391 rfl rfl rfl ?_
                                        refine r_iadd okLaw 392 rfl rfl ?_
                                        obtain ⟨c104, h104⟩ := h103
                                        refine r_sld okLaw 393 rfl rfl c104 ?_
                                        refine r_invVl (as := [.int (Θ.2.2.2.2.2 (x3 + 1).toNatClampNeg), .int (Θ.2.2.2.2.2 (x3 + 2).toNatClampNeg), .int (Θ.2.2.2.2.2 (x3 + 3).toNatClampNeg)]) (S := []) okLaw 394 rfl rfl mf133 rfl rfl (Nat.le_of_ble_eq_true rfl) rfl h104 (fun v105 σ105 h105 => ?_)
                                        refine r_aload_n okLaw 395 rfl rfl rfl ?_
                                        refine r_aload_n okLaw 396 rfl rfl rfl ?_
                                        refine r_iload_n okLaw 397 rfl rfl rfl ?_
                                        refine r_iconst (v := 1) okLaw 398 rfl rfl rfl ?_
                                        refine r_iadd okLaw 399 rfl rfl ?_
                                        obtain ⟨c106, h106⟩ := h105
                                        refine r_sld okLaw 400 rfl rfl c106 ?_
                                        refine r_aload_n okLaw 401 rfl rfl rfl ?_
                                        refine r_iload_n okLaw 402 rfl rfl rfl ?_
                                        refine r_iconst (v := 2) okLaw 403 rfl rfl rfl ?_
                                        refine r_iadd okLaw 404 rfl rfl ?_
                                        obtain ⟨c107, h107⟩ := h106
                                        refine r_sld okLaw 405 rfl rfl c107 ?_
                                        refine r_aload_n okLaw 406 rfl rfl rfl ?_
                                        refine r_iload_n okLaw 407 rfl rfl rfl ?_
                                        refine r_iconst (v := 3) okLaw 408 rfl rfl rfl ?_
                                        refine r_iadd okLaw 409 rfl rfl ?_
                                        obtain ⟨c108, h108⟩ := h107
                                        refine r_sld okLaw 410 rfl rfl c108 ?_
                                        refine r_invVl (as := [.int (Θ.2.2.2.2.2 (x3 + 1).toNatClampNeg), .int (Θ.2.2.2.2.2 (x3 + 2).toNatClampNeg), .int (Θ.2.2.2.2.2 (x3 + 3).toNatClampNeg)]) (S := [.long v105]) okLaw 411 rfl rfl mf239 rfl rfl (Nat.le_of_ble_eq_true rfl) rfl h108 (fun v109 σ109 h109 => ?_)
                                        refine r_lcmp okLaw 412 rfl rfl ?_
                                        refine r_if_eq okLaw 413 rfl rfl (fun c110 => ?_) (fun c110 => ?_)
                                        · have h110 := h109.1 c110
                                          exact h110
                                        · have h110 := h109.2 c110
                                          refine r_iconst (v := 0) okLaw 414 rfl rfl rfl ?_
                                          exact r_zret okLaw 415 rfl rfl rfl (Or.inl rfl) h110
                                      · refine And.intro (fun c3 => ?_) ?_
                                        · have h3 := h2.2.2.2.2.2.2.2.2.2.2.2.2.2.2.2.2.2.2.1 c3
                                          refine r_aload_n okLaw 416 rfl rfl rfl ?_
                                          refine r_aload_n okLaw 417 rfl rfl rfl ?_
                                          refine r_iload_n okLaw 418 rfl rfl rfl ?_
                                          refine r_iconst (v := 1) okLaw 419 rfl rfl rfl ?_
                                          refine r_iadd okLaw 420 rfl rfl ?_
                                          obtain ⟨c111, h111⟩ := h3
                                          refine r_sld okLaw 421 rfl rfl c111 ?_
                                          refine r_aload_n okLaw 422 rfl rfl rfl ?_
                                          refine r_iload_n okLaw 423 rfl rfl rfl ?_
                                          refine r_iconst (v := 2) okLaw 424 rfl rfl rfl ?_
                                          refine r_iadd okLaw 425 rfl rfl ?_
                                          obtain ⟨c112, h112⟩ := h111
                                          refine r_sld okLaw 426 rfl rfl c112 ?_
                                          refine r_invVi (as := [.int (Θ.2.2.2.2.2 (x3 + 1).toNatClampNeg), .int (Θ.2.2.2.2.2 (x3 + 2).toNatClampNeg)]) (S := []) okLaw 427 rfl rfl mf134 rfl rfl (Nat.le_of_ble_eq_true rfl) rfl h112 (fun v113 σ113 h113 => ?_)
                                          refine r_aload_n okLaw 428 rfl rfl rfl ?_
                                          refine r_aload_n okLaw 429 rfl rfl rfl ?_
                                          refine r_iload_n okLaw 430 rfl rfl rfl ?_
                                          refine r_iconst (v := 1) okLaw 431 rfl rfl rfl ?_
                                          refine r_iadd okLaw 432 rfl rfl ?_
                                          obtain ⟨c114, h114⟩ := h113
                                          refine r_sld okLaw 433 rfl rfl c114 ?_
                                          refine r_aload_n okLaw 434 rfl rfl rfl ?_
                                          refine r_iload_n okLaw 435 rfl rfl rfl ?_
                                          refine r_iconst (v := 2) okLaw 436 rfl rfl rfl ?_
                                          refine r_iadd okLaw 437 rfl rfl ?_
                                          obtain ⟨c115, h115⟩ := h114
                                          refine r_sld okLaw 438 rfl rfl c115 ?_
                                          refine r_invVi (as := [.int (Θ.2.2.2.2.2 (x3 + 1).toNatClampNeg), .int (Θ.2.2.2.2.2 (x3 + 2).toNatClampNeg)]) (S := [.int v113]) okLaw 439 rfl rfl mf240 rfl rfl (Nat.le_of_ble_eq_true rfl) rfl h115 (fun v116 σ116 h116 => ?_)
                                          refine r_icmp_eq okLaw 440 rfl rfl (fun c117 => ?_) (fun c117 => ?_)
                                          · have h117 := h116.1 c117
                                            exact h117
                                          · have h117 := h116.2 c117
                                            refine r_iconst (v := 0) okLaw 441 rfl rfl rfl ?_
                                            exact r_zret okLaw 442 rfl rfl rfl (Or.inl rfl) h117
                                        · refine And.intro (fun c3 => ?_) ?_
                                          · have h3 := h2.2.2.2.2.2.2.2.2.2.2.2.2.2.2.2.2.2.2.2.1 c3
                                            refine r_aload_n okLaw 443 rfl rfl rfl ?_
                                            refine r_aload_n okLaw 444 rfl rfl rfl ?_
                                            refine r_iload_n okLaw 445 rfl rfl rfl ?_
                                            refine r_iconst (v := 1) okLaw 446 rfl rfl rfl ?_
                                            refine r_iadd okLaw 447 rfl rfl ?_
                                            obtain ⟨c118, h118⟩ := h3
                                            refine r_sld okLaw 448 rfl rfl c118 ?_
                                            refine r_invVi (as := [.int (Θ.2.2.2.2.2 (x3 + 1).toNatClampNeg)]) (S := []) okLaw 449 rfl rfl mf135 rfl rfl (Nat.le_of_ble_eq_true rfl) rfl h118 (fun v119 σ119 h119 => ?_)
                                            refine r_aload_n okLaw 450 rfl rfl rfl ?_
                                            refine r_aload_n okLaw 451 rfl rfl rfl ?_
                                            refine r_iload_n okLaw 452 rfl rfl rfl ?_
                                            refine r_iconst (v := 1) okLaw 453 rfl rfl rfl ?_
                                            refine r_iadd okLaw 454 rfl rfl ?_
                                            obtain ⟨c120, h120⟩ := h119
                                            refine r_sld okLaw 455 rfl rfl c120 ?_
                                            refine r_invVi (as := [.int (Θ.2.2.2.2.2 (x3 + 1).toNatClampNeg)]) (S := [.int v119]) okLaw 456 rfl rfl mf243 rfl rfl (Nat.le_of_ble_eq_true rfl) rfl h120 (fun v121 σ121 h121 => ?_)
                                            refine r_icmp_eq okLaw 457 rfl rfl (fun c122 => ?_) (fun c122 => ?_)
                                            · have h122 := h121.1 c122
                                              exact h122
                                            · have h122 := h121.2 c122
                                              refine r_iconst (v := 0) okLaw 458 rfl rfl rfl ?_
                                              exact r_zret okLaw 459 rfl rfl rfl (Or.inl rfl) h122
                                          · refine And.intro (fun c3 => ?_) ?_
                                            · have h3 := h2.2.2.2.2.2.2.2.2.2.2.2.2.2.2.2.2.2.2.2.2.1 c3
                                              refine r_aload_n okLaw 460 rfl rfl rfl ?_
                                              refine r_aload_n okLaw 461 rfl rfl rfl ?_
                                              refine r_iload_n okLaw 462 rfl rfl rfl ?_
                                              refine r_iconst (v := 1) okLaw 463 rfl rfl rfl ?_
                                              refine r_iadd okLaw 464 rfl rfl ?_
                                              obtain ⟨c123, h123⟩ := h3
                                              refine r_sld okLaw 465 rfl rfl c123 ?_
                                              refine r_aload_n okLaw 466 rfl rfl rfl ?_
                                              refine r_iload_n okLaw 467 rfl rfl rfl ?_
                                              refine r_iconst (v := 2) okLaw 468 rfl rfl rfl ?_
                                              refine r_iadd okLaw 469 rfl rfl ?_
                                              obtain ⟨c124, h124⟩ := h123
                                              refine r_sld okLaw 470 rfl rfl c124 ?_
                                              refine r_invVl (as := [.int (Θ.2.2.2.2.2 (x3 + 1).toNatClampNeg), .int (Θ.2.2.2.2.2 (x3 + 2).toNatClampNeg)]) (S := []) okLaw 471 rfl rfl mf136 rfl rfl (Nat.le_of_ble_eq_true rfl) rfl h124 (fun v125 σ125 h125 => ?_)
                                              refine r_aload_n okLaw 472 rfl rfl rfl ?_
                                              refine r_aload_n okLaw 473 rfl rfl rfl ?_
                                              refine r_iload_n okLaw 474 rfl rfl rfl ?_
                                              refine r_iconst (v := 1) okLaw 475 rfl rfl rfl ?_
                                              refine r_iadd okLaw 476 rfl rfl ?_
                                              obtain ⟨c126, h126⟩ := h125
                                              refine r_sld okLaw 477 rfl rfl c126 ?_
                                              refine r_aload_n okLaw 478 rfl rfl rfl ?_
                                              refine r_iload_n okLaw 479 rfl rfl rfl ?_
                                              refine r_iconst (v := 2) okLaw 480 rfl rfl rfl ?_
                                              refine r_iadd okLaw 481 rfl rfl ?_
                                              obtain ⟨c127, h127⟩ := h126
                                              refine r_sld okLaw 482 rfl rfl c127 ?_
                                              refine r_invVl (as := [.int (Θ.2.2.2.2.2 (x3 + 1).toNatClampNeg), .int (Θ.2.2.2.2.2 (x3 + 2).toNatClampNeg)]) (S := [.long v125]) okLaw 483 rfl rfl mf244 rfl rfl (Nat.le_of_ble_eq_true rfl) rfl h127 (fun v128 σ128 h128 => ?_)
                                              refine r_lcmp okLaw 484 rfl rfl ?_
                                              refine r_if_eq okLaw 485 rfl rfl (fun c129 => ?_) (fun c129 => ?_)
                                              · have h129 := h128.1 c129
                                                exact h129
                                              · have h129 := h128.2 c129
                                                refine r_iconst (v := 0) okLaw 486 rfl rfl rfl ?_
                                                exact r_zret okLaw 487 rfl rfl rfl (Or.inl rfl) h129
                                            · refine And.intro (fun c3 => ?_) ?_
                                              · have h3 := h2.2.2.2.2.2.2.2.2.2.2.2.2.2.2.2.2.2.2.2.2.2.1 c3
                                                refine r_aload_n okLaw 488 rfl rfl rfl ?_
                                                refine r_aload_n okLaw 489 rfl rfl rfl ?_
                                                refine r_iload_n okLaw 490 rfl rfl rfl ?_
                                                refine r_iconst (v := 1) okLaw 491 rfl rfl rfl ?_
                                                refine r_iadd okLaw 492 rfl rfl ?_
                                                obtain ⟨c130, h130⟩ := h3
                                                refine r_sld okLaw 493 rfl rfl c130 ?_
                                                refine r_aload_n okLaw 494 rfl rfl rfl ?_
                                                refine r_iload_n okLaw 495 rfl rfl rfl ?_
                                                refine r_iconst (v := 2) okLaw 496 rfl rfl rfl ?_
                                                refine r_iadd okLaw 497 rfl rfl ?_
                                                obtain ⟨c131, h131⟩ := h130
                                                refine r_sld okLaw 498 rfl rfl c131 ?_
                                                refine r_invVl (as := [.int (Θ.2.2.2.2.2 (x3 + 1).toNatClampNeg), .int (Θ.2.2.2.2.2 (x3 + 2).toNatClampNeg)]) (S := []) okLaw 499 rfl rfl mf137 rfl rfl (Nat.le_of_ble_eq_true rfl) rfl h131 (fun v132 σ132 h132 => ?_)
                                                refine r_aload_n okLaw 500 rfl rfl rfl ?_
                                                refine r_aload_n okLaw 501 rfl rfl rfl ?_
                                                refine r_iload_n okLaw 502 rfl rfl rfl ?_
                                                refine r_iconst (v := 1) okLaw 503 rfl rfl rfl ?_
                                                refine r_iadd okLaw 504 rfl rfl ?_
                                                obtain ⟨c133, h133⟩ := h132
                                                refine r_sld okLaw 505 rfl rfl c133 ?_
                                                refine r_aload_n okLaw 506 rfl rfl rfl ?_
                                                refine r_iload_n okLaw 507 rfl rfl rfl ?_
                                                refine r_iconst (v := 2) okLaw 508 rfl rfl rfl ?_
                                                refine r_iadd okLaw 509 rfl rfl ?_
                                                obtain ⟨c134, h134⟩ := h133
                                                refine r_sld okLaw 510 rfl rfl c134 ?_
                                                refine r_invVl (as := [.int (Θ.2.2.2.2.2 (x3 + 1).toNatClampNeg), .int (Θ.2.2.2.2.2 (x3 + 2).toNatClampNeg)]) (S := [.long v132]) okLaw 511 rfl rfl mf245 rfl rfl (Nat.le_of_ble_eq_true rfl) rfl h134 (fun v135 σ135 h135 => ?_)
                                                refine r_lcmp okLaw 512 rfl rfl ?_
                                                refine r_if_eq okLaw 513 rfl rfl (fun c136 => ?_) (fun c136 => ?_)
                                                · have h136 := h135.1 c136
                                                  exact h136
                                                · have h136 := h135.2 c136
                                                  refine r_iconst (v := 0) okLaw 514 rfl rfl rfl ?_
                                                  exact r_zret okLaw 515 rfl rfl rfl (Or.inl rfl) h136
                                              · refine And.intro (fun c3 => ?_) ?_
                                                · have h3 := h2.2.2.2.2.2.2.2.2.2.2.2.2.2.2.2.2.2.2.2.2.2.2.1 c3
                                                  refine r_aload_n okLaw 516 rfl rfl rfl ?_
                                                  refine r_aload_n okLaw 517 rfl rfl rfl ?_
                                                  refine r_iload_n okLaw 518 rfl rfl rfl ?_
                                                  refine r_iconst (v := 1) okLaw 519 rfl rfl rfl ?_
                                                  refine r_iadd okLaw 520 rfl rfl ?_
                                                  obtain ⟨c137, h137⟩ := h3
                                                  refine r_sld okLaw 521 rfl rfl c137 ?_
                                                  refine r_aload_n okLaw 522 rfl rfl rfl ?_
                                                  refine r_iload_n okLaw 523 rfl rfl rfl ?_
                                                  refine r_iconst (v := 2) okLaw 524 rfl rfl rfl ?_
                                                  refine r_iadd okLaw 525 rfl rfl ?_
                                                  obtain ⟨c138, h138⟩ := h137
                                                  refine r_sld okLaw 526 rfl rfl c138 ?_
                                                  refine r_invVl (as := [.int (Θ.2.2.2.2.2 (x3 + 1).toNatClampNeg), .int (Θ.2.2.2.2.2 (x3 + 2).toNatClampNeg)]) (S := []) okLaw 527 rfl rfl mf138 rfl rfl (Nat.le_of_ble_eq_true rfl) rfl h138 (fun v139 σ139 h139 => ?_)
                                                  refine r_aload_n okLaw 528 rfl rfl rfl ?_
                                                  refine r_aload_n okLaw 529 rfl rfl rfl ?_
                                                  refine r_iload_n okLaw 530 rfl rfl rfl ?_
                                                  refine r_iconst (v := 1) okLaw 531 rfl rfl rfl ?_
                                                  refine r_iadd okLaw 532 rfl rfl ?_
                                                  obtain ⟨c140, h140⟩ := h139
                                                  refine r_sld okLaw 533 rfl rfl c140 ?_
                                                  refine r_aload_n okLaw 534 rfl rfl rfl ?_
                                                  refine r_iload_n okLaw 535 rfl rfl rfl ?_
                                                  refine r_iconst (v := 2) okLaw 536 rfl rfl rfl ?_
                                                  refine r_iadd okLaw 537 rfl rfl ?_
                                                  obtain ⟨c141, h141⟩ := h140
                                                  refine r_sld okLaw 538 rfl rfl c141 ?_
                                                  refine r_invVl (as := [.int (Θ.2.2.2.2.2 (x3 + 1).toNatClampNeg), .int (Θ.2.2.2.2.2 (x3 + 2).toNatClampNeg)]) (S := [.long v139]) okLaw 539 rfl rfl mf247 rfl rfl (Nat.le_of_ble_eq_true rfl) rfl h141 (fun v142 σ142 h142 => ?_)
                                                  refine r_lcmp okLaw 540 rfl rfl ?_
                                                  refine r_if_eq okLaw 541 rfl rfl (fun c143 => ?_) (fun c143 => ?_)
                                                  · have h143 := h142.1 c143
                                                    exact h143
                                                  · have h143 := h142.2 c143
                                                    refine r_iconst (v := 0) okLaw 542 rfl rfl rfl ?_
                                                    exact r_zret okLaw 543 rfl rfl rfl (Or.inl rfl) h143
                                                · refine And.intro (fun c3 => ?_) ?_
                                                  · have h3 := h2.2.2.2.2.2.2.2.2.2.2.2.2.2.2.2.2.2.2.2.2.2.2.2.1 c3
                                                    refine r_aload_n okLaw 544 rfl rfl rfl ?_
                                                    refine r_invVi (as := []) (S := []) okLaw 545 rfl rfl mf139 rfl rfl (Nat.le_of_ble_eq_true rfl) rfl h3 (fun v144 σ144 h144 => ?_)
                                                    refine r_aload_n okLaw 546 rfl rfl rfl ?_
                                                    refine r_invVi (as := []) (S := [.int v144]) okLaw 547 rfl rfl mf246 rfl rfl (Nat.le_of_ble_eq_true rfl) rfl h144 (fun v145 σ145 h145 => ?_)
                                                    refine r_icmp_eq okLaw 548 rfl rfl (fun c146 => ?_) (fun c146 => ?_)
                                                    · have h146 := h145.1 c146
                                                      exact h146
                                                    · have h146 := h145.2 c146
                                                      refine r_iconst (v := 0) okLaw 549 rfl rfl rfl ?_
                                                      exact r_zret okLaw 550 rfl rfl rfl (Or.inl rfl) h146
                                                  · refine And.intro (fun c3 => ?_) ?_
                                                    · have h3 := h2.2.2.2.2.2.2.2.2.2.2.2.2.2.2.2.2.2.2.2.2.2.2.2.2.1 c3
                                                      refine r_aload_n okLaw 551 rfl rfl rfl ?_
                                                      refine r_aload_n okLaw 552 rfl rfl rfl ?_
                                                      refine r_iload_n okLaw 553 rfl rfl rfl ?_
                                                      refine r_iconst (v := 1) okLaw 554 rfl rfl rfl ?_
                                                      refine r_iadd okLaw 555 rfl rfl ?_
                                                      obtain ⟨c147, h147⟩ := h3
                                                      refine r_sld okLaw 556 rfl rfl c147 ?_
                                                      refine r_aload_n okLaw 557 rfl rfl rfl ?_
                                                      refine r_iload_n okLaw 558 rfl rfl rfl ?_
                                                      refine r_iconst (v := 2) okLaw 559 rfl rfl rfl ?_
                                                      refine r_iadd okLaw 560 rfl rfl ?_
                                                      obtain ⟨c148, h148⟩ := h147
                                                      refine r_sld okLaw 561 rfl rfl c148 ?_
                                                      refine r_aload_n okLaw 562 rfl rfl rfl ?_
                                                      refine r_iload_n okLaw 563 rfl rfl rfl ?_
                                                      refine r_iconst (v := 3) okLaw 564 rfl rfl rfl ?_
                                                      refine r_iadd okLaw 565 rfl rfl ?_
                                                      obtain ⟨c149, h149⟩ := h148
                                                      refine r_sld okLaw 566 rfl rfl c149 ?_
                                                      refine r_aload_n okLaw 567 rfl rfl rfl ?_
                                                      refine r_iload_n okLaw 568 rfl rfl rfl ?_
                                                      refine r_iconst (v := 4) okLaw 569 rfl rfl rfl ?_
                                                      refine r_iadd okLaw 570 rfl rfl ?_
                                                      obtain ⟨c150, h150⟩ := h149
                                                      refine r_sld okLaw 571 rfl rfl c150 ?_
                                                      refine r_aload_n okLaw 572 rfl rfl rfl ?_
                                                      refine r_iload_n okLaw 573 rfl rfl rfl ?_
                                                      refine r_iconst (v := 5) okLaw 574 rfl rfl rfl ?_
                                                      refine r_iadd okLaw 575 rfl rfl ?_
                                                      obtain ⟨c151, h151⟩ := h150
                                                      refine r_sld okLaw 576 rfl rfl c151 ?_
                                                      refine r_invVi (as := [.int (Θ.2.2.2.2.2 (x3 + 1).toNatClampNeg), .int (Θ.2.2.2.2.2 (x3 + 2).toNatClampNeg), .int (Θ.2.2.2.2.2 (x3 + 3).toNatClampNeg), .int (Θ.2.2.2.2.2 (x3 + 4).toNatClampNeg), .int (Θ.2.2.2.2.2 (x3 + 5).toNatClampNeg)]) (S := []) okLaw 577 rfl rfl mf140 rfl rfl (Nat.le_of_ble_eq_true rfl) rfl h151 (fun v152 σ152 h152 => ?_)
                                                      refine r_aload_n okLaw 578 rfl rfl rfl ?_
                                                      refine r_aload_n okLaw 579 rfl rfl rfl ?_
                                                      refine r_iload_n okLaw 580 rfl rfl rfl ?_
                                                      refine r_iconst (v := 1) okLaw 581 rfl rfl rfl ?_
                                                      refine r_iadd okLaw 582 rfl rfl ?_
                                                      obtain ⟨c153, h153⟩ := h152
                                                      refine r_sld okLaw 583 rfl rfl c153 ?_
                                                      refine r_aload_n okLaw 584 rfl rfl rfl ?_
                                                      refine r_iload_n okLaw 585 rfl rfl rfl ?_
                                                      refine r_iconst (v := 2) okLaw 586 rfl rfl rfl ?_
                                                      refine r_iadd okLaw 587 rfl rfl ?_
                                                      obtain ⟨c154, h154⟩ := h153
                                                      refine r_sld okLaw 588 rfl rfl c154 ?_
                                                      refine r_aload_n okLaw 589 rfl rfl rfl ?_
                                                      refine r_iload_n okLaw 590 rfl rfl rfl ?_
                                                      refine r_iconst (v := 3) okLaw 591 rfl rfl rfl ?_
                                                      refine r_iadd okLaw 592 rfl rfl ?_
                                                      obtain ⟨c155, h155⟩ := h154
                                                      refine r_sld okLaw 593 rfl rfl c155 ?_
                                                      refine r_aload_n okLaw 594 rfl rfl rfl ?_
                                                      refine r_iload_n okLaw 595 rfl rfl rfl ?_
                                                      refine r_iconst (v := 4) okLaw 596 rfl rfl rfl ?_
                                                      refine r_iadd okLaw 597 rfl rfl ?_
                                                      obtain ⟨c156, h156⟩ := h155
                                                      refine r_sld okLaw 598 rfl rfl c156 ?_
                                                      refine r_aload_n okLaw 599 rfl rfl rfl ?_
                                                      refine r_iload_n okLaw 600 rfl rfl rfl ?_
                                                      refine r_iconst (v := 5) okLaw 601 rfl rfl rfl ?_
                                                      refine r_iadd okLaw 602 rfl rfl ?_
                                                      obtain ⟨c157, h157⟩ := h156
                                                      refine r_sld okLaw 603 rfl rfl c157 ?_
                                                      refine r_invVi (as := [.int (Θ.2.2.2.2.2 (x3 + 1).toNatClampNeg), .int (Θ.2.2.2.2.2 (x3 + 2).toNatClampNeg), .int (Θ.2.2.2.2.2 (x3 + 3).toNatClampNeg), .int (Θ.2.2.2.2.2 (x3 + 4).toNatClampNeg), .int (Θ.2.2.2.2.2 (x3 + 5).toNatClampNeg)]) (S := [.int v152]) okLaw 604 rfl rfl mf249 rfl rfl (Nat.le_of_ble_eq_true rfl) rfl h157 (fun v158 σ158 h158 => ?_)
                                                      refine r_icmp_eq okLaw 605 rfl rfl (fun c159 => ?_) (fun c159 => ?_)
                                                      · have h159 := h158.1 c159
                                                        exact h159
                                                      · have h159 := h158.2 c159
                                                        refine r_iconst (v := 0) okLaw 606 rfl rfl rfl ?_
                                                        exact r_zret okLaw 607 rfl rfl rfl (Or.inl rfl) h159
                                                    · refine And.intro (fun c3 => ?_) ?_
                                                      · have h3 := h2.2.2.2.2.2.2.2.2.2.2.2.2.2.2.2.2.2.2.2.2.2.2.2.2.2.1 c3
                                                        refine r_aload_n okLaw 608 rfl rfl rfl ?_
                                                        refine r_aload_n okLaw 609 rfl rfl rfl ?_
                                                        refine r_iload_n okLaw 610 rfl rfl rfl ?_
                                                        refine r_iconst (v := 1) okLaw 611 rfl rfl rfl ?_
                                                        refine r_iadd okLaw 612 rfl rfl ?_
                                                        obtain ⟨c160, h160⟩ := h3
                                                        refine r_sld okLaw 613 rfl rfl c160 ?_
                                                        refine r_invVi (as := [.int (Θ.2.2.2.2.2 (x3 + 1).toNatClampNeg)]) (S := []) okLaw 614 rfl rfl mf141 rfl rfl (Nat.le_of_ble_eq_true rfl) rfl h160 (fun v161 σ161 h161 => ?_)
                                                        refine r_aload_n okLaw 615 rfl rfl rfl ?_
                                                        refine r_aload_n okLaw 616 rfl rfl rfl ?_
                                                        refine r_iload_n okLaw 617 rfl rfl rfl ?_
                                                        refine r_iconst (v := 1) okLaw 618 rfl rfl rfl ?_
                                                        refine r_iadd okLaw 619 rfl rfl ?_
                                                        obtain ⟨c162, h162⟩ := h161
                                                        refine r_sld okLaw 620 rfl rfl c162 ?_
                                                        refine r_invVi (as := [.int (Θ.2.2.2.2.2 (x3 + 1).toNatClampNeg)]) (S := [.int v161]) okLaw 621 rfl rfl mf268 rfl rfl (Nat.le_of_ble_eq_true rfl) rfl h162 (fun v163 σ163 h163 => ?_)
                                                        refine r_icmp_eq okLaw 622 rfl rfl (fun c164 => ?_) (fun c164 => ?_)
                                                        · have h164 := h163.1 c164
                                                          exact h164
                                                        · have h164 := h163.2 c164
                                                          refine r_iconst (v := 0) okLaw 623 rfl rfl rfl ?_
                                                          exact r_zret okLaw 624 rfl rfl rfl (Or.inl rfl) h164
                                                      · refine And.intro (fun c3 => ?_) ?_
                                                        · have h3 := h2.2.2.2.2.2.2.2.2.2.2.2.2.2.2.2.2.2.2.2.2.2.2.2.2.2.2.1 c3
                                                          refine r_aload_n okLaw 625 rfl rfl rfl ?_
                                                          refine r_aload_n okLaw 626 rfl rfl rfl ?_
                                                          refine r_iload_n okLaw 627 rfl rfl rfl ?_
                                                          refine r_iconst (v := 1) okLaw 628 rfl rfl rfl ?_
                                                          refine r_iadd okLaw 629 rfl rfl ?_
                                                          obtain ⟨c165, h165⟩ := h3
                                                          refine r_sld okLaw 630 rfl rfl c165 ?_
                                                          refine r_invVi (as := [.int (Θ.2.2.2.2.2 (x3 + 1).toNatClampNeg)]) (S := []) okLaw 631 rfl rfl mf142 rfl rfl (Nat.le_of_ble_eq_true rfl) rfl h165 (fun v166 σ166 h166 => ?_)
                                                          refine r_aload_n okLaw 632 rfl rfl rfl ?_
                                                          refine r_aload_n okLaw 633 rfl rfl rfl ?_
                                                          refine r_iload_n okLaw 634 rfl rfl rfl ?_
                                                          refine r_iconst (v := 1) okLaw 635 rfl rfl rfl ?_
                                                          refine r_iadd okLaw 636 rfl rfl ?_
                                                          obtain ⟨c167, h167⟩ := h166
                                                          refine r_sld okLaw 637 rfl rfl c167 ?_
                                                          refine r_invVi (as := [.int (Θ.2.2.2.2.2 (x3 + 1).toNatClampNeg)]) (S := [.int v166]) okLaw 638 rfl rfl mf270 rfl rfl (Nat.le_of_ble_eq_true rfl) rfl h167 (fun v168 σ168 h168 => ?_)
                                                          refine r_icmp_eq okLaw 639 rfl rfl (fun c169 => ?_) (fun c169 => ?_)
                                                          · have h169 := h168.1 c169
                                                            exact h169
                                                          · have h169 := h168.2 c169
                                                            refine r_iconst (v := 0) okLaw 640 rfl rfl rfl ?_
                                                            exact r_zret okLaw 641 rfl rfl rfl (Or.inl rfl) h169
                                                        · refine And.intro (fun c3 => ?_) ?_
                                                          · have h3 := h2.2.2.2.2.2.2.2.2.2.2.2.2.2.2.2.2.2.2.2.2.2.2.2.2.2.2.2.1 c3
                                                            refine r_aload_n okLaw 642 rfl rfl rfl ?_
                                                            refine r_aload_n okLaw 643 rfl rfl rfl ?_
                                                            refine r_iload_n okLaw 644 rfl rfl rfl ?_
                                                            refine r_iconst (v := 1) okLaw 645 rfl rfl rfl ?_
                                                            refine r_iadd okLaw 646 rfl rfl ?_
                                                            obtain ⟨c170, h170⟩ := h3
                                                            refine r_sld okLaw 647 rfl rfl c170 ?_
                                                            refine r_invVi (as := [.int (Θ.2.2.2.2.2 (x3 + 1).toNatClampNeg)]) (S := []) okLaw 648 rfl rfl mf143 rfl rfl (Nat.le_of_ble_eq_true rfl) rfl h170 (fun v171 σ171 h171 => ?_)
                                                            refine r_aload_n okLaw 649 rfl rfl rfl ?_
                                                            refine r_aload_n okLaw 650 rfl rfl rfl ?_
                                                            refine r_iload_n okLaw 651 rfl rfl rfl ?_
                                                            refine r_iconst (v := 1) okLaw 652 rfl rfl rfl ?_
                                                            refine r_iadd okLaw 653 rfl rfl ?_
                                                            obtain ⟨c172, h172⟩ := h171
                                                            refine r_sld okLaw 654 rfl rfl c172 ?_
                                                            refine r_invVi (as := [.int (Θ.2.2.2.2.2 (x3 + 1).toNatClampNeg)]) (S := [.int v171]) okLaw 655 rfl rfl mf250 rfl rfl (Nat.le_of_ble_eq_true rfl) rfl h172 (fun v173 σ173 h173 => ?_)
                                                            refine r_icmp_eq okLaw 656 rfl rfl (fun c174 => ?_) (fun c174 => ?_)
                                                            · have h174 := h173.1 c174
                                                              exact h174
                                                            · have h174 := h173.2 c174
                                                              refine r_iconst (v := 0) okLaw 657 rfl rfl rfl ?_
                                                              exact r_zret okLaw 658 rfl rfl rfl (Or.inl rfl) h174
                                                          · refine And.intro (fun c3 => ?_) ?_
                                                            · have h3 := h2.2.2.2.2.2.2.2.2.2.2.2.2.2.2.2.2.2.2.2.2.2.2.2.2.2.2.2.2.1 c3
                                                              refine r_aload_n okLaw 659 rfl rfl rfl ?_
                                                              refine r_aload_n okLaw 660 rfl rfl rfl ?_
                                                              refine r_iload_n okLaw 661 rfl rfl rfl ?_
                                                              refine r_iconst (v := 1) okLaw 662 rfl rfl rfl ?_
                                                              refine r_iadd okLaw 663 rfl rfl ?_
                                                              obtain ⟨c175, h175⟩ := h3
                                                              refine r_sld okLaw 664 rfl rfl c175 ?_
                                                              refine r_aload_n okLaw 665 rfl rfl rfl ?_
                                                              refine r_iload_n okLaw 666 rfl rfl rfl ?_
                                                              refine r_iconst (v := 2) okLaw 667 rfl rfl rfl ?_
                                                              refine r_iadd okLaw 668 rfl rfl ?_
                                                              obtain ⟨c176, h176⟩ := h175
                                                              refine r_sld okLaw 669 rfl rfl c176 ?_
                                                              refine r_invVi (as := [.int (Θ.2.2.2.2.2 (x3 + 1).toNatClampNeg), .int (Θ.2.2.2.2.2 (x3 + 2).toNatClampNeg)]) (S := []) okLaw 670 rfl rfl mf144 rfl rfl (Nat.le_of_ble_eq_true rfl) rfl h176 (fun v177 σ177 h177 => ?_)
                                                              refine r_aload_n okLaw 671 rfl rfl rfl ?_
                                                              refine r_aload_n okLaw 672 rfl rfl rfl ?_
                                                              refine r_iload_n okLaw 673 rfl rfl rfl ?_
                                                              refine r_iconst (v := 1) okLaw 674 rfl rfl rfl ?_
                                                              refine r_iadd okLaw 675 rfl rfl ?_
                                                              obtain ⟨c178, h178⟩ := h177
                                                              refine r_sld okLaw 676 rfl rfl c178 ?_
                                                              refine r_aload_n okLaw 677 rfl rfl rfl ?_
                                                              refine r_iload_n okLaw 678 rfl rfl rfl ?_
                                                              refine r_iconst (v := 2) okLaw 679 rfl rfl rfl ?_
                                                              refine r_iadd okLaw 680 rfl rfl ?_
                                                              obtain ⟨c179, h179⟩ := h178
                                                              refine r_sld okLaw 681 rfl rfl c179 ?_
                                                              refine r_invVi (as := [.int (Θ.2.2.2.2.2 (x3 + 1).toNatClampNeg), .int (Θ.2.2.2.2.2 (x3 + 2).toNatClampNeg)]) (S := [.int v177]) okLaw 682 rfl rfl mf271 rfl rfl (Nat.le_of_ble_eq_true rfl) rfl h179 (fun v180 σ180 h180 => ?_)
                                                              refine r_icmp_eq okLaw 683 rfl rfl (fun c181 => ?_) (fun c181 => ?_)
                                                              · have h181 := h180.1 c181
                                                                exact h181
                                                              · have h181 := h180.2 c181
                                                                refine r_iconst (v := 0) okLaw 684 rfl rfl rfl ?_
                                                                exact r_zret okLaw 685 rfl rfl rfl (Or.inl rfl) h181
                                                            · refine And.intro (fun c3 => ?_) ?_
                                                              · have h3 := h2.2.2.2.2.2.2.2.2.2.2.2.2.2.2.2.2.2.2.2.2.2.2.2.2.2.2.2.2.2.1 c3
                                                                refine r_aload_n okLaw 686 rfl rfl rfl ?_
                                                                refine r_aload_n okLaw 687 rfl rfl rfl ?_
                                                                refine r_iload_n okLaw 688 rfl rfl rfl ?_
                                                                refine r_iconst (v := 1) okLaw 689 rfl rfl rfl ?_
                                                                refine r_iadd okLaw 690 rfl rfl ?_
                                                                obtain ⟨c182, h182⟩ := h3
                                                                refine r_sld okLaw 691 rfl rfl c182 ?_
                                                                refine r_if_eq okLaw 692 rfl rfl (fun c183 => ?_) (fun c183 => ?_)
                                                                · have h183 := h182.1 c183
                                                                  refine r_iconst (v := 0) okLaw 695 rfl rfl rfl ?_
                                                                  refine r_aload_n okLaw 696 rfl rfl rfl ?_
                                                                  refine r_iload_n okLaw 697 rfl rfl rfl ?_
                                                                  refine r_iconst (v := 2) okLaw 698 rfl rfl rfl ?_
                                                                  refine r_iadd okLaw 699 rfl rfl ?_
                                                                  obtain ⟨c184, h184⟩ := h183
                                                                  refine r_sld okLaw 700 rfl rfl c184 ?_
                                                                  refine r_invVl (as := [.int 0, .int (Θ.2.2.2.2.2 (x3 + 2).toNatClampNeg)]) (S := []) okLaw 701 rfl rfl mf145 rfl rfl (Nat.le_of_ble_eq_true rfl) rfl h184 (fun v185 σ185 h185 => ?_)
                                                                  refine r_aload_n okLaw 702 rfl rfl rfl ?_
                                                                  refine r_aload_n okLaw 703 rfl rfl rfl ?_
                                                                  refine r_iload_n okLaw 704 rfl rfl rfl ?_
                                                                  refine r_iconst (v := 1) okLaw 705 rfl rfl rfl ?_
                                                                  refine r_iadd okLaw 706 rfl rfl ?_
                                                                  obtain ⟨c186, h186⟩ := h185
                                                                  refine r_sld okLaw 707 rfl rfl c186 ?_
                                                                  refine r_if_eq okLaw 708 rfl rfl (fun c187 => ?_) (fun c187 => ?_)
                                                                  · have h187 := h186.1 c187
                                                                    refine r_iconst (v := 0) okLaw 711 rfl rfl rfl ?_
                                                                    refine r_aload_n okLaw 712 rfl rfl rfl ?_
                                                                    refine r_iload_n okLaw 713 rfl rfl rfl ?_
                                                                    refine r_iconst (v := 2) okLaw 714 rfl rfl rfl ?_
                                                                    refine r_iadd okLaw 715 rfl rfl ?_
                                                                    obtain ⟨c188, h188⟩ := h187
                                                                    refine r_sld okLaw 716 rfl rfl c188 ?_
                                                                    refine r_invVl (as := [.int 0, .int (Θ.2.2.2.2.2 (x3 + 2).toNatClampNeg)]) (S := [.long v185]) okLaw 717 rfl rfl mf273 rfl rfl (Nat.le_of_ble_eq_true rfl) rfl h188 (fun v189 σ189 h189 => ?_)
                                                                    refine r_lcmp okLaw 718 rfl rfl ?_
                                                                    refine r_if_eq okLaw 719 rfl rfl (fun c190 => ?_) (fun c190 => ?_)
                                                                    · have h190 := h189.1 c190
                                                                      exact h190
                                                                    · have h190 := h189.2 c190
                                                                      refine r_iconst (v := 0) okLaw 720 rfl rfl rfl ?_
                                                                      exact r_zret okLaw 721 rfl rfl rfl (Or.inl rfl) h190
                                                                  · have h187 := h186.2 c187
                                                                    refine r_iconst (v := 1) okLaw 709 rfl rfl rfl ?_
                                                                    refine r_goto okLaw 710 rfl rfl ?_
                                                                    refine r_aload_n okLaw 712 rfl rfl rfl ?_
                                                                    refine r_iload_n okLaw 713 rfl rfl rfl ?_
                                                                    refine r_iconst (v := 2) okLaw 714 rfl rfl rfl ?_
                                                                    refine r_iadd okLaw 715 rfl rfl ?_
                                                                    obtain ⟨c191, h191⟩ := h187
                                                                    refine r_sld okLaw 716 rfl rfl c191 ?_
                                                                    refine r_invVl (as := [.int 1, .int (Θ.2.2.2.2.2 (x3 + 2).toNatClampNeg)]) (S := [.long v185]) okLaw 717 rfl rfl mf273 rfl rfl (Nat.le_of_ble_eq_true rfl) rfl h191 (fun v192 σ192 h192 => ?_)
                                                                    refine r_lcmp okLaw 718 rfl rfl ?_
                                                                    refine r_if_eq okLaw 719 rfl rfl (fun c193 => ?_) (fun c193 => ?_)
                                                                    · have h193 := h192.1 c193
                                                                      exact h193
                                                                    · have h193 := h192.2 c193
                                                                      refine r_iconst (v := 0) okLaw 720 rfl rfl rfl ?_
                                                                      exact r_zret okLaw 721 rfl rfl rfl (Or.inl rfl) h193
                                                                · have h183 := h182.2 c183
                                                                  refine r_iconst (v := 1) okLaw 693 rfl rfl rfl ?_
                                                                  refine r_goto okLaw 694 rfl rfl ?_
                                                                  refine r_aload_n okLaw 696 rfl rfl rfl ?_
                                                                  refine r_iload_n okLaw 697 rfl rfl rfl ?_
                                                                  refine r_iconst (v := 2) okLaw 698 rfl rfl rfl ?_
                                                                  refine r_iadd okLaw 699 rfl rfl ?_
                                                                  obtain ⟨c194, h194⟩ := h183
                                                                  refine r_sld okLaw 700 rfl rfl c194 ?_
                                                                  refine r_invVl (as := [.int 1, .int (Θ.2.2.2.2.2 (x3 + 2).toNatClampNeg)]) (S := []) okLaw 701 rfl rfl mf145 rfl rfl (Nat.le_of_ble_eq_true rfl) rfl h194 (fun v195 σ195 h195 => ?_)
                                                                  refine r_aload_n okLaw 702 rfl rfl rfl ?_
                                                                  refine r_aload_n okLaw 703 rfl rfl rfl ?_
                                                                  refine r_iload_n okLaw 704 rfl rfl rfl ?_
                                                                  refine r_iconst (v := 1) okLaw 705 rfl rfl rfl ?_
                                                                  refine r_iadd okLaw 706 rfl rfl ?_
                                                                  obtain ⟨c196, h196⟩ := h195
                                                                  refine r_sld okLaw 707 rfl rfl c196 ?_
                                                                  refine r_if_eq okLaw 708 rfl rfl (fun c197 => ?_) (fun c197 => ?_)
                                                                  · have h197 := h196.1 c197
                                                                    refine r_iconst (v := 0) okLaw 711 rfl rfl rfl ?_
                                                                    refine r_aload_n okLaw 712 rfl rfl rfl ?_
                                                                    refine r_iload_n okLaw 713 rfl rfl rfl ?_
                                                                    refine r_iconst (v := 2) okLaw 714 rfl rfl rfl ?_
                                                                    refine r_iadd okLaw 715 rfl rfl ?_
                                                                    obtain ⟨c198, h198⟩ := h197
                                                                    refine r_sld okLaw 716 rfl rfl c198 ?_
                                                                    refine r_invVl (as := [.int 0, .int (Θ.2.2.2.2.2 (x3 + 2).toNatClampNeg)]) (S := [.long v195]) okLaw 717 rfl rfl mf273 rfl rfl (Nat.le_of_ble_eq_true rfl) rfl h198 (fun v199 σ199 h199 => ?_)
                                                                    refine r_lcmp okLaw 718 rfl rfl ?_
                                                                    refine r_if_eq okLaw 719 rfl rfl (fun c200 => ?_) (fun c200 => ?_)
                                                                    · have h200 := h199.1 c200
                                                                      exact h200
                                                                    · have h200 := h199.2 c200
                                                                      refine r_iconst (v := 0) okLaw 720 rfl rfl rfl ?_
                                                                      exact r_zret okLaw 721 rfl rfl rfl (Or.inl rfl) h200
                                                                  · have h197 := h196.2 c197
                                                                    refine r_iconst (v := 1) okLaw 709 rfl rfl rfl ?_
                                                                    refine r_goto okLaw 710 rfl rfl ?_
                                                                    refine r_aload_n okLaw 712 rfl rfl rfl ?_
                                                                    refine r_iload_n okLaw 713 rfl rfl rfl ?_
                                                                    refine r_iconst (v := 2) okLaw 714 rfl rfl rfl ?_
                                                                    refine r_iadd okLaw 715 rfl rfl ?_
                                                                    obtain ⟨c201, h201⟩ := h197
                                                                    refine r_sld okLaw 716 rfl rfl c201 ?_
                                                                    refine r_invVl (as := [.int 1, .int (Θ.2.2.2.2.2 (x3 + 2).toNatClampNeg)]) (S := [.long v195]) okLaw 717 rfl rfl mf273 rfl rfl (Nat.le_of_ble_eq_true rfl) rfl h201 (fun v202 σ202 h202 => ?_)
                                                                    refine r_lcmp okLaw 718 rfl rfl ?_
                                                                    refine r_if_eq okLaw 719 rfl rfl (fun c203 => ?_) (fun c203 => ?_)
                                                                    · have h203 := h202.1 c203
                                                                      exact h203
                                                                    · have h203 := h202.2 c203
                                                                      refine r_iconst (v := 0) okLaw 720 rfl rfl rfl ?_
                                                                      exact r_zret okLaw 721 rfl rfl rfl (Or.inl rfl) h203
                                                              · refine And.intro (fun c3 => ?_) ?_
                                                                · have h3 := h2.2.2.2.2.2.2.2.2.2.2.2.2.2.2.2.2.2.2.2.2.2.2.2.2.2.2.2.2.2.2.1 c3
                                                                  refine r_aload_n okLaw 722 rfl rfl rfl ?_
                                                                  refine r_aload_n okLaw 723 rfl rfl rfl ?_
                                                                  refine r_iload_n okLaw 724 rfl rfl rfl ?_
                                                                  refine r_iconst (v := 1) okLaw 725 rfl rfl rfl ?_
                                                                  refine r_iadd okLaw 726 rfl rfl ?_
                                                                  obtain ⟨c204, h204⟩ := h3
                                                                  refine r_sld okLaw 727 rfl rfl c204 ?_
                                                                  refine r_invVi (as := [.int (Θ.2.2.2.2.2 (x3 + 1).toNatClampNeg)]) (S := []) okLaw 728 rfl rfl mf146 rfl rfl (Nat.le_of_ble_eq_true rfl) rfl h204 (fun v205 σ205 h205 => ?_)
                                                                  refine r_aload_n okLaw 729 rfl rfl rfl ?_
                                                                  refine r_aload_n okLaw 730 rfl rfl rfl ?_
                                                                  refine r_iload_n okLaw 731 rfl rfl rfl ?_
                                                                  refine r_iconst (v := 1) okLaw 732 rfl rfl rfl ?_
                                                                  refine r_iadd okLaw 733 rfl rfl ?_
                                                                  obtain ⟨c206, h206⟩ := h205
                                                                  refine r_sld okLaw 734 rfl rfl c206 ?_
                                                                  refine r_invVi (as := [.int (Θ.2.2.2.2.2 (x3 + 1).toNatClampNeg)]) (S := [.int v205]) okLaw 735 rfl rfl mf274 rfl rfl (Nat.le_of_ble_eq_true rfl) rfl h206 (fun v207 σ207 h207 => ?_)
                                                                  refine r_icmp_eq okLaw 736 rfl rfl (fun c208 => ?_) (fun c208 => ?_)
                                                                  · have h208 := h207.1 c208
                                                                    exact h208
                                                                  · have h208 := h207.2 c208
                                                                    refine r_iconst (v := 0) okLaw 737 rfl rfl rfl ?_
                                                                    exact r_zret okLaw 738 rfl rfl rfl (Or.inl rfl) h208
                                                                · refine And.intro (fun c3 => ?_) ?_
                                                                  · have h3 := h2.2.2.2.2.2.2.2.2.2.2.2.2.2.2.2.2.2.2.2.2.2.2.2.2.2.2.2.2.2.2.2.1 c3
                                                                    refine r_aload_n okLaw 739 rfl rfl rfl ?_
                                                                    refine r_aload_n okLaw 740 rfl rfl rfl ?_
                                                                    refine r_iload_n okLaw 741 rfl rfl rfl ?_
                                                                    refine r_iconst (v := 1) okLaw 742 rfl rfl rfl ?_
                                                                    refine r_iadd okLaw 743 rfl rfl ?_
                                                                    obtain ⟨c209, h209⟩ := h3
                                                                    refine r_sld okLaw 744 rfl rfl c209 ?_
                                                                    refine r_aload_n okLaw 745 rfl rfl rfl ?_
                                                                    refine r_iload_n okLaw 746 rfl rfl rfl ?_
                                                                    refine r_iconst (v := 2) okLaw 747 rfl rfl rfl ?_
                                                                    refine r_iadd okLaw 748 rfl rfl ?_
                                                                    obtain ⟨c210, h210⟩ := h209
                                                                    refine r_sld okLaw 749 rfl rfl c210 ?_
                                                                    refine r_aload_n okLaw 750 rfl rfl rfl ?_
                                                                    refine r_iload_n okLaw 751 rfl rfl rfl ?_
                                                                    refine r_iconst (v := 3) okLaw 752 rfl rfl rfl ?_
                                                                    refine r_iadd okLaw 753 rfl rfl ?_
                                                                    obtain ⟨c211, h211⟩ := h210
                                                                    refine r_sld okLaw 754 rfl rfl c211 ?_
                                                                    refine r_aload_n okLaw 755 rfl rfl rfl ?_
                                                                    refine r_iload_n okLaw 756 rfl rfl rfl ?_
                                                                    refine r_iconst (v := 4) okLaw 757 rfl rfl rfl ?_
                                                                    refine r_iadd okLaw 758 rfl rfl ?_
                                                                    obtain ⟨c212, h212⟩ := h211
                                                                    refine r_sld okLaw 759 rfl rfl c212 ?_
                                                                    refine r_invVi (as := [.int (Θ.2.2.2.2.2 (x3 + 1).toNatClampNeg), .int (Θ.2.2.2.2.2 (x3 + 2).toNatClampNeg), .int (Θ.2.2.2.2.2 (x3 + 3).toNatClampNeg), .int (Θ.2.2.2.2.2 (x3 + 4).toNatClampNeg)]) (S := []) okLaw 760 rfl rfl mf147 rfl rfl (Nat.le_of_ble_eq_true rfl) rfl h212 (fun v213 σ213 h213 => ?_)
                                                                    refine r_aload_n okLaw 761 rfl rfl rfl ?_
                                                                    refine r_aload_n okLaw 762 rfl rfl rfl ?_
                                                                    refine r_iload_n okLaw 763 rfl rfl rfl ?_
                                                                    refine r_iconst (v := 1) okLaw 764 rfl rfl rfl ?_
                                                                    refine r_iadd okLaw 765 rfl rfl ?_
                                                                    obtain ⟨c214, h214⟩ := h213
                                                                    refine r_sld okLaw 766 rfl rfl c214 ?_
                                                                    refine r_aload_n okLaw 767 rfl rfl rfl ?_
                                                                    refine r_iload_n okLaw 768 rfl rfl rfl ?_
                                                                    refine r_iconst (v := 2) okLaw 769 rfl rfl rfl ?_
                                                                    refine r_iadd okLaw 770 rfl rfl ?_
                                                                    obtain ⟨c215, h215⟩ := h214
                                                                    refine r_sld okLaw 771 rfl rfl c215 ?_
                                                                    refine r_aload_n okLaw 772 rfl rfl rfl ?_
                                                                    refine r_iload_n okLaw 773 rfl rfl rfl ?_
                                                                    refine r_iconst (v := 3) okLaw 774 rfl rfl rfl ?_
                                                                    refine r_iadd okLaw 775 rfl rfl ?_
                                                                    obtain ⟨c216, h216⟩ := h215
                                                                    refine r_sld okLaw 776 rfl rfl c216 ?_
                                                                    refine r_aload_n okLaw 777 rfl rfl rfl ?_
                                                                    refine r_iload_n okLaw 778 rfl rfl rfl ?_
                                                                    refine r_iconst (v := 4) okLaw 779 rfl rfl rfl ?_
                                                                    refine r_iadd okLaw 780 rfl rfl ?_
                                                                    obtain ⟨c217, h217⟩ := h216
                                                                    refine r_sld okLaw 781 rfl rfl c217 ?_
                                                                    refine r_invVi (as := [.int (Θ.2.2.2.2.2 (x3 + 1).toNatClampNeg), .int (Θ.2.2.2.2.2 (x3 + 2).toNatClampNeg), .int (Θ.2.2.2.2.2 (x3 + 3).toNatClampNeg), .int (Θ.2.2.2.2.2 (x3 + 4).toNatClampNeg)]) (S := [.int v213]) okLaw 782 rfl rfl mf277 rfl rfl (Nat.le_of_ble_eq_true rfl) rfl h217 (fun v218 σ218 h218 => ?_)
                                                                    refine r_icmp_eq okLaw 783 rfl rfl (fun c219 => ?_) (fun c219 => ?_)
                                                                    · have h219 := h218.1 c219
                                                                      exact h219
                                                                    · have h219 := h218.2 c219
                                                                      refine r_iconst (v := 0) okLaw 784 rfl rfl rfl ?_
                                                                      exact r_zret okLaw 785 rfl rfl rfl (Or.inl rfl) h219
                                                                  · refine And.intro (fun c3 => ?_) ?_
                                                                    · have h3 := h2.2.2.2.2.2.2.2.2.2.2.2.2.2.2.2.2.2.2.2.2.2.2.2.2.2.2.2.2.2.2.2.2.1 c3
                                                                      refine r_aload_n okLaw 786 rfl rfl rfl ?_
                                                                      refine r_aload_n okLaw 787 rfl rfl rfl ?_
                                                                      refine r_iload_n okLaw 788 rfl rfl rfl ?_
                                                                      refine r_iconst (v := 1) okLaw 789 rfl rfl rfl ?_
                                                                      refine r_iadd okLaw 790 rfl rfl ?_
                                                                      obtain ⟨c220, h220⟩ := h3
                                                                      refine r_sld okLaw 791 rfl rfl c220 ?_
                                                                      refine r_aload_n okLaw 792 rfl rfl rfl ?_
                                                                      refine r_iload_n okLaw 793 rfl rfl rfl ?_
                                                                      refine r_iconst (v := 2) okLaw 794 rfl rfl rfl ?_
                                                                      refine r_iadd okLaw 795 rfl rfl ?_
                                                                      obtain ⟨c221, h221⟩ := h220
                                                                      refine r_sld okLaw 796 rfl rfl c221 ?_
                                                                      refine r_if_eq okLaw 797 rfl rfl (fun c222 => ?_) (fun c222 => ?_)
                                                                      · have h222 := h221.1 c222
                                                                        refine r_iconst (v := 0) okLaw 800 rfl rfl rfl ?_
                                                                        refine r_invVi (as := [.int (Θ.2.2.2.2.2 (x3 + 1).toNatClampNeg), .int 0]) (S := []) okLaw 801 rfl rfl mf148 rfl rfl (Nat.le_of_ble_eq_true rfl) rfl h222 (fun v223 σ223 h223 => ?_)
                                                                        refine r_aload_n okLaw 802 rfl rfl rfl ?_
                                                                        refine r_aload_n okLaw 803 rfl rfl rfl ?_
                                                                        refine r_iload_n okLaw 804 rfl rfl rfl ?_
                                                                        refine r_iconst (v := 1) okLaw 805 rfl rfl rfl ?_
                                                                        refine r_iadd okLaw 806 rfl rfl ?_
                                                                        obtain ⟨c224, h224⟩ := h223
                                                                        refine r_sld okLaw 807 rfl rfl c224 ?_
                                                                        refine r_aload_n okLaw 808 rfl rfl rfl ?_
                                                                        refine r_iload_n okLaw 809 rfl rfl rfl ?_
                                                                        refine r_iconst (v := 2) okLaw 810 rfl rfl rfl ?_
                                                                        refine r_iadd okLaw 811 rfl rfl ?_
                                                                        obtain ⟨c225, h225⟩ := h224
                                                                        refine r_sld okLaw 812 rfl rfl c225 ?_
                                                                        refine r_if_eq okLaw 813 rfl rfl (fun c226 => ?_) (fun c226 => ?_)
                                                                        · have h226 := h225.1 c226
                                                                          refine r_iconst (v := 0) okLaw 816 rfl rfl rfl ?_
                                                                          refine r_invVi (as := [.int (Θ.2.2.2.2.2 (x3 + 1).toNatClampNeg), .int 0]) (S := [.int v223]) okLaw 817 rfl rfl mf278 rfl rfl (Nat.le_of_ble_eq_true rfl) rfl h226 (fun v227 σ227 h227 => ?_)
                                                                          refine r_icmp_eq okLaw 818 rfl rfl (fun c228 => ?_) (fun c228 => ?_)
                                                                          · have h228 := h227.1 c228
                                                                            exact h228
                                                                          · have h228 := h227.2 c228
                                                                            refine r_iconst (v := 0) okLaw 819 rfl rfl rfl ?_
                                                                            exact r_zret okLaw 820 rfl rfl rfl (Or.inl rfl) h228
                                                                        · have h226 := h225.2 c226
                                                                          refine r_iconst (v := 1) okLaw 814 rfl rfl rfl ?_
                                                                          refine r_goto okLaw 815 rfl rfl ?_
                                                                          refine r_invVi (as := [.int (Θ.2.2.2.2.2 (x3 + 1).toNatClampNeg), .int 1]) (S := [.int v223]) okLaw 817 rfl rfl mf278 rfl rfl (Nat.le_of_ble_eq_true rfl) rfl h226 (fun v229 σ229 h229 => ?_)
                                                                          refine r_icmp_eq okLaw 818 rfl rfl (fun c230 => ?_) (fun c230 => ?_)
                                                                          · have h230 := h229.1 c230
                                                                            exact h230
                                                                          · have h230 := h229.2 c230
                                                                            refine r_iconst (v := 0) okLaw 819 rfl rfl rfl ?_
                                                                            exact r_zret okLaw 820 rfl rfl rfl (Or.inl rfl) h230
                                                                      · have h222 := h221.2 c222
                                                                        refine r_iconst (v := 1) okLaw 798 rfl rfl rfl ?_
                                                                        refine r_goto okLaw 799 rfl rfl ?_
                                                                        refine r_invVi (as := [.int (Θ.2.2.2.2.2 (x3 + 1).toNatClampNeg), .int 1]) (S := []) okLaw 801 rfl rfl mf148 rfl rfl (Nat.le_of_ble_eq_true rfl) rfl h222 (fun v231 σ231 h231 => ?_)
                                                                        refine r_aload_n okLaw 802 rfl rfl rfl ?_
                                                                        refine r_aload_n okLaw 803 rfl rfl rfl ?_
                                                                        refine r_iload_n okLaw 804 rfl rfl rfl ?_
                                                                        refine r_iconst (v := 1) okLaw 805 rfl rfl rfl ?_
                                                                        refine r_iadd okLaw 806 rfl rfl ?_
                                                                        obtain ⟨c232, h232⟩ := h231
                                                                        refine r_sld okLaw 807 rfl rfl c232 ?_
                                                                        refine r_aload_n okLaw 808 rfl rfl rfl ?_
                                                                        refine r_iload_n okLaw 809 rfl rfl rfl ?_
                                                                        refine r_iconst (v := 2) okLaw 810 rfl rfl rfl ?_
                                                                        refine r_iadd okLaw 811 rfl rfl ?_
                                                                        obtain ⟨c233, h233⟩ := h232
                                                                        refine r_sld okLaw 812 rfl rfl c233 ?_
                                                                        refine r_if_eq okLaw 813 rfl rfl (fun c234 => ?_) (fun c234 => ?_)
                                                                        · have h234 := h233.1 c234
                                                                          refine r_iconst (v := 0) okLaw 816 rfl rfl rfl ?_
                                                                          refine r_invVi (as := [.int (Θ.2.2.2.2.2 (x3 + 1).toNatClampNeg), .int 0]) (S := [.int v231]) okLaw 817 rfl rfl mf278 rfl rfl (Nat.le_of_ble_eq_true rfl) rfl h234 (fun v235 σ235 h235 => ?_)
                                                                          refine r_icmp_eq okLaw 818 rfl rfl (fun c236 => ?_) (fun c236 => ?_)
                                                                          · have h236 := h235.1 c236
                                                                            exact h236
                                                                          · have h236 := h235.2 c236
                                                                            refine r_iconst (v := 0) okLaw 819 rfl rfl rfl ?_
                                                                            exact r_zret okLaw 820 rfl rfl rfl (Or.inl rfl) h236
                                                                        · have h234 := h233.2 c234
                                                                          refine r_iconst (v := 1) okLaw 814 rfl rfl rfl ?_
                                                                          refine r_goto okLaw 815 rfl rfl ?_
                                                                          refine r_invVi (as := [.int (Θ.2.2.2.2.2 (x3 + 1).toNatClampNeg), .int 1]) (S := [.int v231]) okLaw 817 rfl rfl mf278 rfl rfl (Nat.le_of_ble_eq_true rfl) rfl h234 (fun v237 σ237 h237 => ?_)
                                                                          refine r_icmp_eq okLaw 818 rfl rfl (fun c238 => ?_) (fun c238 => ?_)
                                                                          · have h238 := h237.1 c238
                                                                            exact h238
                                                                          · have h238 := h237.2 c238
                                                                            refine r_iconst (v := 0) okLaw 819 rfl rfl rfl ?_
                                                                            exact r_zret okLaw 820 rfl rfl rfl (Or.inl rfl) h238
                                                                    · refine And.intro (fun c3 => ?_) ?_
                                                                      · have h3 := h2.2.2.2.2.2.2.2.2.2.2.2.2.2.2.2.2.2.2.2.2.2.2.2.2.2.2.2.2.2.2.2.2.2.1 c3
                                                                        refine r_aload_n okLaw 821 rfl rfl rfl ?_
                                                                        refine r_aload_n okLaw 822 rfl rfl rfl ?_
                                                                        refine r_iload_n okLaw 823 rfl rfl rfl ?_
                                                                        refine r_iconst (v := 1) okLaw 824 rfl rfl rfl ?_
                                                                        refine r_iadd okLaw 825 rfl rfl ?_
                                                                        obtain ⟨c239, h239⟩ := h3
                                                                        refine r_sld okLaw 826 rfl rfl c239 ?_
                                                                        refine r_aload_n okLaw 827 rfl rfl rfl ?_
                                                                        refine r_iload_n okLaw 828 rfl rfl rfl ?_
                                                                        refine r_iconst (v := 2) okLaw 829 rfl rfl rfl ?_
                                                                        refine r_iadd okLaw 830 rfl rfl ?_
                                                                        obtain ⟨c240, h240⟩ := h239
                                                                        refine r_sld okLaw 831 rfl rfl c240 ?_
                                                                        refine r_invVi (as := [.int (Θ.2.2.2.2.2 (x3 + 1).toNatClampNeg), .int (Θ.2.2.2.2.2 (x3 + 2).toNatClampNeg)]) (S := []) okLaw 832 rfl rfl mf149 rfl rfl (Nat.le_of_ble_eq_true rfl) rfl h240 (fun v241 σ241 h241 => ?_)
                                                                        refine r_aload_n okLaw 833 rfl rfl rfl ?_
                                                                        refine r_aload_n okLaw 834 rfl rfl rfl ?_
                                                                        refine r_iload_n okLaw 835 rfl rfl rfl ?_
                                                                        refine r_iconst (v := 1) okLaw 836 rfl rfl rfl ?_
                                                                        refine r_iadd okLaw 837 rfl rfl ?_
                                                                        obtain ⟨c242, h242⟩ := h241
                                                                        refine r_sld okLaw 838 rfl rfl c242 ?_
                                                                        refine r_aload_n okLaw 839 rfl rfl rfl ?_
                                                                        refine r_iload_n okLaw 840 rfl rfl rfl ?_
                                                                        refine r_iconst (v := 2) okLaw 841 rfl rfl rfl ?_
                                                                        refine r_iadd okLaw 842 rfl rfl ?_
                                                                        obtain ⟨c243, h243⟩ := h242
                                                                        refine r_sld okLaw 843 rfl rfl c243 ?_
                                                                        refine r_invVi (as := [.int (Θ.2.2.2.2.2 (x3 + 1).toNatClampNeg), .int (Θ.2.2.2.2.2 (x3 + 2).toNatClampNeg)]) (S := [.int v241]) okLaw 844 rfl rfl mf279 rfl rfl (Nat.le_of_ble_eq_true rfl) rfl h243 (fun v244 σ244 h244 => ?_)
                                                                        refine r_icmp_eq okLaw 845 rfl rfl (fun c245 => ?_) (fun c245 => ?_)
                                                                        · have h245 := h244.1 c245
                                                                          exact h245
                                                                        · have h245 := h244.2 c245
                                                                          refine r_iconst (v := 0) okLaw 846 rfl rfl rfl ?_
                                                                          exact r_zret okLaw 847 rfl rfl rfl (Or.inl rfl) h245
                                                                      · refine And.intro (fun c3 => ?_) ?_
                                                                        · have h3 := h2.2.2.2.2.2.2.2.2.2.2.2.2.2.2.2.2.2.2.2.2.2.2.2.2.2.2.2.2.2.2.2.2.2.2.1 c3
                                                                          refine r_aload_n okLaw 848 rfl rfl rfl ?_
                                                                          refine r_invVi (as := []) (S := []) okLaw 849 rfl rfl mf150 rfl rfl (Nat.le_of_ble_eq_true rfl) rfl h3 (fun v246 σ246 h246 => ?_)
                                                                          refine r_aload_n okLaw 850 rfl rfl rfl ?_
                                                                          refine r_invVi (as := []) (S := [.int v246]) okLaw 851 rfl rfl mf280 rfl rfl (Nat.le_of_ble_eq_true rfl) rfl h246 (fun v247 σ247 h247 => ?_)
                                                                          refine r_icmp_eq okLaw 852 rfl rfl (fun c248 => ?_) (fun c248 => ?_)
                                                                          · have h248 := h247.1 c248
                                                                            exact h248
                                                                          · have h248 := h247.2 c248
                                                                            refine r_iconst (v := 0) okLaw 853 rfl rfl rfl ?_
                                                                            exact r_zret okLaw 854 rfl rfl rfl (Or.inl rfl) h248
                                                                        · refine And.intro (fun c3 => ?_) ?_
                                                                          · have h3 := h2.2.2.2.2.2.2.2.2.2.2.2.2.2.2.2.2.2.2.2.2.2.2.2.2.2.2.2.2.2.2.2.2.2.2.2.1 c3
                                                                            refine r_aload_n okLaw 855 rfl rfl rfl ?_
                                                                            refine r_invVi (as := []) (S := []) okLaw 856 rfl rfl mf151 rfl rfl (Nat.le_of_ble_eq_true rfl) rfl h3 (fun v249 σ249 h249 => ?_)
                                                                            refine r_aload_n okLaw 857 rfl rfl rfl ?_
                                                                            refine r_invVi (as := []) (S := [.int v249]) okLaw 858 rfl rfl mf281 rfl rfl (Nat.le_of_ble_eq_true rfl) rfl h249 (fun v250 σ250 h250 => ?_)
                                                                            refine r_icmp_eq okLaw 859 rfl rfl (fun c251 => ?_) (fun c251 => ?_)
                                                                            · have h251 := h250.1 c251
                                                                              exact h251
                                                                            · have h251 := h250.2 c251
                                                                              refine r_iconst (v := 0) okLaw 860 rfl rfl rfl ?_
                                                                              exact r_zret okLaw 861 rfl rfl rfl (Or.inl rfl) h251
                                                                          · refine And.intro (fun c3 => ?_) ?_
                                                                            · have h3 := h2.2.2.2.2.2.2.2.2.2.2.2.2.2.2.2.2.2.2.2.2.2.2.2.2.2.2.2.2.2.2.2.2.2.2.2.2.1 c3
                                                                              refine r_aload_n okLaw 862 rfl rfl rfl ?_
                                                                              refine r_aload_n okLaw 863 rfl rfl rfl ?_
                                                                              refine r_iload_n okLaw 864 rfl rfl rfl ?_
                                                                              refine r_iconst (v := 1) okLaw 865 rfl rfl rfl ?_
                                                                              refine r_iadd okLaw 866 rfl rfl ?_
                                                                              obtain ⟨c252, h252⟩ := h3
                                                                              refine r_sld okLaw 867 rfl rfl c252 ?_
                                                                              refine r_invVi (as := [.int (Θ.2.2.2.2.2 (x3 + 1).toNatClampNeg)]) (S := []) okLaw 868 rfl rfl mf152 rfl rfl (Nat.le_of_ble_eq_true rfl) rfl h252 (fun v253 σ253 h253 => ?_)
                                                                              refine r_aload_n okLaw 869 rfl rfl rfl ?_
                                                                              refine r_aload_n okLaw 870 rfl rfl rfl ?_
                                                                              refine r_iload_n okLaw 871 rfl rfl rfl ?_
                                                                              refine r_iconst (v := 1) okLaw 872 rfl rfl rfl ?_
                                                                              refine r_iadd okLaw 873 rfl rfl ?_
                                                                              obtain ⟨c254, h254⟩ := h253
                                                                              refine r_sld okLaw 874 rfl rfl c254 ?_
                                                                              refine r_invVi (as := [.int (Θ.2.2.2.2.2 (x3 + 1).toNatClampNeg)]) (S := [.int v253]) okLaw 875 rfl rfl mf283 rfl rfl (Nat.le_of_ble_eq_true rfl) rfl h254 (fun v255 σ255 h255 => ?_)
                                                                              refine r_icmp_eq okLaw 876 rfl rfl (fun c256 => ?_) (fun c256 => ?_)
                                                                              · have h256 := h255.1 c256
                                                                                exact h256
                                                                              · have h256 := h255.2 c256
                                                                                refine r_iconst (v := 0) okLaw 877 rfl rfl rfl ?_
                                                                                exact r_zret okLaw 878 rfl rfl rfl (Or.inl rfl) h256
                                                                            · refine And.intro (fun c3 => ?_) ?_
                                                                              · have h3 := h2.2.2.2.2.2.2.2.2.2.2.2.2.2.2.2.2.2.2.2.2.2.2.2.2.2.2.2.2.2.2.2.2.2.2.2.2.2.1 c3
                                                                                refine r_aload_n okLaw 879 rfl rfl rfl ?_
                                                                                refine r_aload_n okLaw 880 rfl rfl rfl ?_
                                                                                refine r_iload_n okLaw 881 rfl rfl rfl ?_
                                                                                refine r_iconst (v := 1) okLaw 882 rfl rfl rfl ?_
                                                                                refine r_iadd okLaw 883 rfl rfl ?_
                                                                                obtain ⟨c257, h257⟩ := h3
                                                                                refine r_sld okLaw 884 rfl rfl c257 ?_
                                                                                refine r_invVi (as := [.int (Θ.2.2.2.2.2 (x3 + 1).toNatClampNeg)]) (S := []) okLaw 885 rfl rfl mf153 rfl rfl (Nat.le_of_ble_eq_true rfl) rfl h257 (fun v258 σ258 h258 => ?_)
                                                                                refine r_aload_n okLaw 886 rfl rfl rfl ?_
                                                                                refine r_aload_n okLaw 887 rfl rfl rfl ?_
                                                                                refine r_iload_n okLaw 888 rfl rfl rfl ?_
                                                                                refine r_iconst (v := 1) okLaw 889 rfl rfl rfl ?_
                                                                                refine r_iadd okLaw 890 rfl rfl ?_
                                                                                obtain ⟨c259, h259⟩ := h258
                                                                                refine r_sld okLaw 891 rfl rfl c259 ?_
                                                                                refine r_invVi (as := [.int (Θ.2.2.2.2.2 (x3 + 1).toNatClampNeg)]) (S := [.int v258]) okLaw 892 rfl rfl mf284 rfl rfl (Nat.le_of_ble_eq_true rfl) rfl h259 (fun v260 σ260 h260 => ?_)
                                                                                refine r_icmp_eq okLaw 893 rfl rfl (fun c261 => ?_) (fun c261 => ?_)
                                                                                · have h261 := h260.1 c261
                                                                                  exact h261
                                                                                · have h261 := h260.2 c261
                                                                                  refine r_iconst (v := 0) okLaw 894 rfl rfl rfl ?_
                                                                                  exact r_zret okLaw 895 rfl rfl rfl (Or.inl rfl) h261
                                                                              · intro c3
                                                                                have h3 := h2.2.2.2.2.2.2.2.2.2.2.2.2.2.2.2.2.2.2.2.2.2.2.2.2.2.2.2.2.2.2.2.2.2.2.2.2.2.2 c3
                                                                                refine r_aload_n okLaw 896 rfl rfl rfl ?_
                                                                                refine r_aload_n okLaw 897 rfl rfl rfl ?_
                                                                                refine r_iload_n okLaw 898 rfl rfl rfl ?_
                                                                                refine r_iconst (v := 1) okLaw 899 rfl rfl rfl ?_
                                                                                refine r_iadd okLaw 900 rfl rfl ?_
                                                                                obtain ⟨c262, h262⟩ := h3
                                                                                refine r_sld okLaw 901 rfl rfl c262 ?_
                                                                                refine r_invVi (as := [.int (Θ.2.2.2.2.2 (x3 + 1).toNatClampNeg)]) (S := []) okLaw 902 rfl rfl mf154 rfl rfl (Nat.le_of_ble_eq_true rfl) rfl h262 (fun v263 σ263 h263 => ?_)
                                                                                refine r_aload_n okLaw 903 rfl rfl rfl ?_
                                                                                refine r_aload_n okLaw 904 rfl rfl rfl ?_
                                                                                refine r_iload_n okLaw 905 rfl rfl rfl ?_
                                                                                refine r_iconst (v := 1) okLaw 906 rfl rfl rfl ?_
                                                                                refine r_iadd okLaw 907 rfl rfl ?_
                                                                                obtain ⟨c264, h264⟩ := h263
                                                                                refine r_sld okLaw 908 rfl rfl c264 ?_
                                                                                refine r_invVi (as := [.int (Θ.2.2.2.2.2 (x3 + 1).toNatClampNeg)]) (S := [.int v263]) okLaw 909 rfl rfl mf285 rfl rfl (Nat.le_of_ble_eq_true rfl) rfl h264 (fun v265 σ265 h265 => ?_)
                                                                                refine r_icmp_eq okLaw 910 rfl rfl (fun c266 => ?_) (fun c266 => ?_)
                                                                                · have h266 := h265.1 c266
                                                                                  exact h266
                                                                                · have h266 := h265.2 c266
                                                                                  refine r_iconst (v := 0) okLaw 911 rfl rfl rfl ?_
                                                                                  exact r_zret okLaw 912 rfl rfl rfl (Or.inl rfl) h266

set_option maxRecDepth 100000 in
set_option maxHeartbeats 4000000 in
theorem B294_1345 {Θ : Th} {d : Nat} {σ : Mem} {Q : Po} {x3 : Int32} 
    (h : G Θ (d + 1) 294 18 [some (.ref 1000), some (.ref 0), some (.ref 124), some (.int (x3 + 6))] [] σ Q) :
    G Θ (d + 1) 294 1345 [some (.ref 1000), some (.ref 0), some (.ref 124), some (.int x3)] [] σ Q := by
  refine r_iinc (v := x3 + 6) okLaw 913 rfl rfl rfl rfl ?_
  refine r_goto okLaw 914 rfl rfl ?_
  exact h
