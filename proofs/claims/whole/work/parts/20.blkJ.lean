-- 286: java/lang/Integer.bitCount(I)I
set_option maxRecDepth 100000 in
set_option maxHeartbeats 4000000 in
theorem B286_0 {Θ : Th} {d : Nat} {σ : Mem} {Q : Po} {x0 : Int32} 
    (h : Q (some (.int ((((((((x0 - (((x0.toUInt32 >>> ((1 : Int32).toUInt32 &&& Int32.toUInt32 31)).toInt32) &&& 1431655765)) &&& 858993459) + ((((x0 - (((x0.toUInt32 >>> ((1 : Int32).toUInt32 &&& Int32.toUInt32 31)).toInt32) &&& 1431655765)).toUInt32 >>> ((2 : Int32).toUInt32 &&& Int32.toUInt32 31)).toInt32) &&& 858993459)) + (((((x0 - (((x0.toUInt32 >>> ((1 : Int32).toUInt32 &&& Int32.toUInt32 31)).toInt32) &&& 1431655765)) &&& 858993459) + ((((x0 - (((x0.toUInt32 >>> ((1 : Int32).toUInt32 &&& Int32.toUInt32 31)).toInt32) &&& 1431655765)).toUInt32 >>> ((2 : Int32).toUInt32 &&& Int32.toUInt32 31)).toInt32) &&& 858993459)).toUInt32 >>> ((4 : Int32).toUInt32 &&& Int32.toUInt32 31)).toInt32)) &&& 252645135) + (((((((x0 - (((x0.toUInt32 >>> ((1 : Int32).toUInt32 &&& Int32.toUInt32 31)).toInt32) &&& 1431655765)) &&& 858993459) + ((((x0 - (((x0.toUInt32 >>> ((1 : Int32).toUInt32 &&& Int32.toUInt32 31)).toInt32) &&& 1431655765)).toUInt32 >>> ((2 : Int32).toUInt32 &&& Int32.toUInt32 31)).toInt32) &&& 858993459)) + (((((x0 - (((x0.toUInt32 >>> ((1 : Int32).toUInt32 &&& Int32.toUInt32 31)).toInt32) &&& 1431655765)) &&& 858993459) + ((((x0 - (((x0.toUInt32 >>> ((1 : Int32).toUInt32 &&& Int32.toUInt32 31)).toInt32) &&& 1431655765)).toUInt32 >>> ((2 : Int32).toUInt32 &&& Int32.toUInt32 31)).toInt32) &&& 858993459)).toUInt32 >>> ((4 : Int32).toUInt32 &&& Int32.toUInt32 31)).toInt32)) &&& 252645135).toUInt32 >>> ((8 : Int32).toUInt32 &&& Int32.toUInt32 31)).toInt32)) + ((((((((x0 - (((x0.toUInt32 >>> ((1 : Int32).toUInt32 &&& Int32.toUInt32 31)).toInt32) &&& 1431655765)) &&& 858993459) + ((((x0 - (((x0.toUInt32 >>> ((1 : Int32).toUInt32 &&& Int32.toUInt32 31)).toInt32) &&& 1431655765)).toUInt32 >>> ((2 : Int32).toUInt32 &&& Int32.toUInt32 31)).toInt32) &&& 858993459)) + (((((x0 - (((x0.toUInt32 >>> ((1 : Int32).toUInt32 &&& Int32.toUInt32 31)).toInt32) &&& 1431655765)) &&& 858993459) + ((((x0 - (((x0.toUInt32 >>> ((1 : Int32).toUInt32 &&& Int32.toUInt32 31)).toInt32) &&& 1431655765)).toUInt32 >>> ((2 : Int32).toUInt32 &&& Int32.toUInt32 31)).toInt32) &&& 858993459)).toUInt32 >>> ((4 : Int32).toUInt32 &&& Int32.toUInt32 31)).toInt32)) &&& 252645135) + (((((((x0 - (((x0.toUInt32 >>> ((1 : Int32).toUInt32 &&& Int32.toUInt32 31)).toInt32) &&& 1431655765)) &&& 858993459) + ((((x0 - (((x0.toUInt32 >>> ((1 : Int32).toUInt32 &&& Int32.toUInt32 31)).toInt32) &&& 1431655765)).toUInt32 >>> ((2 : Int32).toUInt32 &&& Int32.toUInt32 31)).toInt32) &&& 858993459)) + (((((x0 - (((x0.toUInt32 >>> ((1 : Int32).toUInt32 &&& Int32.toUInt32 31)).toInt32) &&& 1431655765)) &&& 858993459) + ((((x0 - (((x0.toUInt32 >>> ((1 : Int32).toUInt32 &&& Int32.toUInt32 31)).toInt32) &&& 1431655765)).toUInt32 >>> ((2 : Int32).toUInt32 &&& Int32.toUInt32 31)).toInt32) &&& 858993459)).toUInt32 >>> ((4 : Int32).toUInt32 &&& Int32.toUInt32 31)).toInt32)) &&& 252645135).toUInt32 >>> ((8 : Int32).toUInt32 &&& Int32.toUInt32 31)).toInt32)).toUInt32 >>> ((16 : Int32).toUInt32 &&& Int32.toUInt32 31)).toInt32)) &&& 63))) σ) :
    G Θ d 286 0 [some (.int x0)] [] σ Q := by
  refine r_iload_n ok286 0 rfl rfl rfl ?_
  refine r_iload_n ok286 1 rfl rfl rfl ?_
  refine r_iconst (v := 1) ok286 2 rfl rfl rfl ?_
  refine r_iushr ok286 3 rfl rfl ?_
  refine r_ldc_w (v := 1431655765) ok286 4 rfl rfl rfl ?_
  refine r_iand ok286 5 rfl rfl ?_
  refine r_isub ok286 6 rfl rfl ?_
  refine r_istore_n ok286 7 rfl rfl ?_
  refine r_iload_n ok286 8 rfl rfl rfl ?_
  refine r_ldc_w (v := 858993459) ok286 9 rfl rfl rfl ?_
  refine r_iand ok286 10 rfl rfl ?_
  refine r_iload_n ok286 11 rfl rfl rfl ?_
  refine r_iconst (v := 2) ok286 12 rfl rfl rfl ?_
  refine r_iushr ok286 13 rfl rfl ?_
  refine r_ldc_w (v := 858993459) ok286 14 rfl rfl rfl ?_
  refine r_iand ok286 15 rfl rfl ?_
  refine r_iadd ok286 16 rfl rfl ?_
  refine r_istore_n ok286 17 rfl rfl ?_
  refine r_iload_n ok286 18 rfl rfl rfl ?_
  refine r_iload_n ok286 19 rfl rfl rfl ?_
  refine r_iconst (v := 4) ok286 20 rfl rfl rfl ?_
  refine r_iushr ok286 21 rfl rfl ?_
  refine r_iadd ok286 22 rfl rfl ?_
  refine r_ldc_w (v := 252645135) ok286 23 rfl rfl rfl ?_
  refine r_iand ok286 24 rfl rfl ?_
  refine r_istore_n ok286 25 rfl rfl ?_
  refine r_iload_n ok286 26 rfl rfl rfl ?_
  refine r_iload_n ok286 27 rfl rfl rfl ?_
  refine r_bipush (v := 8) ok286 28 rfl rfl rfl ?_
  refine r_iushr ok286 29 rfl rfl ?_
  refine r_iadd ok286 30 rfl rfl ?_
  refine r_istore_n ok286 31 rfl rfl ?_
  refine r_iload_n ok286 32 rfl rfl rfl ?_
  refine r_iload_n ok286 33 rfl rfl rfl ?_
  refine r_bipush (v := 16) ok286 34 rfl rfl rfl ?_
  refine r_iushr ok286 35 rfl rfl ?_
  refine r_iadd ok286 36 rfl rfl ?_
  refine r_istore_n ok286 37 rfl rfl ?_
  refine r_iload_n ok286 38 rfl rfl rfl ?_
  refine r_bipush (v := 63) ok286 39 rfl rfl rfl ?_
  refine r_iand ok286 40 rfl rfl ?_
  exact r_iret ok286 41 rfl rfl rfl h

theorem K286 {Θ : Th} {d : Nat} {σ : Mem} {Q : Po} {x0 : Int32} (h : G Θ d 286 0 [some (.int x0)] [] σ Q) : Cm Θ d 286 [.int x0] σ Q :=
  C_of_G okM286 (Nat.le_of_ble_eq_true rfl) rfl h

-- 287: java/lang/Long.compare(JJ)I
set_option maxRecDepth 100000 in
set_option maxHeartbeats 4000000 in
theorem B287_0 {Θ : Th} {d : Nat} {σ : Mem} {Q : Po} {x0 : Int64} {x2 : Int64} 
    (h : ((0 ≤ (lg_cmp x0 x2) → ((¬ (lg_cmp x0 x2) = 0 → Q (some (.int 1)) σ) ∧ ((lg_cmp x0 x2) = 0 → Q (some (.int 0)) σ))) ∧ (¬ 0 ≤ (lg_cmp x0 x2) → Q (some (.int (-1))) σ))) :
    G Θ d 287 0 [some (.long x0), none, some (.long x2), none] [] σ Q := by
  refine r_lload_n ok287 0 rfl rfl rfl ?_
  refine r_lload_n ok287 1 rfl rfl rfl ?_
  refine r_lcmp ok287 2 rfl rfl ?_
  refine r_if_ge ok287 3 rfl rfl (fun c1 => ?_) (fun c1 => ?_)
  · have h1 := h.1 c1
    refine r_lload_n ok287 6 rfl rfl rfl ?_
    refine r_lload_n ok287 7 rfl rfl rfl ?_
    refine r_lcmp ok287 8 rfl rfl ?_
    refine r_if_ne ok287 9 rfl rfl (fun c2 => ?_) (fun c2 => ?_)
    · have h2 := h1.1 c2
      refine r_iconst (v := 1) ok287 12 rfl rfl rfl ?_
      exact r_iret ok287 13 rfl rfl rfl h2
    · have h2 := h1.2 c2
      refine r_iconst (v := 0) ok287 10 rfl rfl rfl ?_
      refine r_goto ok287 11 rfl rfl ?_
      exact r_iret ok287 13 rfl rfl rfl h2
  · have h1 := h.2 c1
    refine r_iconst (v := (-1)) ok287 4 rfl rfl rfl ?_
    refine r_goto ok287 5 rfl rfl ?_
    exact r_iret ok287 13 rfl rfl rfl h1

theorem K287 {Θ : Th} {d : Nat} {σ : Mem} {Q : Po} {x0 : Int64} {x2 : Int64} (h : G Θ d 287 0 [some (.long x0), none, some (.long x2), none] [] σ Q) : Cm Θ d 287 [.long x0, .long x2] σ Q :=
  C_of_G okM287 (Nat.le_of_ble_eq_true rfl) rfl h

-- 292: java/util/Arrays.fill([II)V
set_option maxRecDepth 100000 in
set_option maxHeartbeats 4000000 in
theorem B292_0 {Θ : Th} {d : Nat} {σ : Mem} {Q : Po} {r0 n0 : Nat} {x1 : Int32} (hp0 : shq r0 = (20, n0))
    (h : G Θ d 292 5 [some (.ref r0), some (.int x1), some (.int 0), some (.int (Int32.ofNat n0))] [] σ Q) :
    G Θ d 292 0 [some (.ref r0), some (.int x1), none, none] [] σ Q := by
  refine r_iconst (v := 0) ok292 0 rfl rfl rfl ?_
  refine r_istore_n ok292 1 rfl rfl ?_
  refine r_aload_n ok292 2 rfl rfl rfl ?_
  refine r_alen20 (v := Int32.ofNat n0) ok292 3 rfl rfl hp0 rfl ?_
  refine r_istore_n ok292 4 rfl rfl ?_
  exact h

set_option maxRecDepth 100000 in
set_option maxHeartbeats 4000000 in
theorem B292_5 {Θ : Th} {d : Nat} {σ : Mem} {Q : Po} {r0 n0 : Nat} {x1 : Int32} {x2 : Int32} {x3 : Int32} (hp0 : shq r0 = (20, n0))
    (h : ((x3 ≤ x2 → Q none σ) ∧ (¬ x3 ≤ x2 → (vp_in x2 n0 ∧ G Θ d 292 5 [some (.ref r0), some (.int x1), some (.int (x2 + 1)), some (.int x3)] [] (sI σ r0 (x2.toNatClampNeg) x1) Q)))) :
    G Θ d 292 5 [some (.ref r0), some (.int x1), some (.int x2), some (.int x3)] [] σ Q := by
  refine r_iload_n ok292 5 rfl rfl rfl ?_
  refine r_iload_n ok292 6 rfl rfl rfl ?_
  refine r_icmp_ge ok292 7 rfl rfl (fun c1 => ?_) (fun c1 => ?_)
  · have h1 := h.1 c1
    exact r_ret ok292 14 rfl rfl rfl h1
  · have h1 := h.2 c1
    refine r_aload_n ok292 8 rfl rfl rfl ?_
    refine r_iload_n ok292 9 rfl rfl rfl ?_
    refine r_iload_n ok292 10 rfl rfl rfl ?_
    obtain ⟨c2, h2⟩ := h1
    refine r_iast ok292 11 rfl rfl hp0 c2 ?_
    refine r_iinc (v := x2 + 1) ok292 12 rfl rfl rfl rfl ?_
    refine r_goto ok292 13 rfl rfl ?_
    exact h2

theorem K292 {Θ : Th} {d : Nat} {σ : Mem} {Q : Po} {r0 n0 : Nat} {x1 : Int32} (h : G Θ d 292 0 [some (.ref r0), some (.int x1), none, none] [] σ Q) : Cm Θ d 292 [.ref r0, .int x1] σ Q :=
  C_of_G okM292 (Nat.le_of_ble_eq_true rfl) rfl h

-- 295: java/lang/String.indexOf(I)I
set_option maxRecDepth 100000 in
set_option maxHeartbeats 4000000 in
theorem B295_0 {Θ : Th} {d : Nat} {σ : Mem} {Q : Po} {x1 : Int32} 
    (h : Ci Θ d 296 [.ref 1002, .int x1, .int 0] σ (fun v1 σ1 => Q (some (.int v1)) σ1)) :
    G Θ (d + 1) 295 0 [some (.ref 1002), some (.int x1)] [] σ Q := by
  refine r_aload_n ok295 0 rfl rfl rfl ?_
  refine r_iload_n ok295 1 rfl rfl rfl ?_
  refine r_iconst (v := 0) ok295 2 rfl rfl rfl ?_
  refine r_invTi (as := [.int x1, .int 0]) (S := []) ok295 3 rfl rfl mf296 rfl (Nat.le_of_ble_eq_true rfl) rfl h (fun v1 σ1 h1 => ?_)
  exact r_iret ok295 4 rfl rfl rfl h1

theorem K295 {Θ : Th} {d : Nat} {σ : Mem} {Q : Po} {x1 : Int32} (h : G Θ (d + 1) 295 0 [some (.ref 1002), some (.int x1)] [] σ Q) : Cm Θ (d + 1) 295 [.ref 1002, .int x1] σ Q :=
  C_of_G okM295 (Nat.le_of_ble_eq_true rfl) rfl h

-- 296: java/lang/String.indexOf(II)I
set_option maxRecDepth 100000 in
set_option maxHeartbeats 4000000 in
theorem B296_0 {Θ : Th} {d : Nat} {σ : Mem} {Q : Po} {x1 : Int32} {x2 : Int32} 
    (h : Ci Θ d 297 [.ref 1002] σ (fun v1 σ1 => ((v1 = 0 → Ci Θ d 298 [.ref 1002] σ1 (fun v3 σ3 => False)) ∧ (¬ v1 = 0 → Ci Θ d 298 [.ref 1002] σ1 (fun v4 σ4 => Ci Θ d 300 [.ref 1003, .int x1, .int x2, .int v4] σ4 (fun v5 σ5 => Q (some (.int v5)) σ5)))))) :
    G Θ (d + 1) 296 0 [some (.ref 1002), some (.int x1), some (.int x2)] [] σ Q := by
  refine r_aload_n ok296 0 rfl rfl rfl ?_
  refine r_invTi (as := []) (S := []) ok296 1 rfl rfl mf297 rfl (Nat.le_of_ble_eq_true rfl) rfl h (fun v1 σ1 h1 => ?_)
  refine r_if_eq ok296 2 rfl rfl (fun c2 => ?_) (fun c2 => ?_)
  · have h2 := h1.1 c2
    refine r_aload_n ok296 11 rfl rfl rfl ?_
    refine r_gstV ok296 12 rfl rfl (gt_at (i := npv + 2102) (by decide +kernel) rfl) ?_
    refine r_iload_n ok296 13 rfl rfl rfl ?_
    refine r_iload_n ok296 14 rfl rfl rfl ?_
    refine r_aload_n ok296 15 rfl rfl rfl ?_
    refine r_invTi (as := []) (S := [.int x2, .int x1, .ref 1003]) ok296 16 rfl rfl mf298 rfl (Nat.le_of_ble_eq_true rfl) rfl h2 (fun v3 σ3 h3 => ?_)
    exact h3.elim
  · have h2 := h1.2 c2
    refine r_aload_n ok296 3 rfl rfl rfl ?_
    refine r_gstV ok296 4 rfl rfl (gt_at (i := npv + 2102) (by decide +kernel) rfl) ?_
    refine r_iload_n ok296 5 rfl rfl rfl ?_
    refine r_iload_n ok296 6 rfl rfl rfl ?_
    refine r_aload_n ok296 7 rfl rfl rfl ?_
    refine r_invTi (as := []) (S := [.int x2, .int x1, .ref 1003]) ok296 8 rfl rfl mf298 rfl (Nat.le_of_ble_eq_true rfl) rfl h2 (fun v4 σ4 h4 => ?_)
    refine r_invSi (as := [.ref 1003, .int x1, .int x2, .int v4]) (S := []) ok296 9 rfl rfl mf300 rfl (Nat.le_of_ble_eq_true rfl) rfl h4 (fun v5 σ5 h5 => ?_)
    refine r_goto ok296 10 rfl rfl ?_
    exact r_iret ok296 18 rfl rfl rfl h5

theorem K296 {Θ : Th} {d : Nat} {σ : Mem} {Q : Po} {x1 : Int32} {x2 : Int32} (h : G Θ (d + 1) 296 0 [some (.ref 1002), some (.int x1), some (.int x2)] [] σ Q) : Cm Θ (d + 1) 296 [.ref 1002, .int x1, .int x2] σ Q :=
  C_of_G okM296 (Nat.le_of_ble_eq_true rfl) rfl h

-- 297: java/lang/String.isLatin1()Z
set_option maxRecDepth 100000 in
set_option maxHeartbeats 4000000 in
theorem B297_0 {Θ : Th} {d : Nat} {σ : Mem} {Q : Po} 
    (h : Q (some (.int 1)) σ) :
    G Θ d 297 0 [some (.ref 1002)] [] σ Q := by
  refine r_gstS ok297 0 rfl rfl (gt_at (i := npv + 577) (by decide +kernel) rfl) ?_
  refine r_if_eq ok297 1 rfl rfl (fun c1 => absurd c1 (by decide)) (fun _ => ?_)
  refine r_aload_n ok297 2 rfl rfl rfl ?_
  refine r_gstC ok297 3 rfl rfl (gt_at (i := npv + 2101) (by decide +kernel) rfl) ?_
  refine r_if_ne ok297 4 rfl rfl (fun c2 => absurd c2 (by decide)) (fun _ => ?_)
  refine r_iconst (v := 1) ok297 5 rfl rfl rfl ?_
  refine r_goto ok297 6 rfl rfl ?_
  exact r_zret ok297 8 rfl rfl rfl (Or.inr rfl) h

theorem K297 {Θ : Th} {d : Nat} {σ : Mem} {Q : Po} (h : G Θ d 297 0 [some (.ref 1002)] [] σ Q) : Cm Θ d 297 [.ref 1002] σ Q :=
  C_of_G okM297 (Nat.le_of_ble_eq_true rfl) rfl h

-- 298: java/lang/String.length()I
set_option maxRecDepth 100000 in
set_option maxHeartbeats 4000000 in
theorem B298_0 {Θ : Th} {d : Nat} {σ : Mem} {Q : Po} 
    (h : Ci Θ d 299 [.ref 1002] σ (fun v1 σ1 => Q (some (.int ((8 : Int32) >>> (v1 &&& 31)))) σ1)) :
    G Θ (d + 1) 298 0 [some (.ref 1002)] [] σ Q := by
  refine r_aload_n ok298 0 rfl rfl rfl ?_
  refine r_gstV ok298 1 rfl rfl (gt_at (i := npv + 2102) (by decide +kernel) rfl) ?_
  refine r_tbln ok298 2 rfl rfl ?_
  refine r_aload_n ok298 3 rfl rfl rfl ?_
  refine r_invTi (as := []) (S := [.int 8]) ok298 4 rfl rfl mf299 rfl (Nat.le_of_ble_eq_true rfl) rfl h (fun v1 σ1 h1 => ?_)
  refine r_ishr ok298 5 rfl rfl ?_
  exact r_iret ok298 6 rfl rfl rfl h1

theorem K298 {Θ : Th} {d : Nat} {σ : Mem} {Q : Po} (h : G Θ (d + 1) 298 0 [some (.ref 1002)] [] σ Q) : Cm Θ (d + 1) 298 [.ref 1002] σ Q :=
  C_of_G okM298 (Nat.le_of_ble_eq_true rfl) rfl h

-- 299: java/lang/String.coder()B
set_option maxRecDepth 100000 in
set_option maxHeartbeats 4000000 in
theorem B299_0 {Θ : Th} {d : Nat} {σ : Mem} {Q : Po} 
    (h : Q (some (.int 0)) σ) :
    G Θ d 299 0 [some (.ref 1002)] [] σ Q := by
  refine r_gstS ok299 0 rfl rfl (gt_at (i := npv + 577) (by decide +kernel) rfl) ?_
  refine r_if_eq ok299 1 rfl rfl (fun c1 => absurd c1 (by decide)) (fun _ => ?_)
  refine r_aload_n ok299 2 rfl rfl rfl ?_
  refine r_gstC ok299 3 rfl rfl (gt_at (i := npv + 2101) (by decide +kernel) rfl) ?_
  refine r_goto ok299 4 rfl rfl ?_
  exact r_bret ok299 6 rfl rfl rfl h

theorem K299 {Θ : Th} {d : Nat} {σ : Mem} {Q : Po} (h : G Θ d 299 0 [some (.ref 1002)] [] σ Q) : Cm Θ d 299 [.ref 1002] σ Q :=
  C_of_G okM299 (Nat.le_of_ble_eq_true rfl) rfl h

-- 300: java/lang/StringLatin1.indexOf([BIII)I
set_option maxRecDepth 100000 in
set_option maxHeartbeats 4000000 in
theorem B300_0 {Θ : Th} {d : Nat} {σ : Mem} {Q : Po} {x1 : Int32} {x2 : Int32} {x3 : Int32} 
    (h : Ci Θ d 301 [.int x1] σ (fun v1 σ1 => ((¬ v1 = 0 → (((if x2 < 0 then 0 else x2) < (if 8 < x3 then 8 else x3) → Ci Θ d 302 [.ref 1003, .int x1, .int (if x2 < 0 then 0 else x2), .int (if 8 < x3 then 8 else x3)] σ1 (fun v4 σ4 => Q (some (.int v4)) σ4)) ∧ (¬ (if x2 < 0 then 0 else x2) < (if 8 < x3 then 8 else x3) → Q (some (.int (-1))) σ1))) ∧ (v1 = 0 → Q (some (.int (-1))) σ1)))) :
    G Θ (d + 1) 300 0 [some (.ref 1003), some (.int x1), some (.int x2), some (.int x3)] [] σ Q := by
  refine r_iload_n ok300 0 rfl rfl rfl ?_
  refine r_invSi (as := [.int x1]) (S := []) ok300 1 rfl rfl mf301 rfl (Nat.le_of_ble_eq_true rfl) rfl h (fun v1 σ1 h1 => ?_)
  refine r_if_ne ok300 2 rfl rfl (fun c2 => ?_) (fun c2 => ?_)
  · have h2 := h1.1 c2
    refine r_iload_n ok300 5 rfl rfl rfl ?_
    refine r_iconst (v := 0) ok300 6 rfl rfl rfl ?_
    refine r_mmax ok300 7 rfl rfl rfl (Nat.le_of_ble_eq_true rfl) w_max (Nat.le_of_ble_eq_true rfl) ?_
    refine r_istore_n ok300 8 rfl rfl ?_
    refine r_iload_n ok300 9 rfl rfl rfl ?_
    refine r_aload_n ok300 10 rfl rfl rfl ?_
    refine r_tbln ok300 11 rfl rfl ?_
    refine r_mmin ok300 12 rfl rfl rfl (Nat.le_of_ble_eq_true rfl) w_min (Nat.le_of_ble_eq_true rfl) ?_
    refine r_istore_n ok300 13 rfl rfl ?_
    refine r_iload_n ok300 14 rfl rfl rfl ?_
    refine r_iload_n ok300 15 rfl rfl rfl ?_
    refine r_icmp_lt ok300 16 rfl rfl (fun c3 => ?_) (fun c3 => ?_)
    · have h3 := h2.1 c3
      refine r_aload_n ok300 19 rfl rfl rfl ?_
      refine r_iload_n ok300 20 rfl rfl rfl ?_
      refine r_iload_n ok300 21 rfl rfl rfl ?_
      refine r_iload_n ok300 22 rfl rfl rfl ?_
      refine r_invSi (as := [.ref 1003, .int x1, .int (if x2 < 0 then 0 else x2), .int (if 8 < x3 then 8 else x3)]) (S := []) ok300 23 rfl rfl mf302 rfl (Nat.le_of_ble_eq_true rfl) rfl h3 (fun v4 σ4 h4 => ?_)
      exact r_iret ok300 24 rfl rfl rfl h4
    · have h3 := h2.2 c3
      refine r_iconst (v := (-1)) ok300 17 rfl rfl rfl ?_
      exact r_iret ok300 18 rfl rfl rfl h3
  · have h2 := h1.2 c2
    refine r_iconst (v := (-1)) ok300 3 rfl rfl rfl ?_
    exact r_iret ok300 4 rfl rfl rfl h2

theorem K300 {Θ : Th} {d : Nat} {σ : Mem} {Q : Po} {x1 : Int32} {x2 : Int32} {x3 : Int32} (h : G Θ (d + 1) 300 0 [some (.ref 1003), some (.int x1), some (.int x2), some (.int x3)] [] σ Q) : Cm Θ (d + 1) 300 [.ref 1003, .int x1, .int x2, .int x3] σ Q :=
  C_of_G okM300 (Nat.le_of_ble_eq_true rfl) rfl h

-- 301: java/lang/StringLatin1.canEncode(I)Z
set_option maxRecDepth 100000 in
set_option maxHeartbeats 4000000 in
theorem B301_0 {Θ : Th} {d : Nat} {σ : Mem} {Q : Po} {x0 : Int32} 
    (h : ((x0 < 0 → Q (some (.int 0)) σ) ∧ (¬ x0 < 0 → ((255 < x0 → Q (some (.int 0)) σ) ∧ (¬ 255 < x0 → Q (some (.int 1)) σ))))) :
    G Θ d 301 0 [some (.int x0)] [] σ Q := by
  refine r_iload_n ok301 0 rfl rfl rfl ?_
  refine r_if_lt ok301 1 rfl rfl (fun c1 => ?_) (fun c1 => ?_)
  · have h1 := h.1 c1
    refine r_iconst (v := 0) ok301 7 rfl rfl rfl ?_
    exact r_zret ok301 8 rfl rfl rfl (Or.inl rfl) h1
  · have h1 := h.2 c1
    refine r_iload_n ok301 2 rfl rfl rfl ?_
    refine r_sipush (v := 255) ok301 3 rfl rfl rfl ?_
    refine r_icmp_gt ok301 4 rfl rfl (fun c2 => ?_) (fun c2 => ?_)
    · have h2 := h1.1 c2
      refine r_iconst (v := 0) ok301 7 rfl rfl rfl ?_
      exact r_zret ok301 8 rfl rfl rfl (Or.inl rfl) h2
    · have h2 := h1.2 c2
      refine r_iconst (v := 1) ok301 5 rfl rfl rfl ?_
      refine r_goto ok301 6 rfl rfl ?_
      exact r_zret ok301 8 rfl rfl rfl (Or.inr rfl) h2

theorem K301 {Θ : Th} {d : Nat} {σ : Mem} {Q : Po} {x0 : Int32} (h : G Θ d 301 0 [some (.int x0)] [] σ Q) : Cm Θ d 301 [.int x0] σ Q :=
  C_of_G okM301 (Nat.le_of_ble_eq_true rfl) rfl h

-- 302: java/lang/StringLatin1.indexOfChar([BIII)I
set_option maxRecDepth 100000 in
set_option maxHeartbeats 4000000 in
theorem B302_0 {Θ : Th} {d : Nat} {σ : Mem} {Q : Po} {x1 : Int32} {x2 : Int32} {x3 : Int32} 
    (h : G Θ d 302 7 [some (.ref 1003), none, none, some (.int x3), some (.int x1.toInt8.toInt32), some (.int x2)] [] σ Q) :
    G Θ d 302 0 [some (.ref 1003), some (.int x1), some (.int x2), some (.int x3), none, none] [] σ Q := by
  refine r_iload_n ok302 0 rfl rfl rfl ?_
  refine r_i2b ok302 1 rfl rfl ?_
  refine r_istore ok302 2 rfl rfl ?_
  refine r_iload_n ok302 3 rfl rfl rfl ?_
  refine r_istore ok302 4 rfl rfl ?_
  exact G.weak (L' := [some (.ref 1003), none, none, some (.int x3), some (.int x1.toInt8.toInt32), some (.int x2)]) ⟨rfl, ⟨rfl, ⟨rfl, ⟨rfl, trivial⟩⟩⟩⟩ h

set_option maxRecDepth 100000 in
set_option maxHeartbeats 4000000 in
theorem B302_7 {Θ : Th} {d : Nat} {σ : Mem} {Q : Po} {x3 : Int32} {x4 : Int32} {x5 : Int32} 
    (h : ((x3 ≤ x5 → Q (some (.int (-1))) σ) ∧ (¬ x3 ≤ x5 → (vp_in x5 8 ∧ ((¬ (strV x5.toNatClampNeg) = x4 → G Θ d 302 7 [some (.ref 1003), none, none, some (.int x3), some (.int x4), some (.int (x5 + 1))] [] σ Q) ∧ ((strV x5.toNatClampNeg) = x4 → Q (some (.int x5)) σ)))))) :
    G Θ d 302 7 [some (.ref 1003), none, none, some (.int x3), some (.int x4), some (.int x5)] [] σ Q := by
  refine r_iload ok302 5 rfl rfl rfl ?_
  refine r_iload_n ok302 6 rfl rfl rfl ?_
  refine r_icmp_ge ok302 7 rfl rfl (fun c1 => ?_) (fun c1 => ?_)
  · have h1 := h.1 c1
    refine r_iconst (v := (-1)) ok302 17 rfl rfl rfl ?_
    exact r_iret ok302 18 rfl rfl rfl h1
  · have h1 := h.2 c1
    refine r_aload_n ok302 8 rfl rfl rfl ?_
    refine r_iload ok302 9 rfl rfl rfl ?_
    obtain ⟨c2, h2⟩ := h1
    refine r_tbld ok302 10 rfl rfl c2 ?_
    refine r_iload ok302 11 rfl rfl rfl ?_
    refine r_icmp_ne ok302 12 rfl rfl (fun c3 => ?_) (fun c3 => ?_)
    · have h3 := h2.1 c3
      refine r_iinc (v := x5 + 1) ok302 15 rfl rfl rfl rfl ?_
      refine r_goto ok302 16 rfl rfl ?_
      exact h3
    · have h3 := h2.2 c3
      refine r_iload ok302 13 rfl rfl rfl ?_
      exact r_iret ok302 14 rfl rfl rfl h3

theorem K302 {Θ : Th} {d : Nat} {σ : Mem} {Q : Po} {x1 : Int32} {x2 : Int32} {x3 : Int32} (h : G Θ d 302 0 [some (.ref 1003), some (.int x1), some (.int x2), some (.int x3), none, none] [] σ Q) : Cm Θ d 302 [.ref 1003, .int x1, .int x2, .int x3] σ Q :=
  C_of_G okM302 (Nat.le_of_ble_eq_true rfl) rfl h
