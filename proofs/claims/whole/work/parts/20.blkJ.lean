-- 286: java/lang/Integer.bitCount(I)I
set_option maxRecDepth 100000 in
set_option maxHeartbeats 4000000 in
theorem B286_0 {Θ : Th} {d : Nat} {σ : Mem} {Q : Po} {x0 : Int32} 
    (h : Q (some (.int ((((((((x0 - (((x0.toUInt32 >>> ((1 : Int32).toUInt32 &&& Int32.toUInt32 31)).toInt32) &&& 1431655765)) &&& 858993459) + ((((x0 - (((x0.toUInt32 >>> ((1 : Int32).toUInt32 &&& Int32.toUInt32 31)).toInt32) &&& 1431655765)).toUInt32 >>> ((2 : Int32).toUInt32 &&& Int32.toUInt32 31)).toInt32) &&& 858993459)) + (((((x0 - (((x0.toUInt32 >>> ((1 : Int32).toUInt32 &&& Int32.toUInt32 31)).toInt32) &&& 1431655765)) &&& 858993459) + ((((x0 - (((x0.toUInt32 >>> ((1 : Int32).toUInt32 &&& Int32.toUInt32 31)).toInt32) &&& 1431655765)).toUInt32 >>> ((2 : Int32).toUInt32 &&& Int32.toUInt32 31)).toInt32) &&& 858993459)).toUInt32 >>> ((4 : Int32).toUInt32 &&& Int32.toUInt32 31)).toInt32)) &&& 252645135) + (((((((x0 - (((x0.toUInt32 >>> ((1 : Int32).toUInt32 &&& Int32.toUInt32 31)).toInt32) &&& 1431655765)) &&& 858993459) + ((((x0 - (((x0.toUInt32 >>> ((1 : Int32).toUInt32 &&& Int32.toUInt32 31)).toInt32) &&& 1431655765)).toUInt32 >>> ((2 : Int32).toUInt32 &&& Int32.toUInt32 31)).toInt32) &&& 858993459)) + (((((x0 - (((x0.toUInt32 >>> ((1 : Int32).toUInt32 &&& Int32.toUInt32 31)).toInt32) &&& 1431655765)) &&& 858993459) + ((((x0 - (((x0.toUInt32 >>> ((1 : Int32).toUInt32 &&& Int32.toUInt32 31)).toInt32) &&& 1431655765)).toUInt32 >>> ((2 : Int32).toUInt32 &&& Int32.toUInt32 31)).toInt32) &&& 858993459)).toUInt32 >>> ((4 : Int32).toUInt32 &&& Int32.toUInt32 31)).toInt32)) &&& 252645135).toUInt32 >>> ((8 : Int32).toUInt32 &&& Int32.toUInt32 31)).toInt32)) + ((((((((x0 - (((x0.toUInt32 >>> ((1 : Int32).toUInt32 &&& Int32.toUInt32 31)).toInt32) &&& 1431655765)) &&& 858993459) + ((((x0 - (((x0.toUInt32 >>> ((1 : Int32).toUInt32 &&& Int32.toUInt32 31)).toInt32) &&& 1431655765)).toUInt32 >>> ((2 : Int32).toUInt32 &&& Int32.toUInt32 31)).toInt32) &&& 858993459)) + (((((x0 - (((x0.toUInt32 >>> ((1 : Int32).toUInt32 &&& Int32.toUInt32 31)).toInt32) &&& 1431655765)) &&& 858993459) + ((((x0 - (((x0.toUInt32 >>> ((1 : Int32).toUInt32 &&& Int32.toUInt32 31)).toInt32) &&& 1431655765)).toUInt32 >>> ((2 : Int32).toUInt32 &&& Int32.toUInt32 31)).toInt32) &&& 858993459)).toUInt32 >>> ((4 : Int32).toUInt32 &&& Int32.toUInt32 31)).toInt32)) &&& 252645135) + (((((((x0 - (((x0.toUInt32 >>> ((1 : Int32).toUInt32 &&& Int32.toUInt32 31)).toInt32) &&& 1431655765)) &&& 858993459) + ((((x0 - (((x0.toUInt32 >>> ((1 : Int32).toUInt32 &&& Int32.toUInt32 31)).toInt32) &&& 1431655765)).toUInt32 >>> ((2 : Int32).toUInt32 &&& Int32.toUInt32 31)).toInt32) &&& 858993459)) + (((((x0 - (((x0.toUInt32 >>> ((1 : Int32).toUInt32 &&& Int32.toUInt32 31)).toInt32) &&& 1431655765)) &&& 858993459) + ((((x0 - (((x0.toUInt32 >>> ((1 : Int32).toUInt32 &&& Int32.toUInt32 31)).toInt32) &&& 1431655765)).toUInt32 >>> ((2 : Int32).toUInt32 &&& Int32.toUInt32 31)).toInt32) &&& 858993459)).toUInt32 >>> ((4 : Int32).toUInt32 &&& Int32.toUInt32 31)).toInt32)) &&& 252645135).toUInt32 >>> ((8 : Int32).toUInt32 &&& Int32.toUInt32 31)).toInt32)).toUInt32 >>> ((16 : Int32).toUInt32 &&& Int32.toUInt32 31)).toInt32)) &&& 63))) σ) :
    G Θ d 286 0 [some (.int x0)] [] σ Q := by
  refine r_iload_n ok286 0 rfl rfl rfl ?_
  refine r_iload_n ok286 1 rfl rfl rfl ?_
  refine r_iconst (v := 1) ok286 2 rfl rfl rfl ?_
  refine r_iushr ok286 3 rfl rfl ?_
  refine r_ldc_w (v := 1431655765) ok286 4 rfl rfl rfl ?_
  refine r_iand ok286 5 rfl rfl ?_
  refine r_isub ok286 6 rfl rfl ?_
  refine r_istore_n ok286 7 rfl rfl ?_
  refine r_iload_n ok286 8 rfl rfl rfl ?_
  refine r_ldc_w (v := 858993459) ok286 9 rfl rfl rfl ?_
  refine r_iand ok286 10 rfl rfl ?_
  refine r_iload_n ok286 11 rfl rfl rfl ?_
  refine r_iconst (v := 2) ok286 12 rfl rfl rfl ?_
  refine r_iushr ok286 13 rfl rfl ?_
  refine r_ldc_w (v := 858993459) ok286 14 rfl rfl rfl ?_
  refine r_iand ok286 15 rfl rfl ?_
  refine r_iadd ok286 16 rfl rfl ?_
  refine r_istore_n ok286 17 rfl rfl ?_
  refine r_iload_n ok286 18 rfl rfl rfl ?_
  refine r_iload_n ok286 19 rfl rfl rfl ?_
  refine r_iconst (v := 4) ok286 20 rfl rfl rfl ?_
  refine r_iushr ok286 21 rfl rfl ?_
  refine r_iadd ok286 22 rfl rfl ?_
  refine r_ldc_w (v := 252645135) ok286 23 rfl rfl rfl ?_
  refine r_iand ok286 24 rfl rfl ?_
  refine r_istore_n ok286 25 rfl rfl ?_
  refine r_iload_n ok286 26 rfl rfl rfl ?_
  refine r_iload_n ok286 27 rfl rfl rfl ?_
  refine r_bipush (v := 8) ok286 28 rfl rfl rfl ?_
  refine r_iushr ok286 29 rfl rfl ?_
  refine r_iadd ok286 30 rfl rfl ?_
  refine r_istore_n ok286 31 rfl rfl ?_
  refine r_iload_n ok286 32 rfl rfl rfl ?_
  refine r_iload_n ok286 33 rfl rfl rfl ?_
  refine r_bipush (v := 16) ok286 34 rfl rfl rfl ?_
  refine r_iushr ok286 35 rfl rfl ?_
  refine r_iadd ok286 36 rfl rfl ?_
  refine r_istore_n ok286 37 rfl rfl ?_
  refine r_iload_n ok286 38 rfl rfl rfl ?_
  refine r_bipush (v := 63) ok286 39 rfl rfl rfl ?_
  refine r_iand ok286 40 rfl rfl ?_
  exact r_iret ok286 41 rfl rfl rfl h

theorem K286 {Θ : Th} {d : Nat} {σ : Mem} {Q : Po} {x0 : Int32} (h : G Θ d 286 0 [some (.int x0)] [] σ Q) : Cm Θ d 286 [.int x0] σ Q :=
  C_of_G okM286 (Nat.le_of_ble_eq_true rfl) rfl h

-- 287: java/lang/Long.compare(JJ)I
set_option maxRecDepth 100000 in
set_option maxHeartbeats 4000000 in
theorem B287_0 {Θ : Th} {d : Nat} {σ : Mem} {Q : Po} {x0 : Int64} {x2 : Int64} 
    (h : ((0 ≤ (lg_cmp x0 x2) → ((¬ (lg_cmp x0 x2) = 0 → Q (some (.int 1)) σ) ∧ ((lg_cmp x0 x2) = 0 → Q (some (.int 0)) σ))) ∧ (¬ 0 ≤ (lg_cmp x0 x2) → Q (some (.int (-1))) σ))) :
    G Θ d 287 0 [some (.long x0), none, some (.long x2), none] [] σ Q := by
  refine r_lload_n ok287 0 rfl rfl rfl ?_
  refine r_lload_n ok287 1 rfl rfl rfl ?_
  refine r_lcmp ok287 2 rfl rfl ?_
  refine r_if_ge ok287 3 rfl rfl (fun c1 => ?_) (fun c1 => ?_)
  · have h1 := h.1 c1
    refine r_lload_n ok287 6 rfl rfl rfl ?_
    refine r_lload_n ok287 7 rfl rfl rfl ?_
    refine r_lcmp ok287 8 rfl rfl ?_
    refine r_if_ne ok287 9 rfl rfl (fun c2 => ?_) (fun c2 => ?_)
    · have h2 := h1.1 c2
      refine r_iconst (v := 1) ok287 12 rfl rfl rfl ?_
      exact r_iret ok287 13 rfl rfl rfl h2
    · have h2 := h1.2 c2
      refine r_iconst (v := 0) ok287 10 rfl rfl rfl ?_
      refine r_goto ok287 11 rfl rfl ?_
      exact r_iret ok287 13 rfl rfl rfl h2
  · have h1 := h.2 c1
    refine r_iconst (v := (-1)) ok287 4 rfl rfl rfl ?_
    refine r_goto ok287 5 rfl rfl ?_
    exact r_iret ok287 13 rfl rfl rfl h1

theorem K287 {Θ : Th} {d : Nat} {σ : Mem} {Q : Po} {x0 : Int64} {x2 : Int64} (h : G Θ d 287 0 [some (.long x0), none, some (.long x2), none] [] σ Q) : Cm Θ d 287 [.long x0, .long x2] σ Q :=
  C_of_G okM287 (Nat.le_of_ble_eq_true rfl) rfl h

-- 292: java/util/Arrays.fill([II)V
set_option maxRecDepth 100000 in
set_option maxHeartbeats 4000000 in
theorem B292_0 {Θ : Th} {d : Nat} {σ : Mem} {Q : Po} {r0 n0 : Nat} {x1 : Int32} (hp0 : shq r0 = (20, n0))
    (h : G Θ d 292 5 [some (.ref r0), some (.int x1), some (.int 0), some (.int (Int32.ofNat n0))] [] σ Q) :
    G Θ d 292 0 [some (.ref r0), some (.int x1), none, none] [] σ Q := by
  refine r_iconst (v := 0) ok292 0 rfl rfl rfl ?_
  refine r_istore_n ok292 1 rfl rfl ?_
  refine r_aload_n ok292 2 rfl rfl rfl ?_
  refine r_alen20 (v := Int32.ofNat n0) ok292 3 rfl rfl hp0 rfl ?_
  refine r_istore_n ok292 4 rfl rfl ?_
  exact h

set_option maxRecDepth 100000 in
set_option maxHeartbeats 4000000 in
theorem B292_5 {Θ : Th} {d : Nat} {σ : Mem} {Q : Po} {r0 n0 : Nat} {x1 : Int32} {x2 : Int32} {x3 : Int32} (hp0 : shq r0 = (20, n0))
    (h : ((x3 ≤ x2 → Q none σ) ∧ (¬ x3 ≤ x2 → (vp_in x2 n0 ∧ G Θ d 292 5 [some (.ref r0), some (.int x1), some (.int (x2 + 1)), some (.int x3)] [] (sI σ r0 (x2.toNatClampNeg) x1) Q)))) :
    G Θ d 292 5 [some (.ref r0), some (.int x1), some (.int x2), some (.int x3)] [] σ Q := by
  refine r_iload_n ok292 5 rfl rfl rfl ?_
  refine r_iload_n ok292 6 rfl rfl rfl ?_
  refine r_icmp_ge ok292 7 rfl rfl (fun c1 => ?_) (fun c1 => ?_)
  · have h1 := h.1 c1
    exact r_ret ok292 14 rfl rfl rfl h1
  · have h1 := h.2 c1
    refine r_aload_n ok292 8 rfl rfl rfl ?_
    refine r_iload_n ok292 9 rfl rfl rfl ?_
    refine r_iload_n ok292 10 rfl rfl rfl ?_
    obtain ⟨c2, h2⟩ := h1
    refine r_iast ok292 11 rfl rfl hp0 c2 ?_
    refine r_iinc (v := x2 + 1) ok292 12 rfl rfl rfl rfl ?_
    refine r_goto ok292 13 rfl rfl ?_
    exact h2

theorem K292 {Θ : Th} {d : Nat} {σ : Mem} {Q : Po} {r0 n0 : Nat} {x1 : Int32} (h : G Θ d 292 0 [some (.ref r0), some (.int x1), none, none] [] σ Q) : Cm Θ d 292 [.ref r0, .int x1] σ Q :=
  C_of_G okM292 (Nat.le_of_ble_eq_true rfl) rfl h

-- 293: java/util/Arrays.fill([ZZ)V
set_option maxRecDepth 100000 in
set_option maxHeartbeats 4000000 in
theorem B293_0 {Θ : Th} {d : Nat} {σ : Mem} {Q : Po} {r0 n0 : Nat} {x1 : Int32} (hp0 : shq r0 = (23, n0))
    (h : G Θ d 293 5 [some (.ref r0), some (.int x1), some (.int 0), some (.int (Int32.ofNat n0))] [] σ Q) :
    G Θ d 293 0 [some (.ref r0), some (.int x1), none, none] [] σ Q := by
  refine r_iconst (v := 0) ok293 0 rfl rfl rfl ?_
  refine r_istore_n ok293 1 rfl rfl ?_
  refine r_aload_n ok293 2 rfl rfl rfl ?_
  refine r_alen23 (v := Int32.ofNat n0) ok293 3 rfl rfl hp0 rfl ?_
  refine r_istore_n ok293 4 rfl rfl ?_
  exact h

set_option maxRecDepth 100000 in
set_option maxHeartbeats 4000000 in
theorem B293_5 {Θ : Th} {d : Nat} {σ : Mem} {Q : Po} {r0 n0 : Nat} {x1 : Int32} {x2 : Int32} {x3 : Int32} (hp0 : shq r0 = (23, n0))
    (h : ((x3 ≤ x2 → Q none σ) ∧ (¬ x3 ≤ x2 → (vp_in x2 n0 ∧ G Θ d 293 5 [some (.ref r0), some (.int x1), some (.int (x2 + 1)), some (.int x3)] [] (sI σ r0 (x2.toNatClampNeg) (vp_nar .boolean x1)) Q)))) :
    G Θ d 293 5 [some (.ref r0), some (.int x1), some (.int x2), some (.int x3)] [] σ Q := by
  refine r_iload_n ok293 5 rfl rfl rfl ?_
  refine r_iload_n ok293 6 rfl rfl rfl ?_
  refine r_icmp_ge ok293 7 rfl rfl (fun c1 => ?_) (fun c1 => ?_)
  · have h1 := h.1 c1
    exact r_ret ok293 14 rfl rfl rfl h1
  · have h1 := h.2 c1
    refine r_aload_n ok293 8 rfl rfl rfl ?_
    refine r_iload_n ok293 9 rfl rfl rfl ?_
    refine r_iload_n ok293 10 rfl rfl rfl ?_
    obtain ⟨c2, h2⟩ := h1
    refine r_zast ok293 11 rfl rfl hp0 c2 ?_
    refine r_iinc (v := x2 + 1) ok293 12 rfl rfl rfl rfl ?_
    refine r_goto ok293 13 rfl rfl ?_
    exact h2

theorem K293 {Θ : Th} {d : Nat} {σ : Mem} {Q : Po} {r0 n0 : Nat} {x1 : Int32} (h : G Θ d 293 0 [some (.ref r0), some (.int x1), none, none] [] σ Q) : Cm Θ d 293 [.ref r0, .int x1] σ Q :=
  C_of_G okM293 (Nat.le_of_ble_eq_true rfl) rfl h
