-- 20: LikeYears$BookReader.read(LLikeYears$Book;)Z
set_option maxRecDepth 100000 in
set_option maxHeartbeats 4000000 in
theorem B20_0 {Θ : Th} {d : Nat} {σ : Mem} {Q : Po} {r1 : Nat} (hp1 : (shq r1).1 = 1)
    (h : (r1 ≠ 0 ∧ ((sR σ 9 2 r1).2.2 9 2 ≠ 0 ∧ (shq ((sR σ 9 2 r1).2.2 9 2)).1 = 1 ∧ Cv Θ d 6 [.ref ((sR σ 9 2 r1).2.2 9 2)] (sR σ 9 2 r1) (fun σ3 => Cv Θ d 101 [.ref 1, .int 0] (sI σ3 9 5 0) (fun σ4 => G Θ (d + 1) 20 27 [some (.ref 9), none, some (.int 0)] [] σ4 Q))))) :
    G Θ (d + 1) 20 0 [some (.ref 9), some (.ref r1), none] [] σ Q := by
  refine r_aload_n ok20 0 rfl rfl rfl ?_
  refine r_aload_n ok20 1 rfl rfl rfl ?_
  obtain ⟨c1, h1⟩ := h
  refine r_putR ok20 2 rfl rfl rfl rfl c1 ?_
  refine r_aload_n ok20 3 rfl rfl rfl ?_
  obtain ⟨c2, s2, h2⟩ := h1
  refine r_getR ok20 4 rfl rfl rfl rfl c2 ?_
  refine r_invVv (as := []) (S := []) ok20 5 rfl rfl mf6 s2 rfl (Nat.le_of_ble_eq_true rfl) rfl h2 (fun σ3 h3 => ?_)
  refine r_aload_n ok20 6 rfl rfl rfl ?_
  refine r_iconst (v := 0) ok20 7 rfl rfl rfl ?_
  refine r_putI ok20 8 rfl rfl rfl rfl ?_
  refine r_aload_n ok20 9 rfl rfl rfl ?_
  refine r_getA ok20 10 rfl rfl rfl rfl ?_
  refine r_iconst (v := 0) ok20 11 rfl rfl rfl ?_
  refine r_invVv (as := [.int 0]) (S := []) ok20 12 rfl rfl mf101 rfl rfl (Nat.le_of_ble_eq_true rfl) rfl h3 (fun σ4 h4 => ?_)
  refine r_iconst (v := 0) ok20 13 rfl rfl rfl ?_
  refine r_istore_n ok20 14 rfl rfl ?_
  exact G.weak (L' := [some (.ref 9), none, some (.int 0)]) ⟨rfl, ⟨rfl, trivial⟩⟩ h4

set_option maxRecDepth 100000 in
set_option maxHeartbeats 4000000 in
theorem B20_27 {Θ : Th} {d : Nat} {σ : Mem} {Q : Po} {x2 : Int32} 
    (h : ((1300 < x2 → Ci Θ d 32 [.ref 9] σ (fun v2 σ2 => ((v2 = 0 ∨ v2 = 1) ∧ Q (some (.int v2)) σ2))) ∧ (¬ 1300 < x2 → (((σ.1 1 3) = 0 → Ci Θ d 32 [.ref 9] σ (fun v4 σ4 => ((v4 = 0 ∨ v4 = 1) ∧ Q (some (.int v4)) σ4))) ∧ (¬ (σ.1 1 3) = 0 → Ci Θ d 21 [.ref 9] σ (fun v5 σ5 => ((¬ v5 = 0 → G Θ (d + 1) 20 27 [some (.ref 9), none, some (.int (x2 + 1))] [] (sI σ5 9 5 ((σ5.1 9 5) + 1)) Q) ∧ (v5 = 0 → Q (some (.int 0)) σ5)))))))) :
    G Θ (d + 1) 20 27 [some (.ref 9), none, some (.int x2)] [] σ Q := by
  refine r_iload_n ok20 15 rfl rfl rfl ?_
  refine r_sipush (v := 1300) ok20 16 rfl rfl rfl ?_
  refine r_icmp_gt ok20 17 rfl rfl (fun c1 => ?_) (fun c1 => ?_)
  · have h1 := h.1 c1
    refine r_aload_n ok20 35 rfl rfl rfl ?_
    refine r_invVi (as := []) (S := []) ok20 36 rfl rfl mf32 rfl rfl (Nat.le_of_ble_eq_true rfl) rfl h1 (fun v2 σ2 h2 => ?_)
    exact r_zret ok20 37 rfl rfl rfl h2.1 h2.2
  · have h1 := h.2 c1
    refine r_aload_n ok20 18 rfl rfl rfl ?_
    refine r_getA ok20 19 rfl rfl rfl rfl ?_
    refine r_getI ok20 20 rfl rfl rfl rfl ?_
    refine r_if_eq ok20 21 rfl rfl (fun c3 => ?_) (fun c3 => ?_)
    · have h3 := h1.1 c3
      refine r_aload_n ok20 35 rfl rfl rfl ?_
      refine r_invVi (as := []) (S := []) ok20 36 rfl rfl mf32 rfl rfl (Nat.le_of_ble_eq_true rfl) rfl h3 (fun v4 σ4 h4 => ?_)
      exact r_zret ok20 37 rfl rfl rfl h4.1 h4.2
    · have h3 := h1.2 c3
      refine r_aload_n ok20 22 rfl rfl rfl ?_
      refine r_invVi (as := []) (S := []) ok20 23 rfl rfl mf21 rfl rfl (Nat.le_of_ble_eq_true rfl) rfl h3 (fun v5 σ5 h5 => ?_)
      refine r_if_ne ok20 24 rfl rfl (fun c6 => ?_) (fun c6 => ?_)
      · have h6 := h5.1 c6
        refine r_aload_n ok20 27 rfl rfl rfl ?_
        refine r_dup ok20 28 rfl rfl rfl ?_
        refine r_getI ok20 29 rfl rfl rfl rfl ?_
        refine r_iconst (v := 1) ok20 30 rfl rfl rfl ?_
        refine r_iadd ok20 31 rfl rfl ?_
        refine r_putI ok20 32 rfl rfl rfl rfl ?_
        refine r_iinc (v := x2 + 1) ok20 33 rfl rfl rfl rfl ?_
        refine r_goto ok20 34 rfl rfl ?_
        exact h6
      · have h6 := h5.2 c6
        refine r_iconst (v := 0) ok20 25 rfl rfl rfl ?_
        exact r_zret ok20 26 rfl rfl rfl (Or.inl rfl) h6

theorem K20 {Θ : Th} {d : Nat} {σ : Mem} {Q : Po} {r1 : Nat} (h : G Θ (d + 1) 20 0 [some (.ref 9), some (.ref r1), none] [] σ Q) : Cm Θ (d + 1) 20 [.ref 9, .ref r1] σ Q :=
  C_of_G okM20 (Nat.le_of_ble_eq_true rfl) rfl h

-- 21: LikeYears$BookReader.readLine()Z
set_option maxRecDepth 100000 in
set_option maxHeartbeats 4000000 in
theorem B21_0 {Θ : Th} {d : Nat} {σ : Mem} {Q : Po} 
    (h : Ci Θ d 110 [.ref 1, .long 1835102827] σ (fun v1 σ1 => ((v1 = 0 → Ci Θ d 110 [.ref 1, .long 474148660594] σ1 (fun v3 σ3 => ((v3 = 0 → Ci Θ d 110 [.ref 1, .long 1667330917] σ3 (fun v5 σ5 => ((v5 = 0 → Ci Θ d 110 [.ref 1, .long 1953459300] σ5 (fun v7 σ7 => ((v7 = 0 → Ci Θ d 109 [.ref 1, .int 2] σ7 (fun v9 σ9 => ((v9 = 0 ∨ v9 = 1) ∧ Q (some (.int v9)) σ9))) ∧ (¬ v7 = 0 → Ci Θ d 27 [.ref 9] σ7 (fun v10 σ10 => ((v10 = 0 ∨ v10 = 1) ∧ Q (some (.int v10)) σ10)))))) ∧ (¬ v5 = 0 → Ci Θ d 24 [.ref 9] σ5 (fun v11 σ11 => ((v11 = 0 ∨ v11 = 1) ∧ Q (some (.int v11)) σ11)))))) ∧ (¬ v3 = 0 → Ci Θ d 23 [.ref 9] σ3 (fun v12 σ12 => ((v12 = 0 ∨ v12 = 1) ∧ Q (some (.int v12)) σ12)))))) ∧ (¬ v1 = 0 → Ci Θ d 22 [.ref 9] σ1 (fun v13 σ13 => ((v13 = 0 ∨ v13 = 1) ∧ Q (some (.int v13)) σ13)))))) :
    G Θ (d + 1) 21 0 [some (.ref 9)] [] σ Q := by
  refine r_aload_n ok21 0 rfl rfl rfl ?_
  refine r_getA ok21 1 rfl rfl rfl rfl ?_
  refine r_ldc2_w (v := 1835102827) ok21 2 rfl rfl rfl ?_
  refine r_invVi (as := [.long 1835102827]) (S := []) ok21 3 rfl rfl mf110 rfl rfl (Nat.le_of_ble_eq_true rfl) rfl h (fun v1 σ1 h1 => ?_)
  refine r_if_eq ok21 4 rfl rfl (fun c2 => ?_) (fun c2 => ?_)
  · have h2 := h1.1 c2
    refine r_aload_n ok21 8 rfl rfl rfl ?_
    refine r_getA ok21 9 rfl rfl rfl rfl ?_
    refine r_ldc2_w (v := 474148660594) ok21 10 rfl rfl rfl ?_
    refine r_invVi (as := [.long 474148660594]) (S := []) ok21 11 rfl rfl mf110 rfl rfl (Nat.le_of_ble_eq_true rfl) rfl h2 (fun v3 σ3 h3 => ?_)
    refine r_if_eq ok21 12 rfl rfl (fun c4 => ?_) (fun c4 => ?_)
    · have h4 := h3.1 c4
      refine r_aload_n ok21 16 rfl rfl rfl ?_
      refine r_getA ok21 17 rfl rfl rfl rfl ?_
      refine r_ldc2_w (v := 1667330917) ok21 18 rfl rfl rfl ?_
      refine r_invVi (as := [.long 1667330917]) (S := []) ok21 19 rfl rfl mf110 rfl rfl (Nat.le_of_ble_eq_true rfl) rfl h4 (fun v5 σ5 h5 => ?_)
      refine r_if_eq ok21 20 rfl rfl (fun c6 => ?_) (fun c6 => ?_)
      · have h6 := h5.1 c6
        refine r_aload_n ok21 24 rfl rfl rfl ?_
        refine r_getA ok21 25 rfl rfl rfl rfl ?_
        refine r_ldc2_w (v := 1953459300) ok21 26 rfl rfl rfl ?_
        refine r_invVi (as := [.long 1953459300]) (S := []) ok21 27 rfl rfl mf110 rfl rfl (Nat.le_of_ble_eq_true rfl) rfl h6 (fun v7 σ7 h7 => ?_)
        refine r_if_eq ok21 28 rfl rfl (fun c8 => ?_) (fun c8 => ?_)
        · have h8 := h7.1 c8
          refine r_aload_n ok21 32 rfl rfl rfl ?_
          refine r_getA ok21 33 rfl rfl rfl rfl ?_
          refine r_iconst (v := 2) ok21 34 rfl rfl rfl ?_
          refine r_invVi (as := [.int 2]) (S := []) ok21 35 rfl rfl mf109 rfl rfl (Nat.le_of_ble_eq_true rfl) rfl h8 (fun v9 σ9 h9 => ?_)
          exact r_zret ok21 36 rfl rfl rfl h9.1 h9.2
        · have h8 := h7.2 c8
          refine r_aload_n ok21 29 rfl rfl rfl ?_
          refine r_invVi (as := []) (S := []) ok21 30 rfl rfl mf27 rfl rfl (Nat.le_of_ble_eq_true rfl) rfl h8 (fun v10 σ10 h10 => ?_)
          exact r_zret ok21 31 rfl rfl rfl h10.1 h10.2
      · have h6 := h5.2 c6
        refine r_aload_n ok21 21 rfl rfl rfl ?_
        refine r_invVi (as := []) (S := []) ok21 22 rfl rfl mf24 rfl rfl (Nat.le_of_ble_eq_true rfl) rfl h6 (fun v11 σ11 h11 => ?_)
        exact r_zret ok21 23 rfl rfl rfl h11.1 h11.2
    · have h4 := h3.2 c4
      refine r_aload_n ok21 13 rfl rfl rfl ?_
      refine r_invVi (as := []) (S := []) ok21 14 rfl rfl mf23 rfl rfl (Nat.le_of_ble_eq_true rfl) rfl h4 (fun v12 σ12 h12 => ?_)
      exact r_zret ok21 15 rfl rfl rfl h12.1 h12.2
  · have h2 := h1.2 c2
    refine r_aload_n ok21 5 rfl rfl rfl ?_
    refine r_invVi (as := []) (S := []) ok21 6 rfl rfl mf22 rfl rfl (Nat.le_of_ble_eq_true rfl) rfl h2 (fun v13 σ13 h13 => ?_)
    exact r_zret ok21 7 rfl rfl rfl h13.1 h13.2

theorem K21 {Θ : Th} {d : Nat} {σ : Mem} {Q : Po} (h : G Θ (d + 1) 21 0 [some (.ref 9)] [] σ Q) : Cm Θ (d + 1) 21 [.ref 9] σ Q :=
  C_of_G okM21 (Nat.le_of_ble_eq_true rfl) rfl h

-- 22: LikeYears$BookReader.readMark()Z
set_option maxRecDepth 100000 in
set_option maxHeartbeats 4000000 in
theorem B22_0 {Θ : Th} {d : Nat} {σ : Mem} {Q : Po} 
    (h : (σ.2.2 9 2 ≠ 0 ∧ (shq (σ.2.2 9 2)).1 = 1 ∧ (((σ.1 (σ.2.2 9 2) 0) < 6 → Cv Θ d 102 [.ref 1] σ (fun σ3 => Cl Θ d 28 [.ref 9] σ3 (fun v4 σ4 => ((¬ (lg_cmp v4 0) = 0 → Ci Θ d 116 [.ref 1, .long 29807, .int 1, .int 11] σ4 (fun v6 σ6 => ((v6 < 0 → Q (some (.int 0)) σ6) ∧ (¬ v6 < 0 → Ci Θ d 114 [.ref 1, .int 59] σ6 (fun v8 σ8 => ((¬ v8 = 0 → (σ8.2.2 9 2 ≠ 0 ∧ (shq (σ8.2.2 9 2)).1 = 1 ∧ Cv Θ d 7 [.ref (σ8.2.2 9 2), .long v4, .int v6] σ8 (fun σ11 => Q (some (.int 1)) σ11))) ∧ (v8 = 0 → Q (some (.int 0)) σ8))))))) ∧ ((lg_cmp v4 0) = 0 → Q (some (.int 0)) σ4))))) ∧ (¬ (σ.1 (σ.2.2 9 2) 0) < 6 → Ci Θ d 109 [.ref 1, .int 2] σ (fun v12 σ12 => ((v12 = 0 ∨ v12 = 1) ∧ Q (some (.int v12)) σ12)))))) :
    G Θ (d + 1) 22 0 [some (.ref 9), none, none, none] [] σ Q := by
  refine r_aload_n ok22 0 rfl rfl rfl ?_
  obtain ⟨c1, s1, h1⟩ := h
  refine r_getR ok22 1 rfl rfl rfl rfl c1 ?_
  refine r_getI ok22 2 rfl rfl s1 rfl ?_
  refine r_bipush (v := 6) ok22 3 rfl rfl rfl ?_
  refine r_icmp_lt ok22 4 rfl rfl (fun c2 => ?_) (fun c2 => ?_)
  · have h2 := h1.1 c2
    refine r_aload_n ok22 10 rfl rfl rfl ?_
    refine r_getA ok22 11 rfl rfl rfl rfl ?_
    refine r_invVv (as := []) (S := []) ok22 12 rfl rfl mf102 rfl rfl (Nat.le_of_ble_eq_true rfl) rfl h2 (fun σ3 h3 => ?_)
    refine r_aload_n ok22 13 rfl rfl rfl ?_
    refine r_invVl (as := []) (S := []) ok22 14 rfl rfl mf28 rfl rfl (Nat.le_of_ble_eq_true rfl) rfl h3 (fun v4 σ4 h4 => ?_)
    refine r_lstore_n ok22 15 rfl rfl ?_
    refine r_lload_n ok22 16 rfl rfl rfl ?_
    refine r_lconst (v := 0) ok22 17 rfl rfl rfl ?_
    refine r_lcmp ok22 18 rfl rfl ?_
    refine r_if_ne ok22 19 rfl rfl (fun c5 => ?_) (fun c5 => ?_)
    · have h5 := h4.1 c5
      refine r_aload_n ok22 22 rfl rfl rfl ?_
      refine r_getA ok22 23 rfl rfl rfl rfl ?_
      refine r_ldc2_w (v := 29807) ok22 24 rfl rfl rfl ?_
      refine r_iconst (v := 1) ok22 25 rfl rfl rfl ?_
      refine r_bipush (v := 11) ok22 26 rfl rfl rfl ?_
      refine r_invVi (as := [.long 29807, .int 1, .int 11]) (S := []) ok22 27 rfl rfl mf116 rfl rfl (Nat.le_of_ble_eq_true rfl) rfl h5 (fun v6 σ6 h6 => ?_)
      refine r_istore_n ok22 28 rfl rfl ?_
      refine r_iload_n ok22 29 rfl rfl rfl ?_
      refine r_if_lt ok22 30 rfl rfl (fun c7 => ?_) (fun c7 => ?_)
      · have h7 := h6.1 c7
        refine r_iconst (v := 0) ok22 36 rfl rfl rfl ?_
        exact r_zret ok22 37 rfl rfl rfl (Or.inl rfl) h7
      · have h7 := h6.2 c7
        refine r_aload_n ok22 31 rfl rfl rfl ?_
        refine r_getA ok22 32 rfl rfl rfl rfl ?_
        refine r_bipush (v := 59) ok22 33 rfl rfl rfl ?_
        refine r_invVi (as := [.int 59]) (S := []) ok22 34 rfl rfl mf114 rfl rfl (Nat.le_of_ble_eq_true rfl) rfl h7 (fun v8 σ8 h8 => ?_)
        refine r_if_ne ok22 35 rfl rfl (fun c9 => ?_) (fun c9 => ?_)
        · have h9 := h8.1 c9
          refine r_aload_n ok22 38 rfl rfl rfl ?_
          obtain ⟨c10, s10, h10⟩ := h9
          refine r_getR ok22 39 rfl rfl rfl rfl c10 ?_
          refine r_lload_n ok22 40 rfl rfl rfl ?_
          refine r_iload_n ok22 41 rfl rfl rfl ?_
          refine r_invVv (as := [.long v4, .int v6]) (S := []) ok22 42 rfl rfl mf7 s10 rfl (Nat.le_of_ble_eq_true rfl) rfl h10 (fun σ11 h11 => ?_)
          refine r_iconst (v := 1) ok22 43 rfl rfl rfl ?_
          exact r_zret ok22 44 rfl rfl rfl (Or.inr rfl) h11
        · have h9 := h8.2 c9
          refine r_iconst (v := 0) ok22 36 rfl rfl rfl ?_
          exact r_zret ok22 37 rfl rfl rfl (Or.inl rfl) h9
    · have h5 := h4.2 c5
      refine r_iconst (v := 0) ok22 20 rfl rfl rfl ?_
      exact r_zret ok22 21 rfl rfl rfl (Or.inl rfl) h5
  · have h2 := h1.2 c2
    refine r_aload_n ok22 5 rfl rfl rfl ?_
    refine r_getA ok22 6 rfl rfl rfl rfl ?_
    refine r_iconst (v := 2) ok22 7 rfl rfl rfl ?_
    refine r_invVi (as := [.int 2]) (S := []) ok22 8 rfl rfl mf109 rfl rfl (Nat.le_of_ble_eq_true rfl) rfl h2 (fun v12 σ12 h12 => ?_)
    exact r_zret ok22 9 rfl rfl rfl h12.1 h12.2

theorem K22 {Θ : Th} {d : Nat} {σ : Mem} {Q : Po} (h : G Θ (d + 1) 22 0 [some (.ref 9), none, none, none] [] σ Q) : Cm Θ (d + 1) 22 [.ref 9] σ Q :=
  C_of_G okM22 (Nat.le_of_ble_eq_true rfl) rfl h

-- 23: LikeYears$BookReader.readNever()Z
set_option maxRecDepth 100000 in
set_option maxHeartbeats 4000000 in
theorem B23_0 {Θ : Th} {d : Nat} {σ : Mem} {Q : Po} 
    (h : Cv Θ d 102 [.ref 1] σ (fun σ1 => Ci Θ d 29 [.ref 9] σ1 (fun v2 σ2 => ((0 ≤ v2 → (σ2.2.2 9 2 ≠ 0 ∧ (shq (σ2.2.2 9 2)).1 = 1 ∧ Ci Θ d 14 [.ref (σ2.2.2 9 2), .int v2] σ2 (fun v5 σ5 => ((¬ v5 = 0 → Cv Θ d 102 [.ref 1] σ5 (fun σ7 => (σ7.2.2 9 2 ≠ 0 ∧ (shq (σ7.2.2 9 2)).1 = 1 ∧ Ci Θ d 114 [.ref 1, .int 59] (sI σ7 (σ7.2.2 9 2) 3 ((σ7.1 (σ7.2.2 9 2) 3) &&& (((1 : Int32) <<< (v2 &&& 31)) ^^^ (-1)))) (fun v9 σ9 => ((v9 = 0 ∨ v9 = 1) ∧ Q (some (.int v9)) σ9))))) ∧ (v5 = 0 → Ci Θ d 109 [.ref 1, .int 3] σ5 (fun v10 σ10 => ((v10 = 0 ∨ v10 = 1) ∧ Q (some (.int v10)) σ10))))))) ∧ (¬ 0 ≤ v2 → Q (some (.int 0)) σ2))))) :
    G Θ (d + 1) 23 0 [some (.ref 9), none] [] σ Q := by
  refine r_aload_n ok23 0 rfl rfl rfl ?_
  refine r_getA ok23 1 rfl rfl rfl rfl ?_
  refine r_invVv (as := []) (S := []) ok23 2 rfl rfl mf102 rfl rfl (Nat.le_of_ble_eq_true rfl) rfl h (fun σ1 h1 => ?_)
  refine r_aload_n ok23 3 rfl rfl rfl ?_
  refine r_invVi (as := []) (S := []) ok23 4 rfl rfl mf29 rfl rfl (Nat.le_of_ble_eq_true rfl) rfl h1 (fun v2 σ2 h2 => ?_)
  refine r_istore_n ok23 5 rfl rfl ?_
  refine r_iload_n ok23 6 rfl rfl rfl ?_
  refine r_if_ge ok23 7 rfl rfl (fun c3 => ?_) (fun c3 => ?_)
  · have h3 := h2.1 c3
    refine r_aload_n ok23 10 rfl rfl rfl ?_
    obtain ⟨c4, s4, h4⟩ := h3
    refine r_getR ok23 11 rfl rfl rfl rfl c4 ?_
    refine r_iload_n ok23 12 rfl rfl rfl ?_
    refine r_invVi (as := [.int v2]) (S := []) ok23 13 rfl rfl mf14 s4 rfl (Nat.le_of_ble_eq_true rfl) rfl h4 (fun v5 σ5 h5 => ?_)
    refine r_if_ne ok23 14 rfl rfl (fun c6 => ?_) (fun c6 => ?_)
    · have h6 := h5.1 c6
      refine r_aload_n ok23 20 rfl rfl rfl ?_
      refine r_getA ok23 21 rfl rfl rfl rfl ?_
      refine r_invVv (as := []) (S := []) ok23 22 rfl rfl mf102 rfl rfl (Nat.le_of_ble_eq_true rfl) rfl h6 (fun σ7 h7 => ?_)
      refine r_aload_n ok23 23 rfl rfl rfl ?_
      obtain ⟨c8, s8, h8⟩ := h7
      refine r_getR ok23 24 rfl rfl rfl rfl c8 ?_
      refine r_dup ok23 25 rfl rfl rfl ?_
      refine r_getI ok23 26 rfl rfl s8 rfl ?_
      refine r_iconst (v := 1) ok23 27 rfl rfl rfl ?_
      refine r_iload_n ok23 28 rfl rfl rfl ?_
      refine r_ishl ok23 29 rfl rfl ?_
      refine r_iconst (v := (-1)) ok23 30 rfl rfl rfl ?_
      refine r_ixor ok23 31 rfl rfl ?_
      refine r_iand ok23 32 rfl rfl ?_
      refine r_putI ok23 33 rfl rfl s8 rfl ?_
      refine r_aload_n ok23 34 rfl rfl rfl ?_
      refine r_getA ok23 35 rfl rfl rfl rfl ?_
      refine r_bipush (v := 59) ok23 36 rfl rfl rfl ?_
      refine r_invVi (as := [.int 59]) (S := []) ok23 37 rfl rfl mf114 rfl rfl (Nat.le_of_ble_eq_true rfl) rfl h8 (fun v9 σ9 h9 => ?_)
      exact r_zret ok23 38 rfl rfl rfl h9.1 h9.2
    · have h6 := h5.2 c6
      refine r_aload_n ok23 15 rfl rfl rfl ?_
      refine r_getA ok23 16 rfl rfl rfl rfl ?_
      refine r_iconst (v := 3) ok23 17 rfl rfl rfl ?_
      refine r_invVi (as := [.int 3]) (S := []) ok23 18 rfl rfl mf109 rfl rfl (Nat.le_of_ble_eq_true rfl) rfl h6 (fun v10 σ10 h10 => ?_)
      exact r_zret ok23 19 rfl rfl rfl h10.1 h10.2
  · have h3 := h2.2 c3
    refine r_iconst (v := 0) ok23 8 rfl rfl rfl ?_
    exact r_zret ok23 9 rfl rfl rfl (Or.inl rfl) h3

theorem K23 {Θ : Th} {d : Nat} {σ : Mem} {Q : Po} (h : G Θ (d + 1) 23 0 [some (.ref 9), none] [] σ Q) : Cm Θ (d + 1) 23 [.ref 9] σ Q :=
  C_of_G okM23 (Nat.le_of_ble_eq_true rfl) rfl h

-- 24: LikeYears$BookReader.readCase()Z
set_option maxRecDepth 100000 in
set_option maxHeartbeats 4000000 in
theorem B24_0 {Θ : Th} {d : Nat} {σ : Mem} {Q : Po} 
    (h : (σ.2.2 9 2 ≠ 0 ∧ (shq (σ.2.2 9 2)).1 = 1 ∧ (((σ.1 (σ.2.2 9 2) 4) < 16 → Cv Θ d 102 [.ref 1] σ (fun σ3 => Cl Θ d 28 [.ref 9] σ3 (fun v4 σ4 => (((lg_cmp v4 0) = 0 → Q (some (.int 0)) σ4) ∧ (¬ (lg_cmp v4 0) = 0 → Ci Θ d 25 [.ref 9] σ4 (fun v6 σ6 => ((v6 = 0 → Q (some (.int 0)) σ6) ∧ (¬ v6 = 0 → Ci Θ d 26 [.ref 9] σ6 (fun v8 σ8 => ((¬ v8 = 0 → (σ8.2.2 9 2 ≠ 0 ∧ (shq (σ8.2.2 9 2)).1 = 1 ∧ (vp_in (σ8.1 (σ8.2.2 9 2) 4) 16 ∧ ((sL σ8 10 ((σ8.1 (σ8.2.2 9 2) 4).toNatClampNeg) v4).2.2 9 2 ≠ 0 ∧ (shq ((sL σ8 10 ((σ8.1 (σ8.2.2 9 2) 4).toNatClampNeg) v4).2.2 9 2)).1 = 1 ∧ Q (some (.int 1)) (sI (sL σ8 10 ((σ8.1 (σ8.2.2 9 2) 4).toNatClampNeg) v4) ((sL σ8 10 ((σ8.1 (σ8.2.2 9 2) 4).toNatClampNeg) v4).2.2 9 2) 4 (((sL σ8 10 ((σ8.1 (σ8.2.2 9 2) 4).toNatClampNeg) v4).1 ((sL σ8 10 ((σ8.1 (σ8.2.2 9 2) 4).toNatClampNeg) v4).2.2 9 2) 4) + 1)))))) ∧ (v8 = 0 → Q (some (.int 0)) σ8))))))))))) ∧ (¬ (σ.1 (σ.2.2 9 2) 4) < 16 → Ci Θ d 109 [.ref 1, .int 2] σ (fun v13 σ13 => ((v13 = 0 ∨ v13 = 1) ∧ Q (some (.int v13)) σ13)))))) :
    G Θ (d + 1) 24 0 [some (.ref 9), none, none] [] σ Q := by
  refine r_aload_n ok24 0 rfl rfl rfl ?_
  obtain ⟨c1, s1, h1⟩ := h
  refine r_getR ok24 1 rfl rfl rfl rfl c1 ?_
  refine r_getI ok24 2 rfl rfl s1 rfl ?_
  refine r_bipush (v := 16) ok24 3 rfl rfl rfl ?_
  refine r_icmp_lt ok24 4 rfl rfl (fun c2 => ?_) (fun c2 => ?_)
  · have h2 := h1.1 c2
    refine r_aload_n ok24 10 rfl rfl rfl ?_
    refine r_getA ok24 11 rfl rfl rfl rfl ?_
    refine r_invVv (as := []) (S := []) ok24 12 rfl rfl mf102 rfl rfl (Nat.le_of_ble_eq_true rfl) rfl h2 (fun σ3 h3 => ?_)
    refine r_aload_n ok24 13 rfl rfl rfl ?_
    refine r_invVl (as := []) (S := []) ok24 14 rfl rfl mf28 rfl rfl (Nat.le_of_ble_eq_true rfl) rfl h3 (fun v4 σ4 h4 => ?_)
    refine r_lstore_n ok24 15 rfl rfl ?_
    refine r_lload_n ok24 16 rfl rfl rfl ?_
    refine r_lconst (v := 0) ok24 17 rfl rfl rfl ?_
    refine r_lcmp ok24 18 rfl rfl ?_
    refine r_if_eq ok24 19 rfl rfl (fun c5 => ?_) (fun c5 => ?_)
    · have h5 := h4.1 c5
      refine r_iconst (v := 0) ok24 26 rfl rfl rfl ?_
      exact r_zret ok24 27 rfl rfl rfl (Or.inl rfl) h5
    · have h5 := h4.2 c5
      refine r_aload_n ok24 20 rfl rfl rfl ?_
      refine r_invVi (as := []) (S := []) ok24 21 rfl rfl mf25 rfl rfl (Nat.le_of_ble_eq_true rfl) rfl h5 (fun v6 σ6 h6 => ?_)
      refine r_if_eq ok24 22 rfl rfl (fun c7 => ?_) (fun c7 => ?_)
      · have h7 := h6.1 c7
        refine r_iconst (v := 0) ok24 26 rfl rfl rfl ?_
        exact r_zret ok24 27 rfl rfl rfl (Or.inl rfl) h7
      · have h7 := h6.2 c7
        refine r_aload_n ok24 23 rfl rfl rfl ?_
        refine r_invVi (as := []) (S := []) ok24 24 rfl rfl mf26 rfl rfl (Nat.le_of_ble_eq_true rfl) rfl h7 (fun v8 σ8 h8 => ?_)
        refine r_if_ne ok24 25 rfl rfl (fun c9 => ?_) (fun c9 => ?_)
        · have h9 := h8.1 c9
          refine r_aload_n ok24 28 rfl rfl rfl ?_
          refine r_getF ok24 29 rfl rfl rfl rfl ?_
          refine r_aload_n ok24 30 rfl rfl rfl ?_
          obtain ⟨c10, s10, h10⟩ := h9
          refine r_getR ok24 31 rfl rfl rfl rfl c10 ?_
          refine r_getI ok24 32 rfl rfl s10 rfl ?_
          refine r_lload_n ok24 33 rfl rfl rfl ?_
          obtain ⟨c11, h11⟩ := h10
          refine r_last ok24 34 rfl rfl rfl c11 ?_
          refine r_aload_n ok24 35 rfl rfl rfl ?_
          obtain ⟨c12, s12, h12⟩ := h11
          refine r_getR ok24 36 rfl rfl rfl rfl c12 ?_
          refine r_dup ok24 37 rfl rfl rfl ?_
          refine r_getI ok24 38 rfl rfl s12 rfl ?_
          refine r_iconst (v := 1) ok24 39 rfl rfl rfl ?_
          refine r_iadd ok24 40 rfl rfl ?_
          refine r_putI ok24 41 rfl rfl s12 rfl ?_
          refine r_iconst (v := 1) ok24 42 rfl rfl rfl ?_
          exact r_zret ok24 43 rfl rfl rfl (Or.inr rfl) h12
        · have h9 := h8.2 c9
          refine r_iconst (v := 0) ok24 26 rfl rfl rfl ?_
          exact r_zret ok24 27 rfl rfl rfl (Or.inl rfl) h9
  · have h2 := h1.2 c2
    refine r_aload_n ok24 5 rfl rfl rfl ?_
    refine r_getA ok24 6 rfl rfl rfl rfl ?_
    refine r_iconst (v := 2) ok24 7 rfl rfl rfl ?_
    refine r_invVi (as := [.int 2]) (S := []) ok24 8 rfl rfl mf109 rfl rfl (Nat.le_of_ble_eq_true rfl) rfl h2 (fun v13 σ13 h13 => ?_)
    exact r_zret ok24 9 rfl rfl rfl h13.1 h13.2

theorem K24 {Θ : Th} {d : Nat} {σ : Mem} {Q : Po} (h : G Θ (d + 1) 24 0 [some (.ref 9), none, none] [] σ Q) : Cm Θ (d + 1) 24 [.ref 9] σ Q :=
  C_of_G okM24 (Nat.le_of_ble_eq_true rfl) rfl h

-- 25: LikeYears$BookReader.readFacts()Z
set_option maxRecDepth 100000 in
set_option maxHeartbeats 4000000 in
theorem B25_0 {Θ : Th} {d : Nat} {σ : Mem} {Q : Po} 
    (h : Ci Θ d 116 [.ref 1, .long 457236047717, .int 0, .int 9] σ (fun v1 σ1 => ((0 ≤ v1 → Ci Θ d 116 [.ref 1, .long 26990, .int 0, .int 99] σ1 (fun v3 σ3 => ((0 ≤ v3 → Ci Θ d 116 [.ref 1, .long 444150998382, .int 0, .int 240] σ3 (fun v5 σ5 => ((0 ≤ v5 → Ci Θ d 116 [.ref 1, .long 131277443786868, .int 1, .int 4] σ5 (fun v7 σ7 => ((0 ≤ v7 → (σ7.2.2 9 2 ≠ 0 ∧ (shq (σ7.2.2 9 2)).1 = 1 ∧ (σ7.2.2 9 2 ≠ 0 ∧ (shq (σ7.2.2 9 2)).1 = 1 ∧ Cv Θ d 9 [.ref (σ7.2.2 9 2), .int (σ7.1 (σ7.2.2 9 2) 4), .int v1, .int v3, .int v5, .int v7] σ7 (fun σ11 => Q (some (.int 1)) σ11)))) ∧ (¬ 0 ≤ v7 → Q (some (.int 0)) σ7)))) ∧ (¬ 0 ≤ v5 → Q (some (.int 0)) σ5)))) ∧ (¬ 0 ≤ v3 → Q (some (.int 0)) σ3)))) ∧ (¬ 0 ≤ v1 → Q (some (.int 0)) σ1)))) :
    G Θ (d + 1) 25 0 [some (.ref 9), none, none, none, none] [] σ Q := by
  refine r_aload_n ok25 0 rfl rfl rfl ?_
  refine r_getA ok25 1 rfl rfl rfl rfl ?_
  refine r_ldc2_w (v := 457236047717) ok25 2 rfl rfl rfl ?_
  refine r_iconst (v := 0) ok25 3 rfl rfl rfl ?_
  refine r_bipush (v := 9) ok25 4 rfl rfl rfl ?_
  refine r_invVi (as := [.long 457236047717, .int 0, .int 9]) (S := []) ok25 5 rfl rfl mf116 rfl rfl (Nat.le_of_ble_eq_true rfl) rfl h (fun v1 σ1 h1 => ?_)
  refine r_istore_n ok25 6 rfl rfl ?_
  refine r_iload_n ok25 7 rfl rfl rfl ?_
  refine r_if_ge ok25 8 rfl rfl (fun c2 => ?_) (fun c2 => ?_)
  · have h2 := h1.1 c2
    refine r_aload_n ok25 11 rfl rfl rfl ?_
    refine r_getA ok25 12 rfl rfl rfl rfl ?_
    refine r_ldc2_w (v := 26990) ok25 13 rfl rfl rfl ?_
    refine r_iconst (v := 0) ok25 14 rfl rfl rfl ?_
    refine r_bipush (v := 99) ok25 15 rfl rfl rfl ?_
    refine r_invVi (as := [.long 26990, .int 0, .int 99]) (S := []) ok25 16 rfl rfl mf116 rfl rfl (Nat.le_of_ble_eq_true rfl) rfl h2 (fun v3 σ3 h3 => ?_)
    refine r_istore_n ok25 17 rfl rfl ?_
    refine r_iload_n ok25 18 rfl rfl rfl ?_
    refine r_if_ge ok25 19 rfl rfl (fun c4 => ?_) (fun c4 => ?_)
    · have h4 := h3.1 c4
      refine r_aload_n ok25 22 rfl rfl rfl ?_
      refine r_getA ok25 23 rfl rfl rfl rfl ?_
      refine r_ldc2_w (v := 444150998382) ok25 24 rfl rfl rfl ?_
      refine r_iconst (v := 0) ok25 25 rfl rfl rfl ?_
      refine r_sipush (v := 240) ok25 26 rfl rfl rfl ?_
      refine r_invVi (as := [.long 444150998382, .int 0, .int 240]) (S := []) ok25 27 rfl rfl mf116 rfl rfl (Nat.le_of_ble_eq_true rfl) rfl h4 (fun v5 σ5 h5 => ?_)
      refine r_istore_n ok25 28 rfl rfl ?_
      refine r_iload_n ok25 29 rfl rfl rfl ?_
      refine r_if_ge ok25 30 rfl rfl (fun c6 => ?_) (fun c6 => ?_)
      · have h6 := h5.1 c6
        refine r_aload_n ok25 33 rfl rfl rfl ?_
        refine r_getA ok25 34 rfl rfl rfl rfl ?_
        refine r_ldc2_w (v := 131277443786868) ok25 35 rfl rfl rfl ?_
        refine r_iconst (v := 1) ok25 36 rfl rfl rfl ?_
        refine r_iconst (v := 4) ok25 37 rfl rfl rfl ?_
        refine r_invVi (as := [.long 131277443786868, .int 1, .int 4]) (S := []) ok25 38 rfl rfl mf116 rfl rfl (Nat.le_of_ble_eq_true rfl) rfl h6 (fun v7 σ7 h7 => ?_)
        refine r_istore ok25 39 rfl rfl ?_
        refine r_iload ok25 40 rfl rfl rfl ?_
        refine r_if_ge ok25 41 rfl rfl (fun c8 => ?_) (fun c8 => ?_)
        · have h8 := h7.1 c8
          refine r_aload_n ok25 44 rfl rfl rfl ?_
          obtain ⟨c9, s9, h9⟩ := h8
          refine r_getR ok25 45 rfl rfl rfl rfl c9 ?_
          refine r_aload_n ok25 46 rfl rfl rfl ?_
          obtain ⟨c10, s10, h10⟩ := h9
          refine r_getR ok25 47 rfl rfl rfl rfl c10 ?_
          refine r_getI ok25 48 rfl rfl s10 rfl ?_
          refine r_iload_n ok25 49 rfl rfl rfl ?_
          refine r_iload_n ok25 50 rfl rfl rfl ?_
          refine r_iload_n ok25 51 rfl rfl rfl ?_
          refine r_iload ok25 52 rfl rfl rfl ?_
          refine r_invVv (as := [.int (σ7.1 (σ7.2.2 9 2) 4), .int v1, .int v3, .int v5, .int v7]) (S := []) ok25 53 rfl rfl mf9 s9 rfl (Nat.le_of_ble_eq_true rfl) rfl h10 (fun σ11 h11 => ?_)
          refine r_iconst (v := 1) ok25 54 rfl rfl rfl ?_
          exact r_zret ok25 55 rfl rfl rfl (Or.inr rfl) h11
        · have h8 := h7.2 c8
          refine r_iconst (v := 0) ok25 42 rfl rfl rfl ?_
          exact r_zret ok25 43 rfl rfl rfl (Or.inl rfl) h8
      · have h6 := h5.2 c6
        refine r_iconst (v := 0) ok25 31 rfl rfl rfl ?_
        exact r_zret ok25 32 rfl rfl rfl (Or.inl rfl) h6
    · have h4 := h3.2 c4
      refine r_iconst (v := 0) ok25 20 rfl rfl rfl ?_
      exact r_zret ok25 21 rfl rfl rfl (Or.inl rfl) h4
  · have h2 := h1.2 c2
    refine r_iconst (v := 0) ok25 9 rfl rfl rfl ?_
    exact r_zret ok25 10 rfl rfl rfl (Or.inl rfl) h2

theorem K25 {Θ : Th} {d : Nat} {σ : Mem} {Q : Po} (h : G Θ (d + 1) 25 0 [some (.ref 9), none, none, none, none] [] σ Q) : Cm Θ (d + 1) 25 [.ref 9] σ Q :=
  C_of_G okM25 (Nat.le_of_ble_eq_true rfl) rfl h

-- 26: LikeYears$BookReader.readSteps()Z
set_option maxRecDepth 100000 in
set_option maxHeartbeats 4000000 in
theorem B26_0 {Θ : Th} {d : Nat} {σ : Mem} {Q : Po} 
    (h : G Θ (d + 1) 26 4 [some (.ref 9), some (.int 0), some (.int 0), none, none] [] σ Q) :
    G Θ (d + 1) 26 0 [some (.ref 9), none, none, none, none] [] σ Q := by
  refine r_iconst (v := 0) ok26 0 rfl rfl rfl ?_
  refine r_istore_n ok26 1 rfl rfl ?_
  refine r_iconst (v := 0) ok26 2 rfl rfl rfl ?_
  refine r_istore_n ok26 3 rfl rfl ?_
  exact h

set_option maxRecDepth 100000 in
set_option maxHeartbeats 4000000 in
theorem B26_4 {Θ : Th} {d : Nat} {σ : Mem} {Q : Po} {x1 : Int32} {x2 : Int32} 
    (h : ((6 < x2 → Ci Θ d 114 [.ref 1, .int 59] σ (fun v2 σ2 => ((v2 = 0 ∨ v2 = 1) ∧ Q (some (.int v2)) σ2))) ∧ (¬ 6 < x2 → Ci Θ d 111 [.ref 1, .int 59] σ (fun v3 σ3 => ((¬ v3 = 0 → Ci Θ d 114 [.ref 1, .int 59] σ3 (fun v5 σ5 => ((v5 = 0 ∨ v5 = 1) ∧ Q (some (.int v5)) σ5))) ∧ (v3 = 0 → Ci Θ d 29 [.ref 9] σ3 (fun v6 σ6 => ((0 ≤ v6 → ((((x1 >>> (v6 &&& 31)) &&& 1) = 0 → Cv Θ d 102 [.ref 1] σ6 (fun σ9 => (σ9.2.2 9 2 ≠ 0 ∧ (shq (σ9.2.2 9 2)).1 = 1 ∧ (vp_in v6 6 ∧ Ci Θ d 115 [.ref 1, .int 0, .int (σ9.1 (σ9.2.2 9 2 + 2) v6.toNatClampNeg)] σ9 (fun v12 σ12 => ((0 ≤ v12 → (σ12.2.2 9 2 ≠ 0 ∧ (shq (σ12.2.2 9 2)).1 = 1 ∧ (σ12.2.2 9 2 ≠ 0 ∧ (shq (σ12.2.2 9 2)).1 = 1 ∧ Cv Θ d 16 [.ref (σ12.2.2 9 2), .int (σ12.1 (σ12.2.2 9 2) 4), .int v6, .int v12] σ12 (fun σ16 => G Θ (d + 1) 26 4 [some (.ref 9), some (.int (x1 ||| ((1 : Int32) <<< (v6 &&& 31)))), some (.int (x2 + 1)), none, none] [] σ16 Q)))) ∧ (¬ 0 ≤ v12 → Q (some (.int 0)) σ12))))))) ∧ (¬ ((x1 >>> (v6 &&& 31)) &&& 1) = 0 → Ci Θ d 109 [.ref 1, .int 3] σ6 (fun v17 σ17 => ((v17 = 0 ∨ v17 = 1) ∧ Q (some (.int v17)) σ17))))) ∧ (¬ 0 ≤ v6 → Q (some (.int 0)) σ6))))))))) :
    G Θ (d + 1) 26 4 [some (.ref 9), some (.int x1), some (.int x2), none, none] [] σ Q := by
  refine r_iload_n ok26 4 rfl rfl rfl ?_
  refine r_bipush (v := 6) ok26 5 rfl rfl rfl ?_
  refine r_icmp_gt ok26 6 rfl rfl (fun c1 => ?_) (fun c1 => ?_)
  · have h1 := h.1 c1
    refine r_aload_n ok26 63 rfl rfl rfl ?_
    refine r_getA ok26 64 rfl rfl rfl rfl ?_
    refine r_bipush (v := 59) ok26 65 rfl rfl rfl ?_
    refine r_invVi (as := [.int 59]) (S := []) ok26 66 rfl rfl mf114 rfl rfl (Nat.le_of_ble_eq_true rfl) rfl h1 (fun v2 σ2 h2 => ?_)
    exact r_zret ok26 67 rfl rfl rfl h2.1 h2.2
  · have h1 := h.2 c1
    refine r_aload_n ok26 7 rfl rfl rfl ?_
    refine r_getA ok26 8 rfl rfl rfl rfl ?_
    refine r_bipush (v := 59) ok26 9 rfl rfl rfl ?_
    refine r_invVi (as := [.int 59]) (S := []) ok26 10 rfl rfl mf111 rfl rfl (Nat.le_of_ble_eq_true rfl) rfl h1 (fun v3 σ3 h3 => ?_)
    refine r_if_ne ok26 11 rfl rfl (fun c4 => ?_) (fun c4 => ?_)
    · have h4 := h3.1 c4
      refine r_aload_n ok26 63 rfl rfl rfl ?_
      refine r_getA ok26 64 rfl rfl rfl rfl ?_
      refine r_bipush (v := 59) ok26 65 rfl rfl rfl ?_
      refine r_invVi (as := [.int 59]) (S := []) ok26 66 rfl rfl mf114 rfl rfl (Nat.le_of_ble_eq_true rfl) rfl h4 (fun v5 σ5 h5 => ?_)
      exact r_zret ok26 67 rfl rfl rfl h5.1 h5.2
    · have h4 := h3.2 c4
      refine r_aload_n ok26 12 rfl rfl rfl ?_
      refine r_invVi (as := []) (S := []) ok26 13 rfl rfl mf29 rfl rfl (Nat.le_of_ble_eq_true rfl) rfl h4 (fun v6 σ6 h6 => ?_)
      refine r_istore_n ok26 14 rfl rfl ?_
      refine r_iload_n ok26 15 rfl rfl rfl ?_
      refine r_if_ge ok26 16 rfl rfl (fun c7 => ?_) (fun c7 => ?_)
      · have h7 := h6.1 c7
        refine r_iload_n ok26 19 rfl rfl rfl ?_
        refine r_iload_n ok26 20 rfl rfl rfl ?_
        refine r_ishr ok26 21 rfl rfl ?_
        refine r_iconst (v := 1) ok26 22 rfl rfl rfl ?_
        refine r_iand ok26 23 rfl rfl ?_
        refine r_if_eq ok26 24 rfl rfl (fun c8 => ?_) (fun c8 => ?_)
        · have h8 := h7.1 c8
          refine r_iload_n ok26 30 rfl rfl rfl ?_
          refine r_iconst (v := 1) ok26 31 rfl rfl rfl ?_
          refine r_iload_n ok26 32 rfl rfl rfl ?_
          refine r_ishl ok26 33 rfl rfl ?_
          refine r_ior ok26 34 rfl rfl ?_
          refine r_istore_n ok26 35 rfl rfl ?_
          refine r_aload_n ok26 36 rfl rfl rfl ?_
          refine r_getA ok26 37 rfl rfl rfl rfl ?_
          refine r_invVv (as := []) (S := []) ok26 38 rfl rfl mf102 rfl rfl (Nat.le_of_ble_eq_true rfl) rfl h8 (fun σ9 h9 => ?_)
          refine r_aload_n ok26 39 rfl rfl rfl ?_
          refine r_getA ok26 40 rfl rfl rfl rfl ?_
          refine r_iconst (v := 0) ok26 41 rfl rfl rfl ?_
          refine r_aload_n ok26 42 rfl rfl rfl ?_
          obtain ⟨c10, s10, h10⟩ := h9
          refine r_getR ok26 43 rfl rfl rfl rfl c10 ?_
          refine r_getF ok26 44 rfl rfl s10 rfl ?_
          refine r_iload_n ok26 45 rfl rfl rfl ?_
          obtain ⟨c11, h11⟩ := h10
          refine r_iald ok26 46 rfl rfl (rel_shp s10 (i := 5) rfl) c11 ?_
          refine r_invVi (as := [.int 0, .int (σ9.1 (σ9.2.2 9 2 + 2) v6.toNatClampNeg)]) (S := []) ok26 47 rfl rfl mf115 rfl rfl (Nat.le_of_ble_eq_true rfl) rfl h11 (fun v12 σ12 h12 => ?_)
          refine r_istore ok26 48 rfl rfl ?_
          refine r_iload ok26 49 rfl rfl rfl ?_
          refine r_if_ge ok26 50 rfl rfl (fun c13 => ?_) (fun c13 => ?_)
          · have h13 := h12.1 c13
            refine r_aload_n ok26 53 rfl rfl rfl ?_
            obtain ⟨c14, s14, h14⟩ := h13
            refine r_getR ok26 54 rfl rfl rfl rfl c14 ?_
            refine r_aload_n ok26 55 rfl rfl rfl ?_
            obtain ⟨c15, s15, h15⟩ := h14
            refine r_getR ok26 56 rfl rfl rfl rfl c15 ?_
            refine r_getI ok26 57 rfl rfl s15 rfl ?_
            refine r_iload_n ok26 58 rfl rfl rfl ?_
            refine r_iload ok26 59 rfl rfl rfl ?_
            refine r_invVv (as := [.int (σ12.1 (σ12.2.2 9 2) 4), .int v6, .int v12]) (S := []) ok26 60 rfl rfl mf16 s14 rfl (Nat.le_of_ble_eq_true rfl) rfl h15 (fun σ16 h16 => ?_)
            refine r_iinc (v := x2 + 1) ok26 61 rfl rfl rfl rfl ?_
            refine r_goto ok26 62 rfl rfl ?_
            exact G.weak (L' := [some (.ref 9), some (.int (x1 ||| ((1 : Int32) <<< (v6 &&& 31)))), some (.int (x2 + 1)), none, none]) ⟨rfl, ⟨rfl, ⟨rfl, trivial⟩⟩⟩ h16
          · have h13 := h12.2 c13
            refine r_iconst (v := 0) ok26 51 rfl rfl rfl ?_
            exact r_zret ok26 52 rfl rfl rfl (Or.inl rfl) h13
        · have h8 := h7.2 c8
          refine r_aload_n ok26 25 rfl rfl rfl ?_
          refine r_getA ok26 26 rfl rfl rfl rfl ?_
          refine r_iconst (v := 3) ok26 27 rfl rfl rfl ?_
          refine r_invVi (as := [.int 3]) (S := []) ok26 28 rfl rfl mf109 rfl rfl (Nat.le_of_ble_eq_true rfl) rfl h8 (fun v17 σ17 h17 => ?_)
          exact r_zret ok26 29 rfl rfl rfl h17.1 h17.2
      · have h7 := h6.2 c7
        refine r_iconst (v := 0) ok26 17 rfl rfl rfl ?_
        exact r_zret ok26 18 rfl rfl rfl (Or.inl rfl) h7

theorem K26 {Θ : Th} {d : Nat} {σ : Mem} {Q : Po} (h : G Θ (d + 1) 26 0 [some (.ref 9), none, none, none, none] [] σ Q) : Cm Θ (d + 1) 26 [.ref 9] σ Q :=
  C_of_G okM26 (Nat.le_of_ble_eq_true rfl) rfl h

-- 27: LikeYears$BookReader.readTold()Z
set_option maxRecDepth 100000 in
set_option maxHeartbeats 4000000 in
theorem B27_0 {Θ : Th} {d : Nat} {σ : Mem} {Q : Po} 
    (h : (σ.2.2 9 2 ≠ 0 ∧ (shq (σ.2.2 9 2)).1 = 1 ∧ (((σ.1 (σ.2.2 9 2) 10) < 20 → Cv Θ d 102 [.ref 1] σ (fun σ3 => Ci Θ d 30 [.ref 9] σ3 (fun v4 σ4 => ((v4 < 0 → Q (some (.int 0)) σ4) ∧ (¬ v4 < 0 → Ci Θ d 113 [.ref 1, .long 1870030194] σ4 (fun v6 σ6 => ((¬ v6 = 0 → (σ6.2.2 9 2 ≠ 0 ∧ (shq (σ6.2.2 9 2)).1 = 1 ∧ (vp_in (σ6.1 (σ6.2.2 9 2) 10) 20 ∧ Ci Θ d 30 [.ref 9] (sI σ6 11 ((σ6.1 (σ6.2.2 9 2) 10).toNatClampNeg) (σ6.1 1 4)) (fun v10 σ10 => ((v10 < 0 → Q (some (.int 0)) σ10) ∧ (¬ v10 < 0 → Ci Θ d 114 [.ref 1, .int 59] σ10 (fun v12 σ12 => ((¬ v12 = 0 → (σ12.2.2 9 2 ≠ 0 ∧ (shq (σ12.2.2 9 2)).1 = 1 ∧ Cv Θ d 8 [.ref (σ12.2.2 9 2), .int v4, .int v10] σ12 (fun σ15 => Q (some (.int 1)) σ15))) ∧ (v12 = 0 → Q (some (.int 0)) σ12))))))))) ∧ (v6 = 0 → Q (some (.int 0)) σ6)))))))) ∧ (¬ (σ.1 (σ.2.2 9 2) 10) < 20 → Ci Θ d 109 [.ref 1, .int 2] σ (fun v16 σ16 => ((v16 = 0 ∨ v16 = 1) ∧ Q (some (.int v16)) σ16)))))) :
    G Θ (d + 1) 27 0 [some (.ref 9), none, none] [] σ Q := by
  refine r_aload_n ok27 0 rfl rfl rfl ?_
  obtain ⟨c1, s1, h1⟩ := h
  refine r_getR ok27 1 rfl rfl rfl rfl c1 ?_
  refine r_getI ok27 2 rfl rfl s1 rfl ?_
  refine r_bipush (v := 20) ok27 3 rfl rfl rfl ?_
  refine r_icmp_lt ok27 4 rfl rfl (fun c2 => ?_) (fun c2 => ?_)
  · have h2 := h1.1 c2
    refine r_aload_n ok27 10 rfl rfl rfl ?_
    refine r_getA ok27 11 rfl rfl rfl rfl ?_
    refine r_invVv (as := []) (S := []) ok27 12 rfl rfl mf102 rfl rfl (Nat.le_of_ble_eq_true rfl) rfl h2 (fun σ3 h3 => ?_)
    refine r_aload_n ok27 13 rfl rfl rfl ?_
    refine r_invVi (as := []) (S := []) ok27 14 rfl rfl mf30 rfl rfl (Nat.le_of_ble_eq_true rfl) rfl h3 (fun v4 σ4 h4 => ?_)
    refine r_istore_n ok27 15 rfl rfl ?_
    refine r_iload_n ok27 16 rfl rfl rfl ?_
    refine r_if_lt ok27 17 rfl rfl (fun c5 => ?_) (fun c5 => ?_)
    · have h5 := h4.1 c5
      refine r_iconst (v := 0) ok27 23 rfl rfl rfl ?_
      exact r_zret ok27 24 rfl rfl rfl (Or.inl rfl) h5
    · have h5 := h4.2 c5
      refine r_aload_n ok27 18 rfl rfl rfl ?_
      refine r_getA ok27 19 rfl rfl rfl rfl ?_
      refine r_ldc2_w (v := 1870030194) ok27 20 rfl rfl rfl ?_
      refine r_invVi (as := [.long 1870030194]) (S := []) ok27 21 rfl rfl mf113 rfl rfl (Nat.le_of_ble_eq_true rfl) rfl h5 (fun v6 σ6 h6 => ?_)
      refine r_if_ne ok27 22 rfl rfl (fun c7 => ?_) (fun c7 => ?_)
      · have h7 := h6.1 c7
        refine r_aload_n ok27 25 rfl rfl rfl ?_
        refine r_getF ok27 26 rfl rfl rfl rfl ?_
        refine r_aload_n ok27 27 rfl rfl rfl ?_
        obtain ⟨c8, s8, h8⟩ := h7
        refine r_getR ok27 28 rfl rfl rfl rfl c8 ?_
        refine r_getI ok27 29 rfl rfl s8 rfl ?_
        refine r_aload_n ok27 30 rfl rfl rfl ?_
        refine r_getA ok27 31 rfl rfl rfl rfl ?_
        refine r_getI ok27 32 rfl rfl rfl rfl ?_
        obtain ⟨c9, h9⟩ := h8
        refine r_iast ok27 33 rfl rfl rfl c9 ?_
        refine r_aload_n ok27 34 rfl rfl rfl ?_
        refine r_invVi (as := []) (S := []) ok27 35 rfl rfl mf30 rfl rfl (Nat.le_of_ble_eq_true rfl) rfl h9 (fun v10 σ10 h10 => ?_)
        refine r_istore_n ok27 36 rfl rfl ?_
        refine r_iload_n ok27 37 rfl rfl rfl ?_
        refine r_if_lt ok27 38 rfl rfl (fun c11 => ?_) (fun c11 => ?_)
        · have h11 := h10.1 c11
          refine r_iconst (v := 0) ok27 44 rfl rfl rfl ?_
          exact r_zret ok27 45 rfl rfl rfl (Or.inl rfl) h11
        · have h11 := h10.2 c11
          refine r_aload_n ok27 39 rfl rfl rfl ?_
          refine r_getA ok27 40 rfl rfl rfl rfl ?_
          refine r_bipush (v := 59) ok27 41 rfl rfl rfl ?_
          refine r_invVi (as := [.int 59]) (S := []) ok27 42 rfl rfl mf114 rfl rfl (Nat.le_of_ble_eq_true rfl) rfl h11 (fun v12 σ12 h12 => ?_)
          refine r_if_ne ok27 43 rfl rfl (fun c13 => ?_) (fun c13 => ?_)
          · have h13 := h12.1 c13
            refine r_aload_n ok27 46 rfl rfl rfl ?_
            obtain ⟨c14, s14, h14⟩ := h13
            refine r_getR ok27 47 rfl rfl rfl rfl c14 ?_
            refine r_iload_n ok27 48 rfl rfl rfl ?_
            refine r_iload_n ok27 49 rfl rfl rfl ?_
            refine r_invVv (as := [.int v4, .int v10]) (S := []) ok27 50 rfl rfl mf8 s14 rfl (Nat.le_of_ble_eq_true rfl) rfl h14 (fun σ15 h15 => ?_)
            refine r_iconst (v := 1) ok27 51 rfl rfl rfl ?_
            exact r_zret ok27 52 rfl rfl rfl (Or.inr rfl) h15
          · have h13 := h12.2 c13
            refine r_iconst (v := 0) ok27 44 rfl rfl rfl ?_
            exact r_zret ok27 45 rfl rfl rfl (Or.inl rfl) h13
      · have h7 := h6.2 c7
        refine r_iconst (v := 0) ok27 23 rfl rfl rfl ?_
        exact r_zret ok27 24 rfl rfl rfl (Or.inl rfl) h7
  · have h2 := h1.2 c2
    refine r_aload_n ok27 5 rfl rfl rfl ?_
    refine r_getA ok27 6 rfl rfl rfl rfl ?_
    refine r_iconst (v := 2) ok27 7 rfl rfl rfl ?_
    refine r_invVi (as := [.int 2]) (S := []) ok27 8 rfl rfl mf109 rfl rfl (Nat.le_of_ble_eq_true rfl) rfl h2 (fun v16 σ16 h16 => ?_)
    exact r_zret ok27 9 rfl rfl rfl h16.1 h16.2

theorem K27 {Θ : Th} {d : Nat} {σ : Mem} {Q : Po} (h : G Θ (d + 1) 27 0 [some (.ref 9), none, none] [] σ Q) : Cm Θ (d + 1) 27 [.ref 9] σ Q :=
  C_of_G okM27 (Nat.le_of_ble_eq_true rfl) rfl h

-- 28: LikeYears$BookReader.passNewName()J
set_option maxRecDepth 100000 in
set_option maxHeartbeats 4000000 in
theorem B28_0 {Θ : Th} {d : Nat} {σ : Mem} {Q : Po} 
    (h : Ci Θ d 112 [.ref 1] σ (fun v1 σ1 => ((¬ v1 = 0 → (σ1.2.2 9 2 ≠ 0 ∧ (shq (σ1.2.2 9 2)).1 = 1 ∧ Ci Θ d 10 [.ref (σ1.2.2 9 2), .long (σ1.2.1 1 5)] σ1 (fun v4 σ4 => ((0 ≤ v4 → Ci Θ d 109 [.ref 1, .int 3] σ4 (fun v6 σ6 => Q (some (.long 0)) σ6)) ∧ (¬ 0 ≤ v4 → Ci Θ d 31 [.ref 9, .long (σ1.2.1 1 5)] σ4 (fun v7 σ7 => ((v7 < 0 → Cv Θ d 102 [.ref 1] σ7 (fun σ9 => Q (some (.long (σ1.2.1 1 5))) σ9)) ∧ (¬ v7 < 0 → Ci Θ d 109 [.ref 1, .int 3] σ7 (fun v10 σ10 => Q (some (.long 0)) σ10))))))))) ∧ (v1 = 0 → Ci Θ d 109 [.ref 1, .int 2] σ1 (fun v11 σ11 => Q (some (.long 0)) σ11))))) :
    G Θ (d + 1) 28 0 [some (.ref 9), none, none] [] σ Q := by
  refine r_aload_n ok28 0 rfl rfl rfl ?_
  refine r_getA ok28 1 rfl rfl rfl rfl ?_
  refine r_invVi (as := []) (S := []) ok28 2 rfl rfl mf112 rfl rfl (Nat.le_of_ble_eq_true rfl) rfl h (fun v1 σ1 h1 => ?_)
  refine r_if_ne ok28 3 rfl rfl (fun c2 => ?_) (fun c2 => ?_)
  · have h2 := h1.1 c2
    refine r_aload_n ok28 11 rfl rfl rfl ?_
    refine r_getA ok28 12 rfl rfl rfl rfl ?_
    refine r_getL ok28 13 rfl rfl rfl rfl ?_
    refine r_lstore_n ok28 14 rfl rfl ?_
    refine r_aload_n ok28 15 rfl rfl rfl ?_
    obtain ⟨c3, s3, h3⟩ := h2
    refine r_getR ok28 16 rfl rfl rfl rfl c3 ?_
    refine r_lload_n ok28 17 rfl rfl rfl ?_
    refine r_invVi (as := [.long (σ1.2.1 1 5)]) (S := []) ok28 18 rfl rfl mf10 s3 rfl (Nat.le_of_ble_eq_true rfl) rfl h3 (fun v4 σ4 h4 => ?_)
    refine r_if_ge ok28 19 rfl rfl (fun c5 => ?_) (fun c5 => ?_)
    · have h5 := h4.1 c5
      refine r_aload_n ok28 24 rfl rfl rfl ?_
      refine r_getA ok28 25 rfl rfl rfl rfl ?_
      refine r_iconst (v := 3) ok28 26 rfl rfl rfl ?_
      refine r_invVi (as := [.int 3]) (S := []) ok28 27 rfl rfl mf109 rfl rfl (Nat.le_of_ble_eq_true rfl) rfl h5 (fun v6 σ6 h6 => ?_)
      refine r_pop ok28 28 rfl rfl rfl ?_
      refine r_lconst (v := 0) ok28 29 rfl rfl rfl ?_
      exact r_lret ok28 30 rfl rfl rfl h6
    · have h5 := h4.2 c5
      refine r_aload_n ok28 20 rfl rfl rfl ?_
      refine r_lload_n ok28 21 rfl rfl rfl ?_
      refine r_invVi (as := [.long (σ1.2.1 1 5)]) (S := []) ok28 22 rfl rfl mf31 rfl rfl (Nat.le_of_ble_eq_true rfl) rfl h5 (fun v7 σ7 h7 => ?_)
      refine r_if_lt ok28 23 rfl rfl (fun c8 => ?_) (fun c8 => ?_)
      · have h8 := h7.1 c8
        refine r_aload_n ok28 31 rfl rfl rfl ?_
        refine r_getA ok28 32 rfl rfl rfl rfl ?_
        refine r_invVv (as := []) (S := []) ok28 33 rfl rfl mf102 rfl rfl (Nat.le_of_ble_eq_true rfl) rfl h8 (fun σ9 h9 => ?_)
        refine r_lload_n ok28 34 rfl rfl rfl ?_
        exact r_lret ok28 35 rfl rfl rfl h9
      · have h8 := h7.2 c8
        refine r_aload_n ok28 24 rfl rfl rfl ?_
        refine r_getA ok28 25 rfl rfl rfl rfl ?_
        refine r_iconst (v := 3) ok28 26 rfl rfl rfl ?_
        refine r_invVi (as := [.int 3]) (S := []) ok28 27 rfl rfl mf109 rfl rfl (Nat.le_of_ble_eq_true rfl) rfl h8 (fun v10 σ10 h10 => ?_)
        refine r_pop ok28 28 rfl rfl rfl ?_
        refine r_lconst (v := 0) ok28 29 rfl rfl rfl ?_
        exact r_lret ok28 30 rfl rfl rfl h10
  · have h2 := h1.2 c2
    refine r_aload_n ok28 4 rfl rfl rfl ?_
    refine r_getA ok28 5 rfl rfl rfl rfl ?_
    refine r_iconst (v := 2) ok28 6 rfl rfl rfl ?_
    refine r_invVi (as := [.int 2]) (S := []) ok28 7 rfl rfl mf109 rfl rfl (Nat.le_of_ble_eq_true rfl) rfl h2 (fun v11 σ11 h11 => ?_)
    refine r_pop ok28 8 rfl rfl rfl ?_
    refine r_lconst (v := 0) ok28 9 rfl rfl rfl ?_
    exact r_lret ok28 10 rfl rfl rfl h11

theorem K28 {Θ : Th} {d : Nat} {σ : Mem} {Q : Po} (h : G Θ (d + 1) 28 0 [some (.ref 9), none, none] [] σ Q) : Cm Θ (d + 1) 28 [.ref 9] σ Q :=
  C_of_G okM28 (Nat.le_of_ble_eq_true rfl) rfl h

-- 29: LikeYears$BookReader.markHere()I
set_option maxRecDepth 100000 in
set_option maxHeartbeats 4000000 in
theorem B29_0 {Θ : Th} {d : Nat} {σ : Mem} {Q : Po} 
    (h : Ci Θ d 112 [.ref 1] σ (fun v1 σ1 => ((¬ v1 = 0 → (σ1.2.2 9 2 ≠ 0 ∧ (shq (σ1.2.2 9 2)).1 = 1 ∧ Ci Θ d 10 [.ref (σ1.2.2 9 2), .long (σ1.2.1 1 5)] σ1 (fun v4 σ4 => ((0 ≤ v4 → Q (some (.int v4)) σ4) ∧ (¬ 0 ≤ v4 → Ci Θ d 109 [.ref 1, .int 5] σ4 (fun v6 σ6 => Q (some (.int v4)) σ6)))))) ∧ (v1 = 0 → Ci Θ d 109 [.ref 1, .int 2] σ1 (fun v7 σ7 => Q (some (.int (-1))) σ7))))) :
    G Θ (d + 1) 29 0 [some (.ref 9), none] [] σ Q := by
  refine r_aload_n ok29 0 rfl rfl rfl ?_
  refine r_getA ok29 1 rfl rfl rfl rfl ?_
  refine r_invVi (as := []) (S := []) ok29 2 rfl rfl mf112 rfl rfl (Nat.le_of_ble_eq_true rfl) rfl h (fun v1 σ1 h1 => ?_)
  refine r_if_ne ok29 3 rfl rfl (fun c2 => ?_) (fun c2 => ?_)
  · have h2 := h1.1 c2
    refine r_aload_n ok29 11 rfl rfl rfl ?_
    obtain ⟨c3, s3, h3⟩ := h2
    refine r_getR ok29 12 rfl rfl rfl rfl c3 ?_
    refine r_aload_n ok29 13 rfl rfl rfl ?_
    refine r_getA ok29 14 rfl rfl rfl rfl ?_
    refine r_getL ok29 15 rfl rfl rfl rfl ?_
    refine r_invVi (as := [.long (σ1.2.1 1 5)]) (S := []) ok29 16 rfl rfl mf10 s3 rfl (Nat.le_of_ble_eq_true rfl) rfl h3 (fun v4 σ4 h4 => ?_)
    refine r_istore_n ok29 17 rfl rfl ?_
    refine r_iload_n ok29 18 rfl rfl rfl ?_
    refine r_if_ge ok29 19 rfl rfl (fun c5 => ?_) (fun c5 => ?_)
    · have h5 := h4.1 c5
      refine r_iload_n ok29 25 rfl rfl rfl ?_
      exact r_iret ok29 26 rfl rfl rfl h5
    · have h5 := h4.2 c5
      refine r_aload_n ok29 20 rfl rfl rfl ?_
      refine r_getA ok29 21 rfl rfl rfl rfl ?_
      refine r_iconst (v := 5) ok29 22 rfl rfl rfl ?_
      refine r_invVi (as := [.int 5]) (S := []) ok29 23 rfl rfl mf109 rfl rfl (Nat.le_of_ble_eq_true rfl) rfl h5 (fun v6 σ6 h6 => ?_)
      refine r_pop ok29 24 rfl rfl rfl ?_
      refine r_iload_n ok29 25 rfl rfl rfl ?_
      exact r_iret ok29 26 rfl rfl rfl h6
  · have h2 := h1.2 c2
    refine r_aload_n ok29 4 rfl rfl rfl ?_
    refine r_getA ok29 5 rfl rfl rfl rfl ?_
    refine r_iconst (v := 2) ok29 6 rfl rfl rfl ?_
    refine r_invVi (as := [.int 2]) (S := []) ok29 7 rfl rfl mf109 rfl rfl (Nat.le_of_ble_eq_true rfl) rfl h2 (fun v7 σ7 h7 => ?_)
    refine r_pop ok29 8 rfl rfl rfl ?_
    refine r_iconst (v := (-1)) ok29 9 rfl rfl rfl ?_
    exact r_iret ok29 10 rfl rfl rfl h7

theorem K29 {Θ : Th} {d : Nat} {σ : Mem} {Q : Po} (h : G Θ (d + 1) 29 0 [some (.ref 9), none] [] σ Q) : Cm Θ (d + 1) 29 [.ref 9] σ Q :=
  C_of_G okM29 (Nat.le_of_ble_eq_true rfl) rfl h

-- 30: LikeYears$BookReader.passCase()I
set_option maxRecDepth 100000 in
set_option maxHeartbeats 4000000 in
theorem B30_0 {Θ : Th} {d : Nat} {σ : Mem} {Q : Po} 
    (h : Ci Θ d 112 [.ref 1] σ (fun v1 σ1 => ((¬ v1 = 0 → Ci Θ d 31 [.ref 9, .long (σ1.2.1 1 5)] σ1 (fun v3 σ3 => ((0 ≤ v3 → Cv Θ d 102 [.ref 1] σ3 (fun σ5 => Q (some (.int v3)) σ5)) ∧ (¬ 0 ≤ v3 → Ci Θ d 109 [.ref 1, .int 5] σ3 (fun v6 σ6 => Q (some (.int (-1))) σ6))))) ∧ (v1 = 0 → Ci Θ d 109 [.ref 1, .int 2] σ1 (fun v7 σ7 => Q (some (.int (-1))) σ7))))) :
    G Θ (d + 1) 30 0 [some (.ref 9), none] [] σ Q := by
  refine r_aload_n ok30 0 rfl rfl rfl ?_
  refine r_getA ok30 1 rfl rfl rfl rfl ?_
  refine r_invVi (as := []) (S := []) ok30 2 rfl rfl mf112 rfl rfl (Nat.le_of_ble_eq_true rfl) rfl h (fun v1 σ1 h1 => ?_)
  refine r_if_ne ok30 3 rfl rfl (fun c2 => ?_) (fun c2 => ?_)
  · have h2 := h1.1 c2
    refine r_aload_n ok30 11 rfl rfl rfl ?_
    refine r_aload_n ok30 12 rfl rfl rfl ?_
    refine r_getA ok30 13 rfl rfl rfl rfl ?_
    refine r_getL ok30 14 rfl rfl rfl rfl ?_
    refine r_invVi (as := [.long (σ1.2.1 1 5)]) (S := []) ok30 15 rfl rfl mf31 rfl rfl (Nat.le_of_ble_eq_true rfl) rfl h2 (fun v3 σ3 h3 => ?_)
    refine r_istore_n ok30 16 rfl rfl ?_
    refine r_iload_n ok30 17 rfl rfl rfl ?_
    refine r_if_ge ok30 18 rfl rfl (fun c4 => ?_) (fun c4 => ?_)
    · have h4 := h3.1 c4
      refine r_aload_n ok30 26 rfl rfl rfl ?_
      refine r_getA ok30 27 rfl rfl rfl rfl ?_
      refine r_invVv (as := []) (S := []) ok30 28 rfl rfl mf102 rfl rfl (Nat.le_of_ble_eq_true rfl) rfl h4 (fun σ5 h5 => ?_)
      refine r_iload_n ok30 29 rfl rfl rfl ?_
      exact r_iret ok30 30 rfl rfl rfl h5
    · have h4 := h3.2 c4
      refine r_aload_n ok30 19 rfl rfl rfl ?_
      refine r_getA ok30 20 rfl rfl rfl rfl ?_
      refine r_iconst (v := 5) ok30 21 rfl rfl rfl ?_
      refine r_invVi (as := [.int 5]) (S := []) ok30 22 rfl rfl mf109 rfl rfl (Nat.le_of_ble_eq_true rfl) rfl h4 (fun v6 σ6 h6 => ?_)
      refine r_pop ok30 23 rfl rfl rfl ?_
      refine r_iconst (v := (-1)) ok30 24 rfl rfl rfl ?_
      exact r_iret ok30 25 rfl rfl rfl h6
  · have h2 := h1.2 c2
    refine r_aload_n ok30 4 rfl rfl rfl ?_
    refine r_getA ok30 5 rfl rfl rfl rfl ?_
    refine r_iconst (v := 2) ok30 6 rfl rfl rfl ?_
    refine r_invVi (as := [.int 2]) (S := []) ok30 7 rfl rfl mf109 rfl rfl (Nat.le_of_ble_eq_true rfl) rfl h2 (fun v7 σ7 h7 => ?_)
    refine r_pop ok30 8 rfl rfl rfl ?_
    refine r_iconst (v := (-1)) ok30 9 rfl rfl rfl ?_
    exact r_iret ok30 10 rfl rfl rfl h7

theorem K30 {Θ : Th} {d : Nat} {σ : Mem} {Q : Po} (h : G Θ (d + 1) 30 0 [some (.ref 9), none] [] σ Q) : Cm Θ (d + 1) 30 [.ref 9] σ Q :=
  C_of_G okM30 (Nat.le_of_ble_eq_true rfl) rfl h

-- 31: LikeYears$BookReader.caseNamed(J)I
set_option maxRecDepth 100000 in
set_option maxHeartbeats 4000000 in
theorem B31_0 {Θ : Th} {d : Nat} {σ : Mem} {Q : Po} {x1 : Int64} 
    (h : G Θ d 31 2 [some (.ref 9), some (.long x1), none, some (.int 0)] [] σ Q) :
    G Θ d 31 0 [some (.ref 9), some (.long x1), none, none] [] σ Q := by
  refine r_iconst (v := 0) ok31 0 rfl rfl rfl ?_
  refine r_istore_n ok31 1 rfl rfl ?_
  exact h

set_option maxRecDepth 100000 in
set_option maxHeartbeats 4000000 in
theorem B31_2 {Θ : Th} {d : Nat} {σ : Mem} {Q : Po} {x1 : Int64} {x3 : Int32} 
    (h : (σ.2.2 9 2 ≠ 0 ∧ (shq (σ.2.2 9 2)).1 = 1 ∧ (((σ.1 (σ.2.2 9 2) 4) ≤ x3 → Q (some (.int (-1))) σ) ∧ (¬ (σ.1 (σ.2.2 9 2) 4) ≤ x3 → (vp_in x3 16 ∧ ((¬ (lg_cmp (σ.2.1 10 x3.toNatClampNeg) x1) = 0 → G Θ d 31 2 [some (.ref 9), some (.long x1), none, some (.int (x3 + 1))] [] σ Q) ∧ ((lg_cmp (σ.2.1 10 x3.toNatClampNeg) x1) = 0 → Q (some (.int x3)) σ))))))) :
    G Θ d 31 2 [some (.ref 9), some (.long x1), none, some (.int x3)] [] σ Q := by
  refine r_iload_n ok31 2 rfl rfl rfl ?_
  refine r_aload_n ok31 3 rfl rfl rfl ?_
  obtain ⟨c1, s1, h1⟩ := h
  refine r_getR ok31 4 rfl rfl rfl rfl c1 ?_
  refine r_getI ok31 5 rfl rfl s1 rfl ?_
  refine r_icmp_ge ok31 6 rfl rfl (fun c2 => ?_) (fun c2 => ?_)
  · have h2 := h1.1 c2
    refine r_iconst (v := (-1)) ok31 18 rfl rfl rfl ?_
    exact r_iret ok31 19 rfl rfl rfl h2
  · have h2 := h1.2 c2
    refine r_aload_n ok31 7 rfl rfl rfl ?_
    refine r_getF ok31 8 rfl rfl rfl rfl ?_
    refine r_iload_n ok31 9 rfl rfl rfl ?_
    obtain ⟨c3, h3⟩ := h2
    refine r_lald ok31 10 rfl rfl rfl c3 ?_
    refine r_lload_n ok31 11 rfl rfl rfl ?_
    refine r_lcmp ok31 12 rfl rfl ?_
    refine r_if_ne ok31 13 rfl rfl (fun c4 => ?_) (fun c4 => ?_)
    · have h4 := h3.1 c4
      refine r_iinc (v := x3 + 1) ok31 16 rfl rfl rfl rfl ?_
      refine r_goto ok31 17 rfl rfl ?_
      exact h4
    · have h4 := h3.2 c4
      refine r_iload_n ok31 14 rfl rfl rfl ?_
      exact r_iret ok31 15 rfl rfl rfl h4

theorem K31 {Θ : Th} {d : Nat} {σ : Mem} {Q : Po} {x1 : Int64} (h : G Θ d 31 0 [some (.ref 9), some (.long x1), none, none] [] σ Q) : Cm Θ d 31 [.ref 9, .long x1] σ Q :=
  C_of_G okM31 (Nat.le_of_ble_eq_true rfl) rfl h

-- 32: LikeYears$BookReader.toldHolds()Z
set_option maxRecDepth 100000 in
set_option maxHeartbeats 4000000 in
theorem B32_0 {Θ : Th} {d : Nat} {σ : Mem} {Q : Po} 
    (h : (σ.2.2 9 2 ≠ 0 ∧ (shq (σ.2.2 9 2)).1 = 1 ∧ (σ.2.2 9 2 ≠ 0 ∧ (shq (σ.2.2 9 2)).1 = 1 ∧ Cv Θ d 76 [.ref 6, .ref (σ.2.2 9 2), .int (σ.1 (σ.2.2 9 2) 3)] σ (fun σ3 => (σ3.2.2 9 2 ≠ 0 ∧ (shq (σ3.2.2 9 2)).1 = 1 ∧ Ci Θ d 77 [.ref 6, .ref (σ3.2.2 9 2)] σ3 (fun v5 σ5 => ((0 ≤ v5 → (vp_in v5 20 ∧ Q (some (.int 0)) (sI (sI σ5 1 1 6) 1 2 ((sI σ5 1 1 6).1 11 v5.toNatClampNeg)))) ∧ (¬ 0 ≤ v5 → Q (some (.int 1)) σ5)))))))) :
    G Θ (d + 1) 32 0 [some (.ref 9), none] [] σ Q := by
  refine r_aload_n ok32 0 rfl rfl rfl ?_
  refine r_getA ok32 1 rfl rfl rfl rfl ?_
  refine r_aload_n ok32 2 rfl rfl rfl ?_
  obtain ⟨c1, s1, h1⟩ := h
  refine r_getR ok32 3 rfl rfl rfl rfl c1 ?_
  refine r_aload_n ok32 4 rfl rfl rfl ?_
  obtain ⟨c2, s2, h2⟩ := h1
  refine r_getR ok32 5 rfl rfl rfl rfl c2 ?_
  refine r_getI ok32 6 rfl rfl s2 rfl ?_
  refine r_invVv (as := [.ref (σ.2.2 9 2), .int (σ.1 (σ.2.2 9 2) 3)]) (S := []) ok32 7 rfl rfl mf76 rfl rfl (Nat.le_of_ble_eq_true rfl) rfl h2 (fun σ3 h3 => ?_)
  refine r_aload_n ok32 8 rfl rfl rfl ?_
  refine r_getA ok32 9 rfl rfl rfl rfl ?_
  refine r_aload_n ok32 10 rfl rfl rfl ?_
  obtain ⟨c4, s4, h4⟩ := h3
  refine r_getR ok32 11 rfl rfl rfl rfl c4 ?_
  refine r_invVi (as := [.ref (σ3.2.2 9 2)]) (S := []) ok32 12 rfl rfl mf77 rfl rfl (Nat.le_of_ble_eq_true rfl) rfl h4 (fun v5 σ5 h5 => ?_)
  refine r_istore_n ok32 13 rfl rfl ?_
  refine r_iload_n ok32 14 rfl rfl rfl ?_
  refine r_if_ge ok32 15 rfl rfl (fun c6 => ?_) (fun c6 => ?_)
  · have h6 := h5.1 c6
    refine r_aload_n ok32 18 rfl rfl rfl ?_
    refine r_getA ok32 19 rfl rfl rfl rfl ?_
    refine r_bipush (v := 6) ok32 20 rfl rfl rfl ?_
    refine r_putI ok32 21 rfl rfl rfl rfl ?_
    refine r_aload_n ok32 22 rfl rfl rfl ?_
    refine r_getA ok32 23 rfl rfl rfl rfl ?_
    refine r_aload_n ok32 24 rfl rfl rfl ?_
    refine r_getF ok32 25 rfl rfl rfl rfl ?_
    refine r_iload_n ok32 26 rfl rfl rfl ?_
    obtain ⟨c7, h7⟩ := h6
    refine r_iald ok32 27 rfl rfl rfl c7 ?_
    refine r_putI ok32 28 rfl rfl rfl rfl ?_
    refine r_iconst (v := 0) ok32 29 rfl rfl rfl ?_
    exact r_zret ok32 30 rfl rfl rfl (Or.inl rfl) h7
  · have h6 := h5.2 c6
    refine r_iconst (v := 1) ok32 16 rfl rfl rfl ?_
    exact r_zret ok32 17 rfl rfl rfl (Or.inr rfl) h6

theorem K32 {Θ : Th} {d : Nat} {σ : Mem} {Q : Po} (h : G Θ (d + 1) 32 0 [some (.ref 9), none] [] σ Q) : Cm Θ (d + 1) 32 [.ref 9] σ Q :=
  C_of_G okM32 (Nat.le_of_ble_eq_true rfl) rfl h

-- 100: LikeYears$Tape.put(I)V
set_option maxRecDepth 100000 in
set_option maxHeartbeats 4000000 in
theorem B100_0 {Θ : Th} {d : Nat} {σ : Mem} {Q : Po} {x1 : Int32} 
    (h : G Θ d 100 3 [some (.ref 1), some (.int x1), some (.int 24)] [] σ Q) :
    G Θ d 100 0 [some (.ref 1), some (.int x1), none] [] σ Q := by
  refine r_bipush (v := 24) ok100 0 rfl rfl rfl ?_
  refine r_istore_n ok100 1 rfl rfl ?_
  exact h

set_option maxRecDepth 100000 in
set_option maxHeartbeats 4000000 in
theorem B100_3 {Θ : Th} {d : Nat} {σ : Mem} {Q : Po} {x1 : Int32} {x2 : Int32} 
    (h : ((x2 < 0 → Q none σ) ∧ (¬ x2 < 0 → ((1300 ≤ (σ.1 1 0) → Q none σ) ∧ (¬ 1300 ≤ (σ.1 1 0) → (vp_in (σ.1 1 0) 1300 ∧ G Θ d 100 3 [some (.ref 1), some (.int x1), some (.int (x2 + (-8)))] [] (sI (sI σ 2 ((σ.1 1 0).toNatClampNeg) (vp_nar .byte ((x1 >>> (x2 &&& 31)).toInt8.toInt32))) 1 0 (((sI σ 2 ((σ.1 1 0).toNatClampNeg) (vp_nar .byte ((x1 >>> (x2 &&& 31)).toInt8.toInt32))).1 1 0) + 1)) Q)))))) :
    G Θ d 100 3 [some (.ref 1), some (.int x1), some (.int x2)] [] σ Q := by
  refine r_iload_n ok100 2 rfl rfl rfl ?_
  refine r_if_lt ok100 3 rfl rfl (fun c1 => ?_) (fun c1 => ?_)
  · have h1 := h.1 c1
    exact r_ret ok100 25 rfl rfl rfl h1
  · have h1 := h.2 c1
    refine r_aload_n ok100 4 rfl rfl rfl ?_
    refine r_getI ok100 5 rfl rfl rfl rfl ?_
    refine r_sipush (v := 1300) ok100 6 rfl rfl rfl ?_
    refine r_icmp_ge ok100 7 rfl rfl (fun c2 => ?_) (fun c2 => ?_)
    · have h2 := h1.1 c2
      exact r_ret ok100 25 rfl rfl rfl h2
    · have h2 := h1.2 c2
      refine r_aload_n ok100 8 rfl rfl rfl ?_
      refine r_getF ok100 9 rfl rfl rfl rfl ?_
      refine r_aload_n ok100 10 rfl rfl rfl ?_
      refine r_getI ok100 11 rfl rfl rfl rfl ?_
      refine r_iload_n ok100 12 rfl rfl rfl ?_
      refine r_iload_n ok100 13 rfl rfl rfl ?_
      refine r_ishr ok100 14 rfl rfl ?_
      refine r_i2b ok100 15 rfl rfl ?_
      obtain ⟨c3, h3⟩ := h2
      refine r_bast ok100 16 rfl rfl rfl c3 ?_
      refine r_aload_n ok100 17 rfl rfl rfl ?_
      refine r_dup ok100 18 rfl rfl rfl ?_
      refine r_getI ok100 19 rfl rfl rfl rfl ?_
      refine r_iconst (v := 1) ok100 20 rfl rfl rfl ?_
      refine r_iadd ok100 21 rfl rfl ?_
      refine r_putI ok100 22 rfl rfl rfl rfl ?_
      refine r_iinc (v := x2 + (-8)) ok100 23 rfl rfl rfl rfl ?_
      refine r_goto ok100 24 rfl rfl ?_
      exact h3

theorem K100 {Θ : Th} {d : Nat} {σ : Mem} {Q : Po} {x1 : Int32} (h : G Θ d 100 0 [some (.ref 1), some (.int x1), none] [] σ Q) : Cm Θ d 100 [.ref 1, .int x1] σ Q :=
  C_of_G okM100 (Nat.le_of_ble_eq_true rfl) rfl h

-- 101: LikeYears$Tape.open(Z)V
set_option maxRecDepth 100000 in
set_option maxHeartbeats 4000000 in
theorem B101_0 {Θ : Th} {d : Nat} {σ : Mem} {Q : Po} {x1 : Int32} 
    (h : G Θ (d + 1) 101 19 [some (.ref 1), some (.int x1), some (.int 0), some (.int 0), none] [] (sI (sI (sI σ 1 1 0) 1 2 (-1)) 1 10 0) Q) :
    G Θ (d + 1) 101 0 [some (.ref 1), some (.int x1), none, none, none] [] σ Q := by
  refine r_aload_n ok101 0 rfl rfl rfl ?_
  refine r_iconst (v := 0) ok101 1 rfl rfl rfl ?_
  refine r_putI ok101 2 rfl rfl rfl rfl ?_
  refine r_aload_n ok101 3 rfl rfl rfl ?_
  refine r_iconst (v := (-1)) ok101 4 rfl rfl rfl ?_
  refine r_putI ok101 5 rfl rfl rfl rfl ?_
  refine r_aload_n ok101 6 rfl rfl rfl ?_
  refine r_iconst (v := 0) ok101 7 rfl rfl rfl ?_
  refine r_putI ok101 8 rfl rfl rfl rfl ?_
  refine r_iconst (v := 0) ok101 9 rfl rfl rfl ?_
  refine r_istore_n ok101 10 rfl rfl ?_
  refine r_iconst (v := 0) ok101 11 rfl rfl rfl ?_
  refine r_istore_n ok101 12 rfl rfl ?_
  exact h

set_option maxRecDepth 100000 in
set_option maxHeartbeats 4000000 in
theorem B101_19 {Θ : Th} {d : Nat} {σ : Mem} {Q : Po} {x1 : Int32} {x2 : Int32} {x3 : Int32} 
    (h : ((1300 ≤ x3 → Cv Θ d 103 [.ref 1, .int 0, .int (σ.1 1 0), .long 0] σ (fun σ2 => Cv Θ d 102 [.ref 1] (sI σ2 1 11 (-1)) (fun σ3 => Q none σ3))) ∧ (¬ 1300 ≤ x3 → (((σ.1 1 0) ≤ x2 → Cv Θ d 103 [.ref 1, .int 0, .int (σ.1 1 0), .long 0] σ (fun σ5 => Cv Θ d 102 [.ref 1] (sI σ5 1 11 (-1)) (fun σ6 => Q none σ6))) ∧ (¬ (σ.1 1 0) ≤ x2 → (vp_in x2 1300 ∧ (((σ.1 2 x2.toNatClampNeg) = 32 → G Θ (d + 1) 101 19 [some (.ref 1), some (.int x1), some (.int (x2 + 1)), some (.int (x3 + 1)), none] [] σ Q) ∧ (¬ (σ.1 2 x2.toNatClampNeg) = 32 → (vp_in x2 1300 ∧ ((¬ (σ.1 2 x2.toNatClampNeg) = 10 → Ci Θ d 104 [.ref 1, .int x2, .int x1] σ (fun v13 σ13 => G Θ (d + 1) 101 19 [some (.ref 1), some (.int x1), some (.int v13), some (.int (x3 + 1)), none] [] σ13 Q)) ∧ ((σ.1 2 x2.toNatClampNeg) = 10 → G Θ (d + 1) 101 19 [some (.ref 1), some (.int x1), some (.int (x2 + 1)), some (.int (x3 + 1)), none] [] σ Q))))))))))) :
    G Θ (d + 1) 101 19 [some (.ref 1), some (.int x1), some (.int x2), some (.int x3), none] [] σ Q := by
  refine r_iload_n ok101 13 rfl rfl rfl ?_
  refine r_sipush (v := 1300) ok101 14 rfl rfl rfl ?_
  refine r_icmp_ge ok101 15 rfl rfl (fun c1 => ?_) (fun c1 => ?_)
  · have h1 := h.1 c1
    refine r_aload_n ok101 49 rfl rfl rfl ?_
    refine r_iconst (v := 0) ok101 50 rfl rfl rfl ?_
    refine r_aload_n ok101 51 rfl rfl rfl ?_
    refine r_getI ok101 52 rfl rfl rfl rfl ?_
    refine r_lconst (v := 0) ok101 53 rfl rfl rfl ?_
    refine r_invVv (as := [.int 0, .int (σ.1 1 0), .long 0]) (S := []) ok101 54 rfl rfl mf103 rfl rfl (Nat.le_of_ble_eq_true rfl) rfl h1 (fun σ2 h2 => ?_)
    refine r_aload_n ok101 55 rfl rfl rfl ?_
    refine r_iconst (v := (-1)) ok101 56 rfl rfl rfl ?_
    refine r_putI ok101 57 rfl rfl rfl rfl ?_
    refine r_aload_n ok101 58 rfl rfl rfl ?_
    refine r_invVv (as := []) (S := []) ok101 59 rfl rfl mf102 rfl rfl (Nat.le_of_ble_eq_true rfl) rfl h2 (fun σ3 h3 => ?_)
    exact r_ret ok101 60 rfl rfl rfl h3
  · have h1 := h.2 c1
    refine r_iload_n ok101 16 rfl rfl rfl ?_
    refine r_aload_n ok101 17 rfl rfl rfl ?_
    refine r_getI ok101 18 rfl rfl rfl rfl ?_
    refine r_icmp_ge ok101 19 rfl rfl (fun c4 => ?_) (fun c4 => ?_)
    · have h4 := h1.1 c4
      refine r_aload_n ok101 49 rfl rfl rfl ?_
      refine r_iconst (v := 0) ok101 50 rfl rfl rfl ?_
      refine r_aload_n ok101 51 rfl rfl rfl ?_
      refine r_getI ok101 52 rfl rfl rfl rfl ?_
      refine r_lconst (v := 0) ok101 53 rfl rfl rfl ?_
      refine r_invVv (as := [.int 0, .int (σ.1 1 0), .long 0]) (S := []) ok101 54 rfl rfl mf103 rfl rfl (Nat.le_of_ble_eq_true rfl) rfl h4 (fun σ5 h5 => ?_)
      refine r_aload_n ok101 55 rfl rfl rfl ?_
      refine r_iconst (v := (-1)) ok101 56 rfl rfl rfl ?_
      refine r_putI ok101 57 rfl rfl rfl rfl ?_
      refine r_aload_n ok101 58 rfl rfl rfl ?_
      refine r_invVv (as := []) (S := []) ok101 59 rfl rfl mf102 rfl rfl (Nat.le_of_ble_eq_true rfl) rfl h5 (fun σ6 h6 => ?_)
      exact r_ret ok101 60 rfl rfl rfl h6
    · have h4 := h1.2 c4
      refine r_aload_n ok101 20 rfl rfl rfl ?_
      refine r_getF ok101 21 rfl rfl rfl rfl ?_
      refine r_iload_n ok101 22 rfl rfl rfl ?_
      obtain ⟨c7, h7⟩ := h4
      refine r_bald ok101 23 rfl rfl rfl c7 ?_
      refine r_bipush (v := 32) ok101 24 rfl rfl rfl ?_
      refine r_icmp_eq ok101 25 rfl rfl (fun c8 => ?_) (fun c8 => ?_)
      · have h8 := h7.1 c8
        refine r_iconst (v := 1) ok101 32 rfl rfl rfl ?_
        refine r_goto ok101 33 rfl rfl ?_
        refine r_istore ok101 35 rfl rfl ?_
        refine r_iload ok101 36 rfl rfl rfl ?_
        refine r_if_eq ok101 37 rfl rfl (fun c9 => absurd c9 (by decide)) (fun _ => ?_)
        refine r_iload_n ok101 38 rfl rfl rfl ?_
        refine r_iconst (v := 1) ok101 39 rfl rfl rfl ?_
        refine r_iadd ok101 40 rfl rfl ?_
        refine r_goto ok101 41 rfl rfl ?_
        refine r_istore_n ok101 46 rfl rfl ?_
        refine r_iinc (v := x3 + 1) ok101 47 rfl rfl rfl rfl ?_
        refine r_goto ok101 48 rfl rfl ?_
        exact G.weak (L' := [some (.ref 1), some (.int x1), some (.int (x2 + 1)), some (.int (x3 + 1)), none]) ⟨rfl, ⟨rfl, ⟨rfl, ⟨rfl, trivial⟩⟩⟩⟩ h8
      · have h8 := h7.2 c8
        refine r_aload_n ok101 26 rfl rfl rfl ?_
        refine r_getF ok101 27 rfl rfl rfl rfl ?_
        refine r_iload_n ok101 28 rfl rfl rfl ?_
        obtain ⟨c10, h10⟩ := h8
        refine r_bald ok101 29 rfl rfl rfl c10 ?_
        refine r_bipush (v := 10) ok101 30 rfl rfl rfl ?_
        refine r_icmp_ne ok101 31 rfl rfl (fun c11 => ?_) (fun c11 => ?_)
        · have h11 := h10.1 c11
          refine r_iconst (v := 0) ok101 34 rfl rfl rfl ?_
          refine r_istore ok101 35 rfl rfl ?_
          refine r_iload ok101 36 rfl rfl rfl ?_
          refine r_if_eq ok101 37 rfl rfl (fun _ => ?_) (fun c12 => absurd c12 (by decide))
          refine r_aload_n ok101 42 rfl rfl rfl ?_
          refine r_iload_n ok101 43 rfl rfl rfl ?_
          refine r_iload_n ok101 44 rfl rfl rfl ?_
          refine r_invVi (as := [.int x2, .int x1]) (S := []) ok101 45 rfl rfl mf104 rfl rfl (Nat.le_of_ble_eq_true rfl) rfl h11 (fun v13 σ13 h13 => ?_)
          refine r_istore_n ok101 46 rfl rfl ?_
          refine r_iinc (v := x3 + 1) ok101 47 rfl rfl rfl rfl ?_
          refine r_goto ok101 48 rfl rfl ?_
          exact G.weak (L' := [some (.ref 1), some (.int x1), some (.int v13), some (.int (x3 + 1)), none]) ⟨rfl, ⟨rfl, ⟨rfl, ⟨rfl, trivial⟩⟩⟩⟩ h13
        · have h11 := h10.2 c11
          refine r_iconst (v := 1) ok101 32 rfl rfl rfl ?_
          refine r_goto ok101 33 rfl rfl ?_
          refine r_istore ok101 35 rfl rfl ?_
          refine r_iload ok101 36 rfl rfl rfl ?_
          refine r_if_eq ok101 37 rfl rfl (fun c14 => absurd c14 (by decide)) (fun _ => ?_)
          refine r_iload_n ok101 38 rfl rfl rfl ?_
          refine r_iconst (v := 1) ok101 39 rfl rfl rfl ?_
          refine r_iadd ok101 40 rfl rfl ?_
          refine r_goto ok101 41 rfl rfl ?_
          refine r_istore_n ok101 46 rfl rfl ?_
          refine r_iinc (v := x3 + 1) ok101 47 rfl rfl rfl rfl ?_
          refine r_goto ok101 48 rfl rfl ?_
          exact G.weak (L' := [some (.ref 1), some (.int x1), some (.int (x2 + 1)), some (.int (x3 + 1)), none]) ⟨rfl, ⟨rfl, ⟨rfl, ⟨rfl, trivial⟩⟩⟩⟩ h11

theorem K101 {Θ : Th} {d : Nat} {σ : Mem} {Q : Po} {x1 : Int32} (h : G Θ (d + 1) 101 0 [some (.ref 1), some (.int x1), none, none, none] [] σ Q) : Cm Θ (d + 1) 101 [.ref 1, .int x1] σ Q :=
  C_of_G okM101 (Nat.le_of_ble_eq_true rfl) rfl h

-- 102: LikeYears$Tape.next()V
set_option maxRecDepth 100000 in
set_option maxHeartbeats 4000000 in
theorem B102_0 {Θ : Th} {d : Nat} {σ : Mem} {Q : Po} 
    (h : ((((σ.1 1 10) - 1) ≤ (σ.1 1 11) → (vp_in (σ.1 1 11) 1301 ∧ (vp_in ((sI σ 1 3 (σ.1 3 (σ.1 1 11).toNatClampNeg)).1 1 11) 1301 ∧ (vp_in ((sI (sI σ 1 3 (σ.1 3 (σ.1 1 11).toNatClampNeg)) 1 4 ((sI σ 1 3 (σ.1 3 (σ.1 1 11).toNatClampNeg)).1 4 ((sI σ 1 3 (σ.1 3 (σ.1 1 11).toNatClampNeg)).1 1 11).toNatClampNeg)).1 1 11) 1301 ∧ Q none (sL (sI (sI σ 1 3 (σ.1 3 (σ.1 1 11).toNatClampNeg)) 1 4 ((sI σ 1 3 (σ.1 3 (σ.1 1 11).toNatClampNeg)).1 4 ((sI σ 1 3 (σ.1 3 (σ.1 1 11).toNatClampNeg)).1 1 11).toNatClampNeg)) 1 5 ((sI (sI σ 1 3 (σ.1 3 (σ.1 1 11).toNatClampNeg)) 1 4 ((sI σ 1 3 (σ.1 3 (σ.1 1 11).toNatClampNeg)).1 4 ((sI σ 1 3 (σ.1 3 (σ.1 1 11).toNatClampNeg)).1 1 11).toNatClampNeg)).2.1 5 ((sI (sI σ 1 3 (σ.1 3 (σ.1 1 11).toNatClampNeg)) 1 4 ((sI σ 1 3 (σ.1 3 (σ.1 1 11).toNatClampNeg)).1 4 ((sI σ 1 3 (σ.1 3 (σ.1 1 11).toNatClampNeg)).1 1 11).toNatClampNeg)).1 1 11).toNatClampNeg)))))) ∧ (¬ ((σ.1 1 10) - 1) ≤ (σ.1 1 11) → (vp_in ((sI σ 1 11 ((σ.1 1 11) + 1)).1 1 11) 1301 ∧ (vp_in ((sI (sI σ 1 11 ((σ.1 1 11) + 1)) 1 3 ((sI σ 1 11 ((σ.1 1 11) + 1)).1 3 ((sI σ 1 11 ((σ.1 1 11) + 1)).1 1 11).toNatClampNeg)).1 1 11) 1301 ∧ (vp_in ((sI (sI (sI σ 1 11 ((σ.1 1 11) + 1)) 1 3 ((sI σ 1 11 ((σ.1 1 11) + 1)).1 3 ((sI σ 1 11 ((σ.1 1 11) + 1)).1 1 11).toNatClampNeg)) 1 4 ((sI (sI σ 1 11 ((σ.1 1 11) + 1)) 1 3 ((sI σ 1 11 ((σ.1 1 11) + 1)).1 3 ((sI σ 1 11 ((σ.1 1 11) + 1)).1 1 11).toNatClampNeg)).1 4 ((sI (sI σ 1 11 ((σ.1 1 11) + 1)) 1 3 ((sI σ 1 11 ((σ.1 1 11) + 1)).1 3 ((sI σ 1 11 ((σ.1 1 11) + 1)).1 1 11).toNatClampNeg)).1 1 11).toNatClampNeg)).1 1 11) 1301 ∧ Q none (sL (sI (sI (sI σ 1 11 ((σ.1 1 11) + 1)) 1 3 ((sI σ 1 11 ((σ.1 1 11) + 1)).1 3 ((sI σ 1 11 ((σ.1 1 11) + 1)).1 1 11).toNatClampNeg)) 1 4 ((sI (sI σ 1 11 ((σ.1 1 11) + 1)) 1 3 ((sI σ 1 11 ((σ.1 1 11) + 1)).1 3 ((sI σ 1 11 ((σ.1 1 11) + 1)).1 1 11).toNatClampNeg)).1 4 ((sI (sI σ 1 11 ((σ.1 1 11) + 1)) 1 3 ((sI σ 1 11 ((σ.1 1 11) + 1)).1 3 ((sI σ 1 11 ((σ.1 1 11) + 1)).1 1 11).toNatClampNeg)).1 1 11).toNatClampNeg)) 1 5 ((sI (sI (sI σ 1 11 ((σ.1 1 11) + 1)) 1 3 ((sI σ 1 11 ((σ.1 1 11) + 1)).1 3 ((sI σ 1 11 ((σ.1 1 11) + 1)).1 1 11).toNatClampNeg)) 1 4 ((sI (sI σ 1 11 ((σ.1 1 11) + 1)) 1 3 ((sI σ 1 11 ((σ.1 1 11) + 1)).1 3 ((sI σ 1 11 ((σ.1 1 11) + 1)).1 1 11).toNatClampNeg)).1 4 ((sI (sI σ 1 11 ((σ.1 1 11) + 1)) 1 3 ((sI σ 1 11 ((σ.1 1 11) + 1)).1 3 ((sI σ 1 11 ((σ.1 1 11) + 1)).1 1 11).toNatClampNeg)).1 1 11).toNatClampNeg)).2.1 5 ((sI (sI (sI σ 1 11 ((σ.1 1 11) + 1)) 1 3 ((sI σ 1 11 ((σ.1 1 11) + 1)).1 3 ((sI σ 1 11 ((σ.1 1 11) + 1)).1 1 11).toNatClampNeg)) 1 4 ((sI (sI σ 1 11 ((σ.1 1 11) + 1)) 1 3 ((sI σ 1 11 ((σ.1 1 11) + 1)).1 3 ((sI σ 1 11 ((σ.1 1 11) + 1)).1 1 11).toNatClampNeg)).1 4 ((sI (sI σ 1 11 ((σ.1 1 11) + 1)) 1 3 ((sI σ 1 11 ((σ.1 1 11) + 1)).1 3 ((sI σ 1 11 ((σ.1 1 11) + 1)).1 1 11).toNatClampNeg)).1 1 11).toNatClampNeg)).1 1 11).toNatClampNeg)))))))) :
    G Θ d 102 0 [some (.ref 1)] [] σ Q := by
  refine r_aload_n ok102 0 rfl rfl rfl ?_
  refine r_getI ok102 1 rfl rfl rfl rfl ?_
  refine r_aload_n ok102 2 rfl rfl rfl ?_
  refine r_getI ok102 3 rfl rfl rfl rfl ?_
  refine r_iconst (v := 1) ok102 4 rfl rfl rfl ?_
  refine r_isub ok102 5 rfl rfl ?_
  refine r_icmp_ge ok102 6 rfl rfl (fun c1 => ?_) (fun c1 => ?_)
  · have h1 := h.1 c1
    refine r_aload_n ok102 13 rfl rfl rfl ?_
    refine r_aload_n ok102 14 rfl rfl rfl ?_
    refine r_getF ok102 15 rfl rfl rfl rfl ?_
    refine r_aload_n ok102 16 rfl rfl rfl ?_
    refine r_getI ok102 17 rfl rfl rfl rfl ?_
    obtain ⟨c2, h2⟩ := h1
    refine r_iald ok102 18 rfl rfl rfl c2 ?_
    refine r_putI ok102 19 rfl rfl rfl rfl ?_
    refine r_aload_n ok102 20 rfl rfl rfl ?_
    refine r_aload_n ok102 21 rfl rfl rfl ?_
    refine r_getF ok102 22 rfl rfl rfl rfl ?_
    refine r_aload_n ok102 23 rfl rfl rfl ?_
    refine r_getI ok102 24 rfl rfl rfl rfl ?_
    obtain ⟨c3, h3⟩ := h2
    refine r_iald ok102 25 rfl rfl rfl c3 ?_
    refine r_putI ok102 26 rfl rfl rfl rfl ?_
    refine r_aload_n ok102 27 rfl rfl rfl ?_
    refine r_aload_n ok102 28 rfl rfl rfl ?_
    refine r_getF ok102 29 rfl rfl rfl rfl ?_
    refine r_aload_n ok102 30 rfl rfl rfl ?_
    refine r_getI ok102 31 rfl rfl rfl rfl ?_
    obtain ⟨c4, h4⟩ := h3
    refine r_lald ok102 32 rfl rfl rfl c4 ?_
    refine r_putL ok102 33 rfl rfl rfl rfl ?_
    exact r_ret ok102 34 rfl rfl rfl h4
  · have h1 := h.2 c1
    refine r_aload_n ok102 7 rfl rfl rfl ?_
    refine r_dup ok102 8 rfl rfl rfl ?_
    refine r_getI ok102 9 rfl rfl rfl rfl ?_
    refine r_iconst (v := 1) ok102 10 rfl rfl rfl ?_
    refine r_iadd ok102 11 rfl rfl ?_
    refine r_putI ok102 12 rfl rfl rfl rfl ?_
    refine r_aload_n ok102 13 rfl rfl rfl ?_
    refine r_aload_n ok102 14 rfl rfl rfl ?_
    refine r_getF ok102 15 rfl rfl rfl rfl ?_
    refine r_aload_n ok102 16 rfl rfl rfl ?_
    refine r_getI ok102 17 rfl rfl rfl rfl ?_
    obtain ⟨c5, h5⟩ := h1
    refine r_iald ok102 18 rfl rfl rfl c5 ?_
    refine r_putI ok102 19 rfl rfl rfl rfl ?_
    refine r_aload_n ok102 20 rfl rfl rfl ?_
    refine r_aload_n ok102 21 rfl rfl rfl ?_
    refine r_getF ok102 22 rfl rfl rfl rfl ?_
    refine r_aload_n ok102 23 rfl rfl rfl ?_
    refine r_getI ok102 24 rfl rfl rfl rfl ?_
    obtain ⟨c6, h6⟩ := h5
    refine r_iald ok102 25 rfl rfl rfl c6 ?_
    refine r_putI ok102 26 rfl rfl rfl rfl ?_
    refine r_aload_n ok102 27 rfl rfl rfl ?_
    refine r_aload_n ok102 28 rfl rfl rfl ?_
    refine r_getF ok102 29 rfl rfl rfl rfl ?_
    refine r_aload_n ok102 30 rfl rfl rfl ?_
    refine r_getI ok102 31 rfl rfl rfl rfl ?_
    obtain ⟨c7, h7⟩ := h6
    refine r_lald ok102 32 rfl rfl rfl c7 ?_
    refine r_putL ok102 33 rfl rfl rfl rfl ?_
    exact r_ret ok102 34 rfl rfl rfl h7

theorem K102 {Θ : Th} {d : Nat} {σ : Mem} {Q : Po} (h : G Θ d 102 0 [some (.ref 1)] [] σ Q) : Cm Θ d 102 [.ref 1] σ Q :=
  C_of_G okM102 (Nat.le_of_ble_eq_true rfl) rfl h

-- 103: LikeYears$Tape.note(IIJ)V
set_option maxRecDepth 100000 in
set_option maxHeartbeats 4000000 in
theorem B103_0 {Θ : Th} {d : Nat} {σ : Mem} {Q : Po} {x1 : Int32} {x2 : Int32} {x3 : Int64} 
    (h : ((1300 < (σ.1 1 10) → Q none σ) ∧ (¬ 1300 < (σ.1 1 10) → (vp_in (σ.1 1 10) 1301 ∧ (vp_in ((sI σ 3 ((σ.1 1 10).toNatClampNeg) x1).1 1 10) 1301 ∧ (vp_in ((sI (sI σ 3 ((σ.1 1 10).toNatClampNeg) x1) 4 (((sI σ 3 ((σ.1 1 10).toNatClampNeg) x1).1 1 10).toNatClampNeg) x2).1 1 10) 1301 ∧ Q none (sI (sL (sI (sI σ 3 ((σ.1 1 10).toNatClampNeg) x1) 4 (((sI σ 3 ((σ.1 1 10).toNatClampNeg) x1).1 1 10).toNatClampNeg) x2) 5 (((sI (sI σ 3 ((σ.1 1 10).toNatClampNeg) x1) 4 (((sI σ 3 ((σ.1 1 10).toNatClampNeg) x1).1 1 10).toNatClampNeg) x2).1 1 10).toNatClampNeg) x3) 1 10 (((sL (sI (sI σ 3 ((σ.1 1 10).toNatClampNeg) x1) 4 (((sI σ 3 ((σ.1 1 10).toNatClampNeg) x1).1 1 10).toNatClampNeg) x2) 5 (((sI (sI σ 3 ((σ.1 1 10).toNatClampNeg) x1) 4 (((sI σ 3 ((σ.1 1 10).toNatClampNeg) x1).1 1 10).toNatClampNeg) x2).1 1 10).toNatClampNeg) x3).1 1 10) + 1)))))))) :
    G Θ d 103 0 [some (.ref 1), some (.int x1), some (.int x2), some (.long x3), none] [] σ Q := by
  refine r_aload_n ok103 0 rfl rfl rfl ?_
  refine r_getI ok103 1 rfl rfl rfl rfl ?_
  refine r_sipush (v := 1300) ok103 2 rfl rfl rfl ?_
  refine r_icmp_gt ok103 3 rfl rfl (fun c1 => ?_) (fun c1 => ?_)
  · have h1 := h.1 c1
    exact r_ret ok103 28 rfl rfl rfl h1
  · have h1 := h.2 c1
    refine r_aload_n ok103 4 rfl rfl rfl ?_
    refine r_getF ok103 5 rfl rfl rfl rfl ?_
    refine r_aload_n ok103 6 rfl rfl rfl ?_
    refine r_getI ok103 7 rfl rfl rfl rfl ?_
    refine r_iload_n ok103 8 rfl rfl rfl ?_
    obtain ⟨c2, h2⟩ := h1
    refine r_iast ok103 9 rfl rfl rfl c2 ?_
    refine r_aload_n ok103 10 rfl rfl rfl ?_
    refine r_getF ok103 11 rfl rfl rfl rfl ?_
    refine r_aload_n ok103 12 rfl rfl rfl ?_
    refine r_getI ok103 13 rfl rfl rfl rfl ?_
    refine r_iload_n ok103 14 rfl rfl rfl ?_
    obtain ⟨c3, h3⟩ := h2
    refine r_iast ok103 15 rfl rfl rfl c3 ?_
    refine r_aload_n ok103 16 rfl rfl rfl ?_
    refine r_getF ok103 17 rfl rfl rfl rfl ?_
    refine r_aload_n ok103 18 rfl rfl rfl ?_
    refine r_getI ok103 19 rfl rfl rfl rfl ?_
    refine r_lload_n ok103 20 rfl rfl rfl ?_
    obtain ⟨c4, h4⟩ := h3
    refine r_last ok103 21 rfl rfl rfl c4 ?_
    refine r_aload_n ok103 22 rfl rfl rfl ?_
    refine r_dup ok103 23 rfl rfl rfl ?_
    refine r_getI ok103 24 rfl rfl rfl rfl ?_
    refine r_iconst (v := 1) ok103 25 rfl rfl rfl ?_
    refine r_iadd ok103 26 rfl rfl ?_
    refine r_putI ok103 27 rfl rfl rfl rfl ?_
    exact r_ret ok103 28 rfl rfl rfl h4

theorem K103 {Θ : Th} {d : Nat} {σ : Mem} {Q : Po} {x1 : Int32} {x2 : Int32} {x3 : Int64} (h : G Θ d 103 0 [some (.ref 1), some (.int x1), some (.int x2), some (.long x3), none] [] σ Q) : Cm Θ d 103 [.ref 1, .int x1, .int x2, .long x3] σ Q :=
  C_of_G okM103 (Nat.le_of_ble_eq_true rfl) rfl h

-- 104: LikeYears$Tape.scanToken(IZ)I
set_option maxRecDepth 100000 in
set_option maxHeartbeats 4000000 in
theorem B104_0 {Θ : Th} {d : Nat} {σ : Mem} {Q : Po} {x1 : Int32} {x2 : Int32} 
    (h : (vp_in x1 1300 ∧ Ci Θ d 105 [.int (σ.1 2 x1.toNatClampNeg)] σ (fun v2 σ2 => ((v2 = 0 → (vp_in x1 1300 ∧ Ci Θ d 106 [.int (σ2.1 2 x1.toNatClampNeg)] σ2 (fun v5 σ5 => ((v5 = 0 → (vp_in x1 1300 ∧ ((((((σ5.1 2 x1.toNatClampNeg) &&& 255).toUInt32 % 65536).toInt32) = 59 → Cv Θ d 103 [.ref 1, .int 3, .int x1, .long (((((σ5.1 2 x1.toNatClampNeg) &&& 255).toUInt32 % 65536).toInt32).toInt64)] σ5 (fun σ10 => Q (some (.int (x1 + 1))) σ10)) ∧ (¬ ((((σ5.1 2 x1.toNatClampNeg) &&& 255).toUInt32 % 65536).toInt32) = 59 → ((x2 = 0 → Cv Θ d 103 [.ref 1, .int 4, .int x1, .long (((((σ5.1 2 x1.toNatClampNeg) &&& 255).toUInt32 % 65536).toInt32).toInt64)] σ5 (fun σ13 => Q (some (.int (x1 + 1))) σ13)) ∧ (¬ x2 = 0 → Ci Θ d 295 [.ref 1002, .int ((((σ5.1 2 x1.toNatClampNeg) &&& 255).toUInt32 % 65536).toInt32)] σ5 (fun v14 σ14 => ((v14 < 0 → Cv Θ d 103 [.ref 1, .int 4, .int x1, .long (((((σ5.1 2 x1.toNatClampNeg) &&& 255).toUInt32 % 65536).toInt32).toInt64)] σ14 (fun σ17 => Q (some (.int (x1 + 1))) σ17)) ∧ (¬ v14 < 0 → Cv Θ d 103 [.ref 1, .int 3, .int x1, .long (((((σ5.1 2 x1.toNatClampNeg) &&& 255).toUInt32 % 65536).toInt32).toInt64)] σ14 (fun σ19 => Q (some (.int (x1 + 1))) σ19)))))))))) ∧ (¬ v5 = 0 → Ci Θ d 108 [.ref 1, .int x1] σ5 (fun v20 σ20 => Q (some (.int v20)) σ20)))))) ∧ (¬ v2 = 0 → Ci Θ d 107 [.ref 1, .int x1] σ2 (fun v21 σ21 => Q (some (.int v21)) σ21)))))) :
    G Θ (d + 1) 104 0 [some (.ref 1), some (.int x1), some (.int x2), none, none] [] σ Q := by
  refine r_aload_n ok104 0 rfl rfl rfl ?_
  refine r_getF ok104 1 rfl rfl rfl rfl ?_
  refine r_iload_n ok104 2 rfl rfl rfl ?_
  obtain ⟨c1, h1⟩ := h
  refine r_bald ok104 3 rfl rfl rfl c1 ?_
  refine r_invSi (as := [.int (σ.1 2 x1.toNatClampNeg)]) (S := []) ok104 4 rfl rfl mf105 rfl (Nat.le_of_ble_eq_true rfl) rfl h1 (fun v2 σ2 h2 => ?_)
  refine r_if_eq ok104 5 rfl rfl (fun c3 => ?_) (fun c3 => ?_)
  · have h3 := h2.1 c3
    refine r_aload_n ok104 10 rfl rfl rfl ?_
    refine r_getF ok104 11 rfl rfl rfl rfl ?_
    refine r_iload_n ok104 12 rfl rfl rfl ?_
    obtain ⟨c4, h4⟩ := h3
    refine r_bald ok104 13 rfl rfl rfl c4 ?_
    refine r_invSi (as := [.int (σ2.1 2 x1.toNatClampNeg)]) (S := []) ok104 14 rfl rfl mf106 rfl (Nat.le_of_ble_eq_true rfl) rfl h4 (fun v5 σ5 h5 => ?_)
    refine r_if_eq ok104 15 rfl rfl (fun c6 => ?_) (fun c6 => ?_)
    · have h6 := h5.1 c6
      refine r_aload_n ok104 20 rfl rfl rfl ?_
      refine r_getF ok104 21 rfl rfl rfl rfl ?_
      refine r_iload_n ok104 22 rfl rfl rfl ?_
      obtain ⟨c7, h7⟩ := h6
      refine r_bald ok104 23 rfl rfl rfl c7 ?_
      refine r_sipush (v := 255) ok104 24 rfl rfl rfl ?_
      refine r_iand ok104 25 rfl rfl ?_
      refine r_i2c ok104 26 rfl rfl ?_
      refine r_istore_n ok104 27 rfl rfl ?_
      refine r_iload_n ok104 28 rfl rfl rfl ?_
      refine r_bipush (v := 59) ok104 29 rfl rfl rfl ?_
      refine r_icmp_eq ok104 30 rfl rfl (fun c8 => ?_) (fun c8 => ?_)
      · have h8 := h7.1 c8
        refine r_iconst (v := 1) ok104 37 rfl rfl rfl ?_
        refine r_goto ok104 38 rfl rfl ?_
        refine r_istore ok104 40 rfl rfl ?_
        refine r_aload_n ok104 41 rfl rfl rfl ?_
        refine r_iload ok104 42 rfl rfl rfl ?_
        refine r_if_eq ok104 43 rfl rfl (fun c9 => absurd c9 (by decide)) (fun _ => ?_)
        refine r_iconst (v := 3) ok104 44 rfl rfl rfl ?_
        refine r_goto ok104 45 rfl rfl ?_
        refine r_iload_n ok104 47 rfl rfl rfl ?_
        refine r_iload_n ok104 48 rfl rfl rfl ?_
        refine r_i2l ok104 49 rfl rfl ?_
        refine r_invVv (as := [.int 3, .int x1, .long (((((σ5.1 2 x1.toNatClampNeg) &&& 255).toUInt32 % 65536).toInt32).toInt64)]) (S := []) ok104 50 rfl rfl mf103 rfl rfl (Nat.le_of_ble_eq_true rfl) rfl h8 (fun σ10 h10 => ?_)
        refine r_iload_n ok104 51 rfl rfl rfl ?_
        refine r_iconst (v := 1) ok104 52 rfl rfl rfl ?_
        refine r_iadd ok104 53 rfl rfl ?_
        exact r_iret ok104 54 rfl rfl rfl h10
      · have h8 := h7.2 c8
        refine r_iload_n ok104 31 rfl rfl rfl ?_
        refine r_if_eq ok104 32 rfl rfl (fun c11 => ?_) (fun c11 => ?_)
        · have h11 := h8.1 c11
          refine r_iconst (v := 0) ok104 39 rfl rfl rfl ?_
          refine r_istore ok104 40 rfl rfl ?_
          refine r_aload_n ok104 41 rfl rfl rfl ?_
          refine r_iload ok104 42 rfl rfl rfl ?_
          refine r_if_eq ok104 43 rfl rfl (fun _ => ?_) (fun c12 => absurd c12 (by decide))
          refine r_iconst (v := 4) ok104 46 rfl rfl rfl ?_
          refine r_iload_n ok104 47 rfl rfl rfl ?_
          refine r_iload_n ok104 48 rfl rfl rfl ?_
          refine r_i2l ok104 49 rfl rfl ?_
          refine r_invVv (as := [.int 4, .int x1, .long (((((σ5.1 2 x1.toNatClampNeg) &&& 255).toUInt32 % 65536).toInt32).toInt64)]) (S := []) ok104 50 rfl rfl mf103 rfl rfl (Nat.le_of_ble_eq_true rfl) rfl h11 (fun σ13 h13 => ?_)
          refine r_iload_n ok104 51 rfl rfl rfl ?_
          refine r_iconst (v := 1) ok104 52 rfl rfl rfl ?_
          refine r_iadd ok104 53 rfl rfl ?_
          exact r_iret ok104 54 rfl rfl rfl h13
        · have h11 := h8.2 c11
          refine r_ldcs ok104 33 rfl rfl rfl ?_
          refine r_iload_n ok104 34 rfl rfl rfl ?_
          refine r_invTi (as := [.int ((((σ5.1 2 x1.toNatClampNeg) &&& 255).toUInt32 % 65536).toInt32)]) (S := []) ok104 35 rfl rfl mf295 rfl (Nat.le_of_ble_eq_true rfl) rfl h11 (fun v14 σ14 h14 => ?_)
          refine r_if_lt ok104 36 rfl rfl (fun c15 => ?_) (fun c15 => ?_)
          · have h15 := h14.1 c15
            refine r_iconst (v := 0) ok104 39 rfl rfl rfl ?_
            refine r_istore ok104 40 rfl rfl ?_
            refine r_aload_n ok104 41 rfl rfl rfl ?_
            refine r_iload ok104 42 rfl rfl rfl ?_
            refine r_if_eq ok104 43 rfl rfl (fun _ => ?_) (fun c16 => absurd c16 (by decide))
            refine r_iconst (v := 4) ok104 46 rfl rfl rfl ?_
            refine r_iload_n ok104 47 rfl rfl rfl ?_
            refine r_iload_n ok104 48 rfl rfl rfl ?_
            refine r_i2l ok104 49 rfl rfl ?_
            refine r_invVv (as := [.int 4, .int x1, .long (((((σ5.1 2 x1.toNatClampNeg) &&& 255).toUInt32 % 65536).toInt32).toInt64)]) (S := []) ok104 50 rfl rfl mf103 rfl rfl (Nat.le_of_ble_eq_true rfl) rfl h15 (fun σ17 h17 => ?_)
            refine r_iload_n ok104 51 rfl rfl rfl ?_
            refine r_iconst (v := 1) ok104 52 rfl rfl rfl ?_
            refine r_iadd ok104 53 rfl rfl ?_
            exact r_iret ok104 54 rfl rfl rfl h17
          · have h15 := h14.2 c15
            refine r_iconst (v := 1) ok104 37 rfl rfl rfl ?_
            refine r_goto ok104 38 rfl rfl ?_
            refine r_istore ok104 40 rfl rfl ?_
            refine r_aload_n ok104 41 rfl rfl rfl ?_
            refine r_iload ok104 42 rfl rfl rfl ?_
            refine r_if_eq ok104 43 rfl rfl (fun c18 => absurd c18 (by decide)) (fun _ => ?_)
            refine r_iconst (v := 3) ok104 44 rfl rfl rfl ?_
            refine r_goto ok104 45 rfl rfl ?_
            refine r_iload_n ok104 47 rfl rfl rfl ?_
            refine r_iload_n ok104 48 rfl rfl rfl ?_
            refine r_i2l ok104 49 rfl rfl ?_
            refine r_invVv (as := [.int 3, .int x1, .long (((((σ5.1 2 x1.toNatClampNeg) &&& 255).toUInt32 % 65536).toInt32).toInt64)]) (S := []) ok104 50 rfl rfl mf103 rfl rfl (Nat.le_of_ble_eq_true rfl) rfl h15 (fun σ19 h19 => ?_)
            refine r_iload_n ok104 51 rfl rfl rfl ?_
            refine r_iconst (v := 1) ok104 52 rfl rfl rfl ?_
            refine r_iadd ok104 53 rfl rfl ?_
            exact r_iret ok104 54 rfl rfl rfl h19
    · have h6 := h5.2 c6
      refine r_aload_n ok104 16 rfl rfl rfl ?_
      refine r_iload_n ok104 17 rfl rfl rfl ?_
      refine r_invVi (as := [.int x1]) (S := []) ok104 18 rfl rfl mf108 rfl rfl (Nat.le_of_ble_eq_true rfl) rfl h6 (fun v20 σ20 h20 => ?_)
      exact r_iret ok104 19 rfl rfl rfl h20
  · have h3 := h2.2 c3
    refine r_aload_n ok104 6 rfl rfl rfl ?_
    refine r_iload_n ok104 7 rfl rfl rfl ?_
    refine r_invVi (as := [.int x1]) (S := []) ok104 8 rfl rfl mf107 rfl rfl (Nat.le_of_ble_eq_true rfl) rfl h3 (fun v21 σ21 h21 => ?_)
    exact r_iret ok104 9 rfl rfl rfl h21

theorem K104 {Θ : Th} {d : Nat} {σ : Mem} {Q : Po} {x1 : Int32} {x2 : Int32} (h : G Θ (d + 1) 104 0 [some (.ref 1), some (.int x1), some (.int x2), none, none] [] σ Q) : Cm Θ (d + 1) 104 [.ref 1, .int x1, .int x2] σ Q :=
  C_of_G okM104 (Nat.le_of_ble_eq_true rfl) rfl h

-- 105: LikeYears$Tape.isLetter(I)Z
set_option maxRecDepth 100000 in
set_option maxHeartbeats 4000000 in
theorem B105_0 {Θ : Th} {d : Nat} {σ : Mem} {Q : Po} {x0 : Int32} 
    (h : ((x0 < 97 → Q (some (.int 0)) σ) ∧ (¬ x0 < 97 → ((122 < x0 → Q (some (.int 0)) σ) ∧ (¬ 122 < x0 → Q (some (.int 1)) σ))))) :
    G Θ d 105 0 [some (.int x0)] [] σ Q := by
  refine r_iload_n ok105 0 rfl rfl rfl ?_
  refine r_bipush (v := 97) ok105 1 rfl rfl rfl ?_
  refine r_icmp_lt ok105 2 rfl rfl (fun c1 => ?_) (fun c1 => ?_)
  · have h1 := h.1 c1
    refine r_iconst (v := 0) ok105 8 rfl rfl rfl ?_
    exact r_zret ok105 9 rfl rfl rfl (Or.inl rfl) h1
  · have h1 := h.2 c1
    refine r_iload_n ok105 3 rfl rfl rfl ?_
    refine r_bipush (v := 122) ok105 4 rfl rfl rfl ?_
    refine r_icmp_gt ok105 5 rfl rfl (fun c2 => ?_) (fun c2 => ?_)
    · have h2 := h1.1 c2
      refine r_iconst (v := 0) ok105 8 rfl rfl rfl ?_
      exact r_zret ok105 9 rfl rfl rfl (Or.inl rfl) h2
    · have h2 := h1.2 c2
      refine r_iconst (v := 1) ok105 6 rfl rfl rfl ?_
      refine r_goto ok105 7 rfl rfl ?_
      exact r_zret ok105 9 rfl rfl rfl (Or.inr rfl) h2

theorem K105 {Θ : Th} {d : Nat} {σ : Mem} {Q : Po} {x0 : Int32} (h : G Θ d 105 0 [some (.int x0)] [] σ Q) : Cm Θ d 105 [.int x0] σ Q :=
  C_of_G okM105 (Nat.le_of_ble_eq_true rfl) rfl h

-- 106: LikeYears$Tape.isDigit(I)Z
set_option maxRecDepth 100000 in
set_option maxHeartbeats 4000000 in
theorem B106_0 {Θ : Th} {d : Nat} {σ : Mem} {Q : Po} {x0 : Int32} 
    (h : ((x0 < 48 → Q (some (.int 0)) σ) ∧ (¬ x0 < 48 → ((57 < x0 → Q (some (.int 0)) σ) ∧ (¬ 57 < x0 → Q (some (.int 1)) σ))))) :
    G Θ d 106 0 [some (.int x0)] [] σ Q := by
  refine r_iload_n ok106 0 rfl rfl rfl ?_
  refine r_bipush (v := 48) ok106 1 rfl rfl rfl ?_
  refine r_icmp_lt ok106 2 rfl rfl (fun c1 => ?_) (fun c1 => ?_)
  · have h1 := h.1 c1
    refine r_iconst (v := 0) ok106 8 rfl rfl rfl ?_
    exact r_zret ok106 9 rfl rfl rfl (Or.inl rfl) h1
  · have h1 := h.2 c1
    refine r_iload_n ok106 3 rfl rfl rfl ?_
    refine r_bipush (v := 57) ok106 4 rfl rfl rfl ?_
    refine r_icmp_gt ok106 5 rfl rfl (fun c2 => ?_) (fun c2 => ?_)
    · have h2 := h1.1 c2
      refine r_iconst (v := 0) ok106 8 rfl rfl rfl ?_
      exact r_zret ok106 9 rfl rfl rfl (Or.inl rfl) h2
    · have h2 := h1.2 c2
      refine r_iconst (v := 1) ok106 6 rfl rfl rfl ?_
      refine r_goto ok106 7 rfl rfl ?_
      exact r_zret ok106 9 rfl rfl rfl (Or.inr rfl) h2

theorem K106 {Θ : Th} {d : Nat} {σ : Mem} {Q : Po} {x0 : Int32} (h : G Θ d 106 0 [some (.int x0)] [] σ Q) : Cm Θ d 106 [.int x0] σ Q :=
  C_of_G okM106 (Nat.le_of_ble_eq_true rfl) rfl h

-- 107: LikeYears$Tape.scanWord(I)I
set_option maxRecDepth 100000 in
set_option maxHeartbeats 4000000 in
theorem B107_0 {Θ : Th} {d : Nat} {σ : Mem} {Q : Po} {x1 : Int32} 
    (h : G Θ (d + 1) 107 5 [some (.ref 1), some (.int x1), some (.long 0), none, some (.int x1)] [] σ Q) :
    G Θ (d + 1) 107 0 [some (.ref 1), some (.int x1), none, none, none] [] σ Q := by
  refine r_lconst (v := 0) ok107 0 rfl rfl rfl ?_
  refine r_lstore_n ok107 1 rfl rfl ?_
  refine r_iload_n ok107 2 rfl rfl rfl ?_
  refine r_istore ok107 3 rfl rfl ?_
  exact h

set_option maxRecDepth 100000 in
set_option maxHeartbeats 4000000 in
theorem B107_5 {Θ : Th} {d : Nat} {σ : Mem} {Q : Po} {x1 : Int32} {x2 : Int64} {x4 : Int32} 
    (h : (((σ.1 1 0) ≤ x4 → (((x4 - x1) ≤ 8 → Cv Θ d 103 [.ref 1, .int 1, .int x1, .long x2] σ (fun σ3 => Q (some (.int x4)) σ3)) ∧ (¬ (x4 - x1) ≤ 8 → Cv Θ d 103 [.ref 1, .int 4, .int x1, .long x2] σ (fun σ4 => Q (some (.int x4)) σ4)))) ∧ (¬ (σ.1 1 0) ≤ x4 → (vp_in x4 1300 ∧ Ci Θ d 105 [.int (σ.1 2 x4.toNatClampNeg)] σ (fun v6 σ6 => ((v6 = 0 → (((x4 - x1) ≤ 8 → Cv Θ d 103 [.ref 1, .int 1, .int x1, .long x2] σ6 (fun σ9 => Q (some (.int x4)) σ9)) ∧ (¬ (x4 - x1) ≤ 8 → Cv Θ d 103 [.ref 1, .int 4, .int x1, .long x2] σ6 (fun σ10 => Q (some (.int x4)) σ10)))) ∧ (¬ v6 = 0 → (vp_in x4 1300 ∧ G Θ (d + 1) 107 5 [some (.ref 1), some (.int x1), some (.long ((x2 <<< ((8 : Int32).toInt64 &&& 63)) ||| ((σ6.1 2 x4.toNatClampNeg).toInt64))), none, some (.int (x4 + 1))] [] σ6 Q)))))))) :
    G Θ (d + 1) 107 5 [some (.ref 1), some (.int x1), some (.long x2), none, some (.int x4)] [] σ Q := by
  refine r_iload ok107 4 rfl rfl rfl ?_
  refine r_aload_n ok107 5 rfl rfl rfl ?_
  refine r_getI ok107 6 rfl rfl rfl rfl ?_
  refine r_icmp_ge ok107 7 rfl rfl (fun c1 => ?_) (fun c1 => ?_)
  · have h1 := h.1 c1
    refine r_aload_n ok107 26 rfl rfl rfl ?_
    refine r_iload ok107 27 rfl rfl rfl ?_
    refine r_iload_n ok107 28 rfl rfl rfl ?_
    refine r_isub ok107 29 rfl rfl ?_
    refine r_bipush (v := 8) ok107 30 rfl rfl rfl ?_
    refine r_icmp_le ok107 31 rfl rfl (fun c2 => ?_) (fun c2 => ?_)
    · have h2 := h1.1 c2
      refine r_iconst (v := 1) ok107 34 rfl rfl rfl ?_
      refine r_iload_n ok107 35 rfl rfl rfl ?_
      refine r_lload_n ok107 36 rfl rfl rfl ?_
      refine r_invVv (as := [.int 1, .int x1, .long x2]) (S := []) ok107 37 rfl rfl mf103 rfl rfl (Nat.le_of_ble_eq_true rfl) rfl h2 (fun σ3 h3 => ?_)
      refine r_iload ok107 38 rfl rfl rfl ?_
      exact r_iret ok107 39 rfl rfl rfl h3
    · have h2 := h1.2 c2
      refine r_iconst (v := 4) ok107 32 rfl rfl rfl ?_
      refine r_goto ok107 33 rfl rfl ?_
      refine r_iload_n ok107 35 rfl rfl rfl ?_
      refine r_lload_n ok107 36 rfl rfl rfl ?_
      refine r_invVv (as := [.int 4, .int x1, .long x2]) (S := []) ok107 37 rfl rfl mf103 rfl rfl (Nat.le_of_ble_eq_true rfl) rfl h2 (fun σ4 h4 => ?_)
      refine r_iload ok107 38 rfl rfl rfl ?_
      exact r_iret ok107 39 rfl rfl rfl h4
  · have h1 := h.2 c1
    refine r_aload_n ok107 8 rfl rfl rfl ?_
    refine r_getF ok107 9 rfl rfl rfl rfl ?_
    refine r_iload ok107 10 rfl rfl rfl ?_
    obtain ⟨c5, h5⟩ := h1
    refine r_bald ok107 11 rfl rfl rfl c5 ?_
    refine r_invSi (as := [.int (σ.1 2 x4.toNatClampNeg)]) (S := []) ok107 12 rfl rfl mf105 rfl (Nat.le_of_ble_eq_true rfl) rfl h5 (fun v6 σ6 h6 => ?_)
    refine r_if_eq ok107 13 rfl rfl (fun c7 => ?_) (fun c7 => ?_)
    · have h7 := h6.1 c7
      refine r_aload_n ok107 26 rfl rfl rfl ?_
      refine r_iload ok107 27 rfl rfl rfl ?_
      refine r_iload_n ok107 28 rfl rfl rfl ?_
      refine r_isub ok107 29 rfl rfl ?_
      refine r_bipush (v := 8) ok107 30 rfl rfl rfl ?_
      refine r_icmp_le ok107 31 rfl rfl (fun c8 => ?_) (fun c8 => ?_)
      · have h8 := h7.1 c8
        refine r_iconst (v := 1) ok107 34 rfl rfl rfl ?_
        refine r_iload_n ok107 35 rfl rfl rfl ?_
        refine r_lload_n ok107 36 rfl rfl rfl ?_
        refine r_invVv (as := [.int 1, .int x1, .long x2]) (S := []) ok107 37 rfl rfl mf103 rfl rfl (Nat.le_of_ble_eq_true rfl) rfl h8 (fun σ9 h9 => ?_)
        refine r_iload ok107 38 rfl rfl rfl ?_
        exact r_iret ok107 39 rfl rfl rfl h9
      · have h8 := h7.2 c8
        refine r_iconst (v := 4) ok107 32 rfl rfl rfl ?_
        refine r_goto ok107 33 rfl rfl ?_
        refine r_iload_n ok107 35 rfl rfl rfl ?_
        refine r_lload_n ok107 36 rfl rfl rfl ?_
        refine r_invVv (as := [.int 4, .int x1, .long x2]) (S := []) ok107 37 rfl rfl mf103 rfl rfl (Nat.le_of_ble_eq_true rfl) rfl h8 (fun σ10 h10 => ?_)
        refine r_iload ok107 38 rfl rfl rfl ?_
        exact r_iret ok107 39 rfl rfl rfl h10
    · have h7 := h6.2 c7
      refine r_lload_n ok107 14 rfl rfl rfl ?_
      refine r_bipush (v := 8) ok107 15 rfl rfl rfl ?_
      refine r_lshl ok107 16 rfl rfl ?_
      refine r_aload_n ok107 17 rfl rfl rfl ?_
      refine r_getF ok107 18 rfl rfl rfl rfl ?_
      refine r_iload ok107 19 rfl rfl rfl ?_
      obtain ⟨c11, h11⟩ := h7
      refine r_bald ok107 20 rfl rfl rfl c11 ?_
      refine r_i2l ok107 21 rfl rfl ?_
      refine r_lor ok107 22 rfl rfl ?_
      refine r_lstore_n ok107 23 rfl rfl ?_
      refine r_iinc (v := x4 + 1) ok107 24 rfl rfl rfl rfl ?_
      refine r_goto ok107 25 rfl rfl ?_
      exact h11

theorem K107 {Θ : Th} {d : Nat} {σ : Mem} {Q : Po} {x1 : Int32} (h : G Θ (d + 1) 107 0 [some (.ref 1), some (.int x1), none, none, none] [] σ Q) : Cm Θ (d + 1) 107 [.ref 1, .int x1] σ Q :=
  C_of_G okM107 (Nat.le_of_ble_eq_true rfl) rfl h

-- 108: LikeYears$Tape.scanNumber(I)I
set_option maxRecDepth 100000 in
set_option maxHeartbeats 4000000 in
theorem B108_0 {Θ : Th} {d : Nat} {σ : Mem} {Q : Po} {x1 : Int32} 
    (h : G Θ (d + 1) 108 5 [some (.ref 1), some (.int x1), some (.long 0), none, some (.int x1), none] [] σ Q) :
    G Θ (d + 1) 108 0 [some (.ref 1), some (.int x1), none, none, none, none] [] σ Q := by
  refine r_lconst (v := 0) ok108 0 rfl rfl rfl ?_
  refine r_lstore_n ok108 1 rfl rfl ?_
  refine r_iload_n ok108 2 rfl rfl rfl ?_
  refine r_istore ok108 3 rfl rfl ?_
  exact h

set_option maxRecDepth 100000 in
set_option maxHeartbeats 4000000 in
theorem B108_5 {Θ : Th} {d : Nat} {σ : Mem} {Q : Po} {x1 : Int32} {x2 : Int64} {x4 : Int32} 
    (h : (((σ.1 1 0) ≤ x4 → G Θ (d + 1) 108 52 [some (.ref 1), some (.int x1), some (.long x2), none, some (.int x4), none] [] σ Q) ∧ (¬ (σ.1 1 0) ≤ x4 → (vp_in x4 1300 ∧ Ci Θ d 106 [.int (σ.1 2 x4.toNatClampNeg)] σ (fun v3 σ3 => ((v3 = 0 → G Θ (d + 1) 108 52 [some (.ref 1), some (.int x1), some (.long x2), none, some (.int x4), none] [] σ3 Q) ∧ (¬ v3 = 0 → (vp_in x4 1300 ∧ G Θ (d + 1) 108 5 [some (.ref 1), some (.int x1), some (.long (((x2 * 10) + ((σ3.1 2 x4.toNatClampNeg).toInt64)) - 48)), none, some (.int (x4 + 1)), none] [] σ3 Q)))))))) :
    G Θ (d + 1) 108 5 [some (.ref 1), some (.int x1), some (.long x2), none, some (.int x4), none] [] σ Q := by
  refine r_iload ok108 4 rfl rfl rfl ?_
  refine r_aload_n ok108 5 rfl rfl rfl ?_
  refine r_getI ok108 6 rfl rfl rfl rfl ?_
  refine r_icmp_ge ok108 7 rfl rfl (fun c1 => ?_) (fun c1 => ?_)
  · have h1 := h.1 c1
    exact h1
  · have h1 := h.2 c1
    refine r_aload_n ok108 8 rfl rfl rfl ?_
    refine r_getF ok108 9 rfl rfl rfl rfl ?_
    refine r_iload ok108 10 rfl rfl rfl ?_
    obtain ⟨c2, h2⟩ := h1
    refine r_bald ok108 11 rfl rfl rfl c2 ?_
    refine r_invSi (as := [.int (σ.1 2 x4.toNatClampNeg)]) (S := []) ok108 12 rfl rfl mf106 rfl (Nat.le_of_ble_eq_true rfl) rfl h2 (fun v3 σ3 h3 => ?_)
    refine r_if_eq ok108 13 rfl rfl (fun c4 => ?_) (fun c4 => ?_)
    · have h4 := h3.1 c4
      exact h4
    · have h4 := h3.2 c4
      refine r_lload_n ok108 14 rfl rfl rfl ?_
      refine r_ldc2_w (v := 10) ok108 15 rfl rfl rfl ?_
      refine r_lmul ok108 16 rfl rfl ?_
      refine r_aload_n ok108 17 rfl rfl rfl ?_
      refine r_getF ok108 18 rfl rfl rfl rfl ?_
      refine r_iload ok108 19 rfl rfl rfl ?_
      obtain ⟨c5, h5⟩ := h4
      refine r_bald ok108 20 rfl rfl rfl c5 ?_
      refine r_i2l ok108 21 rfl rfl ?_
      refine r_ladd ok108 22 rfl rfl ?_
      refine r_ldc2_w (v := 48) ok108 23 rfl rfl rfl ?_
      refine r_lsub ok108 24 rfl rfl ?_
      refine r_lstore_n ok108 25 rfl rfl ?_
      refine r_iinc (v := x4 + 1) ok108 26 rfl rfl rfl rfl ?_
      refine r_goto ok108 27 rfl rfl ?_
      exact h5

set_option maxRecDepth 100000 in
set_option maxHeartbeats 4000000 in
theorem B108_52 {Θ : Th} {d : Nat} {σ : Mem} {Q : Po} {x1 : Int32} {x2 : Int64} {x4 : Int32} 
    (h : (((σ.1 1 0) ≤ x4 → G Θ (d + 1) 108 78 [some (.ref 1), some (.int x1), some (.long x2), none, some (.int x4), none] [] σ Q) ∧ (¬ (σ.1 1 0) ≤ x4 → (vp_in x4 1300 ∧ Ci Θ d 105 [.int (σ.1 2 x4.toNatClampNeg)] σ (fun v3 σ3 => ((v3 = 0 → G Θ (d + 1) 108 78 [some (.ref 1), some (.int x1), some (.long x2), none, some (.int x4), none] [] σ3 Q) ∧ (¬ v3 = 0 → ((4 < (x4 - x1) → Cv Θ d 103 [.ref 1, .int 4, .int x1, .long x2] σ3 (fun σ6 => Q (some (.int x4)) σ6)) ∧ (¬ 4 < (x4 - x1) → Cv Θ d 103 [.ref 1, .int 4, .int x1, .long x2] σ3 (fun σ8 => Q (some (.int x4)) σ8)))))))))) :
    G Θ (d + 1) 108 52 [some (.ref 1), some (.int x1), some (.long x2), none, some (.int x4), none] [] σ Q := by
  refine r_iload ok108 28 rfl rfl rfl ?_
  refine r_aload_n ok108 29 rfl rfl rfl ?_
  refine r_getI ok108 30 rfl rfl rfl rfl ?_
  refine r_icmp_ge ok108 31 rfl rfl (fun c1 => ?_) (fun c1 => ?_)
  · have h1 := h.1 c1
    exact h1
  · have h1 := h.2 c1
    refine r_aload_n ok108 32 rfl rfl rfl ?_
    refine r_getF ok108 33 rfl rfl rfl rfl ?_
    refine r_iload ok108 34 rfl rfl rfl ?_
    obtain ⟨c2, h2⟩ := h1
    refine r_bald ok108 35 rfl rfl rfl c2 ?_
    refine r_invSi (as := [.int (σ.1 2 x4.toNatClampNeg)]) (S := []) ok108 36 rfl rfl mf105 rfl (Nat.le_of_ble_eq_true rfl) rfl h2 (fun v3 σ3 h3 => ?_)
    refine r_if_eq ok108 37 rfl rfl (fun c4 => ?_) (fun c4 => ?_)
    · have h4 := h3.1 c4
      exact h4
    · have h4 := h3.2 c4
      refine r_iconst (v := 1) ok108 38 rfl rfl rfl ?_
      refine r_goto ok108 39 rfl rfl ?_
      refine r_istore ok108 41 rfl rfl ?_
      refine r_aload_n ok108 42 rfl rfl rfl ?_
      refine r_iload ok108 43 rfl rfl rfl ?_
      refine r_iload_n ok108 44 rfl rfl rfl ?_
      refine r_isub ok108 45 rfl rfl ?_
      refine r_iconst (v := 4) ok108 46 rfl rfl rfl ?_
      refine r_icmp_gt ok108 47 rfl rfl (fun c5 => ?_) (fun c5 => ?_)
      · have h5 := h4.1 c5
        refine r_iconst (v := 4) ok108 50 rfl rfl rfl ?_
        refine r_goto ok108 51 rfl rfl ?_
        refine r_iload_n ok108 53 rfl rfl rfl ?_
        refine r_lload_n ok108 54 rfl rfl rfl ?_
        refine r_invVv (as := [.int 4, .int x1, .long x2]) (S := []) ok108 55 rfl rfl mf103 rfl rfl (Nat.le_of_ble_eq_true rfl) rfl h5 (fun σ6 h6 => ?_)
        refine r_iload ok108 56 rfl rfl rfl ?_
        exact r_iret ok108 57 rfl rfl rfl h6
      · have h5 := h4.2 c5
        refine r_iload ok108 48 rfl rfl rfl ?_
        refine r_if_eq ok108 49 rfl rfl (fun c7 => absurd c7 (by decide)) (fun _ => ?_)
        refine r_iconst (v := 4) ok108 50 rfl rfl rfl ?_
        refine r_goto ok108 51 rfl rfl ?_
        refine r_iload_n ok108 53 rfl rfl rfl ?_
        refine r_lload_n ok108 54 rfl rfl rfl ?_
        refine r_invVv (as := [.int 4, .int x1, .long x2]) (S := []) ok108 55 rfl rfl mf103 rfl rfl (Nat.le_of_ble_eq_true rfl) rfl h5 (fun σ8 h8 => ?_)
        refine r_iload ok108 56 rfl rfl rfl ?_
        exact r_iret ok108 57 rfl rfl rfl h8

set_option maxRecDepth 100000 in
set_option maxHeartbeats 4000000 in
theorem B108_78 {Θ : Th} {d : Nat} {σ : Mem} {Q : Po} {x1 : Int32} {x2 : Int64} {x4 : Int32} 
    (h : ((4 < (x4 - x1) → Cv Θ d 103 [.ref 1, .int 4, .int x1, .long x2] σ (fun σ2 => Q (some (.int x4)) σ2)) ∧ (¬ 4 < (x4 - x1) → Cv Θ d 103 [.ref 1, .int 2, .int x1, .long x2] σ (fun σ4 => Q (some (.int x4)) σ4)))) :
    G Θ (d + 1) 108 78 [some (.ref 1), some (.int x1), some (.long x2), none, some (.int x4), none] [] σ Q := by
  refine r_iconst (v := 0) ok108 40 rfl rfl rfl ?_
  refine r_istore ok108 41 rfl rfl ?_
  refine r_aload_n ok108 42 rfl rfl rfl ?_
  refine r_iload ok108 43 rfl rfl rfl ?_
  refine r_iload_n ok108 44 rfl rfl rfl ?_
  refine r_isub ok108 45 rfl rfl ?_
  refine r_iconst (v := 4) ok108 46 rfl rfl rfl ?_
  refine r_icmp_gt ok108 47 rfl rfl (fun c1 => ?_) (fun c1 => ?_)
  · have h1 := h.1 c1
    refine r_iconst (v := 4) ok108 50 rfl rfl rfl ?_
    refine r_goto ok108 51 rfl rfl ?_
    refine r_iload_n ok108 53 rfl rfl rfl ?_
    refine r_lload_n ok108 54 rfl rfl rfl ?_
    refine r_invVv (as := [.int 4, .int x1, .long x2]) (S := []) ok108 55 rfl rfl mf103 rfl rfl (Nat.le_of_ble_eq_true rfl) rfl h1 (fun σ2 h2 => ?_)
    refine r_iload ok108 56 rfl rfl rfl ?_
    exact r_iret ok108 57 rfl rfl rfl h2
  · have h1 := h.2 c1
    refine r_iload ok108 48 rfl rfl rfl ?_
    refine r_if_eq ok108 49 rfl rfl (fun _ => ?_) (fun c3 => absurd c3 (by decide))
    refine r_iconst (v := 2) ok108 52 rfl rfl rfl ?_
    refine r_iload_n ok108 53 rfl rfl rfl ?_
    refine r_lload_n ok108 54 rfl rfl rfl ?_
    refine r_invVv (as := [.int 2, .int x1, .long x2]) (S := []) ok108 55 rfl rfl mf103 rfl rfl (Nat.le_of_ble_eq_true rfl) rfl h1 (fun σ4 h4 => ?_)
    refine r_iload ok108 56 rfl rfl rfl ?_
    exact r_iret ok108 57 rfl rfl rfl h4

theorem K108 {Θ : Th} {d : Nat} {σ : Mem} {Q : Po} {x1 : Int32} (h : G Θ (d + 1) 108 0 [some (.ref 1), some (.int x1), none, none, none, none] [] σ Q) : Cm Θ (d + 1) 108 [.ref 1, .int x1] σ Q :=
  C_of_G okM108 (Nat.le_of_ble_eq_true rfl) rfl h

-- 109: LikeYears$Tape.refuse(I)Z
set_option maxRecDepth 100000 in
set_option maxHeartbeats 4000000 in
theorem B109_0 {Θ : Th} {d : Nat} {σ : Mem} {Q : Po} {x1 : Int32} 
    (h : ((¬ (σ.1 1 3) = 4 → Q (some (.int 0)) (sI (sI σ 1 1 x1) 1 2 ((sI σ 1 1 x1).1 1 4))) ∧ ((σ.1 1 3) = 4 → Q (some (.int 0)) (sI (sI σ 1 1 1) 1 2 ((sI σ 1 1 1).1 1 4))))) :
    G Θ d 109 0 [some (.ref 1), some (.int x1)] [] σ Q := by
  refine r_aload_n ok109 0 rfl rfl rfl ?_
  refine r_aload_n ok109 1 rfl rfl rfl ?_
  refine r_getI ok109 2 rfl rfl rfl rfl ?_
  refine r_iconst (v := 4) ok109 3 rfl rfl rfl ?_
  refine r_icmp_ne ok109 4 rfl rfl (fun c1 => ?_) (fun c1 => ?_)
  · have h1 := h.1 c1
    refine r_iload_n ok109 7 rfl rfl rfl ?_
    refine r_putI ok109 8 rfl rfl rfl rfl ?_
    refine r_aload_n ok109 9 rfl rfl rfl ?_
    refine r_aload_n ok109 10 rfl rfl rfl ?_
    refine r_getI ok109 11 rfl rfl rfl rfl ?_
    refine r_putI ok109 12 rfl rfl rfl rfl ?_
    refine r_iconst (v := 0) ok109 13 rfl rfl rfl ?_
    exact r_zret ok109 14 rfl rfl rfl (Or.inl rfl) h1
  · have h1 := h.2 c1
    refine r_iconst (v := 1) ok109 5 rfl rfl rfl ?_
    refine r_goto ok109 6 rfl rfl ?_
    refine r_putI ok109 8 rfl rfl rfl rfl ?_
    refine r_aload_n ok109 9 rfl rfl rfl ?_
    refine r_aload_n ok109 10 rfl rfl rfl ?_
    refine r_getI ok109 11 rfl rfl rfl rfl ?_
    refine r_putI ok109 12 rfl rfl rfl rfl ?_
    refine r_iconst (v := 0) ok109 13 rfl rfl rfl ?_
    exact r_zret ok109 14 rfl rfl rfl (Or.inl rfl) h1

theorem K109 {Θ : Th} {d : Nat} {σ : Mem} {Q : Po} {x1 : Int32} (h : G Θ d 109 0 [some (.ref 1), some (.int x1)] [] σ Q) : Cm Θ d 109 [.ref 1, .int x1] σ Q :=
  C_of_G okM109 (Nat.le_of_ble_eq_true rfl) rfl h

-- 110: LikeYears$Tape.isWord(J)Z
set_option maxRecDepth 100000 in
set_option maxHeartbeats 4000000 in
theorem B110_0 {Θ : Th} {d : Nat} {σ : Mem} {Q : Po} {x1 : Int64} 
    (h : ((¬ (σ.1 1 3) = 1 → Q (some (.int 0)) σ) ∧ ((σ.1 1 3) = 1 → ((¬ (lg_cmp (σ.2.1 1 5) x1) = 0 → Q (some (.int 0)) σ) ∧ ((lg_cmp (σ.2.1 1 5) x1) = 0 → Q (some (.int 1)) σ))))) :
    G Θ d 110 0 [some (.ref 1), some (.long x1), none] [] σ Q := by
  refine r_aload_n ok110 0 rfl rfl rfl ?_
  refine r_getI ok110 1 rfl rfl rfl rfl ?_
  refine r_iconst (v := 1) ok110 2 rfl rfl rfl ?_
  refine r_icmp_ne ok110 3 rfl rfl (fun c1 => ?_) (fun c1 => ?_)
  · have h1 := h.1 c1
    refine r_iconst (v := 0) ok110 11 rfl rfl rfl ?_
    exact r_zret ok110 12 rfl rfl rfl (Or.inl rfl) h1
  · have h1 := h.2 c1
    refine r_aload_n ok110 4 rfl rfl rfl ?_
    refine r_getL ok110 5 rfl rfl rfl rfl ?_
    refine r_lload_n ok110 6 rfl rfl rfl ?_
    refine r_lcmp ok110 7 rfl rfl ?_
    refine r_if_ne ok110 8 rfl rfl (fun c2 => ?_) (fun c2 => ?_)
    · have h2 := h1.1 c2
      refine r_iconst (v := 0) ok110 11 rfl rfl rfl ?_
      exact r_zret ok110 12 rfl rfl rfl (Or.inl rfl) h2
    · have h2 := h1.2 c2
      refine r_iconst (v := 1) ok110 9 rfl rfl rfl ?_
      refine r_goto ok110 10 rfl rfl ?_
      exact r_zret ok110 12 rfl rfl rfl (Or.inr rfl) h2

theorem K110 {Θ : Th} {d : Nat} {σ : Mem} {Q : Po} {x1 : Int64} (h : G Θ d 110 0 [some (.ref 1), some (.long x1), none] [] σ Q) : Cm Θ d 110 [.ref 1, .long x1] σ Q :=
  C_of_G okM110 (Nat.le_of_ble_eq_true rfl) rfl h

-- 111: LikeYears$Tape.isSign(C)Z
set_option maxRecDepth 100000 in
set_option maxHeartbeats 4000000 in
theorem B111_0 {Θ : Th} {d : Nat} {σ : Mem} {Q : Po} {x1 : Int32} 
    (h : ((¬ (σ.1 1 3) = 3 → Q (some (.int 0)) σ) ∧ ((σ.1 1 3) = 3 → ((¬ (lg_cmp (σ.2.1 1 5) x1.toInt64) = 0 → Q (some (.int 0)) σ) ∧ ((lg_cmp (σ.2.1 1 5) x1.toInt64) = 0 → Q (some (.int 1)) σ))))) :
    G Θ d 111 0 [some (.ref 1), some (.int x1)] [] σ Q := by
  refine r_aload_n ok111 0 rfl rfl rfl ?_
  refine r_getI ok111 1 rfl rfl rfl rfl ?_
  refine r_iconst (v := 3) ok111 2 rfl rfl rfl ?_
  refine r_icmp_ne ok111 3 rfl rfl (fun c1 => ?_) (fun c1 => ?_)
  · have h1 := h.1 c1
    refine r_iconst (v := 0) ok111 12 rfl rfl rfl ?_
    exact r_zret ok111 13 rfl rfl rfl (Or.inl rfl) h1
  · have h1 := h.2 c1
    refine r_aload_n ok111 4 rfl rfl rfl ?_
    refine r_getL ok111 5 rfl rfl rfl rfl ?_
    refine r_iload_n ok111 6 rfl rfl rfl ?_
    refine r_i2l ok111 7 rfl rfl ?_
    refine r_lcmp ok111 8 rfl rfl ?_
    refine r_if_ne ok111 9 rfl rfl (fun c2 => ?_) (fun c2 => ?_)
    · have h2 := h1.1 c2
      refine r_iconst (v := 0) ok111 12 rfl rfl rfl ?_
      exact r_zret ok111 13 rfl rfl rfl (Or.inl rfl) h2
    · have h2 := h1.2 c2
      refine r_iconst (v := 1) ok111 10 rfl rfl rfl ?_
      refine r_goto ok111 11 rfl rfl ?_
      exact r_zret ok111 13 rfl rfl rfl (Or.inr rfl) h2

theorem K111 {Θ : Th} {d : Nat} {σ : Mem} {Q : Po} {x1 : Int32} (h : G Θ d 111 0 [some (.ref 1), some (.int x1)] [] σ Q) : Cm Θ d 111 [.ref 1, .int x1] σ Q :=
  C_of_G okM111 (Nat.le_of_ble_eq_true rfl) rfl h

-- 112: LikeYears$Tape.isName()Z
set_option maxRecDepth 100000 in
set_option maxHeartbeats 4000000 in
theorem B112_0 {Θ : Th} {d : Nat} {σ : Mem} {Q : Po} 
    (h : ((¬ (σ.1 1 3) = 1 → G Θ d 112 16 [some (.ref 1), some (.int 0), some (.int 0)] [] σ Q) ∧ ((σ.1 1 3) = 1 → G Θ d 112 16 [some (.ref 1), some (.int 1), some (.int 0)] [] σ Q))) :
    G Θ d 112 0 [some (.ref 1), none, none] [] σ Q := by
  refine r_aload_n ok112 0 rfl rfl rfl ?_
  refine r_getI ok112 1 rfl rfl rfl rfl ?_
  refine r_iconst (v := 1) ok112 2 rfl rfl rfl ?_
  refine r_icmp_ne ok112 3 rfl rfl (fun c1 => ?_) (fun c1 => ?_)
  · have h1 := h.1 c1
    refine r_iconst (v := 0) ok112 6 rfl rfl rfl ?_
    refine r_istore_n ok112 7 rfl rfl ?_
    refine r_iconst (v := 0) ok112 8 rfl rfl rfl ?_
    refine r_istore_n ok112 9 rfl rfl ?_
    exact h1
  · have h1 := h.2 c1
    refine r_iconst (v := 1) ok112 4 rfl rfl rfl ?_
    refine r_goto ok112 5 rfl rfl ?_
    refine r_istore_n ok112 7 rfl rfl ?_
    refine r_iconst (v := 0) ok112 8 rfl rfl rfl ?_
    refine r_istore_n ok112 9 rfl rfl ?_
    exact h1

set_option maxRecDepth 100000 in
set_option maxHeartbeats 4000000 in
theorem B112_16 {Θ : Th} {d : Nat} {σ : Mem} {Q : Po} {x1 : Int32} {x2 : Int32} 
    (h : ((16 ≤ x2 → ((x1 = 0 ∨ x1 = 1) ∧ Q (some (.int x1)) σ)) ∧ (¬ 16 ≤ x2 → ((x1 = 0 → ((x1 = 0 ∨ x1 = 1) ∧ Q (some (.int x1)) σ)) ∧ (¬ x1 = 0 → (vp_in x2 16 ∧ (((lg_cmp (σ.2.1 1 5) (nnV x2.toNatClampNeg)) = 0 → G Θ d 112 16 [some (.ref 1), some (.int 0), some (.int (x2 + 1))] [] σ Q) ∧ (¬ (lg_cmp (σ.2.1 1 5) (nnV x2.toNatClampNeg)) = 0 → G Θ d 112 16 [some (.ref 1), some (.int 1), some (.int (x2 + 1))] [] σ Q)))))))) :
    G Θ d 112 16 [some (.ref 1), some (.int x1), some (.int x2)] [] σ Q := by
  refine r_iload_n ok112 10 rfl rfl rfl ?_
  refine r_gets ok112 11 rfl rfl rfl ?_
  refine r_nlen ok112 12 rfl rfl ?_
  refine r_icmp_ge ok112 13 rfl rfl (fun c1 => ?_) (fun c1 => ?_)
  · have h1 := h.1 c1
    refine r_iload_n ok112 29 rfl rfl rfl ?_
    exact r_zret ok112 30 rfl rfl rfl h1.1 h1.2
  · have h1 := h.2 c1
    refine r_iload_n ok112 14 rfl rfl rfl ?_
    refine r_if_eq ok112 15 rfl rfl (fun c2 => ?_) (fun c2 => ?_)
    · have h2 := h1.1 c2
      refine r_iload_n ok112 29 rfl rfl rfl ?_
      exact r_zret ok112 30 rfl rfl rfl h2.1 h2.2
    · have h2 := h1.2 c2
      refine r_aload_n ok112 16 rfl rfl rfl ?_
      refine r_getL ok112 17 rfl rfl rfl rfl ?_
      refine r_gets ok112 18 rfl rfl rfl ?_
      refine r_iload_n ok112 19 rfl rfl rfl ?_
      obtain ⟨c3, h3⟩ := h2
      refine r_nald ok112 20 rfl rfl c3 ?_
      refine r_lcmp ok112 21 rfl rfl ?_
      refine r_if_eq ok112 22 rfl rfl (fun c4 => ?_) (fun c4 => ?_)
      · have h4 := h3.1 c4
        refine r_iconst (v := 0) ok112 25 rfl rfl rfl ?_
        refine r_istore_n ok112 26 rfl rfl ?_
        refine r_iinc (v := x2 + 1) ok112 27 rfl rfl rfl rfl ?_
        refine r_goto ok112 28 rfl rfl ?_
        exact h4
      · have h4 := h3.2 c4
        refine r_iconst (v := 1) ok112 23 rfl rfl rfl ?_
        refine r_goto ok112 24 rfl rfl ?_
        refine r_istore_n ok112 26 rfl rfl ?_
        refine r_iinc (v := x2 + 1) ok112 27 rfl rfl rfl rfl ?_
        refine r_goto ok112 28 rfl rfl ?_
        exact h4

theorem K112 {Θ : Th} {d : Nat} {σ : Mem} {Q : Po} (h : G Θ d 112 0 [some (.ref 1), none, none] [] σ Q) : Cm Θ d 112 [.ref 1] σ Q :=
  C_of_G okM112 (Nat.le_of_ble_eq_true rfl) rfl h

-- 113: LikeYears$Tape.passWord(J)Z
set_option maxRecDepth 100000 in
set_option maxHeartbeats 4000000 in
theorem B113_0 {Θ : Th} {d : Nat} {σ : Mem} {Q : Po} {x1 : Int64} 
    (h : Ci Θ d 110 [.ref 1, .long x1] σ (fun v1 σ1 => ((¬ v1 = 0 → Cv Θ d 102 [.ref 1] σ1 (fun σ3 => Q (some (.int 1)) σ3)) ∧ (v1 = 0 → Ci Θ d 109 [.ref 1, .int 2] σ1 (fun v4 σ4 => ((v4 = 0 ∨ v4 = 1) ∧ Q (some (.int v4)) σ4)))))) :
    G Θ (d + 1) 113 0 [some (.ref 1), some (.long x1), none] [] σ Q := by
  refine r_aload_n ok113 0 rfl rfl rfl ?_
  refine r_lload_n ok113 1 rfl rfl rfl ?_
  refine r_invVi (as := [.long x1]) (S := []) ok113 2 rfl rfl mf110 rfl rfl (Nat.le_of_ble_eq_true rfl) rfl h (fun v1 σ1 h1 => ?_)
  refine r_if_ne ok113 3 rfl rfl (fun c2 => ?_) (fun c2 => ?_)
  · have h2 := h1.1 c2
    refine r_aload_n ok113 8 rfl rfl rfl ?_
    refine r_invVv (as := []) (S := []) ok113 9 rfl rfl mf102 rfl rfl (Nat.le_of_ble_eq_true rfl) rfl h2 (fun σ3 h3 => ?_)
    refine r_iconst (v := 1) ok113 10 rfl rfl rfl ?_
    exact r_zret ok113 11 rfl rfl rfl (Or.inr rfl) h3
  · have h2 := h1.2 c2
    refine r_aload_n ok113 4 rfl rfl rfl ?_
    refine r_iconst (v := 2) ok113 5 rfl rfl rfl ?_
    refine r_invVi (as := [.int 2]) (S := []) ok113 6 rfl rfl mf109 rfl rfl (Nat.le_of_ble_eq_true rfl) rfl h2 (fun v4 σ4 h4 => ?_)
    exact r_zret ok113 7 rfl rfl rfl h4.1 h4.2

theorem K113 {Θ : Th} {d : Nat} {σ : Mem} {Q : Po} {x1 : Int64} (h : G Θ (d + 1) 113 0 [some (.ref 1), some (.long x1), none] [] σ Q) : Cm Θ (d + 1) 113 [.ref 1, .long x1] σ Q :=
  C_of_G okM113 (Nat.le_of_ble_eq_true rfl) rfl h

-- 114: LikeYears$Tape.passSign(C)Z
set_option maxRecDepth 100000 in
set_option maxHeartbeats 4000000 in
theorem B114_0 {Θ : Th} {d : Nat} {σ : Mem} {Q : Po} {x1 : Int32} 
    (h : Ci Θ d 111 [.ref 1, .int x1] σ (fun v1 σ1 => ((¬ v1 = 0 → Cv Θ d 102 [.ref 1] σ1 (fun σ3 => Q (some (.int 1)) σ3)) ∧ (v1 = 0 → Ci Θ d 109 [.ref 1, .int 2] σ1 (fun v4 σ4 => ((v4 = 0 ∨ v4 = 1) ∧ Q (some (.int v4)) σ4)))))) :
    G Θ (d + 1) 114 0 [some (.ref 1), some (.int x1)] [] σ Q := by
  refine r_aload_n ok114 0 rfl rfl rfl ?_
  refine r_iload_n ok114 1 rfl rfl rfl ?_
  refine r_invVi (as := [.int x1]) (S := []) ok114 2 rfl rfl mf111 rfl rfl (Nat.le_of_ble_eq_true rfl) rfl h (fun v1 σ1 h1 => ?_)
  refine r_if_ne ok114 3 rfl rfl (fun c2 => ?_) (fun c2 => ?_)
  · have h2 := h1.1 c2
    refine r_aload_n ok114 8 rfl rfl rfl ?_
    refine r_invVv (as := []) (S := []) ok114 9 rfl rfl mf102 rfl rfl (Nat.le_of_ble_eq_true rfl) rfl h2 (fun σ3 h3 => ?_)
    refine r_iconst (v := 1) ok114 10 rfl rfl rfl ?_
    exact r_zret ok114 11 rfl rfl rfl (Or.inr rfl) h3
  · have h2 := h1.2 c2
    refine r_aload_n ok114 4 rfl rfl rfl ?_
    refine r_iconst (v := 2) ok114 5 rfl rfl rfl ?_
    refine r_invVi (as := [.int 2]) (S := []) ok114 6 rfl rfl mf109 rfl rfl (Nat.le_of_ble_eq_true rfl) rfl h2 (fun v4 σ4 h4 => ?_)
    exact r_zret ok114 7 rfl rfl rfl h4.1 h4.2

theorem K114 {Θ : Th} {d : Nat} {σ : Mem} {Q : Po} {x1 : Int32} (h : G Θ (d + 1) 114 0 [some (.ref 1), some (.int x1)] [] σ Q) : Cm Θ (d + 1) 114 [.ref 1, .int x1] σ Q :=
  C_of_G okM114 (Nat.le_of_ble_eq_true rfl) rfl h

-- 115: LikeYears$Tape.passNumber(II)I
set_option maxRecDepth 100000 in
set_option maxHeartbeats 4000000 in
theorem B115_0 {Θ : Th} {d : Nat} {σ : Mem} {Q : Po} {x1 : Int32} {x2 : Int32} 
    (h : (((σ.1 1 3) = 2 → ((((σ.2.1 1 5).toInt32) < x1 → Ci Θ d 109 [.ref 1, .int 4] σ (fun v3 σ3 => Q (some (.int (-1))) σ3)) ∧ (¬ ((σ.2.1 1 5).toInt32) < x1 → ((((σ.2.1 1 5).toInt32) ≤ x2 → Cv Θ d 102 [.ref 1] σ (fun σ5 => Q (some (.int ((σ.2.1 1 5).toInt32))) σ5)) ∧ (¬ ((σ.2.1 1 5).toInt32) ≤ x2 → Ci Θ d 109 [.ref 1, .int 4] σ (fun v6 σ6 => Q (some (.int (-1))) σ6)))))) ∧ (¬ (σ.1 1 3) = 2 → Ci Θ d 109 [.ref 1, .int 2] σ (fun v7 σ7 => Q (some (.int (-1))) σ7)))) :
    G Θ (d + 1) 115 0 [some (.ref 1), some (.int x1), some (.int x2), none] [] σ Q := by
  refine r_aload_n ok115 0 rfl rfl rfl ?_
  refine r_getI ok115 1 rfl rfl rfl rfl ?_
  refine r_iconst (v := 2) ok115 2 rfl rfl rfl ?_
  refine r_icmp_eq ok115 3 rfl rfl (fun c1 => ?_) (fun c1 => ?_)
  · have h1 := h.1 c1
    refine r_aload_n ok115 10 rfl rfl rfl ?_
    refine r_getL ok115 11 rfl rfl rfl rfl ?_
    refine r_l2i ok115 12 rfl rfl ?_
    refine r_istore_n ok115 13 rfl rfl ?_
    refine r_iload_n ok115 14 rfl rfl rfl ?_
    refine r_iload_n ok115 15 rfl rfl rfl ?_
    refine r_icmp_lt ok115 16 rfl rfl (fun c2 => ?_) (fun c2 => ?_)
    · have h2 := h1.1 c2
      refine r_aload_n ok115 20 rfl rfl rfl ?_
      refine r_iconst (v := 4) ok115 21 rfl rfl rfl ?_
      refine r_invVi (as := [.int 4]) (S := []) ok115 22 rfl rfl mf109 rfl rfl (Nat.le_of_ble_eq_true rfl) rfl h2 (fun v3 σ3 h3 => ?_)
      refine r_pop ok115 23 rfl rfl rfl ?_
      refine r_iconst (v := (-1)) ok115 24 rfl rfl rfl ?_
      exact r_iret ok115 25 rfl rfl rfl h3
    · have h2 := h1.2 c2
      refine r_iload_n ok115 17 rfl rfl rfl ?_
      refine r_iload_n ok115 18 rfl rfl rfl ?_
      refine r_icmp_le ok115 19 rfl rfl (fun c4 => ?_) (fun c4 => ?_)
      · have h4 := h2.1 c4
        refine r_aload_n ok115 26 rfl rfl rfl ?_
        refine r_invVv (as := []) (S := []) ok115 27 rfl rfl mf102 rfl rfl (Nat.le_of_ble_eq_true rfl) rfl h4 (fun σ5 h5 => ?_)
        refine r_iload_n ok115 28 rfl rfl rfl ?_
        exact r_iret ok115 29 rfl rfl rfl h5
      · have h4 := h2.2 c4
        refine r_aload_n ok115 20 rfl rfl rfl ?_
        refine r_iconst (v := 4) ok115 21 rfl rfl rfl ?_
        refine r_invVi (as := [.int 4]) (S := []) ok115 22 rfl rfl mf109 rfl rfl (Nat.le_of_ble_eq_true rfl) rfl h4 (fun v6 σ6 h6 => ?_)
        refine r_pop ok115 23 rfl rfl rfl ?_
        refine r_iconst (v := (-1)) ok115 24 rfl rfl rfl ?_
        exact r_iret ok115 25 rfl rfl rfl h6
  · have h1 := h.2 c1
    refine r_aload_n ok115 4 rfl rfl rfl ?_
    refine r_iconst (v := 2) ok115 5 rfl rfl rfl ?_
    refine r_invVi (as := [.int 2]) (S := []) ok115 6 rfl rfl mf109 rfl rfl (Nat.le_of_ble_eq_true rfl) rfl h1 (fun v7 σ7 h7 => ?_)
    refine r_pop ok115 7 rfl rfl rfl ?_
    refine r_iconst (v := (-1)) ok115 8 rfl rfl rfl ?_
    exact r_iret ok115 9 rfl rfl rfl h7

theorem K115 {Θ : Th} {d : Nat} {σ : Mem} {Q : Po} {x1 : Int32} {x2 : Int32} (h : G Θ (d + 1) 115 0 [some (.ref 1), some (.int x1), some (.int x2), none] [] σ Q) : Cm Θ (d + 1) 115 [.ref 1, .int x1, .int x2] σ Q :=
  C_of_G okM115 (Nat.le_of_ble_eq_true rfl) rfl h

-- 116: LikeYears$Tape.passNumberOf(JII)I
set_option maxRecDepth 100000 in
set_option maxHeartbeats 4000000 in
theorem B116_0 {Θ : Th} {d : Nat} {σ : Mem} {Q : Po} {x1 : Int64} {x3 : Int32} {x4 : Int32} 
    (h : Ci Θ d 113 [.ref 1, .long x1] σ (fun v1 σ1 => ((v1 = 0 → Q (some (.int (-1))) σ1) ∧ (¬ v1 = 0 → Ci Θ d 115 [.ref 1, .int x3, .int x4] σ1 (fun v3 σ3 => Q (some (.int v3)) σ3))))) :
    G Θ (d + 1) 116 0 [some (.ref 1), some (.long x1), none, some (.int x3), some (.int x4)] [] σ Q := by
  refine r_aload_n ok116 0 rfl rfl rfl ?_
  refine r_lload_n ok116 1 rfl rfl rfl ?_
  refine r_invVi (as := [.long x1]) (S := []) ok116 2 rfl rfl mf113 rfl rfl (Nat.le_of_ble_eq_true rfl) rfl h (fun v1 σ1 h1 => ?_)
  refine r_if_eq ok116 3 rfl rfl (fun c2 => ?_) (fun c2 => ?_)
  · have h2 := h1.1 c2
    refine r_iconst (v := (-1)) ok116 9 rfl rfl rfl ?_
    exact r_iret ok116 10 rfl rfl rfl h2
  · have h2 := h1.2 c2
    refine r_aload_n ok116 4 rfl rfl rfl ?_
    refine r_iload_n ok116 5 rfl rfl rfl ?_
    refine r_iload ok116 6 rfl rfl rfl ?_
    refine r_invVi (as := [.int x3, .int x4]) (S := []) ok116 7 rfl rfl mf115 rfl rfl (Nat.le_of_ble_eq_true rfl) rfl h2 (fun v3 σ3 h3 => ?_)
    refine r_goto ok116 8 rfl rfl ?_
    exact r_iret ok116 10 rfl rfl rfl h3

theorem K116 {Θ : Th} {d : Nat} {σ : Mem} {Q : Po} {x1 : Int64} {x3 : Int32} {x4 : Int32} (h : G Θ (d + 1) 116 0 [some (.ref 1), some (.long x1), none, some (.int x3), some (.int x4)] [] σ Q) : Cm Θ (d + 1) 116 [.ref 1, .long x1, .int x3, .int x4] σ Q :=
  C_of_G okM116 (Nat.le_of_ble_eq_true rfl) rfl h
