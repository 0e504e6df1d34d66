-- 117: LikeYears.feed(IIIII)I
set_option maxRecDepth 100000 in
set_option maxHeartbeats 4000000 in
theorem B117_0 {Θ : Th} {d : Nat} {σ : Mem} {Q : Po} {x1 : Int32} {x2 : Int32} {x3 : Int32} {x4 : Int32} {x5 : Int32} 
    (h : ((((σ.1 1 0) + 20) ≤ 1300 → Cv Θ d 100 [.ref 1, .int x1] σ (fun σ2 => Cv Θ d 100 [.ref 1, .int x2] σ2 (fun σ3 => Cv Θ d 100 [.ref 1, .int x3] σ3 (fun σ4 => Cv Θ d 100 [.ref 1, .int x4] σ4 (fun σ5 => Cv Θ d 100 [.ref 1, .int x5] σ5 (fun σ6 => Q (some (.int (σ6.1 1 0))) σ6)))))) ∧ (¬ ((σ.1 1 0) + 20) ≤ 1300 → Q (some (.int (-1))) σ))) :
    G Θ (d + 1) 117 0 [some (.ref 0), some (.int x1), some (.int x2), some (.int x3), some (.int x4), some (.int x5)] [] σ Q := by
  refine r_aload_n ok117 0 rfl rfl rfl ?_
  refine r_getA ok117 1 rfl rfl rfl rfl ?_
  refine r_getI ok117 2 rfl rfl rfl rfl ?_
  refine r_bipush (v := 20) ok117 3 rfl rfl rfl ?_
  refine r_iadd ok117 4 rfl rfl ?_
  refine r_sipush (v := 1300) ok117 5 rfl rfl rfl ?_
  refine r_icmp_le ok117 6 rfl rfl (fun c1 => ?_) (fun c1 => ?_)
  · have h1 := h.1 c1
    refine r_aload_n ok117 9 rfl rfl rfl ?_
    refine r_getA ok117 10 rfl rfl rfl rfl ?_
    refine r_iload_n ok117 11 rfl rfl rfl ?_
    refine r_invVv (as := [.int x1]) (S := []) ok117 12 rfl rfl mf100 rfl rfl (Nat.le_of_ble_eq_true rfl) rfl h1 (fun σ2 h2 => ?_)
    refine r_aload_n ok117 13 rfl rfl rfl ?_
    refine r_getA ok117 14 rfl rfl rfl rfl ?_
    refine r_iload_n ok117 15 rfl rfl rfl ?_
    refine r_invVv (as := [.int x2]) (S := []) ok117 16 rfl rfl mf100 rfl rfl (Nat.le_of_ble_eq_true rfl) rfl h2 (fun σ3 h3 => ?_)
    refine r_aload_n ok117 17 rfl rfl rfl ?_
    refine r_getA ok117 18 rfl rfl rfl rfl ?_
    refine r_iload_n ok117 19 rfl rfl rfl ?_
    refine r_invVv (as := [.int x3]) (S := []) ok117 20 rfl rfl mf100 rfl rfl (Nat.le_of_ble_eq_true rfl) rfl h3 (fun σ4 h4 => ?_)
    refine r_aload_n ok117 21 rfl rfl rfl ?_
    refine r_getA ok117 22 rfl rfl rfl rfl ?_
    refine r_iload ok117 23 rfl rfl rfl ?_
    refine r_invVv (as := [.int x4]) (S := []) ok117 24 rfl rfl mf100 rfl rfl (Nat.le_of_ble_eq_true rfl) rfl h4 (fun σ5 h5 => ?_)
    refine r_aload_n ok117 25 rfl rfl rfl ?_
    refine r_getA ok117 26 rfl rfl rfl rfl ?_
    refine r_iload ok117 27 rfl rfl rfl ?_
    refine r_invVv (as := [.int x5]) (S := []) ok117 28 rfl rfl mf100 rfl rfl (Nat.le_of_ble_eq_true rfl) rfl h5 (fun σ6 h6 => ?_)
    refine r_aload_n ok117 29 rfl rfl rfl ?_
    refine r_getA ok117 30 rfl rfl rfl rfl ?_
    refine r_getI ok117 31 rfl rfl rfl rfl ?_
    exact r_iret ok117 32 rfl rfl rfl h6
  · have h1 := h.2 c1
    refine r_iconst (v := (-1)) ok117 7 rfl rfl rfl ?_
    exact r_iret ok117 8 rfl rfl rfl h1

theorem K117 {Θ : Th} {d : Nat} {σ : Mem} {Q : Po} {x1 : Int32} {x2 : Int32} {x3 : Int32} {x4 : Int32} {x5 : Int32} (h : G Θ (d + 1) 117 0 [some (.ref 0), some (.int x1), some (.int x2), some (.int x3), some (.int x4), some (.int x5)] [] σ Q) : Cm Θ (d + 1) 117 [.ref 0, .int x1, .int x2, .int x3, .int x4, .int x5] σ Q :=
  C_of_G okM117 (Nat.le_of_ble_eq_true rfl) rfl h

-- 118: LikeYears.end(I)I
set_option maxRecDepth 100000 in
set_option maxHeartbeats 4000000 in
theorem B118_0 {Θ : Th} {d : Nat} {σ : Mem} {Q : Po} {x1 : Int32} 
    (h : ((x1 < 0 → Q (some (.int (-1))) σ) ∧ (¬ x1 < 0 → ((x1 ≤ (σ.1 1 0) → Q (some (.int x1)) (sI σ 1 0 x1)) ∧ (¬ x1 ≤ (σ.1 1 0) → Q (some (.int (-1))) σ))))) :
    G Θ d 118 0 [some (.ref 0), some (.int x1)] [] σ Q := by
  refine r_iload_n ok118 0 rfl rfl rfl ?_
  refine r_if_lt ok118 1 rfl rfl (fun c1 => ?_) (fun c1 => ?_)
  · have h1 := h.1 c1
    refine r_iconst (v := (-1)) ok118 7 rfl rfl rfl ?_
    exact r_iret ok118 8 rfl rfl rfl h1
  · have h1 := h.2 c1
    refine r_iload_n ok118 2 rfl rfl rfl ?_
    refine r_aload_n ok118 3 rfl rfl rfl ?_
    refine r_getA ok118 4 rfl rfl rfl rfl ?_
    refine r_getI ok118 5 rfl rfl rfl rfl ?_
    refine r_icmp_le ok118 6 rfl rfl (fun c2 => ?_) (fun c2 => ?_)
    · have h2 := h1.1 c2
      refine r_aload_n ok118 9 rfl rfl rfl ?_
      refine r_getA ok118 10 rfl rfl rfl rfl ?_
      refine r_iload_n ok118 11 rfl rfl rfl ?_
      refine r_putI ok118 12 rfl rfl rfl rfl ?_
      refine r_iload_n ok118 13 rfl rfl rfl ?_
      exact r_iret ok118 14 rfl rfl rfl h2
    · have h2 := h1.2 c2
      refine r_iconst (v := (-1)) ok118 7 rfl rfl rfl ?_
      exact r_iret ok118 8 rfl rfl rfl h2

theorem K118 {Θ : Th} {d : Nat} {σ : Mem} {Q : Po} {x1 : Int32} (h : G Θ d 118 0 [some (.ref 0), some (.int x1)] [] σ Q) : Cm Θ d 118 [.ref 0, .int x1] σ Q :=
  C_of_G okM118 (Nat.le_of_ble_eq_true rfl) rfl h

-- 119: LikeYears.book()I
set_option maxRecDepth 100000 in
set_option maxHeartbeats 4000000 in
theorem B119_0 {Θ : Th} {d : Nat} {σ : Mem} {Q : Po} 
    (h : (σ.2.2 0 3 ≠ 0 ∧ (shq (σ.2.2 0 3)).1 = 1 ∧ Ci Θ d 20 [.ref 9, .ref (σ.2.2 0 3)] σ (fun v2 σ2 => ((¬ v2 = 0 → ((sI σ2 1 0 0).2.2 0 2 ≠ 0 ∧ (shq ((sI σ2 1 0 0).2.2 0 2)).1 = 1 ∧ ((sI σ2 1 0 0).2.2 0 3 ≠ 0 ∧ (shq ((sI σ2 1 0 0).2.2 0 3)).1 = 1 ∧ ((sI σ2 1 0 0).2.2 0 3 ≠ 0 ∧ ((sI σ2 1 0 0).2.2 0 2 ≠ 0 ∧ ((sR (sR (sI σ2 1 0 0) 0 2 ((sI σ2 1 0 0).2.2 0 3)) 0 3 ((sI σ2 1 0 0).2.2 0 2)).2.2 0 4 ≠ 0 ∧ (shq ((sR (sR (sI σ2 1 0 0) 0 2 ((sI σ2 1 0 0).2.2 0 3)) 0 3 ((sI σ2 1 0 0).2.2 0 2)).2.2 0 4)).1 = 6 ∧ Cv Θ d 0 [.ref 78] (sI (sR (sR (sI σ2 1 0 0) 0 2 ((sI σ2 1 0 0).2.2 0 3)) 0 3 ((sI σ2 1 0 0).2.2 0 2)) ((sR (sR (sI σ2 1 0 0) 0 2 ((sI σ2 1 0 0).2.2 0 3)) 0 3 ((sI σ2 1 0 0).2.2 0 2)).2.2 0 4) 2 0) (fun σ9 => G Θ (d + 1) 119 61 [some (.ref 0), none, none, some (.int 0)] [] σ9 Q))))))) ∧ (v2 = 0 → Q (some (.int (-1))) (sI σ2 1 0 0)))))) :
    G Θ (d + 1) 119 0 [some (.ref 0), none, none, none] [] σ Q := by
  refine r_aload_n ok119 0 rfl rfl rfl ?_
  refine r_getA ok119 1 rfl rfl rfl rfl ?_
  refine r_aload_n ok119 2 rfl rfl rfl ?_
  obtain ⟨c1, s1, h1⟩ := h
  refine r_getR ok119 3 rfl rfl rfl rfl c1 ?_
  refine r_invVi (as := [.ref (σ.2.2 0 3)]) (S := []) ok119 4 rfl rfl mf20 rfl rfl (Nat.le_of_ble_eq_true rfl) rfl h1 (fun v2 σ2 h2 => ?_)
  refine r_istore_n ok119 5 rfl rfl ?_
  refine r_aload_n ok119 6 rfl rfl rfl ?_
  refine r_getA ok119 7 rfl rfl rfl rfl ?_
  refine r_iconst (v := 0) ok119 8 rfl rfl rfl ?_
  refine r_putI ok119 9 rfl rfl rfl rfl ?_
  refine r_iload_n ok119 10 rfl rfl rfl ?_
  refine r_if_ne ok119 11 rfl rfl (fun c3 => ?_) (fun c3 => ?_)
  · have h3 := h2.1 c3
    refine r_aload_n ok119 14 rfl rfl rfl ?_
    obtain ⟨c4, s4, h4⟩ := h3
    refine r_getR ok119 15 rfl rfl rfl rfl c4 ?_
    refine r_astore_n ok119 16 rfl rfl ?_
    refine r_aload_n ok119 17 rfl rfl rfl ?_
    refine r_aload_n ok119 18 rfl rfl rfl ?_
    obtain ⟨c5, s5, h5⟩ := h4
    refine r_getR ok119 19 rfl rfl rfl rfl c5 ?_
    obtain ⟨c6, h6⟩ := h5
    refine r_putR ok119 20 rfl rfl rfl rfl c6 ?_
    refine r_aload_n ok119 21 rfl rfl rfl ?_
    refine r_aload_n ok119 22 rfl rfl rfl ?_
    obtain ⟨c7, h7⟩ := h6
    refine r_putR ok119 23 rfl rfl rfl rfl c7 ?_
    refine r_aload_n ok119 24 rfl rfl rfl ?_
    obtain ⟨c8, s8, h8⟩ := h7
    refine r_getR ok119 25 rfl rfl rfl rfl c8 ?_
    refine r_iconst (v := 0) ok119 26 rfl rfl rfl ?_
    refine r_putI ok119 27 rfl rfl s8 rfl ?_
    refine r_aload_n ok119 28 rfl rfl rfl ?_
    refine r_getA ok119 29 rfl rfl rfl rfl ?_
    refine r_invVv (as := []) (S := []) ok119 30 rfl rfl mf0 rfl rfl (Nat.le_of_ble_eq_true rfl) rfl h8 (fun σ9 h9 => ?_)
    refine r_iconst (v := 0) ok119 31 rfl rfl rfl ?_
    refine r_istore_n ok119 32 rfl rfl ?_
    exact G.weak (L' := [some (.ref 0), none, none, some (.int 0)]) ⟨rfl, ⟨rfl, trivial⟩⟩ h9
  · have h3 := h2.2 c3
    refine r_iconst (v := (-1)) ok119 12 rfl rfl rfl ?_
    exact r_iret ok119 13 rfl rfl rfl h3

set_option maxRecDepth 100000 in
set_option maxHeartbeats 4000000 in
theorem B119_61 {Θ : Th} {d : Nat} {σ : Mem} {Q : Po} {x3 : Int32} 
    (h : ((3 ≤ x3 → Q (some (.int ((sI σ 0 17 0).1 9 5))) (sI σ 0 17 0)) ∧ (¬ 3 ≤ x3 → (vp_in x3 3 ∧ G Θ (d + 1) 119 61 [some (.ref 0), none, none, some (.int (x3 + 1))] [] (sI σ 77 (x3.toNatClampNeg) (vp_nar .boolean 0)) Q)))) :
    G Θ (d + 1) 119 61 [some (.ref 0), none, none, some (.int x3)] [] σ Q := by
  refine r_iload_n ok119 33 rfl rfl rfl ?_
  refine r_iconst (v := 3) ok119 34 rfl rfl rfl ?_
  refine r_icmp_ge ok119 35 rfl rfl (fun c1 => ?_) (fun c1 => ?_)
  · have h1 := h.1 c1
    refine r_aload_n ok119 43 rfl rfl rfl ?_
    refine r_iconst (v := 0) ok119 44 rfl rfl rfl ?_
    refine r_putI ok119 45 rfl rfl rfl rfl ?_
    refine r_aload_n ok119 46 rfl rfl rfl ?_
    refine r_getA ok119 47 rfl rfl rfl rfl ?_
    refine r_getI ok119 48 rfl rfl rfl rfl ?_
    exact r_iret ok119 49 rfl rfl rfl h1
  · have h1 := h.2 c1
    refine r_aload_n ok119 36 rfl rfl rfl ?_
    refine r_getA ok119 37 rfl rfl rfl rfl ?_
    refine r_iload_n ok119 38 rfl rfl rfl ?_
    refine r_iconst (v := 0) ok119 39 rfl rfl rfl ?_
    obtain ⟨c2, h2⟩ := h1
    refine r_zast ok119 40 rfl rfl rfl c2 ?_
    refine r_iinc (v := x3 + 1) ok119 41 rfl rfl rfl rfl ?_
    refine r_goto ok119 42 rfl rfl ?_
    exact h2

theorem K119 {Θ : Th} {d : Nat} {σ : Mem} {Q : Po} (h : G Θ (d + 1) 119 0 [some (.ref 0), none, none, none] [] σ Q) : Cm Θ (d + 1) 119 [.ref 0] σ Q :=
  C_of_G okM119 (Nat.le_of_ble_eq_true rfl) rfl h

-- 120: LikeYears.laws()I
set_option maxRecDepth 100000 in
set_option maxHeartbeats 4000000 in
theorem B120_0 {Θ : Th} {d : Nat} {σ : Mem} {Q : Po} 
    (h : (((σ.1 1 0) ≤ 500 → (σ.2.2 0 5 ≠ 0 ∧ (shq (σ.2.2 0 5)).1 = 6 ∧ (σ.2.2 0 2 ≠ 0 ∧ (shq (σ.2.2 0 2)).1 = 1 ∧ Ci Θ d 52 [.ref (σ.2.2 0 5), .ref (σ.2.2 0 2)] σ (fun v4 σ4 => ((¬ v4 = 0 → ((sI σ4 1 0 0).2.2 0 4 ≠ 0 ∧ (shq ((sI σ4 1 0 0).2.2 0 4)).1 = 6 ∧ ((sI σ4 1 0 0).2.2 0 5 ≠ 0 ∧ (shq ((sI σ4 1 0 0).2.2 0 5)).1 = 6 ∧ ((sI σ4 1 0 0).2.2 0 5 ≠ 0 ∧ ((sI σ4 1 0 0).2.2 0 4 ≠ 0 ∧ ((sR (sR (sI σ4 1 0 0) 0 4 ((sI σ4 1 0 0).2.2 0 5)) 0 5 ((sI σ4 1 0 0).2.2 0 4)).2.2 0 4 ≠ 0 ∧ (shq ((sR (sR (sI σ4 1 0 0) 0 4 ((sI σ4 1 0 0).2.2 0 5)) 0 5 ((sI σ4 1 0 0).2.2 0 4)).2.2 0 4)).1 = 6 ∧ Q (some (.int ((sR (sR (sI σ4 1 0 0) 0 4 ((sI σ4 1 0 0).2.2 0 5)) 0 5 ((sI σ4 1 0 0).2.2 0 4)).1 ((sR (sR (sI σ4 1 0 0) 0 4 ((sI σ4 1 0 0).2.2 0 5)) 0 5 ((sI σ4 1 0 0).2.2 0 4)).2.2 0 4) 2))) (sR (sR (sI σ4 1 0 0) 0 4 ((sI σ4 1 0 0).2.2 0 5)) 0 5 ((sI σ4 1 0 0).2.2 0 4)))))))) ∧ (v4 = 0 → Q (some (.int (-1))) (sI σ4 1 0 0))))))) ∧ (¬ (σ.1 1 0) ≤ 500 → Q (some (.int (-2))) σ))) :
    G Θ (d + 1) 120 0 [some (.ref 0), none, none] [] σ Q := by
  refine r_aload_n ok120 0 rfl rfl rfl ?_
  refine r_getA ok120 1 rfl rfl rfl rfl ?_
  refine r_getI ok120 2 rfl rfl rfl rfl ?_
  refine r_sipush (v := 500) ok120 3 rfl rfl rfl ?_
  refine r_icmp_le ok120 4 rfl rfl (fun c1 => ?_) (fun c1 => ?_)
  · have h1 := h.1 c1
    refine r_aload_n ok120 7 rfl rfl rfl ?_
    obtain ⟨c2, s2, h2⟩ := h1
    refine r_getR ok120 8 rfl rfl rfl rfl c2 ?_
    refine r_aload_n ok120 9 rfl rfl rfl ?_
    obtain ⟨c3, s3, h3⟩ := h2
    refine r_getR ok120 10 rfl rfl rfl rfl c3 ?_
    refine r_invVi (as := [.ref (σ.2.2 0 2)]) (S := []) ok120 11 rfl rfl mf52 s2 rfl (Nat.le_of_ble_eq_true rfl) rfl h3 (fun v4 σ4 h4 => ?_)
    refine r_istore_n ok120 12 rfl rfl ?_
    refine r_aload_n ok120 13 rfl rfl rfl ?_
    refine r_getA ok120 14 rfl rfl rfl rfl ?_
    refine r_iconst (v := 0) ok120 15 rfl rfl rfl ?_
    refine r_putI ok120 16 rfl rfl rfl rfl ?_
    refine r_iload_n ok120 17 rfl rfl rfl ?_
    refine r_if_ne ok120 18 rfl rfl (fun c5 => ?_) (fun c5 => ?_)
    · have h5 := h4.1 c5
      refine r_aload_n ok120 21 rfl rfl rfl ?_
      obtain ⟨c6, s6, h6⟩ := h5
      refine r_getR ok120 22 rfl rfl rfl rfl c6 ?_
      refine r_astore_n ok120 23 rfl rfl ?_
      refine r_aload_n ok120 24 rfl rfl rfl ?_
      refine r_aload_n ok120 25 rfl rfl rfl ?_
      obtain ⟨c7, s7, h7⟩ := h6
      refine r_getR ok120 26 rfl rfl rfl rfl c7 ?_
      obtain ⟨c8, h8⟩ := h7
      refine r_putR ok120 27 rfl rfl rfl rfl c8 ?_
      refine r_aload_n ok120 28 rfl rfl rfl ?_
      refine r_aload_n ok120 29 rfl rfl rfl ?_
      obtain ⟨c9, h9⟩ := h8
      refine r_putR ok120 30 rfl rfl rfl rfl c9 ?_
      refine r_aload_n ok120 31 rfl rfl rfl ?_
      obtain ⟨c10, s10, h10⟩ := h9
      refine r_getR ok120 32 rfl rfl rfl rfl c10 ?_
      refine r_getI ok120 33 rfl rfl s10 rfl ?_
      exact r_iret ok120 34 rfl rfl rfl h10
    · have h5 := h4.2 c5
      refine r_iconst (v := (-1)) ok120 19 rfl rfl rfl ?_
      exact r_iret ok120 20 rfl rfl rfl h5
  · have h1 := h.2 c1
    refine r_bipush (v := (-2)) ok120 5 rfl rfl rfl ?_
    exact r_iret ok120 6 rfl rfl rfl h1

theorem K120 {Θ : Th} {d : Nat} {σ : Mem} {Q : Po} (h : G Θ (d + 1) 120 0 [some (.ref 0), none, none] [] σ Q) : Cm Θ (d + 1) 120 [.ref 0] σ Q :=
  C_of_G okM120 (Nat.le_of_ble_eq_true rfl) rfl h

-- 121: LikeYears.fault(I)I
set_option maxRecDepth 100000 in
set_option maxHeartbeats 4000000 in
theorem B121_0 {Θ : Th} {d : Nat} {σ : Mem} {Q : Po} {x1 : Int32} 
    (h : ((¬ x1 = 0 → ((¬ x1 = 1 → Q (some (.int (-1))) σ) ∧ (x1 = 1 → Q (some (.int (σ.1 1 2))) σ))) ∧ (x1 = 0 → Q (some (.int (σ.1 1 1))) σ))) :
    G Θ d 121 0 [some (.ref 0), some (.int x1)] [] σ Q := by
  refine r_iload_n ok121 0 rfl rfl rfl ?_
  refine r_if_ne ok121 1 rfl rfl (fun c1 => ?_) (fun c1 => ?_)
  · have h1 := h.1 c1
    refine r_iload_n ok121 6 rfl rfl rfl ?_
    refine r_iconst (v := 1) ok121 7 rfl rfl rfl ?_
    refine r_icmp_ne ok121 8 rfl rfl (fun c2 => ?_) (fun c2 => ?_)
    · have h2 := h1.1 c2
      refine r_iconst (v := (-1)) ok121 13 rfl rfl rfl ?_
      exact r_iret ok121 14 rfl rfl rfl h2
    · have h2 := h1.2 c2
      refine r_aload_n ok121 9 rfl rfl rfl ?_
      refine r_getA ok121 10 rfl rfl rfl rfl ?_
      refine r_getI ok121 11 rfl rfl rfl rfl ?_
      refine r_goto ok121 12 rfl rfl ?_
      exact r_iret ok121 14 rfl rfl rfl h2
  · have h1 := h.2 c1
    refine r_aload_n ok121 2 rfl rfl rfl ?_
    refine r_getA ok121 3 rfl rfl rfl rfl ?_
    refine r_getI ok121 4 rfl rfl rfl rfl ?_
    exact r_iret ok121 5 rfl rfl rfl h1

theorem K121 {Θ : Th} {d : Nat} {σ : Mem} {Q : Po} {x1 : Int32} (h : G Θ d 121 0 [some (.ref 0), some (.int x1)] [] σ Q) : Cm Θ d 121 [.ref 0, .int x1] σ Q :=
  C_of_G okM121 (Nat.le_of_ble_eq_true rfl) rfl h

-- 122: LikeYears.worse(II)I
set_option maxRecDepth 100000 in
set_option maxHeartbeats 4000000 in
theorem B122_0 {Θ : Th} {d : Nat} {σ : Mem} {Q : Po} {x1 : Int32} {x2 : Int32} 
    (h : (σ.2.2 0 2 ≠ 0 ∧ (shq (σ.2.2 0 2)).1 = 1 ∧ Ci Θ d 12 [.ref (σ.2.2 0 2), .int x1] σ (fun v2 σ2 => ((v2 = 0 → Q (some (.int (-1))) σ2) ∧ (¬ v2 = 0 → (σ2.2.2 0 2 ≠ 0 ∧ (shq (σ2.2.2 0 2)).1 = 1 ∧ Ci Θ d 12 [.ref (σ2.2.2 0 2), .int x2] σ2 (fun v5 σ5 => ((¬ v5 = 0 → Cr Θ d 160 [.ref 0] σ5 (fun v7 σ7 => (shq v7).1 = 8 ∧ Ci Θ d 79 [.ref v7, .int x1, .int x2] σ7 (fun v8 σ8 => ((¬ v8 = 0 → Ci Θ d 79 [.ref v7, .int x2, .int x1] σ8 (fun v10 σ10 => ((v10 = 0 → Q (some (.int 1)) σ10) ∧ (¬ v10 = 0 → Q (some (.int 2)) σ10)))) ∧ (v8 = 0 → Q (some (.int 0)) σ8))))) ∧ (v5 = 0 → Q (some (.int (-1))) σ5))))))))) :
    G Θ (d + 1) 122 0 [some (.ref 0), some (.int x1), some (.int x2), none] [] σ Q := by
  refine r_aload_n ok122 0 rfl rfl rfl ?_
  obtain ⟨c1, s1, h1⟩ := h
  refine r_getR ok122 1 rfl rfl rfl rfl c1 ?_
  refine r_iload_n ok122 2 rfl rfl rfl ?_
  refine r_invVi (as := [.int x1]) (S := []) ok122 3 rfl rfl mf12 s1 rfl (Nat.le_of_ble_eq_true rfl) rfl h1 (fun v2 σ2 h2 => ?_)
  refine r_if_eq ok122 4 rfl rfl (fun c3 => ?_) (fun c3 => ?_)
  · have h3 := h2.1 c3
    refine r_iconst (v := (-1)) ok122 10 rfl rfl rfl ?_
    exact r_iret ok122 11 rfl rfl rfl h3
  · have h3 := h2.2 c3
    refine r_aload_n ok122 5 rfl rfl rfl ?_
    obtain ⟨c4, s4, h4⟩ := h3
    refine r_getR ok122 6 rfl rfl rfl rfl c4 ?_
    refine r_iload_n ok122 7 rfl rfl rfl ?_
    refine r_invVi (as := [.int x2]) (S := []) ok122 8 rfl rfl mf12 s4 rfl (Nat.le_of_ble_eq_true rfl) rfl h4 (fun v5 σ5 h5 => ?_)
    refine r_if_ne ok122 9 rfl rfl (fun c6 => ?_) (fun c6 => ?_)
    · have h6 := h5.1 c6
      refine r_aload_n ok122 12 rfl rfl rfl ?_
      refine r_invVr (as := []) (S := []) ok122 13 rfl rfl mf160 rfl rfl (Nat.le_of_ble_eq_true rfl) rfl h6 (fun v7 σ7 h7 => ?_)
      obtain ⟨s7, h7⟩ := h7
      refine r_astore_n ok122 14 rfl rfl ?_
      refine r_aload_n ok122 15 rfl rfl rfl ?_
      refine r_iload_n ok122 16 rfl rfl rfl ?_
      refine r_iload_n ok122 17 rfl rfl rfl ?_
      refine r_invVi (as := [.int x1, .int x2]) (S := []) ok122 18 rfl rfl mf79 s7 rfl (Nat.le_of_ble_eq_true rfl) rfl h7 (fun v8 σ8 h8 => ?_)
      refine r_if_ne ok122 19 rfl rfl (fun c9 => ?_) (fun c9 => ?_)
      · have h9 := h8.1 c9
        refine r_aload_n ok122 22 rfl rfl rfl ?_
        refine r_iload_n ok122 23 rfl rfl rfl ?_
        refine r_iload_n ok122 24 rfl rfl rfl ?_
        refine r_invVi (as := [.int x2, .int x1]) (S := []) ok122 25 rfl rfl mf79 s7 rfl (Nat.le_of_ble_eq_true rfl) rfl h9 (fun v10 σ10 h10 => ?_)
        refine r_if_eq ok122 26 rfl rfl (fun c11 => ?_) (fun c11 => ?_)
        · have h11 := h10.1 c11
          refine r_iconst (v := 1) ok122 29 rfl rfl rfl ?_
          exact r_iret ok122 30 rfl rfl rfl h11
        · have h11 := h10.2 c11
          refine r_iconst (v := 2) ok122 27 rfl rfl rfl ?_
          refine r_goto ok122 28 rfl rfl ?_
          exact r_iret ok122 30 rfl rfl rfl h11
      · have h9 := h8.2 c9
        refine r_iconst (v := 0) ok122 20 rfl rfl rfl ?_
        exact r_iret ok122 21 rfl rfl rfl h9
    · have h6 := h5.2 c6
      refine r_iconst (v := (-1)) ok122 10 rfl rfl rfl ?_
      exact r_iret ok122 11 rfl rfl rfl h6

theorem K122 {Θ : Th} {d : Nat} {σ : Mem} {Q : Po} {x1 : Int32} {x2 : Int32} (h : G Θ (d + 1) 122 0 [some (.ref 0), some (.int x1), some (.int x2), none] [] σ Q) : Cm Θ (d + 1) 122 [.ref 0, .int x1, .int x2] σ Q :=
  C_of_G okM122 (Nat.le_of_ble_eq_true rfl) rfl h

-- 123: LikeYears.clash(I)I
set_option maxRecDepth 100000 in
set_option maxHeartbeats 4000000 in
theorem B123_0 {Θ : Th} {d : Nat} {σ : Mem} {Q : Po} {x1 : Int32} 
    (h : Cr Θ d 160 [.ref 0] σ (fun v1 σ1 => (shq v1).1 = 8 ∧ (((x1.toInt < 0 ∨ 2 < x1.toInt) → Q (some (.int (-1))) σ1) ∧ (x1.toInt = 0 → (σ1.2.2 0 2 ≠ 0 ∧ (shq (σ1.2.2 0 2)).1 = 1 ∧ Ci Θ d 83 [.ref v1, .ref (σ1.2.2 0 2), .int 0] σ1 (fun v4 σ4 => Q (some (.int v4)) σ4))) ∧ (x1.toInt = 1 → (σ1.2.2 0 2 ≠ 0 ∧ (shq (σ1.2.2 0 2)).1 = 1 ∧ Ci Θ d 84 [.ref v1, .ref (σ1.2.2 0 2)] σ1 (fun v6 σ6 => Q (some (.int v6)) σ6))) ∧ (x1.toInt = 2 → (σ1.2.2 0 2 ≠ 0 ∧ (shq (σ1.2.2 0 2)).1 = 1 ∧ Ci Θ d 85 [.ref v1, .ref (σ1.2.2 0 2)] σ1 (fun v8 σ8 => Q (some (.int v8)) σ8)))))) :
    G Θ (d + 1) 123 0 [some (.ref 0), some (.int x1), none] [] σ Q := by
  refine r_aload_n ok123 0 rfl rfl rfl ?_
  refine r_invVr (as := []) (S := []) ok123 1 rfl rfl mf160 rfl rfl (Nat.le_of_ble_eq_true rfl) rfl h (fun v1 σ1 h1 => ?_)
  obtain ⟨s1, h1⟩ := h1
  refine r_astore_n ok123 2 rfl rfl ?_
  refine r_iload_n ok123 3 rfl rfl rfl ?_
  refine r_tsw (tl := [32, 42, 51]) ok123 4 rfl rfl rfl rfl (fun c2 => ?_) ?_
  · have h2 := h1.1 c2
    refine r_iconst (v := (-1)) ok123 21 rfl rfl rfl ?_
    exact r_iret ok123 22 rfl rfl rfl h2
  · refine And.intro (fun c2 => ?_) ?_
    · have h2 := h1.2.1 c2
      refine r_aload_n ok123 5 rfl rfl rfl ?_
      refine r_aload_n ok123 6 rfl rfl rfl ?_
      obtain ⟨c3, s3, h3⟩ := h2
      refine r_getR ok123 7 rfl rfl rfl rfl c3 ?_
      refine r_iconst (v := 0) ok123 8 rfl rfl rfl ?_
      refine r_invVi (as := [.ref (σ1.2.2 0 2), .int 0]) (S := []) ok123 9 rfl rfl mf83 s1 rfl (Nat.le_of_ble_eq_true rfl) rfl h3 (fun v4 σ4 h4 => ?_)
      exact r_iret ok123 10 rfl rfl rfl h4
    · refine And.intro (fun c2 => ?_) ?_
      · have h2 := h1.2.2.1 c2
        refine r_aload_n ok123 11 rfl rfl rfl ?_
        refine r_aload_n ok123 12 rfl rfl rfl ?_
        obtain ⟨c5, s5, h5⟩ := h2
        refine r_getR ok123 13 rfl rfl rfl rfl c5 ?_
        refine r_invVi (as := [.ref (σ1.2.2 0 2)]) (S := []) ok123 14 rfl rfl mf84 s1 rfl (Nat.le_of_ble_eq_true rfl) rfl h5 (fun v6 σ6 h6 => ?_)
        exact r_iret ok123 15 rfl rfl rfl h6
      · intro c2
        have h2 := h1.2.2.2 c2
        refine r_aload_n ok123 16 rfl rfl rfl ?_
        refine r_aload_n ok123 17 rfl rfl rfl ?_
        obtain ⟨c7, s7, h7⟩ := h2
        refine r_getR ok123 18 rfl rfl rfl rfl c7 ?_
        refine r_invVi (as := [.ref (σ1.2.2 0 2)]) (S := []) ok123 19 rfl rfl mf85 s1 rfl (Nat.le_of_ble_eq_true rfl) rfl h7 (fun v8 σ8 h8 => ?_)
        exact r_iret ok123 20 rfl rfl rfl h8

theorem K123 {Θ : Th} {d : Nat} {σ : Mem} {Q : Po} {x1 : Int32} (h : G Θ (d + 1) 123 0 [some (.ref 0), some (.int x1), none] [] σ Q) : Cm Θ (d + 1) 123 [.ref 0, .int x1] σ Q :=
  C_of_G okM123 (Nat.le_of_ble_eq_true rfl) rfl h

-- 124: LikeYears.oddest(I)I
set_option maxRecDepth 100000 in
set_option maxHeartbeats 4000000 in
theorem B124_0 {Θ : Th} {d : Nat} {σ : Mem} {Q : Po} {x1 : Int32} 
    (h : ((x1 < 0 → Q (some (.int (-1))) σ) ∧ (¬ x1 < 0 → ((x1 ≤ 2 → Cr Θ d 160 [.ref 0] σ (fun v3 σ3 => (shq v3).1 = 8 ∧ (σ3.2.2 0 2 ≠ 0 ∧ (shq (σ3.2.2 0 2)).1 = 1 ∧ Ci Θ d 86 [.ref v3, .ref (σ3.2.2 0 2)] σ3 (fun v5 σ5 => ((v5 < 0 → Q (some (.int v5)) σ5) ∧ (¬ v5 < 0 → ((¬ x1 = 0 → ((¬ x1 = 1 → (σ5.2.2 0 2 ≠ 0 ∧ (shq (σ5.2.2 0 2)).1 = 1 ∧ Ci Θ d 82 [.ref v3, .ref (σ5.2.2 0 2), .int v5] σ5 (fun v10 σ10 => Q (some (.int v10)) σ10))) ∧ (x1 = 1 → (σ5.2.2 0 2 ≠ 0 ∧ (shq (σ5.2.2 0 2)).1 = 1 ∧ Ci Θ d 81 [.ref v3, .ref (σ5.2.2 0 2), .int v5] σ5 (fun v12 σ12 => Ci Θ d 286 [.int v12] σ12 (fun v13 σ13 => Q (some (.int v13)) σ13)))))) ∧ (x1 = 0 → Q (some (.int v5)) σ5)))))))) ∧ (¬ x1 ≤ 2 → Q (some (.int (-1))) σ))))) :
    G Θ (d + 1) 124 0 [some (.ref 0), some (.int x1), none, none] [] σ Q := by
  refine r_iload_n ok124 0 rfl rfl rfl ?_
  refine r_if_lt ok124 1 rfl rfl (fun c1 => ?_) (fun c1 => ?_)
  · have h1 := h.1 c1
    refine r_iconst (v := (-1)) ok124 5 rfl rfl rfl ?_
    exact r_iret ok124 6 rfl rfl rfl h1
  · have h1 := h.2 c1
    refine r_iload_n ok124 2 rfl rfl rfl ?_
    refine r_iconst (v := 2) ok124 3 rfl rfl rfl ?_
    refine r_icmp_le ok124 4 rfl rfl (fun c2 => ?_) (fun c2 => ?_)
    · have h2 := h1.1 c2
      refine r_aload_n ok124 7 rfl rfl rfl ?_
      refine r_invVr (as := []) (S := []) ok124 8 rfl rfl mf160 rfl rfl (Nat.le_of_ble_eq_true rfl) rfl h2 (fun v3 σ3 h3 => ?_)
      obtain ⟨s3, h3⟩ := h3
      refine r_astore_n ok124 9 rfl rfl ?_
      refine r_aload_n ok124 10 rfl rfl rfl ?_
      refine r_aload_n ok124 11 rfl rfl rfl ?_
      obtain ⟨c4, s4, h4⟩ := h3
      refine r_getR ok124 12 rfl rfl rfl rfl c4 ?_
      refine r_invVi (as := [.ref (σ3.2.2 0 2)]) (S := []) ok124 13 rfl rfl mf86 s3 rfl (Nat.le_of_ble_eq_true rfl) rfl h4 (fun v5 σ5 h5 => ?_)
      refine r_istore_n ok124 14 rfl rfl ?_
      refine r_iload_n ok124 15 rfl rfl rfl ?_
      refine r_if_lt ok124 16 rfl rfl (fun c6 => ?_) (fun c6 => ?_)
      · have h6 := h5.1 c6
        refine r_iload_n ok124 19 rfl rfl rfl ?_
        exact r_iret ok124 20 rfl rfl rfl h6
      · have h6 := h5.2 c6
        refine r_iload_n ok124 17 rfl rfl rfl ?_
        refine r_if_ne ok124 18 rfl rfl (fun c7 => ?_) (fun c7 => ?_)
        · have h7 := h6.1 c7
          refine r_iload_n ok124 21 rfl rfl rfl ?_
          refine r_iconst (v := 1) ok124 22 rfl rfl rfl ?_
          refine r_icmp_ne ok124 23 rfl rfl (fun c8 => ?_) (fun c8 => ?_)
          · have h8 := h7.1 c8
            refine r_aload_n ok124 31 rfl rfl rfl ?_
            refine r_aload_n ok124 32 rfl rfl rfl ?_
            obtain ⟨c9, s9, h9⟩ := h8
            refine r_getR ok124 33 rfl rfl rfl rfl c9 ?_
            refine r_iload_n ok124 34 rfl rfl rfl ?_
            refine r_invVi (as := [.ref (σ5.2.2 0 2), .int v5]) (S := []) ok124 35 rfl rfl mf82 s3 rfl (Nat.le_of_ble_eq_true rfl) rfl h9 (fun v10 σ10 h10 => ?_)
            exact r_iret ok124 36 rfl rfl rfl h10
          · have h8 := h7.2 c8
            refine r_aload_n ok124 24 rfl rfl rfl ?_
            refine r_aload_n ok124 25 rfl rfl rfl ?_
            obtain ⟨c11, s11, h11⟩ := h8
            refine r_getR ok124 26 rfl rfl rfl rfl c11 ?_
            refine r_iload_n ok124 27 rfl rfl rfl ?_
            refine r_invVi (as := [.ref (σ5.2.2 0 2), .int v5]) (S := []) ok124 28 rfl rfl mf81 s3 rfl (Nat.le_of_ble_eq_true rfl) rfl h11 (fun v12 σ12 h12 => ?_)
            refine r_invSi (as := [.int v12]) (S := []) ok124 29 rfl rfl mf286 rfl (Nat.le_of_ble_eq_true rfl) rfl h12 (fun v13 σ13 h13 => ?_)
            refine r_goto ok124 30 rfl rfl ?_
            exact r_iret ok124 36 rfl rfl rfl h13
        · have h7 := h6.2 c7
          refine r_iload_n ok124 19 rfl rfl rfl ?_
          exact r_iret ok124 20 rfl rfl rfl h7
    · have h2 := h1.2 c2
      refine r_iconst (v := (-1)) ok124 5 rfl rfl rfl ?_
      exact r_iret ok124 6 rfl rfl rfl h2

theorem K124 {Θ : Th} {d : Nat} {σ : Mem} {Q : Po} {x1 : Int32} (h : G Θ (d + 1) 124 0 [some (.ref 0), some (.int x1), none, none] [] σ Q) : Cm Θ (d + 1) 124 [.ref 0, .int x1] σ Q :=
  C_of_G okM124 (Nat.le_of_ble_eq_true rfl) rfl h

-- 125: LikeYears.beside(I)I
set_option maxRecDepth 100000 in
set_option maxHeartbeats 4000000 in
theorem B125_0 {Θ : Th} {d : Nat} {σ : Mem} {Q : Po} {x1 : Int32} 
    (h : (σ.2.2 0 2 ≠ 0 ∧ (shq (σ.2.2 0 2)).1 = 1 ∧ Ci Θ d 12 [.ref (σ.2.2 0 2), .int x1] σ (fun v2 σ2 => ((v2 = 0 → Q (some (.int (-1))) σ2) ∧ (¬ v2 = 0 → Cr Θ d 160 [.ref 0] σ2 (fun v4 σ4 => (shq v4).1 = 8 ∧ (σ4.2.2 0 2 ≠ 0 ∧ (shq (σ4.2.2 0 2)).1 = 1 ∧ Ci Θ d 87 [.ref v4, .ref (σ4.2.2 0 2), .int x1] σ4 (fun v6 σ6 => Q (some (.int v6)) σ6)))))))) :
    G Θ (d + 1) 125 0 [some (.ref 0), some (.int x1)] [] σ Q := by
  refine r_aload_n ok125 0 rfl rfl rfl ?_
  obtain ⟨c1, s1, h1⟩ := h
  refine r_getR ok125 1 rfl rfl rfl rfl c1 ?_
  refine r_iload_n ok125 2 rfl rfl rfl ?_
  refine r_invVi (as := [.int x1]) (S := []) ok125 3 rfl rfl mf12 s1 rfl (Nat.le_of_ble_eq_true rfl) rfl h1 (fun v2 σ2 h2 => ?_)
  refine r_if_eq ok125 4 rfl rfl (fun c3 => ?_) (fun c3 => ?_)
  · have h3 := h2.1 c3
    refine r_iconst (v := (-1)) ok125 12 rfl rfl rfl ?_
    exact r_iret ok125 13 rfl rfl rfl h3
  · have h3 := h2.2 c3
    refine r_aload_n ok125 5 rfl rfl rfl ?_
    refine r_invVr (as := []) (S := []) ok125 6 rfl rfl mf160 rfl rfl (Nat.le_of_ble_eq_true rfl) rfl h3 (fun v4 σ4 h4 => ?_)
    obtain ⟨s4, h4⟩ := h4
    refine r_aload_n ok125 7 rfl rfl rfl ?_
    obtain ⟨c5, s5, h5⟩ := h4
    refine r_getR ok125 8 rfl rfl rfl rfl c5 ?_
    refine r_iload_n ok125 9 rfl rfl rfl ?_
    refine r_invVi (as := [.ref (σ4.2.2 0 2), .int x1]) (S := []) ok125 10 rfl rfl mf87 s4 rfl (Nat.le_of_ble_eq_true rfl) rfl h5 (fun v6 σ6 h6 => ?_)
    refine r_goto ok125 11 rfl rfl ?_
    exact r_iret ok125 13 rfl rfl rfl h6

theorem K125 {Θ : Th} {d : Nat} {σ : Mem} {Q : Po} {x1 : Int32} (h : G Θ (d + 1) 125 0 [some (.ref 0), some (.int x1)] [] σ Q) : Cm Θ (d + 1) 125 [.ref 0, .int x1] σ Q :=
  C_of_G okM125 (Nat.le_of_ble_eq_true rfl) rfl h

-- 126: LikeYears.kept(III)J
set_option maxRecDepth 100000 in
set_option maxHeartbeats 4000000 in
theorem B126_0 {Θ : Th} {d : Nat} {σ : Mem} {Q : Po} {x1 : Int32} {x2 : Int32} {x3 : Int32} 
    (h : (σ.2.2 0 2 ≠ 0 ∧ (shq (σ.2.2 0 2)).1 = 1 ∧ Ci Θ d 12 [.ref (σ.2.2 0 2), .int x2] σ (fun v2 σ2 => ((v2 = 0 → Q (some (.long (-1))) σ2) ∧ (¬ v2 = 0 → Ci Θ d 155 [.int x3] σ2 (fun v4 σ4 => ((¬ v4 = 0 → (((x1.toInt < 0 ∨ 2 < x1.toInt) → Q (some (.long (-1))) σ4) ∧ (x1.toInt = 0 → Cr Θ d 161 [.ref 0] σ4 (fun v7 σ7 => (shq v7).1 = 7 ∧ Cl Θ d 71 [.ref v7, .int x2, .int x3] σ7 (fun v8 σ8 => Q (some (.long v8)) σ8))) ∧ (x1.toInt = 1 → Cr Θ d 162 [.ref 0] σ4 (fun v9 σ9 => (shq v9).1 = 7 ∧ (vp_in x2 16 ∧ Cv Θ d 47 [.ref 123, .long ((σ9.1 (v9 + 5) x2.toNatClampNeg).toInt64), .long 1] σ9 (fun σ11 => Cl Θ d 49 [.ref 123, .int x3] σ11 (fun v12 σ12 => Q (some (.long v12)) σ12))))) ∧ (x1.toInt = 2 → Cr Θ d 160 [.ref 0] σ4 (fun v13 σ13 => (shq v13).1 = 8 ∧ (σ13.2.2 0 2 ≠ 0 ∧ (shq (σ13.2.2 0 2)).1 = 1 ∧ Ci Θ d 88 [.ref v13, .ref (σ13.2.2 0 2), .int x2] σ13 (fun v15 σ15 => Cv Θ d 47 [.ref 123, .long v15.toInt64, .long 2] σ15 (fun σ16 => Cl Θ d 49 [.ref 123, .int x3] σ16 (fun v17 σ17 => Q (some (.long v17)) σ17)))))))) ∧ (v4 = 0 → Q (some (.long (-1))) σ4)))))))) :
    G Θ (d + 1) 126 0 [some (.ref 0), some (.int x1), some (.int x2), some (.int x3)] [] σ Q := by
  refine r_aload_n ok126 0 rfl rfl rfl ?_
  obtain ⟨c1, s1, h1⟩ := h
  refine r_getR ok126 1 rfl rfl rfl rfl c1 ?_
  refine r_iload_n ok126 2 rfl rfl rfl ?_
  refine r_invVi (as := [.int x2]) (S := []) ok126 3 rfl rfl mf12 s1 rfl (Nat.le_of_ble_eq_true rfl) rfl h1 (fun v2 σ2 h2 => ?_)
  refine r_if_eq ok126 4 rfl rfl (fun c3 => ?_) (fun c3 => ?_)
  · have h3 := h2.1 c3
    refine r_ldc2_w (v := (-1)) ok126 8 rfl rfl rfl ?_
    exact r_lret ok126 9 rfl rfl rfl h3
  · have h3 := h2.2 c3
    refine r_iload_n ok126 5 rfl rfl rfl ?_
    refine r_invSi (as := [.int x3]) (S := []) ok126 6 rfl rfl mf155 rfl (Nat.le_of_ble_eq_true rfl) rfl h3 (fun v4 σ4 h4 => ?_)
    refine r_if_ne ok126 7 rfl rfl (fun c5 => ?_) (fun c5 => ?_)
    · have h5 := h4.1 c5
      refine r_iload_n ok126 10 rfl rfl rfl ?_
      refine r_tsw (tl := [48, 58, 79]) ok126 11 rfl rfl rfl rfl (fun c6 => ?_) ?_
      · have h6 := h5.1 c6
        refine r_ldc2_w (v := (-1)) ok126 41 rfl rfl rfl ?_
        exact r_lret ok126 42 rfl rfl rfl h6
      · refine And.intro (fun c6 => ?_) ?_
        · have h6 := h5.2.1 c6
          refine r_aload_n ok126 12 rfl rfl rfl ?_
          refine r_invVr (as := []) (S := []) ok126 13 rfl rfl mf161 rfl rfl (Nat.le_of_ble_eq_true rfl) rfl h6 (fun v7 σ7 h7 => ?_)
          obtain ⟨s7, h7⟩ := h7
          refine r_iload_n ok126 14 rfl rfl rfl ?_
          refine r_iload_n ok126 15 rfl rfl rfl ?_
          refine r_invVl (as := [.int x2, .int x3]) (S := []) ok126 16 rfl rfl mf71 s7 rfl (Nat.le_of_ble_eq_true rfl) rfl h7 (fun v8 σ8 h8 => ?_)
          exact r_lret ok126 17 rfl rfl rfl h8
        · refine And.intro (fun c6 => ?_) ?_
          · have h6 := h5.2.2.1 c6
            refine r_aload_n ok126 18 rfl rfl rfl ?_
            refine r_getA ok126 19 rfl rfl rfl rfl ?_
            refine r_aload_n ok126 20 rfl rfl rfl ?_
            refine r_invVr (as := []) (S := [.ref 123]) ok126 21 rfl rfl mf162 rfl rfl (Nat.le_of_ble_eq_true rfl) rfl h6 (fun v9 σ9 h9 => ?_)
            obtain ⟨s9, h9⟩ := h9
            refine r_getF ok126 22 rfl rfl s9 rfl ?_
            refine r_iload_n ok126 23 rfl rfl rfl ?_
            obtain ⟨c10, h10⟩ := h9
            refine r_iald ok126 24 rfl rfl (rel_shp s9 (i := 33) rfl) c10 ?_
            refine r_i2l ok126 25 rfl rfl ?_
            refine r_lconst (v := 1) ok126 26 rfl rfl rfl ?_
            refine r_invVv (as := [.long ((σ9.1 (v9 + 5) x2.toNatClampNeg).toInt64), .long 1]) (S := []) ok126 27 rfl rfl mf47 rfl rfl (Nat.le_of_ble_eq_true rfl) rfl h10 (fun σ11 h11 => ?_)
            refine r_goto ok126 28 rfl rfl ?_
            refine r_aload_n ok126 43 rfl rfl rfl ?_
            refine r_getA ok126 44 rfl rfl rfl rfl ?_
            refine r_iload_n ok126 45 rfl rfl rfl ?_
            refine r_invVl (as := [.int x3]) (S := []) ok126 46 rfl rfl mf49 rfl rfl (Nat.le_of_ble_eq_true rfl) rfl h11 (fun v12 σ12 h12 => ?_)
            exact r_lret ok126 47 rfl rfl rfl h12
          · intro c6
            have h6 := h5.2.2.2 c6
            refine r_aload_n ok126 29 rfl rfl rfl ?_
            refine r_getA ok126 30 rfl rfl rfl rfl ?_
            refine r_aload_n ok126 31 rfl rfl rfl ?_
            refine r_invVr (as := []) (S := [.ref 123]) ok126 32 rfl rfl mf160 rfl rfl (Nat.le_of_ble_eq_true rfl) rfl h6 (fun v13 σ13 h13 => ?_)
            obtain ⟨s13, h13⟩ := h13
            refine r_aload_n ok126 33 rfl rfl rfl ?_
            obtain ⟨c14, s14, h14⟩ := h13
            refine r_getR ok126 34 rfl rfl rfl rfl c14 ?_
            refine r_iload_n ok126 35 rfl rfl rfl ?_
            refine r_invVi (as := [.ref (σ13.2.2 0 2), .int x2]) (S := [.ref 123]) ok126 36 rfl rfl mf88 s13 rfl (Nat.le_of_ble_eq_true rfl) rfl h14 (fun v15 σ15 h15 => ?_)
            refine r_i2l ok126 37 rfl rfl ?_
            refine r_ldc2_w (v := 2) ok126 38 rfl rfl rfl ?_
            refine r_invVv (as := [.long v15.toInt64, .long 2]) (S := []) ok126 39 rfl rfl mf47 rfl rfl (Nat.le_of_ble_eq_true rfl) rfl h15 (fun σ16 h16 => ?_)
            refine r_goto ok126 40 rfl rfl ?_
            refine r_aload_n ok126 43 rfl rfl rfl ?_
            refine r_getA ok126 44 rfl rfl rfl rfl ?_
            refine r_iload_n ok126 45 rfl rfl rfl ?_
            refine r_invVl (as := [.int x3]) (S := []) ok126 46 rfl rfl mf49 rfl rfl (Nat.le_of_ble_eq_true rfl) rfl h16 (fun v17 σ17 h17 => ?_)
            exact r_lret ok126 47 rfl rfl rfl h17
    · have h5 := h4.2 c5
      refine r_ldc2_w (v := (-1)) ok126 8 rfl rfl rfl ?_
      exact r_lret ok126 9 rfl rfl rfl h5

theorem K126 {Θ : Th} {d : Nat} {σ : Mem} {Q : Po} {x1 : Int32} {x2 : Int32} {x3 : Int32} (h : G Θ (d + 1) 126 0 [some (.ref 0), some (.int x1), some (.int x2), some (.int x3)] [] σ Q) : Cm Θ (d + 1) 126 [.ref 0, .int x1, .int x2, .int x3] σ Q :=
  C_of_G okM126 (Nat.le_of_ble_eq_true rfl) rfl h

-- 127: LikeYears.cost(II)J
set_option maxRecDepth 100000 in
set_option maxHeartbeats 4000000 in
theorem B127_0 {Θ : Th} {d : Nat} {σ : Mem} {Q : Po} {x1 : Int32} {x2 : Int32} 
    (h : Ci Θ d 155 [.int x2] σ (fun v1 σ1 => ((¬ v1 = 0 → (((x1.toInt < 0 ∨ 2 < x1.toInt) → Q (some (.long (-1))) σ1) ∧ (x1.toInt = 0 → Cr Θ d 161 [.ref 0] σ1 (fun v4 σ4 => (shq v4).1 = 7 ∧ Cl Θ d 49 [.ref (v4 + 4), .int x2] σ4 (fun v5 σ5 => Q (some (.long v5)) σ5))) ∧ (x1.toInt = 1 → Cr Θ d 162 [.ref 0] σ1 (fun v6 σ6 => (shq v6).1 = 7 ∧ Cv Θ d 47 [.ref 123, .long ((σ6.1 v6 7).toInt64), .long 1] σ6 (fun σ7 => Cl Θ d 49 [.ref 123, .int x2] σ7 (fun v8 σ8 => Q (some (.long v8)) σ8)))) ∧ (x1.toInt = 2 → Cr Θ d 160 [.ref 0] σ1 (fun v9 σ9 => (shq v9).1 = 8 ∧ (σ9.2.2 0 2 ≠ 0 ∧ (shq (σ9.2.2 0 2)).1 = 1 ∧ Ci Θ d 89 [.ref v9, .ref (σ9.2.2 0 2)] σ9 (fun v11 σ11 => Cv Θ d 47 [.ref 123, .long v11.toInt64, .long 2] σ11 (fun σ12 => Cl Θ d 49 [.ref 123, .int x2] σ12 (fun v13 σ13 => Q (some (.long v13)) σ13)))))))) ∧ (v1 = 0 → Q (some (.long (-1))) σ1)))) :
    G Θ (d + 1) 127 0 [some (.ref 0), some (.int x1), some (.int x2)] [] σ Q := by
  refine r_iload_n ok127 0 rfl rfl rfl ?_
  refine r_invSi (as := [.int x2]) (S := []) ok127 1 rfl rfl mf155 rfl (Nat.le_of_ble_eq_true rfl) rfl h (fun v1 σ1 h1 => ?_)
  refine r_if_ne ok127 2 rfl rfl (fun c2 => ?_) (fun c2 => ?_)
  · have h2 := h1.1 c2
    refine r_iload_n ok127 5 rfl rfl rfl ?_
    refine r_tsw (tl := [40, 52, 71]) ok127 6 rfl rfl rfl rfl (fun c3 => ?_) ?_
    · have h3 := h2.1 c3
      refine r_ldc2_w (v := (-1)) ok127 33 rfl rfl rfl ?_
      exact r_lret ok127 34 rfl rfl rfl h3
    · refine And.intro (fun c3 => ?_) ?_
      · have h3 := h2.2.1 c3
        refine r_aload_n ok127 7 rfl rfl rfl ?_
        refine r_invVr (as := []) (S := []) ok127 8 rfl rfl mf161 rfl rfl (Nat.le_of_ble_eq_true rfl) rfl h3 (fun v4 σ4 h4 => ?_)
        obtain ⟨s4, h4⟩ := h4
        refine r_getF ok127 9 rfl rfl s4 rfl ?_
        refine r_iload_n ok127 10 rfl rfl rfl ?_
        refine r_invVl (as := [.int x2]) (S := []) ok127 11 rfl rfl mf49 (congrArg Prod.fst (rel_shp s4 (i := 32) rfl)) rfl (Nat.le_of_ble_eq_true rfl) rfl h4 (fun v5 σ5 h5 => ?_)
        exact r_lret ok127 12 rfl rfl rfl h5
      · refine And.intro (fun c3 => ?_) ?_
        · have h3 := h2.2.2.1 c3
          refine r_aload_n ok127 13 rfl rfl rfl ?_
          refine r_getA ok127 14 rfl rfl rfl rfl ?_
          refine r_aload_n ok127 15 rfl rfl rfl ?_
          refine r_invVr (as := []) (S := [.ref 123]) ok127 16 rfl rfl mf162 rfl rfl (Nat.le_of_ble_eq_true rfl) rfl h3 (fun v6 σ6 h6 => ?_)
          obtain ⟨s6, h6⟩ := h6
          refine r_getI ok127 17 rfl rfl s6 rfl ?_
          refine r_i2l ok127 18 rfl rfl ?_
          refine r_lconst (v := 1) ok127 19 rfl rfl rfl ?_
          refine r_invVv (as := [.long ((σ6.1 v6 7).toInt64), .long 1]) (S := []) ok127 20 rfl rfl mf47 rfl rfl (Nat.le_of_ble_eq_true rfl) rfl h6 (fun σ7 h7 => ?_)
          refine r_goto ok127 21 rfl rfl ?_
          refine r_aload_n ok127 35 rfl rfl rfl ?_
          refine r_getA ok127 36 rfl rfl rfl rfl ?_
          refine r_iload_n ok127 37 rfl rfl rfl ?_
          refine r_invVl (as := [.int x2]) (S := []) ok127 38 rfl rfl mf49 rfl rfl (Nat.le_of_ble_eq_true rfl) rfl h7 (fun v8 σ8 h8 => ?_)
          exact r_lret ok127 39 rfl rfl rfl h8
        · intro c3
          have h3 := h2.2.2.2 c3
          refine r_aload_n ok127 22 rfl rfl rfl ?_
          refine r_getA ok127 23 rfl rfl rfl rfl ?_
          refine r_aload_n ok127 24 rfl rfl rfl ?_
          refine r_invVr (as := []) (S := [.ref 123]) ok127 25 rfl rfl mf160 rfl rfl (Nat.le_of_ble_eq_true rfl) rfl h3 (fun v9 σ9 h9 => ?_)
          obtain ⟨s9, h9⟩ := h9
          refine r_aload_n ok127 26 rfl rfl rfl ?_
          obtain ⟨c10, s10, h10⟩ := h9
          refine r_getR ok127 27 rfl rfl rfl rfl c10 ?_
          refine r_invVi (as := [.ref (σ9.2.2 0 2)]) (S := [.ref 123]) ok127 28 rfl rfl mf89 s9 rfl (Nat.le_of_ble_eq_true rfl) rfl h10 (fun v11 σ11 h11 => ?_)
          refine r_i2l ok127 29 rfl rfl ?_
          refine r_ldc2_w (v := 2) ok127 30 rfl rfl rfl ?_
          refine r_invVv (as := [.long v11.toInt64, .long 2]) (S := []) ok127 31 rfl rfl mf47 rfl rfl (Nat.le_of_ble_eq_true rfl) rfl h11 (fun σ12 h12 => ?_)
          refine r_goto ok127 32 rfl rfl ?_
          refine r_aload_n ok127 35 rfl rfl rfl ?_
          refine r_getA ok127 36 rfl rfl rfl rfl ?_
          refine r_iload_n ok127 37 rfl rfl rfl ?_
          refine r_invVl (as := [.int x2]) (S := []) ok127 38 rfl rfl mf49 rfl rfl (Nat.le_of_ble_eq_true rfl) rfl h12 (fun v13 σ13 h13 => ?_)
          exact r_lret ok127 39 rfl rfl rfl h13
  · have h2 := h1.2 c2
    refine r_ldc2_w (v := (-1)) ok127 3 rfl rfl rfl ?_
    exact r_lret ok127 4 rfl rfl rfl h2

theorem K127 {Θ : Th} {d : Nat} {σ : Mem} {Q : Po} {x1 : Int32} {x2 : Int32} (h : G Θ (d + 1) 127 0 [some (.ref 0), some (.int x1), some (.int x2)] [] σ Q) : Cm Θ (d + 1) 127 [.ref 0, .int x1, .int x2] σ Q :=
  C_of_G okM127 (Nat.le_of_ble_eq_true rfl) rfl h

-- 128: LikeYears.block(I)I
set_option maxRecDepth 100000 in
set_option maxHeartbeats 4000000 in
theorem B128_0 {Θ : Th} {d : Nat} {σ : Mem} {Q : Po} {x1 : Int32} 
    (h : (σ.2.2 0 2 ≠ 0 ∧ (shq (σ.2.2 0 2)).1 = 1 ∧ Ci Θ d 12 [.ref (σ.2.2 0 2), .int x1] σ (fun v2 σ2 => ((v2 = 0 → Q (some (.int (-1))) σ2) ∧ (¬ v2 = 0 → Cr Θ d 161 [.ref 0] σ2 (fun v4 σ4 => (shq v4).1 = 7 ∧ (vp_in x1 16 ∧ Q (some (.int (σ4.1 (v4 + 1) x1.toNatClampNeg))) σ4))))))) :
    G Θ (d + 1) 128 0 [some (.ref 0), some (.int x1)] [] σ Q := by
  refine r_aload_n ok128 0 rfl rfl rfl ?_
  obtain ⟨c1, s1, h1⟩ := h
  refine r_getR ok128 1 rfl rfl rfl rfl c1 ?_
  refine r_iload_n ok128 2 rfl rfl rfl ?_
  refine r_invVi (as := [.int x1]) (S := []) ok128 3 rfl rfl mf12 s1 rfl (Nat.le_of_ble_eq_true rfl) rfl h1 (fun v2 σ2 h2 => ?_)
  refine r_if_eq ok128 4 rfl rfl (fun c3 => ?_) (fun c3 => ?_)
  · have h3 := h2.1 c3
    refine r_iconst (v := (-1)) ok128 11 rfl rfl rfl ?_
    exact r_iret ok128 12 rfl rfl rfl h3
  · have h3 := h2.2 c3
    refine r_aload_n ok128 5 rfl rfl rfl ?_
    refine r_invVr (as := []) (S := []) ok128 6 rfl rfl mf161 rfl rfl (Nat.le_of_ble_eq_true rfl) rfl h3 (fun v4 σ4 h4 => ?_)
    obtain ⟨s4, h4⟩ := h4
    refine r_getF ok128 7 rfl rfl s4 rfl ?_
    refine r_iload_n ok128 8 rfl rfl rfl ?_
    obtain ⟨c5, h5⟩ := h4
    refine r_iald ok128 9 rfl rfl (rel_shp s4 (i := 29) rfl) c5 ?_
    refine r_goto ok128 10 rfl rfl ?_
    exact r_iret ok128 12 rfl rfl rfl h5

theorem K128 {Θ : Th} {d : Nat} {σ : Mem} {Q : Po} {x1 : Int32} (h : G Θ (d + 1) 128 0 [some (.ref 0), some (.int x1)] [] σ Q) : Cm Θ (d + 1) 128 [.ref 0, .int x1] σ Q :=
  C_of_G okM128 (Nat.le_of_ble_eq_true rfl) rfl h

-- 129: LikeYears.again(I)I
set_option maxRecDepth 100000 in
set_option maxHeartbeats 4000000 in
theorem B129_0 {Θ : Th} {d : Nat} {σ : Mem} {Q : Po} {x1 : Int32} 
    (h : ((x1 < 0 → Q (some (.int (-1))) σ) ∧ (¬ x1 < 0 → ((x1 ≤ 2 → ((¬ ((σ.1 0 17) &&& 8) = 0 → ((¬ x1 = 0 → ((¬ x1 = 1 → Q (some (.int (σ.1 110 2))) σ) ∧ (x1 = 1 → Q (some (.int (σ.1 110 1))) σ))) ∧ (x1 = 0 → Q (some (.int (σ.1 110 0))) σ))) ∧ (((σ.1 0 17) &&& 8) = 0 → (σ.2.2 0 2 ≠ 0 ∧ (shq (σ.2.2 0 2)).1 = 1 ∧ Cr Θ d 160 [.ref 0] σ (fun v7 σ7 => (shq v7).1 = 8 ∧ Cv Θ d 33 [.ref 110, .ref (σ.2.2 0 2), .ref v7] σ7 (fun σ8 => ((¬ x1 = 0 → ((¬ x1 = 1 → Q (some (.int ((sI σ8 0 17 ((σ8.1 0 17) ||| 8)).1 110 2))) (sI σ8 0 17 ((σ8.1 0 17) ||| 8))) ∧ (x1 = 1 → Q (some (.int ((sI σ8 0 17 ((σ8.1 0 17) ||| 8)).1 110 1))) (sI σ8 0 17 ((σ8.1 0 17) ||| 8))))) ∧ (x1 = 0 → Q (some (.int ((sI σ8 0 17 ((σ8.1 0 17) ||| 8)).1 110 0))) (sI σ8 0 17 ((σ8.1 0 17) ||| 8)))))))))) ∧ (¬ x1 ≤ 2 → Q (some (.int (-1))) σ))))) :
    G Θ (d + 1) 129 0 [some (.ref 0), some (.int x1)] [] σ Q := by
  refine r_iload_n ok129 0 rfl rfl rfl ?_
  refine r_if_lt ok129 1 rfl rfl (fun c1 => ?_) (fun c1 => ?_)
  · have h1 := h.1 c1
    refine r_iconst (v := (-1)) ok129 5 rfl rfl rfl ?_
    exact r_iret ok129 6 rfl rfl rfl h1
  · have h1 := h.2 c1
    refine r_iload_n ok129 2 rfl rfl rfl ?_
    refine r_iconst (v := 2) ok129 3 rfl rfl rfl ?_
    refine r_icmp_le ok129 4 rfl rfl (fun c2 => ?_) (fun c2 => ?_)
    · have h2 := h1.1 c2
      refine r_aload_n ok129 7 rfl rfl rfl ?_
      refine r_getI ok129 8 rfl rfl rfl rfl ?_
      refine r_bipush (v := 8) ok129 9 rfl rfl rfl ?_
      refine r_iand ok129 10 rfl rfl ?_
      refine r_if_ne ok129 11 rfl rfl (fun c3 => ?_) (fun c3 => ?_)
      · have h3 := h2.1 c3
        refine r_iload_n ok129 25 rfl rfl rfl ?_
        refine r_if_ne ok129 26 rfl rfl (fun c4 => ?_) (fun c4 => ?_)
        · have h4 := h3.1 c4
          refine r_iload_n ok129 31 rfl rfl rfl ?_
          refine r_iconst (v := 1) ok129 32 rfl rfl rfl ?_
          refine r_icmp_ne ok129 33 rfl rfl (fun c5 => ?_) (fun c5 => ?_)
          · have h5 := h4.1 c5
            refine r_aload_n ok129 38 rfl rfl rfl ?_
            refine r_getA ok129 39 rfl rfl rfl rfl ?_
            refine r_getI ok129 40 rfl rfl rfl rfl ?_
            exact r_iret ok129 41 rfl rfl rfl h5
          · have h5 := h4.2 c5
            refine r_aload_n ok129 34 rfl rfl rfl ?_
            refine r_getA ok129 35 rfl rfl rfl rfl ?_
            refine r_getI ok129 36 rfl rfl rfl rfl ?_
            refine r_goto ok129 37 rfl rfl ?_
            exact r_iret ok129 41 rfl rfl rfl h5
        · have h4 := h3.2 c4
          refine r_aload_n ok129 27 rfl rfl rfl ?_
          refine r_getA ok129 28 rfl rfl rfl rfl ?_
          refine r_getI ok129 29 rfl rfl rfl rfl ?_
          exact r_iret ok129 30 rfl rfl rfl h4
      · have h3 := h2.2 c3
        refine r_aload_n ok129 12 rfl rfl rfl ?_
        refine r_getA ok129 13 rfl rfl rfl rfl ?_
        refine r_aload_n ok129 14 rfl rfl rfl ?_
        obtain ⟨c6, s6, h6⟩ := h3
        refine r_getR ok129 15 rfl rfl rfl rfl c6 ?_
        refine r_aload_n ok129 16 rfl rfl rfl ?_
        refine r_invVr (as := []) (S := [.ref (σ.2.2 0 2), .ref 110]) ok129 17 rfl rfl mf160 rfl rfl (Nat.le_of_ble_eq_true rfl) rfl h6 (fun v7 σ7 h7 => ?_)
        obtain ⟨s7, h7⟩ := h7
        refine r_invVv (as := [.ref (σ.2.2 0 2), .ref v7]) (S := []) ok129 18 rfl rfl mf33 rfl rfl (Nat.le_of_ble_eq_true rfl) rfl h7 (fun σ8 h8 => ?_)
        refine r_aload_n ok129 19 rfl rfl rfl ?_
        refine r_dup ok129 20 rfl rfl rfl ?_
        refine r_getI ok129 21 rfl rfl rfl rfl ?_
        refine r_bipush (v := 8) ok129 22 rfl rfl rfl ?_
        refine r_ior ok129 23 rfl rfl ?_
        refine r_putI ok129 24 rfl rfl rfl rfl ?_
        refine r_iload_n ok129 25 rfl rfl rfl ?_
        refine r_if_ne ok129 26 rfl rfl (fun c9 => ?_) (fun c9 => ?_)
        · have h9 := h8.1 c9
          refine r_iload_n ok129 31 rfl rfl rfl ?_
          refine r_iconst (v := 1) ok129 32 rfl rfl rfl ?_
          refine r_icmp_ne ok129 33 rfl rfl (fun c10 => ?_) (fun c10 => ?_)
          · have h10 := h9.1 c10
            refine r_aload_n ok129 38 rfl rfl rfl ?_
            refine r_getA ok129 39 rfl rfl rfl rfl ?_
            refine r_getI ok129 40 rfl rfl rfl rfl ?_
            exact r_iret ok129 41 rfl rfl rfl h10
          · have h10 := h9.2 c10
            refine r_aload_n ok129 34 rfl rfl rfl ?_
            refine r_getA ok129 35 rfl rfl rfl rfl ?_
            refine r_getI ok129 36 rfl rfl rfl rfl ?_
            refine r_goto ok129 37 rfl rfl ?_
            exact r_iret ok129 41 rfl rfl rfl h10
        · have h9 := h8.2 c9
          refine r_aload_n ok129 27 rfl rfl rfl ?_
          refine r_getA ok129 28 rfl rfl rfl rfl ?_
          refine r_getI ok129 29 rfl rfl rfl rfl ?_
          exact r_iret ok129 30 rfl rfl rfl h9
    · have h2 := h1.2 c2
      refine r_iconst (v := (-1)) ok129 5 rfl rfl rfl ?_
      exact r_iret ok129 6 rfl rfl rfl h2

theorem K129 {Θ : Th} {d : Nat} {σ : Mem} {Q : Po} {x1 : Int32} (h : G Θ (d + 1) 129 0 [some (.ref 0), some (.int x1)] [] σ Q) : Cm Θ (d + 1) 129 [.ref 0, .int x1] σ Q :=
  C_of_G okM129 (Nat.le_of_ble_eq_true rfl) rfl h

-- 130: LikeYears.grid(III)J
set_option maxRecDepth 100000 in
set_option maxHeartbeats 4000000 in
theorem B130_0 {Θ : Th} {d : Nat} {σ : Mem} {Q : Po} {x1 : Int32} {x2 : Int32} {x3 : Int32} 
    (h : Ci Θ d 158 [.ref 0, .int x1, .int x2] σ (fun v1 σ1 => ((v1 = 0 → Q (some (.long (-1))) σ1) ∧ (¬ v1 = 0 → Ci Θ d 155 [.int x3] σ1 (fun v3 σ3 => ((¬ v3 = 0 → Cr Θ d 163 [.ref 0, .int x1, .int x2] σ3 (fun v5 σ5 => (shq v5).1 = 5 ∧ Cl Θ d 49 [.ref v5, .int x3] σ5 (fun v6 σ6 => Q (some (.long v6)) σ6))) ∧ (v3 = 0 → Q (some (.long (-1))) σ3))))))) :
    G Θ (d + 1) 130 0 [some (.ref 0), some (.int x1), some (.int x2), some (.int x3)] [] σ Q := by
  refine r_aload_n ok130 0 rfl rfl rfl ?_
  refine r_iload_n ok130 1 rfl rfl rfl ?_
  refine r_iload_n ok130 2 rfl rfl rfl ?_
  refine r_invVi (as := [.int x1, .int x2]) (S := []) ok130 3 rfl rfl mf158 rfl rfl (Nat.le_of_ble_eq_true rfl) rfl h (fun v1 σ1 h1 => ?_)
  refine r_if_eq ok130 4 rfl rfl (fun c2 => ?_) (fun c2 => ?_)
  · have h2 := h1.1 c2
    refine r_ldc2_w (v := (-1)) ok130 8 rfl rfl rfl ?_
    exact r_lret ok130 9 rfl rfl rfl h2
  · have h2 := h1.2 c2
    refine r_iload_n ok130 5 rfl rfl rfl ?_
    refine r_invSi (as := [.int x3]) (S := []) ok130 6 rfl rfl mf155 rfl (Nat.le_of_ble_eq_true rfl) rfl h2 (fun v3 σ3 h3 => ?_)
    refine r_if_ne ok130 7 rfl rfl (fun c4 => ?_) (fun c4 => ?_)
    · have h4 := h3.1 c4
      refine r_aload_n ok130 10 rfl rfl rfl ?_
      refine r_iload_n ok130 11 rfl rfl rfl ?_
      refine r_iload_n ok130 12 rfl rfl rfl ?_
      refine r_invVr (as := [.int x1, .int x2]) (S := []) ok130 13 rfl rfl mf163 rfl rfl (Nat.le_of_ble_eq_true rfl) rfl h4 (fun v5 σ5 h5 => ?_)
      obtain ⟨s5, h5⟩ := h5
      refine r_iload_n ok130 14 rfl rfl rfl ?_
      refine r_invVl (as := [.int x3]) (S := []) ok130 15 rfl rfl mf49 s5 rfl (Nat.le_of_ble_eq_true rfl) rfl h5 (fun v6 σ6 h6 => ?_)
      exact r_lret ok130 16 rfl rfl rfl h6
    · have h4 := h3.2 c4
      refine r_ldc2_w (v := (-1)) ok130 8 rfl rfl rfl ?_
      exact r_lret ok130 9 rfl rfl rfl h4

theorem K130 {Θ : Th} {d : Nat} {σ : Mem} {Q : Po} {x1 : Int32} {x2 : Int32} {x3 : Int32} (h : G Θ (d + 1) 130 0 [some (.ref 0), some (.int x1), some (.int x2), some (.int x3)] [] σ Q) : Cm Θ (d + 1) 130 [.ref 0, .int x1, .int x2, .int x3] σ Q :=
  C_of_G okM130 (Nat.le_of_ble_eq_true rfl) rfl h

-- 131: LikeYears.loses(III)J
set_option maxRecDepth 100000 in
set_option maxHeartbeats 4000000 in
theorem B131_0 {Θ : Th} {d : Nat} {σ : Mem} {Q : Po} {x1 : Int32} {x2 : Int32} {x3 : Int32} 
    (h : Ci Θ d 158 [.ref 0, .int x1, .int x2] σ (fun v1 σ1 => ((v1 = 0 → Q (some (.long (-1000000000000))) σ1) ∧ (¬ v1 = 0 → Ci Θ d 155 [.int x3] σ1 (fun v3 σ3 => ((¬ v3 = 0 → Cr Θ d 161 [.ref 0] σ3 (fun v5 σ5 => (shq v5).1 = 7 ∧ Cr Θ d 163 [.ref 0, .int x1, .int x2] σ5 (fun v6 σ6 => (shq v6).1 = 5 ∧ Cv Θ d 47 [.ref 123, .long (σ6.2.1 v6 0), .long (σ6.2.1 v6 1)] σ6 (fun σ7 => Cv Θ d 48 [.ref 123, .long (-(σ7.2.1 (v5 + 4) 0)), .long (σ7.2.1 (v5 + 4) 1)] σ7 (fun σ8 => Cl Θ d 49 [.ref 123, .int x3] σ8 (fun v9 σ9 => Q (some (.long v9)) σ9)))))) ∧ (v3 = 0 → Q (some (.long (-1000000000000))) σ3))))))) :
    G Θ (d + 1) 131 0 [some (.ref 0), some (.int x1), some (.int x2), some (.int x3), none, none] [] σ Q := by
  refine r_aload_n ok131 0 rfl rfl rfl ?_
  refine r_iload_n ok131 1 rfl rfl rfl ?_
  refine r_iload_n ok131 2 rfl rfl rfl ?_
  refine r_invVi (as := [.int x1, .int x2]) (S := []) ok131 3 rfl rfl mf158 rfl rfl (Nat.le_of_ble_eq_true rfl) rfl h (fun v1 σ1 h1 => ?_)
  refine r_if_eq ok131 4 rfl rfl (fun c2 => ?_) (fun c2 => ?_)
  · have h2 := h1.1 c2
    refine r_ldc2_w (v := (-1000000000000)) ok131 8 rfl rfl rfl ?_
    exact r_lret ok131 9 rfl rfl rfl h2
  · have h2 := h1.2 c2
    refine r_iload_n ok131 5 rfl rfl rfl ?_
    refine r_invSi (as := [.int x3]) (S := []) ok131 6 rfl rfl mf155 rfl (Nat.le_of_ble_eq_true rfl) rfl h2 (fun v3 σ3 h3 => ?_)
    refine r_if_ne ok131 7 rfl rfl (fun c4 => ?_) (fun c4 => ?_)
    · have h4 := h3.1 c4
      refine r_aload_n ok131 10 rfl rfl rfl ?_
      refine r_invVr (as := []) (S := []) ok131 11 rfl rfl mf161 rfl rfl (Nat.le_of_ble_eq_true rfl) rfl h4 (fun v5 σ5 h5 => ?_)
      obtain ⟨s5, h5⟩ := h5
      refine r_getF ok131 12 rfl rfl s5 rfl ?_
      refine r_astore ok131 13 rfl rfl ?_
      refine r_aload_n ok131 14 rfl rfl rfl ?_
      refine r_iload_n ok131 15 rfl rfl rfl ?_
      refine r_iload_n ok131 16 rfl rfl rfl ?_
      refine r_invVr (as := [.int x1, .int x2]) (S := []) ok131 17 rfl rfl mf163 rfl rfl (Nat.le_of_ble_eq_true rfl) rfl h5 (fun v6 σ6 h6 => ?_)
      obtain ⟨s6, h6⟩ := h6
      refine r_astore ok131 18 rfl rfl ?_
      refine r_aload_n ok131 19 rfl rfl rfl ?_
      refine r_getA ok131 20 rfl rfl rfl rfl ?_
      refine r_aload ok131 21 rfl rfl rfl ?_
      refine r_getL ok131 22 rfl rfl s6 rfl ?_
      refine r_aload ok131 23 rfl rfl rfl ?_
      refine r_getL ok131 24 rfl rfl s6 rfl ?_
      refine r_invVv (as := [.long (σ6.2.1 v6 0), .long (σ6.2.1 v6 1)]) (S := []) ok131 25 rfl rfl mf47 rfl rfl (Nat.le_of_ble_eq_true rfl) rfl h6 (fun σ7 h7 => ?_)
      refine r_aload_n ok131 26 rfl rfl rfl ?_
      refine r_getA ok131 27 rfl rfl rfl rfl ?_
      refine r_aload ok131 28 rfl rfl rfl ?_
      refine r_getL ok131 29 rfl rfl (congrArg Prod.fst (rel_shp s5 (i := 32) rfl)) rfl ?_
      refine r_lneg ok131 30 rfl rfl ?_
      refine r_aload ok131 31 rfl rfl rfl ?_
      refine r_getL ok131 32 rfl rfl (congrArg Prod.fst (rel_shp s5 (i := 32) rfl)) rfl ?_
      refine r_invVv (as := [.long (-(σ7.2.1 (v5 + 4) 0)), .long (σ7.2.1 (v5 + 4) 1)]) (S := []) ok131 33 rfl rfl mf48 rfl rfl (Nat.le_of_ble_eq_true rfl) rfl h7 (fun σ8 h8 => ?_)
      refine r_aload_n ok131 34 rfl rfl rfl ?_
      refine r_getA ok131 35 rfl rfl rfl rfl ?_
      refine r_iload_n ok131 36 rfl rfl rfl ?_
      refine r_invVl (as := [.int x3]) (S := []) ok131 37 rfl rfl mf49 rfl rfl (Nat.le_of_ble_eq_true rfl) rfl h8 (fun v9 σ9 h9 => ?_)
      exact r_lret ok131 38 rfl rfl rfl h9
    · have h4 := h3.2 c4
      refine r_ldc2_w (v := (-1000000000000)) ok131 8 rfl rfl rfl ?_
      exact r_lret ok131 9 rfl rfl rfl h4

theorem K131 {Θ : Th} {d : Nat} {σ : Mem} {Q : Po} {x1 : Int32} {x2 : Int32} {x3 : Int32} (h : G Θ (d + 1) 131 0 [some (.ref 0), some (.int x1), some (.int x2), some (.int x3), none, none] [] σ Q) : Cm Θ (d + 1) 131 [.ref 0, .int x1, .int x2, .int x3] σ Q :=
  C_of_G okM131 (Nat.le_of_ble_eq_true rfl) rfl h

-- 132: LikeYears.best()I
set_option maxRecDepth 100000 in
set_option maxHeartbeats 4000000 in
theorem B132_0 {Θ : Th} {d : Nat} {σ : Mem} {Q : Po} 
    (h : (σ.2.2 0 2 ≠ 0 ∧ (shq (σ.2.2 0 2)).1 = 1 ∧ ((2 ≤ (σ.1 (σ.2.2 0 2) 0) → ((¬ ((σ.1 0 17) &&& 16) = 0 → Q (some (.int (σ.1 0 16))) σ) ∧ (((σ.1 0 17) &&& 16) = 0 → Ci Θ d 164 [.ref 0] σ (fun v4 σ4 => Q (some (.int ((sI (sI σ4 0 16 v4) 0 17 (((sI σ4 0 16 v4).1 0 17) ||| 16)).1 0 16))) (sI (sI σ4 0 16 v4) 0 17 (((sI σ4 0 16 v4).1 0 17) ||| 16)))))) ∧ (¬ 2 ≤ (σ.1 (σ.2.2 0 2) 0) → Q (some (.int (-1))) σ)))) :
    G Θ (d + 1) 132 0 [some (.ref 0)] [] σ Q := by
  refine r_aload_n ok132 0 rfl rfl rfl ?_
  obtain ⟨c1, s1, h1⟩ := h
  refine r_getR ok132 1 rfl rfl rfl rfl c1 ?_
  refine r_getI ok132 2 rfl rfl s1 rfl ?_
  refine r_iconst (v := 2) ok132 3 rfl rfl rfl ?_
  refine r_icmp_ge ok132 4 rfl rfl (fun c2 => ?_) (fun c2 => ?_)
  · have h2 := h1.1 c2
    refine r_aload_n ok132 7 rfl rfl rfl ?_
    refine r_getI ok132 8 rfl rfl rfl rfl ?_
    refine r_bipush (v := 16) ok132 9 rfl rfl rfl ?_
    refine r_iand ok132 10 rfl rfl ?_
    refine r_if_ne ok132 11 rfl rfl (fun c3 => ?_) (fun c3 => ?_)
    · have h3 := h2.1 c3
      refine r_aload_n ok132 22 rfl rfl rfl ?_
      refine r_getI ok132 23 rfl rfl rfl rfl ?_
      exact r_iret ok132 24 rfl rfl rfl h3
    · have h3 := h2.2 c3
      refine r_aload_n ok132 12 rfl rfl rfl ?_
      refine r_aload_n ok132 13 rfl rfl rfl ?_
      refine r_invVi (as := []) (S := [.ref 0]) ok132 14 rfl rfl mf164 rfl rfl (Nat.le_of_ble_eq_true rfl) rfl h3 (fun v4 σ4 h4 => ?_)
      refine r_putI ok132 15 rfl rfl rfl rfl ?_
      refine r_aload_n ok132 16 rfl rfl rfl ?_
      refine r_dup ok132 17 rfl rfl rfl ?_
      refine r_getI ok132 18 rfl rfl rfl rfl ?_
      refine r_bipush (v := 16) ok132 19 rfl rfl rfl ?_
      refine r_ior ok132 20 rfl rfl ?_
      refine r_putI ok132 21 rfl rfl rfl rfl ?_
      refine r_aload_n ok132 22 rfl rfl rfl ?_
      refine r_getI ok132 23 rfl rfl rfl rfl ?_
      exact r_iret ok132 24 rfl rfl rfl h4
  · have h2 := h1.2 c2
    refine r_iconst (v := (-1)) ok132 5 rfl rfl rfl ?_
    exact r_iret ok132 6 rfl rfl rfl h2

theorem K132 {Θ : Th} {d : Nat} {σ : Mem} {Q : Po} (h : G Θ (d + 1) 132 0 [some (.ref 0)] [] σ Q) : Cm Θ (d + 1) 132 [.ref 0] σ Q :=
  C_of_G okM132 (Nat.le_of_ble_eq_true rfl) rfl h

-- 133: LikeYears.runs(III)J
set_option maxRecDepth 100000 in
set_option maxHeartbeats 4000000 in
theorem B133_0 {Θ : Th} {d : Nat} {σ : Mem} {Q : Po} {x1 : Int32} {x2 : Int32} {x3 : Int32} 
    (h : Ci Θ d 159 [.ref 0, .int x1, .int x2] σ (fun v1 σ1 => ((v1 = 0 → Q (some (.long (-1))) σ1) ∧ (¬ v1 = 0 → Ci Θ d 155 [.int x3] σ1 (fun v3 σ3 => ((¬ v3 = 0 → (σ3.2.2 0 2 ≠ 0 ∧ (shq (σ3.2.2 0 2)).1 = 1 ∧ Cv Θ d 92 [.ref 114, .ref (σ3.2.2 0 2), .int x1, .int x2] σ3 (fun σ6 => Cl Θ d 49 [.ref 115, .int x3] σ6 (fun v7 σ7 => Q (some (.long v7)) σ7)))) ∧ (v3 = 0 → Q (some (.long (-1))) σ3))))))) :
    G Θ (d + 1) 133 0 [some (.ref 0), some (.int x1), some (.int x2), some (.int x3)] [] σ Q := by
  refine r_aload_n ok133 0 rfl rfl rfl ?_
  refine r_iload_n ok133 1 rfl rfl rfl ?_
  refine r_iload_n ok133 2 rfl rfl rfl ?_
  refine r_invVi (as := [.int x1, .int x2]) (S := []) ok133 3 rfl rfl mf159 rfl rfl (Nat.le_of_ble_eq_true rfl) rfl h (fun v1 σ1 h1 => ?_)
  refine r_if_eq ok133 4 rfl rfl (fun c2 => ?_) (fun c2 => ?_)
  · have h2 := h1.1 c2
    refine r_ldc2_w (v := (-1)) ok133 8 rfl rfl rfl ?_
    exact r_lret ok133 9 rfl rfl rfl h2
  · have h2 := h1.2 c2
    refine r_iload_n ok133 5 rfl rfl rfl ?_
    refine r_invSi (as := [.int x3]) (S := []) ok133 6 rfl rfl mf155 rfl (Nat.le_of_ble_eq_true rfl) rfl h2 (fun v3 σ3 h3 => ?_)
    refine r_if_ne ok133 7 rfl rfl (fun c4 => ?_) (fun c4 => ?_)
    · have h4 := h3.1 c4
      refine r_aload_n ok133 10 rfl rfl rfl ?_
      refine r_getA ok133 11 rfl rfl rfl rfl ?_
      refine r_aload_n ok133 12 rfl rfl rfl ?_
      obtain ⟨c5, s5, h5⟩ := h4
      refine r_getR ok133 13 rfl rfl rfl rfl c5 ?_
      refine r_iload_n ok133 14 rfl rfl rfl ?_
      refine r_iload_n ok133 15 rfl rfl rfl ?_
      refine r_invVv (as := [.ref (σ3.2.2 0 2), .int x1, .int x2]) (S := []) ok133 16 rfl rfl mf92 rfl rfl (Nat.le_of_ble_eq_true rfl) rfl h5 (fun σ6 h6 => ?_)
      refine r_aload_n ok133 17 rfl rfl rfl ?_
      refine r_getA ok133 18 rfl rfl rfl rfl ?_
      refine r_getF ok133 19 rfl rfl rfl rfl ?_
      refine r_iload_n ok133 20 rfl rfl rfl ?_
      refine r_invVl (as := [.int x3]) (S := []) ok133 21 rfl rfl mf49 rfl rfl (Nat.le_of_ble_eq_true rfl) rfl h6 (fun v7 σ7 h7 => ?_)
      exact r_lret ok133 22 rfl rfl rfl h7
    · have h4 := h3.2 c4
      refine r_ldc2_w (v := (-1)) ok133 8 rfl rfl rfl ?_
      exact r_lret ok133 9 rfl rfl rfl h4

theorem K133 {Θ : Th} {d : Nat} {σ : Mem} {Q : Po} {x1 : Int32} {x2 : Int32} {x3 : Int32} (h : G Θ (d + 1) 133 0 [some (.ref 0), some (.int x1), some (.int x2), some (.int x3)] [] σ Q) : Cm Θ (d + 1) 133 [.ref 0, .int x1, .int x2, .int x3] σ Q :=
  C_of_G okM133 (Nat.le_of_ble_eq_true rfl) rfl h

-- 134: LikeYears.begins(II)I
set_option maxRecDepth 100000 in
set_option maxHeartbeats 4000000 in
theorem B134_0 {Θ : Th} {d : Nat} {σ : Mem} {Q : Po} {x1 : Int32} {x2 : Int32} 
    (h : Ci Θ d 159 [.ref 0, .int x1, .int x2] σ (fun v1 σ1 => ((¬ v1 = 0 → (σ1.2.2 0 2 ≠ 0 ∧ (shq (σ1.2.2 0 2)).1 = 1 ∧ Cv Θ d 92 [.ref 114, .ref (σ1.2.2 0 2), .int x1, .int x2] σ1 (fun σ4 => Q (some (.int (σ4.1 114 1))) σ4))) ∧ (v1 = 0 → Q (some (.int (-1))) σ1)))) :
    G Θ (d + 1) 134 0 [some (.ref 0), some (.int x1), some (.int x2)] [] σ Q := by
  refine r_aload_n ok134 0 rfl rfl rfl ?_
  refine r_iload_n ok134 1 rfl rfl rfl ?_
  refine r_iload_n ok134 2 rfl rfl rfl ?_
  refine r_invVi (as := [.int x1, .int x2]) (S := []) ok134 3 rfl rfl mf159 rfl rfl (Nat.le_of_ble_eq_true rfl) rfl h (fun v1 σ1 h1 => ?_)
  refine r_if_ne ok134 4 rfl rfl (fun c2 => ?_) (fun c2 => ?_)
  · have h2 := h1.1 c2
    refine r_aload_n ok134 7 rfl rfl rfl ?_
    refine r_getA ok134 8 rfl rfl rfl rfl ?_
    refine r_aload_n ok134 9 rfl rfl rfl ?_
    obtain ⟨c3, s3, h3⟩ := h2
    refine r_getR ok134 10 rfl rfl rfl rfl c3 ?_
    refine r_iload_n ok134 11 rfl rfl rfl ?_
    refine r_iload_n ok134 12 rfl rfl rfl ?_
    refine r_invVv (as := [.ref (σ1.2.2 0 2), .int x1, .int x2]) (S := []) ok134 13 rfl rfl mf92 rfl rfl (Nat.le_of_ble_eq_true rfl) rfl h3 (fun σ4 h4 => ?_)
    refine r_aload_n ok134 14 rfl rfl rfl ?_
    refine r_getA ok134 15 rfl rfl rfl rfl ?_
    refine r_getI ok134 16 rfl rfl rfl rfl ?_
    exact r_iret ok134 17 rfl rfl rfl h4
  · have h2 := h1.2 c2
    refine r_iconst (v := (-1)) ok134 5 rfl rfl rfl ?_
    exact r_iret ok134 6 rfl rfl rfl h2

theorem K134 {Θ : Th} {d : Nat} {σ : Mem} {Q : Po} {x1 : Int32} {x2 : Int32} (h : G Θ (d + 1) 134 0 [some (.ref 0), some (.int x1), some (.int x2)] [] σ Q) : Cm Θ (d + 1) 134 [.ref 0, .int x1, .int x2] σ Q :=
  C_of_G okM134 (Nat.le_of_ble_eq_true rfl) rfl h

-- 135: LikeYears.off(I)I
set_option maxRecDepth 100000 in
set_option maxHeartbeats 4000000 in
theorem B135_0 {Θ : Th} {d : Nat} {σ : Mem} {Q : Po} {x1 : Int32} 
    (h : ((x1 < 0 → Q (some (.int (-1))) σ) ∧ (¬ x1 < 0 → ((x1 ≤ 9 → Cr Θ d 162 [.ref 0] σ (fun v3 σ3 => (shq v3).1 = 7 ∧ G Θ (d + 1) 135 22 [some (.ref 0), some (.int x1), some (.ref v3), some (.int 0), some (.int 0)] [] σ3 Q)) ∧ (¬ x1 ≤ 9 → Q (some (.int (-1))) σ))))) :
    G Θ (d + 1) 135 0 [some (.ref 0), some (.int x1), none, none, none] [] σ Q := by
  refine r_iload_n ok135 0 rfl rfl rfl ?_
  refine r_if_lt ok135 1 rfl rfl (fun c1 => ?_) (fun c1 => ?_)
  · have h1 := h.1 c1
    refine r_iconst (v := (-1)) ok135 5 rfl rfl rfl ?_
    exact r_iret ok135 6 rfl rfl rfl h1
  · have h1 := h.2 c1
    refine r_iload_n ok135 2 rfl rfl rfl ?_
    refine r_bipush (v := 9) ok135 3 rfl rfl rfl ?_
    refine r_icmp_le ok135 4 rfl rfl (fun c2 => ?_) (fun c2 => ?_)
    · have h2 := h1.1 c2
      refine r_aload_n ok135 7 rfl rfl rfl ?_
      refine r_invVr (as := []) (S := []) ok135 8 rfl rfl mf162 rfl rfl (Nat.le_of_ble_eq_true rfl) rfl h2 (fun v3 σ3 h3 => ?_)
      obtain ⟨s3, h3⟩ := h3
      refine r_astore_n ok135 9 rfl rfl ?_
      refine r_iconst (v := 0) ok135 10 rfl rfl rfl ?_
      refine r_istore_n ok135 11 rfl rfl ?_
      refine r_iconst (v := 0) ok135 12 rfl rfl rfl ?_
      refine r_istore ok135 13 rfl rfl ?_
      exact h3
    · have h2 := h1.2 c2
      refine r_iconst (v := (-1)) ok135 5 rfl rfl rfl ?_
      exact r_iret ok135 6 rfl rfl rfl h2

set_option maxRecDepth 100000 in
set_option maxHeartbeats 4000000 in
theorem B135_22 {Θ : Th} {d : Nat} {σ : Mem} {Q : Po} {x1 : Int32} {r2 : Nat} {x3 : Int32} {x4 : Int32} (hp2 : (shq r2).1 = 7)
    (h : (σ.2.2 0 2 ≠ 0 ∧ (shq (σ.2.2 0 2)).1 = 1 ∧ (((σ.1 (σ.2.2 0 2) 4) ≤ x4 → Q (some (.int x3)) σ) ∧ (¬ (σ.1 (σ.2.2 0 2) 4) ≤ x4 → (σ.2.2 0 2 ≠ 0 ∧ (shq (σ.2.2 0 2)).1 = 1 ∧ (vp_in x4 16 ∧ ((¬ (σ.1 (σ.2.2 0 2 + 3) x4.toNatClampNeg) = x1 → G Θ (d + 1) 135 22 [some (.ref 0), some (.int x1), some (.ref r2), some (.int x3), some (.int (x4 + 1))] [] σ Q) ∧ ((σ.1 (σ.2.2 0 2 + 3) x4.toNatClampNeg) = x1 → (vp_in x4 16 ∧ G Θ (d + 1) 135 22 [some (.ref 0), some (.int x1), some (.ref r2), some (.int (x3 + (σ.1 (r2 + 6) x4.toNatClampNeg))), some (.int (x4 + 1))] [] σ Q))))))))) :
    G Θ (d + 1) 135 22 [some (.ref 0), some (.int x1), some (.ref r2), some (.int x3), some (.int x4)] [] σ Q := by
  refine r_iload ok135 14 rfl rfl rfl ?_
  refine r_aload_n ok135 15 rfl rfl rfl ?_
  obtain ⟨c1, s1, h1⟩ := h
  refine r_getR ok135 16 rfl rfl rfl rfl c1 ?_
  refine r_getI ok135 17 rfl rfl s1 rfl ?_
  refine r_icmp_ge ok135 18 rfl rfl (fun c2 => ?_) (fun c2 => ?_)
  · have h2 := h1.1 c2
    refine r_iload_n ok135 35 rfl rfl rfl ?_
    exact r_iret ok135 36 rfl rfl rfl h2
  · have h2 := h1.2 c2
    refine r_aload_n ok135 19 rfl rfl rfl ?_
    obtain ⟨c3, s3, h3⟩ := h2
    refine r_getR ok135 20 rfl rfl rfl rfl c3 ?_
    refine r_getF ok135 21 rfl rfl s3 rfl ?_
    refine r_iload ok135 22 rfl rfl rfl ?_
    obtain ⟨c4, h4⟩ := h3
    refine r_iald ok135 23 rfl rfl (rel_shp s3 (i := 6) rfl) c4 ?_
    refine r_iload_n ok135 24 rfl rfl rfl ?_
    refine r_icmp_ne ok135 25 rfl rfl (fun c5 => ?_) (fun c5 => ?_)
    · have h5 := h4.1 c5
      refine r_iinc (v := x4 + 1) ok135 33 rfl rfl rfl rfl ?_
      refine r_goto ok135 34 rfl rfl ?_
      exact h5
    · have h5 := h4.2 c5
      refine r_iload_n ok135 26 rfl rfl rfl ?_
      refine r_aload_n ok135 27 rfl rfl rfl ?_
      refine r_getF ok135 28 rfl rfl hp2 rfl ?_
      refine r_iload ok135 29 rfl rfl rfl ?_
      obtain ⟨c6, h6⟩ := h5
      refine r_iald ok135 30 rfl rfl (rel_shp hp2 (i := 34) rfl) c6 ?_
      refine r_iadd ok135 31 rfl rfl ?_
      refine r_istore_n ok135 32 rfl rfl ?_
      refine r_iinc (v := x4 + 1) ok135 33 rfl rfl rfl rfl ?_
      refine r_goto ok135 34 rfl rfl ?_
      exact h6

theorem K135 {Θ : Th} {d : Nat} {σ : Mem} {Q : Po} {x1 : Int32} (h : G Θ (d + 1) 135 0 [some (.ref 0), some (.int x1), none, none, none] [] σ Q) : Cm Θ (d + 1) 135 [.ref 0, .int x1] σ Q :=
  C_of_G okM135 (Nat.le_of_ble_eq_true rfl) rfl h

-- 136: LikeYears.luck(II)J
set_option maxRecDepth 100000 in
set_option maxHeartbeats 4000000 in
theorem B136_0 {Θ : Th} {d : Nat} {σ : Mem} {Q : Po} {x1 : Int32} {x2 : Int32} 
    (h : ((x1 < 0 → Q (some (.long (-1))) σ) ∧ (¬ x1 < 0 → ((9 < x1 → Q (some (.long (-1))) σ) ∧ (¬ 9 < x1 → Ci Θ d 155 [.int x2] σ (fun v3 σ3 => ((¬ v3 = 0 → G Θ (d + 1) 136 26 [some (.ref 0), some (.int x1), some (.int x2), some (.int 0), some (.int 0), none] [] σ3 Q) ∧ (v3 = 0 → Q (some (.long (-1))) σ3)))))))) :
    G Θ (d + 1) 136 0 [some (.ref 0), some (.int x1), some (.int x2), none, none, none] [] σ Q := by
  refine r_iload_n ok136 0 rfl rfl rfl ?_
  refine r_if_lt ok136 1 rfl rfl (fun c1 => ?_) (fun c1 => ?_)
  · have h1 := h.1 c1
    refine r_ldc2_w (v := (-1)) ok136 8 rfl rfl rfl ?_
    exact r_lret ok136 9 rfl rfl rfl h1
  · have h1 := h.2 c1
    refine r_iload_n ok136 2 rfl rfl rfl ?_
    refine r_bipush (v := 9) ok136 3 rfl rfl rfl ?_
    refine r_icmp_gt ok136 4 rfl rfl (fun c2 => ?_) (fun c2 => ?_)
    · have h2 := h1.1 c2
      refine r_ldc2_w (v := (-1)) ok136 8 rfl rfl rfl ?_
      exact r_lret ok136 9 rfl rfl rfl h2
    · have h2 := h1.2 c2
      refine r_iload_n ok136 5 rfl rfl rfl ?_
      refine r_invSi (as := [.int x2]) (S := []) ok136 6 rfl rfl mf155 rfl (Nat.le_of_ble_eq_true rfl) rfl h2 (fun v3 σ3 h3 => ?_)
      refine r_if_ne ok136 7 rfl rfl (fun c4 => ?_) (fun c4 => ?_)
      · have h4 := h3.1 c4
        refine r_iconst (v := 0) ok136 10 rfl rfl rfl ?_
        refine r_istore_n ok136 11 rfl rfl ?_
        refine r_iconst (v := 0) ok136 12 rfl rfl rfl ?_
        refine r_istore ok136 13 rfl rfl ?_
        exact h4
      · have h4 := h3.2 c4
        refine r_ldc2_w (v := (-1)) ok136 8 rfl rfl rfl ?_
        exact r_lret ok136 9 rfl rfl rfl h4

set_option maxRecDepth 100000 in
set_option maxHeartbeats 4000000 in
theorem B136_26 {Θ : Th} {d : Nat} {σ : Mem} {Q : Po} {x1 : Int32} {x2 : Int32} {x3 : Int32} {x4 : Int32} 
    (h : (σ.2.2 0 2 ≠ 0 ∧ (shq (σ.2.2 0 2)).1 = 1 ∧ (((σ.1 (σ.2.2 0 2) 4) ≤ x4 → ((¬ x3 = 0 → Ci Θ d 135 [.ref 0, .int x1] σ (fun v4 σ4 => (σ4.2.2 0 2 ≠ 0 ∧ (shq (σ4.2.2 0 2)).1 = 1 ∧ Ci Θ d 37 [.ref 110, .ref 98, .int (σ4.1 (σ4.2.2 0 2) 4), .int x3, .int v4] σ4 (fun v6 σ6 => (σ6.2.2 0 2 ≠ 0 ∧ (shq (σ6.2.2 0 2)).1 = 1 ∧ Ci Θ d 39 [.int (σ6.1 (σ6.2.2 0 2) 4), .int x3] σ6 (fun v8 σ8 => Cv Θ d 47 [.ref 123, .long v6.toInt64, .long v8.toInt64] σ8 (fun σ9 => Cl Θ d 49 [.ref 123, .int x2] σ9 (fun v10 σ10 => Q (some (.long v10)) σ10)))))))) ∧ (x3 = 0 → Q (some (.long (-1))) σ))) ∧ (¬ (σ.1 (σ.2.2 0 2) 4) ≤ x4 → (σ.2.2 0 2 ≠ 0 ∧ (shq (σ.2.2 0 2)).1 = 1 ∧ (vp_in x4 16 ∧ ((¬ (σ.1 (σ.2.2 0 2 + 3) x4.toNatClampNeg) = x1 → G Θ (d + 1) 136 26 [some (.ref 0), some (.int x1), some (.int x2), some (.int x3), some (.int (x4 + 1)), none] [] σ Q) ∧ ((σ.1 (σ.2.2 0 2 + 3) x4.toNatClampNeg) = x1 → G Θ (d + 1) 136 26 [some (.ref 0), some (.int x1), some (.int x2), some (.int (x3 + 1)), some (.int (x4 + 1)), none] [] σ Q)))))))) :
    G Θ (d + 1) 136 26 [some (.ref 0), some (.int x1), some (.int x2), some (.int x3), some (.int x4), none] [] σ Q := by
  refine r_iload ok136 14 rfl rfl rfl ?_
  refine r_aload_n ok136 15 rfl rfl rfl ?_
  obtain ⟨c1, s1, h1⟩ := h
  refine r_getR ok136 16 rfl rfl rfl rfl c1 ?_
  refine r_getI ok136 17 rfl rfl s1 rfl ?_
  refine r_icmp_ge ok136 18 rfl rfl (fun c2 => ?_) (fun c2 => ?_)
  · have h2 := h1.1 c2
    refine r_iload_n ok136 29 rfl rfl rfl ?_
    refine r_if_ne ok136 30 rfl rfl (fun c3 => ?_) (fun c3 => ?_)
    · have h3 := h2.1 c3
      refine r_aload_n ok136 33 rfl rfl rfl ?_
      refine r_iload_n ok136 34 rfl rfl rfl ?_
      refine r_invVi (as := [.int x1]) (S := []) ok136 35 rfl rfl mf135 rfl rfl (Nat.le_of_ble_eq_true rfl) rfl h3 (fun v4 σ4 h4 => ?_)
      refine r_istore ok136 36 rfl rfl ?_
      refine r_aload_n ok136 37 rfl rfl rfl ?_
      refine r_getA ok136 38 rfl rfl rfl rfl ?_
      refine r_aload_n ok136 39 rfl rfl rfl ?_
      refine r_getA ok136 40 rfl rfl rfl rfl ?_
      refine r_getF ok136 41 rfl rfl rfl rfl ?_
      refine r_aload_n ok136 42 rfl rfl rfl ?_
      obtain ⟨c5, s5, h5⟩ := h4
      refine r_getR ok136 43 rfl rfl rfl rfl c5 ?_
      refine r_getI ok136 44 rfl rfl s5 rfl ?_
      refine r_iload_n ok136 45 rfl rfl rfl ?_
      refine r_iload ok136 46 rfl rfl rfl ?_
      refine r_invVi (as := [.ref 98, .int (σ4.1 (σ4.2.2 0 2) 4), .int x3, .int v4]) (S := []) ok136 47 rfl rfl mf37 rfl rfl (Nat.le_of_ble_eq_true rfl) rfl h5 (fun v6 σ6 h6 => ?_)
      refine r_istore ok136 48 rfl rfl ?_
      refine r_aload_n ok136 49 rfl rfl rfl ?_
      refine r_getA ok136 50 rfl rfl rfl rfl ?_
      refine r_iload ok136 51 rfl rfl rfl ?_
      refine r_i2l ok136 52 rfl rfl ?_
      refine r_aload_n ok136 53 rfl rfl rfl ?_
      obtain ⟨c7, s7, h7⟩ := h6
      refine r_getR ok136 54 rfl rfl rfl rfl c7 ?_
      refine r_getI ok136 55 rfl rfl s7 rfl ?_
      refine r_iload_n ok136 56 rfl rfl rfl ?_
      refine r_invSi (as := [.int (σ6.1 (σ6.2.2 0 2) 4), .int x3]) (S := [.long v6.toInt64, .ref 123]) ok136 57 rfl rfl mf39 rfl (Nat.le_of_ble_eq_true rfl) rfl h7 (fun v8 σ8 h8 => ?_)
      refine r_i2l ok136 58 rfl rfl ?_
      refine r_invVv (as := [.long v6.toInt64, .long v8.toInt64]) (S := []) ok136 59 rfl rfl mf47 rfl rfl (Nat.le_of_ble_eq_true rfl) rfl h8 (fun σ9 h9 => ?_)
      refine r_aload_n ok136 60 rfl rfl rfl ?_
      refine r_getA ok136 61 rfl rfl rfl rfl ?_
      refine r_iload_n ok136 62 rfl rfl rfl ?_
      refine r_invVl (as := [.int x2]) (S := []) ok136 63 rfl rfl mf49 rfl rfl (Nat.le_of_ble_eq_true rfl) rfl h9 (fun v10 σ10 h10 => ?_)
      exact r_lret ok136 64 rfl rfl rfl h10
    · have h3 := h2.2 c3
      refine r_ldc2_w (v := (-1)) ok136 31 rfl rfl rfl ?_
      exact r_lret ok136 32 rfl rfl rfl h3
  · have h2 := h1.2 c2
    refine r_aload_n ok136 19 rfl rfl rfl ?_
    obtain ⟨c11, s11, h11⟩ := h2
    refine r_getR ok136 20 rfl rfl rfl rfl c11 ?_
    refine r_getF ok136 21 rfl rfl s11 rfl ?_
    refine r_iload ok136 22 rfl rfl rfl ?_
    obtain ⟨c12, h12⟩ := h11
    refine r_iald ok136 23 rfl rfl (rel_shp s11 (i := 6) rfl) c12 ?_
    refine r_iload_n ok136 24 rfl rfl rfl ?_
    refine r_icmp_ne ok136 25 rfl rfl (fun c13 => ?_) (fun c13 => ?_)
    · have h13 := h12.1 c13
      refine r_iinc (v := x4 + 1) ok136 27 rfl rfl rfl rfl ?_
      refine r_goto ok136 28 rfl rfl ?_
      exact h13
    · have h13 := h12.2 c13
      refine r_iinc (v := x3 + 1) ok136 26 rfl rfl rfl rfl ?_
      refine r_iinc (v := x4 + 1) ok136 27 rfl rfl rfl rfl ?_
      refine r_goto ok136 28 rfl rfl ?_
      exact h13

theorem K136 {Θ : Th} {d : Nat} {σ : Mem} {Q : Po} {x1 : Int32} {x2 : Int32} (h : G Θ (d + 1) 136 0 [some (.ref 0), some (.int x1), some (.int x2), none, none, none] [] σ Q) : Cm Θ (d + 1) 136 [.ref 0, .int x1, .int x2] σ Q :=
  C_of_G okM136 (Nat.le_of_ble_eq_true rfl) rfl h

-- 137: LikeYears.upto(II)J
set_option maxRecDepth 100000 in
set_option maxHeartbeats 4000000 in
theorem B137_0 {Θ : Th} {d : Nat} {σ : Mem} {Q : Po} {x1 : Int32} {x2 : Int32} 
    (h : Ci Θ d 156 [.int x1] σ (fun v1 σ1 => ((v1 = 0 → Q (some (.long (-1))) σ1) ∧ (¬ v1 = 0 → Ci Θ d 155 [.int x2] σ1 (fun v3 σ3 => ((¬ v3 = 0 → G Θ (d + 1) 137 23 [some (.ref 0), some (.int x1), some (.int x2), some (.int 0), some (.int 0)] [] σ3 Q) ∧ (v3 = 0 → Q (some (.long (-1))) σ3))))))) :
    G Θ (d + 1) 137 0 [some (.ref 0), some (.int x1), some (.int x2), none, none] [] σ Q := by
  refine r_iload_n ok137 0 rfl rfl rfl ?_
  refine r_invSi (as := [.int x1]) (S := []) ok137 1 rfl rfl mf156 rfl (Nat.le_of_ble_eq_true rfl) rfl h (fun v1 σ1 h1 => ?_)
  refine r_if_eq ok137 2 rfl rfl (fun c2 => ?_) (fun c2 => ?_)
  · have h2 := h1.1 c2
    refine r_ldc2_w (v := (-1)) ok137 6 rfl rfl rfl ?_
    exact r_lret ok137 7 rfl rfl rfl h2
  · have h2 := h1.2 c2
    refine r_iload_n ok137 3 rfl rfl rfl ?_
    refine r_invSi (as := [.int x2]) (S := []) ok137 4 rfl rfl mf155 rfl (Nat.le_of_ble_eq_true rfl) rfl h2 (fun v3 σ3 h3 => ?_)
    refine r_if_ne ok137 5 rfl rfl (fun c4 => ?_) (fun c4 => ?_)
    · have h4 := h3.1 c4
      refine r_iconst (v := 0) ok137 8 rfl rfl rfl ?_
      refine r_istore_n ok137 9 rfl rfl ?_
      refine r_iconst (v := 0) ok137 10 rfl rfl rfl ?_
      refine r_istore ok137 11 rfl rfl ?_
      exact h4
    · have h4 := h3.2 c4
      refine r_ldc2_w (v := (-1)) ok137 6 rfl rfl rfl ?_
      exact r_lret ok137 7 rfl rfl rfl h4

set_option maxRecDepth 100000 in
set_option maxHeartbeats 4000000 in
theorem B137_23 {Θ : Th} {d : Nat} {σ : Mem} {Q : Po} {x1 : Int32} {x2 : Int32} {x3 : Int32} {x4 : Int32} 
    (h : (σ.2.2 0 2 ≠ 0 ∧ (shq (σ.2.2 0 2)).1 = 1 ∧ (((σ.1 (σ.2.2 0 2) 4) ≤ x4 → (σ.2.2 0 2 ≠ 0 ∧ (shq (σ.2.2 0 2)).1 = 1 ∧ Cr Θ d 160 [.ref 0] σ (fun v4 σ4 => (shq v4).1 = 8 ∧ Cv Θ d 68 [.ref 101, .ref (σ.2.2 0 2), .ref (v4 + 2), .int x3] σ4 (fun σ5 => Cl Θ d 49 [.ref 105, .int x2] σ5 (fun v6 σ6 => Q (some (.long v6)) σ6))))) ∧ (¬ (σ.1 (σ.2.2 0 2) 4) ≤ x4 → (σ.2.2 0 2 ≠ 0 ∧ (shq (σ.2.2 0 2)).1 = 1 ∧ (vp_in x4 16 ∧ ((x1 < (σ.1 (σ.2.2 0 2 + 4) x4.toNatClampNeg) → G Θ (d + 1) 137 23 [some (.ref 0), some (.int x1), some (.int x2), some (.int x3), some (.int (x4 + 1))] [] σ Q) ∧ (¬ x1 < (σ.1 (σ.2.2 0 2 + 4) x4.toNatClampNeg) → G Θ (d + 1) 137 23 [some (.ref 0), some (.int x1), some (.int x2), some (.int (x3 ||| ((1 : Int32) <<< (x4 &&& 31)))), some (.int (x4 + 1))] [] σ Q)))))))) :
    G Θ (d + 1) 137 23 [some (.ref 0), some (.int x1), some (.int x2), some (.int x3), some (.int x4)] [] σ Q := by
  refine r_iload ok137 12 rfl rfl rfl ?_
  refine r_aload_n ok137 13 rfl rfl rfl ?_
  obtain ⟨c1, s1, h1⟩ := h
  refine r_getR ok137 14 rfl rfl rfl rfl c1 ?_
  refine r_getI ok137 15 rfl rfl s1 rfl ?_
  refine r_icmp_ge ok137 16 rfl rfl (fun c2 => ?_) (fun c2 => ?_)
  · have h2 := h1.1 c2
    refine r_aload_n ok137 32 rfl rfl rfl ?_
    refine r_getA ok137 33 rfl rfl rfl rfl ?_
    refine r_aload_n ok137 34 rfl rfl rfl ?_
    obtain ⟨c3, s3, h3⟩ := h2
    refine r_getR ok137 35 rfl rfl rfl rfl c3 ?_
    refine r_aload_n ok137 36 rfl rfl rfl ?_
    refine r_invVr (as := []) (S := [.ref (σ.2.2 0 2), .ref 101]) ok137 37 rfl rfl mf160 rfl rfl (Nat.le_of_ble_eq_true rfl) rfl h3 (fun v4 σ4 h4 => ?_)
    obtain ⟨s4, h4⟩ := h4
    refine r_getF ok137 38 rfl rfl s4 rfl ?_
    refine r_iload_n ok137 39 rfl rfl rfl ?_
    refine r_invVv (as := [.ref (σ.2.2 0 2), .ref (v4 + 2), .int x3]) (S := []) ok137 40 rfl rfl mf68 rfl rfl (Nat.le_of_ble_eq_true rfl) rfl h4 (fun σ5 h5 => ?_)
    refine r_aload_n ok137 41 rfl rfl rfl ?_
    refine r_getA ok137 42 rfl rfl rfl rfl ?_
    refine r_getF ok137 43 rfl rfl rfl rfl ?_
    refine r_iload_n ok137 44 rfl rfl rfl ?_
    refine r_invVl (as := [.int x2]) (S := []) ok137 45 rfl rfl mf49 rfl rfl (Nat.le_of_ble_eq_true rfl) rfl h5 (fun v6 σ6 h6 => ?_)
    exact r_lret ok137 46 rfl rfl rfl h6
  · have h2 := h1.2 c2
    refine r_aload_n ok137 17 rfl rfl rfl ?_
    obtain ⟨c7, s7, h7⟩ := h2
    refine r_getR ok137 18 rfl rfl rfl rfl c7 ?_
    refine r_getF ok137 19 rfl rfl s7 rfl ?_
    refine r_iload ok137 20 rfl rfl rfl ?_
    obtain ⟨c8, h8⟩ := h7
    refine r_iald ok137 21 rfl rfl (rel_shp s7 (i := 7) rfl) c8 ?_
    refine r_iload_n ok137 22 rfl rfl rfl ?_
    refine r_icmp_gt ok137 23 rfl rfl (fun c9 => ?_) (fun c9 => ?_)
    · have h9 := h8.1 c9
      refine r_iinc (v := x4 + 1) ok137 30 rfl rfl rfl rfl ?_
      refine r_goto ok137 31 rfl rfl ?_
      exact h9
    · have h9 := h8.2 c9
      refine r_iload_n ok137 24 rfl rfl rfl ?_
      refine r_iconst (v := 1) ok137 25 rfl rfl rfl ?_
      refine r_iload ok137 26 rfl rfl rfl ?_
      refine r_ishl ok137 27 rfl rfl ?_
      refine r_ior ok137 28 rfl rfl ?_
      refine r_istore_n ok137 29 rfl rfl ?_
      refine r_iinc (v := x4 + 1) ok137 30 rfl rfl rfl rfl ?_
      refine r_goto ok137 31 rfl rfl ?_
      exact h9

theorem K137 {Θ : Th} {d : Nat} {σ : Mem} {Q : Po} {x1 : Int32} {x2 : Int32} (h : G Θ (d + 1) 137 0 [some (.ref 0), some (.int x1), some (.int x2), none, none] [] σ Q) : Cm Θ (d + 1) 137 [.ref 0, .int x1, .int x2] σ Q :=
  C_of_G okM137 (Nat.le_of_ble_eq_true rfl) rfl h

-- 138: LikeYears.drift(II)J
set_option maxRecDepth 100000 in
set_option maxHeartbeats 4000000 in
theorem B138_0 {Θ : Th} {d : Nat} {σ : Mem} {Q : Po} {x1 : Int32} {x2 : Int32} 
    (h : Ci Θ d 156 [.int x1] σ (fun v1 σ1 => ((v1 = 0 → Q (some (.long (-1000000000000))) σ1) ∧ (¬ v1 = 0 → Ci Θ d 155 [.int x2] σ1 (fun v3 σ3 => ((¬ v3 = 0 → Cr Θ d 161 [.ref 0] σ3 (fun v5 σ5 => (shq v5).1 = 7 ∧ Cv Θ d 47 [.ref 123, .long 0, .long 1] σ5 (fun σ6 => G Θ (d + 1) 138 35 [some (.ref 0), some (.int x1), some (.int x2), some (.ref v5), some (.int 0)] [] σ6 Q))) ∧ (v3 = 0 → Q (some (.long (-1000000000000))) σ3))))))) :
    G Θ (d + 1) 138 0 [some (.ref 0), some (.int x1), some (.int x2), none, none] [] σ Q := by
  refine r_iload_n ok138 0 rfl rfl rfl ?_
  refine r_invSi (as := [.int x1]) (S := []) ok138 1 rfl rfl mf156 rfl (Nat.le_of_ble_eq_true rfl) rfl h (fun v1 σ1 h1 => ?_)
  refine r_if_eq ok138 2 rfl rfl (fun c2 => ?_) (fun c2 => ?_)
  · have h2 := h1.1 c2
    refine r_ldc2_w (v := (-1000000000000)) ok138 6 rfl rfl rfl ?_
    exact r_lret ok138 7 rfl rfl rfl h2
  · have h2 := h1.2 c2
    refine r_iload_n ok138 3 rfl rfl rfl ?_
    refine r_invSi (as := [.int x2]) (S := []) ok138 4 rfl rfl mf155 rfl (Nat.le_of_ble_eq_true rfl) rfl h2 (fun v3 σ3 h3 => ?_)
    refine r_if_ne ok138 5 rfl rfl (fun c4 => ?_) (fun c4 => ?_)
    · have h4 := h3.1 c4
      refine r_aload_n ok138 8 rfl rfl rfl ?_
      refine r_invVr (as := []) (S := []) ok138 9 rfl rfl mf161 rfl rfl (Nat.le_of_ble_eq_true rfl) rfl h4 (fun v5 σ5 h5 => ?_)
      obtain ⟨s5, h5⟩ := h5
      refine r_astore_n ok138 10 rfl rfl ?_
      refine r_aload_n ok138 11 rfl rfl rfl ?_
      refine r_getA ok138 12 rfl rfl rfl rfl ?_
      refine r_lconst (v := 0) ok138 13 rfl rfl rfl ?_
      refine r_lconst (v := 1) ok138 14 rfl rfl rfl ?_
      refine r_invVv (as := [.long 0, .long 1]) (S := []) ok138 15 rfl rfl mf47 rfl rfl (Nat.le_of_ble_eq_true rfl) rfl h5 (fun σ6 h6 => ?_)
      refine r_iconst (v := 0) ok138 16 rfl rfl rfl ?_
      refine r_istore ok138 17 rfl rfl ?_
      exact h6
    · have h4 := h3.2 c4
      refine r_ldc2_w (v := (-1000000000000)) ok138 6 rfl rfl rfl ?_
      exact r_lret ok138 7 rfl rfl rfl h4

set_option maxRecDepth 100000 in
set_option maxHeartbeats 4000000 in
theorem B138_35 {Θ : Th} {d : Nat} {σ : Mem} {Q : Po} {x1 : Int32} {x2 : Int32} {r3 : Nat} {x4 : Int32} (hp3 : (shq r3).1 = 7)
    (h : (σ.2.2 0 2 ≠ 0 ∧ (shq (σ.2.2 0 2)).1 = 1 ∧ (((σ.1 (σ.2.2 0 2) 4) ≤ x4 → Cl Θ d 49 [.ref 123, .int x2] σ (fun v3 σ3 => Q (some (.long v3)) σ3)) ∧ (¬ (σ.1 (σ.2.2 0 2) 4) ≤ x4 → (σ.2.2 0 2 ≠ 0 ∧ (shq (σ.2.2 0 2)).1 = 1 ∧ (vp_in x4 16 ∧ ((¬ (σ.1 (σ.2.2 0 2 + 4) x4.toNatClampNeg) = x1 → G Θ (d + 1) 138 35 [some (.ref 0), some (.int x1), some (.int x2), some (.ref r3), some (.int (x4 + 1))] [] σ Q) ∧ ((σ.1 (σ.2.2 0 2 + 4) x4.toNatClampNeg) = x1 → (σ.2.2 0 2 ≠ 0 ∧ (shq (σ.2.2 0 2)).1 = 1 ∧ (vp_in x4 16 ∧ (σ.2.2 0 2 ≠ 0 ∧ (shq (σ.2.2 0 2)).1 = 1 ∧ (vp_in x4 16 ∧ (vp_in x4 16 ∧ (vp_in x4 16 ∧ (vp_in x4 16 ∧ Cv Θ d 48 [.ref 123, .long (((σ.1 (σ.2.2 0 2 + 6) x4.toNatClampNeg).toInt64) * ((((σ.1 (σ.2.2 0 2 + 5) x4.toNatClampNeg).toInt64) * (σ.2.1 (r3 + 3) x4.toNatClampNeg)) - (σ.2.1 (r3 + 2) x4.toNatClampNeg))), .long (σ.2.1 (r3 + 3) x4.toNatClampNeg)] σ (fun σ14 => G Θ (d + 1) 138 35 [some (.ref 0), some (.int x1), some (.int x2), some (.ref r3), some (.int (x4 + 1))] [] σ14 Q)))))))))))))))) :
    G Θ (d + 1) 138 35 [some (.ref 0), some (.int x1), some (.int x2), some (.ref r3), some (.int x4)] [] σ Q := by
  refine r_iload ok138 18 rfl rfl rfl ?_
  refine r_aload_n ok138 19 rfl rfl rfl ?_
  obtain ⟨c1, s1, h1⟩ := h
  refine r_getR ok138 20 rfl rfl rfl rfl c1 ?_
  refine r_getI ok138 21 rfl rfl s1 rfl ?_
  refine r_icmp_ge ok138 22 rfl rfl (fun c2 => ?_) (fun c2 => ?_)
  · have h2 := h1.1 c2
    refine r_aload_n ok138 62 rfl rfl rfl ?_
    refine r_getA ok138 63 rfl rfl rfl rfl ?_
    refine r_iload_n ok138 64 rfl rfl rfl ?_
    refine r_invVl (as := [.int x2]) (S := []) ok138 65 rfl rfl mf49 rfl rfl (Nat.le_of_ble_eq_true rfl) rfl h2 (fun v3 σ3 h3 => ?_)
    exact r_lret ok138 66 rfl rfl rfl h3
  · have h2 := h1.2 c2
    refine r_aload_n ok138 23 rfl rfl rfl ?_
    obtain ⟨c4, s4, h4⟩ := h2
    refine r_getR ok138 24 rfl rfl rfl rfl c4 ?_
    refine r_getF ok138 25 rfl rfl s4 rfl ?_
    refine r_iload ok138 26 rfl rfl rfl ?_
    obtain ⟨c5, h5⟩ := h4
    refine r_iald ok138 27 rfl rfl (rel_shp s4 (i := 7) rfl) c5 ?_
    refine r_iload_n ok138 28 rfl rfl rfl ?_
    refine r_icmp_ne ok138 29 rfl rfl (fun c6 => ?_) (fun c6 => ?_)
    · have h6 := h5.1 c6
      refine r_iinc (v := x4 + 1) ok138 60 rfl rfl rfl rfl ?_
      refine r_goto ok138 61 rfl rfl ?_
      exact h6
    · have h6 := h5.2 c6
      refine r_aload_n ok138 30 rfl rfl rfl ?_
      refine r_getA ok138 31 rfl rfl rfl rfl ?_
      refine r_aload_n ok138 32 rfl rfl rfl ?_
      obtain ⟨c7, s7, h7⟩ := h6
      refine r_getR ok138 33 rfl rfl rfl rfl c7 ?_
      refine r_getF ok138 34 rfl rfl s7 rfl ?_
      refine r_iload ok138 35 rfl rfl rfl ?_
      obtain ⟨c8, h8⟩ := h7
      refine r_iald ok138 36 rfl rfl (rel_shp s7 (i := 9) rfl) c8 ?_
      refine r_i2l ok138 37 rfl rfl ?_
      refine r_aload_n ok138 38 rfl rfl rfl ?_
      obtain ⟨c9, s9, h9⟩ := h8
      refine r_getR ok138 39 rfl rfl rfl rfl c9 ?_
      refine r_getF ok138 40 rfl rfl s9 rfl ?_
      refine r_iload ok138 41 rfl rfl rfl ?_
      obtain ⟨c10, h10⟩ := h9
      refine r_iald ok138 42 rfl rfl (rel_shp s9 (i := 8) rfl) c10 ?_
      refine r_i2l ok138 43 rfl rfl ?_
      refine r_aload_n ok138 44 rfl rfl rfl ?_
      refine r_getF ok138 45 rfl rfl hp3 rfl ?_
      refine r_iload ok138 46 rfl rfl rfl ?_
      obtain ⟨c11, h11⟩ := h10
      refine r_lald ok138 47 rfl rfl (rel_shp hp3 (i := 31) rfl) c11 ?_
      refine r_lmul ok138 48 rfl rfl ?_
      refine r_aload_n ok138 49 rfl rfl rfl ?_
      refine r_getF ok138 50 rfl rfl hp3 rfl ?_
      refine r_iload ok138 51 rfl rfl rfl ?_
      obtain ⟨c12, h12⟩ := h11
      refine r_lald ok138 52 rfl rfl (rel_shp hp3 (i := 30) rfl) c12 ?_
      refine r_lsub ok138 53 rfl rfl ?_
      refine r_lmul ok138 54 rfl rfl ?_
      refine r_aload_n ok138 55 rfl rfl rfl ?_
      refine r_getF ok138 56 rfl rfl hp3 rfl ?_
      refine r_iload ok138 57 rfl rfl rfl ?_
      obtain ⟨c13, h13⟩ := h12
      refine r_lald ok138 58 rfl rfl (rel_shp hp3 (i := 31) rfl) c13 ?_
      refine r_invVv (as := [.long (((σ.1 (σ.2.2 0 2 + 6) x4.toNatClampNeg).toInt64) * ((((σ.1 (σ.2.2 0 2 + 5) x4.toNatClampNeg).toInt64) * (σ.2.1 (r3 + 3) x4.toNatClampNeg)) - (σ.2.1 (r3 + 2) x4.toNatClampNeg))), .long (σ.2.1 (r3 + 3) x4.toNatClampNeg)]) (S := []) ok138 59 rfl rfl mf48 rfl rfl (Nat.le_of_ble_eq_true rfl) rfl h13 (fun σ14 h14 => ?_)
      refine r_iinc (v := x4 + 1) ok138 60 rfl rfl rfl rfl ?_
      refine r_goto ok138 61 rfl rfl ?_
      exact h14

theorem K138 {Θ : Th} {d : Nat} {σ : Mem} {Q : Po} {x1 : Int32} {x2 : Int32} (h : G Θ (d + 1) 138 0 [some (.ref 0), some (.int x1), some (.int x2), none, none] [] σ Q) : Cm Θ (d + 1) 138 [.ref 0, .int x1, .int x2] σ Q :=
  C_of_G okM138 (Nat.le_of_ble_eq_true rfl) rfl h

-- 139: LikeYears.within()I
set_option maxRecDepth 100000 in
set_option maxHeartbeats 4000000 in
theorem B139_0 {Θ : Th} {d : Nat} {σ : Mem} {Q : Po} 
    (h : Cr Θ d 160 [.ref 0] σ (fun v1 σ1 => (shq v1).1 = 8 ∧ (σ1.2.2 0 2 ≠ 0 ∧ (shq (σ1.2.2 0 2)).1 = 1 ∧ Ci Θ d 83 [.ref v1, .ref (σ1.2.2 0 2), .int 1] σ1 (fun v3 σ3 => Q (some (.int v3)) σ3)))) :
    G Θ (d + 1) 139 0 [some (.ref 0)] [] σ Q := by
  refine r_aload_n ok139 0 rfl rfl rfl ?_
  refine r_invVr (as := []) (S := []) ok139 1 rfl rfl mf160 rfl rfl (Nat.le_of_ble_eq_true rfl) rfl h (fun v1 σ1 h1 => ?_)
  obtain ⟨s1, h1⟩ := h1
  refine r_aload_n ok139 2 rfl rfl rfl ?_
  obtain ⟨c2, s2, h2⟩ := h1
  refine r_getR ok139 3 rfl rfl rfl rfl c2 ?_
  refine r_iconst (v := 1) ok139 4 rfl rfl rfl ?_
  refine r_invVi (as := [.ref (σ1.2.2 0 2), .int 1]) (S := []) ok139 5 rfl rfl mf83 s1 rfl (Nat.le_of_ble_eq_true rfl) rfl h2 (fun v3 σ3 h3 => ?_)
  exact r_iret ok139 6 rfl rfl rfl h3

theorem K139 {Θ : Th} {d : Nat} {σ : Mem} {Q : Po} (h : G Θ (d + 1) 139 0 [some (.ref 0)] [] σ Q) : Cm Θ (d + 1) 139 [.ref 0] σ Q :=
  C_of_G okM139 (Nat.le_of_ble_eq_true rfl) rfl h

-- 140: LikeYears.law(IIIII)I
set_option maxRecDepth 100000 in
set_option maxHeartbeats 4000000 in
theorem B140_0 {Θ : Th} {d : Nat} {σ : Mem} {Q : Po} {x1 : Int32} {x2 : Int32} {x3 : Int32} {x4 : Int32} {x5 : Int32} 
    (h : (σ.2.2 0 2 ≠ 0 ∧ (shq (σ.2.2 0 2)).1 = 1 ∧ Ci Θ d 13 [.ref (σ.2.2 0 2), .int x1, .int x2] σ (fun v2 σ2 => ((v2 = 0 → Q (some (.int (-1))) σ2) ∧ (¬ v2 = 0 → ((x3 < 0 → Q (some (.int (-1))) σ2) ∧ (¬ x3 < 0 → ((240 < x4 → Q (some (.int (-1))) σ2) ∧ (¬ 240 < x4 → ((x3 ≤ x4 → G Θ (d + 1) 140 41 [some (.ref 0), some (.int x1), some (.int x2), some (.int x3), some (.int x4), some (.int x5), some (.int 0), some (.int 0), some (.int 0), none] [] σ2 Q) ∧ (¬ x3 ≤ x4 → Q (some (.int (-1))) σ2))))))))))) :
    G Θ (d + 1) 140 0 [some (.ref 0), some (.int x1), some (.int x2), some (.int x3), some (.int x4), some (.int x5), none, none, none, none] [] σ Q := by
  refine r_aload_n ok140 0 rfl rfl rfl ?_
  obtain ⟨c1, s1, h1⟩ := h
  refine r_getR ok140 1 rfl rfl rfl rfl c1 ?_
  refine r_iload_n ok140 2 rfl rfl rfl ?_
  refine r_iload_n ok140 3 rfl rfl rfl ?_
  refine r_invVi (as := [.int x1, .int x2]) (S := []) ok140 4 rfl rfl mf13 s1 rfl (Nat.le_of_ble_eq_true rfl) rfl h1 (fun v2 σ2 h2 => ?_)
  refine r_if_eq ok140 5 rfl rfl (fun c3 => ?_) (fun c3 => ?_)
  · have h3 := h2.1 c3
    refine r_iconst (v := (-1)) ok140 14 rfl rfl rfl ?_
    exact r_iret ok140 15 rfl rfl rfl h3
  · have h3 := h2.2 c3
    refine r_iload_n ok140 6 rfl rfl rfl ?_
    refine r_if_lt ok140 7 rfl rfl (fun c4 => ?_) (fun c4 => ?_)
    · have h4 := h3.1 c4
      refine r_iconst (v := (-1)) ok140 14 rfl rfl rfl ?_
      exact r_iret ok140 15 rfl rfl rfl h4
    · have h4 := h3.2 c4
      refine r_iload ok140 8 rfl rfl rfl ?_
      refine r_sipush (v := 240) ok140 9 rfl rfl rfl ?_
      refine r_icmp_gt ok140 10 rfl rfl (fun c5 => ?_) (fun c5 => ?_)
      · have h5 := h4.1 c5
        refine r_iconst (v := (-1)) ok140 14 rfl rfl rfl ?_
        exact r_iret ok140 15 rfl rfl rfl h5
      · have h5 := h4.2 c5
        refine r_iload ok140 11 rfl rfl rfl ?_
        refine r_iload_n ok140 12 rfl rfl rfl ?_
        refine r_icmp_ge ok140 13 rfl rfl (fun c6 => ?_) (fun c6 => ?_)
        · have h6 := h5.1 c6
          refine r_iconst (v := 0) ok140 16 rfl rfl rfl ?_
          refine r_istore ok140 17 rfl rfl ?_
          refine r_iconst (v := 0) ok140 18 rfl rfl rfl ?_
          refine r_istore ok140 19 rfl rfl ?_
          refine r_iconst (v := 0) ok140 20 rfl rfl rfl ?_
          refine r_istore ok140 21 rfl rfl ?_
          exact h6
        · have h6 := h5.2 c6
          refine r_iconst (v := (-1)) ok140 14 rfl rfl rfl ?_
          exact r_iret ok140 15 rfl rfl rfl h6

set_option maxRecDepth 100000 in
set_option maxHeartbeats 4000000 in
theorem B140_41 {Θ : Th} {d : Nat} {σ : Mem} {Q : Po} {x1 : Int32} {x2 : Int32} {x3 : Int32} {x4 : Int32} {x5 : Int32} {x6 : Int32} {x7 : Int32} {x8 : Int32} 
    (h : (σ.2.2 0 2 ≠ 0 ∧ (shq (σ.2.2 0 2)).1 = 1 ∧ (((σ.1 (σ.2.2 0 2) 4) ≤ x8 → ((¬ x5 = 0 → ((¬ x5 = 1 → Q (some (.int (-1))) σ) ∧ (x5 = 1 → Q (some (.int x7)) σ))) ∧ (x5 = 0 → Q (some (.int x6)) σ))) ∧ (¬ (σ.1 (σ.2.2 0 2) 4) ≤ x8 → (σ.2.2 0 2 ≠ 0 ∧ (shq (σ.2.2 0 2)).1 = 1 ∧ Ci Θ d 15 [.ref (σ.2.2 0 2), .int x8, .int x1] σ (fun v6 σ6 => ((v6 < x2 → G Θ (d + 1) 140 41 [some (.ref 0), some (.int x1), some (.int x2), some (.int x3), some (.int x4), some (.int x5), some (.int x6), some (.int x7), some (.int (x8 + 1)), none] [] σ6 Q) ∧ (¬ v6 < x2 → (σ6.2.2 0 2 ≠ 0 ∧ (shq (σ6.2.2 0 2)).1 = 1 ∧ (vp_in x8 16 ∧ Ci Θ d 165 [.int (σ6.1 (σ6.2.2 0 2 + 5) x8.toNatClampNeg), .int x3, .int x4] σ6 (fun v10 σ10 => ((v10 ≤ 0 → G Θ (d + 1) 140 41 [some (.ref 0), some (.int x1), some (.int x2), some (.int x3), some (.int x4), some (.int x5), some (.int (x6 + 0)), some (.int (x7 + v10)), some (.int (x8 + 1)), none] [] σ10 Q) ∧ (¬ v10 ≤ 0 → G Θ (d + 1) 140 41 [some (.ref 0), some (.int x1), some (.int x2), some (.int x3), some (.int x4), some (.int x5), some (.int (x6 + 1)), some (.int (x7 + v10)), some (.int (x8 + 1)), none] [] σ10 Q))))))))))))) :
    G Θ (d + 1) 140 41 [some (.ref 0), some (.int x1), some (.int x2), some (.int x3), some (.int x4), some (.int x5), some (.int x6), some (.int x7), some (.int x8), none] [] σ Q := by
  refine r_iload ok140 22 rfl rfl rfl ?_
  refine r_aload_n ok140 23 rfl rfl rfl ?_
  obtain ⟨c1, s1, h1⟩ := h
  refine r_getR ok140 24 rfl rfl rfl rfl c1 ?_
  refine r_getI ok140 25 rfl rfl s1 rfl ?_
  refine r_icmp_ge ok140 26 rfl rfl (fun c2 => ?_) (fun c2 => ?_)
  · have h2 := h1.1 c2
    refine r_iload ok140 57 rfl rfl rfl ?_
    refine r_if_ne ok140 58 rfl rfl (fun c3 => ?_) (fun c3 => ?_)
    · have h3 := h2.1 c3
      refine r_iload ok140 61 rfl rfl rfl ?_
      refine r_iconst (v := 1) ok140 62 rfl rfl rfl ?_
      refine r_icmp_ne ok140 63 rfl rfl (fun c4 => ?_) (fun c4 => ?_)
      · have h4 := h3.1 c4
        refine r_iconst (v := (-1)) ok140 66 rfl rfl rfl ?_
        exact r_iret ok140 67 rfl rfl rfl h4
      · have h4 := h3.2 c4
        refine r_iload ok140 64 rfl rfl rfl ?_
        refine r_goto ok140 65 rfl rfl ?_
        exact r_iret ok140 67 rfl rfl rfl h4
    · have h3 := h2.2 c3
      refine r_iload ok140 59 rfl rfl rfl ?_
      exact r_iret ok140 60 rfl rfl rfl h3
  · have h2 := h1.2 c2
    refine r_aload_n ok140 27 rfl rfl rfl ?_
    obtain ⟨c5, s5, h5⟩ := h2
    refine r_getR ok140 28 rfl rfl rfl rfl c5 ?_
    refine r_iload ok140 29 rfl rfl rfl ?_
    refine r_iload_n ok140 30 rfl rfl rfl ?_
    refine r_invVi (as := [.int x8, .int x1]) (S := []) ok140 31 rfl rfl mf15 s5 rfl (Nat.le_of_ble_eq_true rfl) rfl h5 (fun v6 σ6 h6 => ?_)
    refine r_iload_n ok140 32 rfl rfl rfl ?_
    refine r_icmp_lt ok140 33 rfl rfl (fun c7 => ?_) (fun c7 => ?_)
    · have h7 := h6.1 c7
      refine r_iinc (v := x8 + 1) ok140 55 rfl rfl rfl rfl ?_
      refine r_goto ok140 56 rfl rfl ?_
      exact h7
    · have h7 := h6.2 c7
      refine r_aload_n ok140 34 rfl rfl rfl ?_
      obtain ⟨c8, s8, h8⟩ := h7
      refine r_getR ok140 35 rfl rfl rfl rfl c8 ?_
      refine r_getF ok140 36 rfl rfl s8 rfl ?_
      refine r_iload ok140 37 rfl rfl rfl ?_
      obtain ⟨c9, h9⟩ := h8
      refine r_iald ok140 38 rfl rfl (rel_shp s8 (i := 8) rfl) c9 ?_
      refine r_iload_n ok140 39 rfl rfl rfl ?_
      refine r_iload ok140 40 rfl rfl rfl ?_
      refine r_invSi (as := [.int (σ6.1 (σ6.2.2 0 2 + 5) x8.toNatClampNeg), .int x3, .int x4]) (S := []) ok140 41 rfl rfl mf165 rfl (Nat.le_of_ble_eq_true rfl) rfl h9 (fun v10 σ10 h10 => ?_)
      refine r_istore ok140 42 rfl rfl ?_
      refine r_iload ok140 43 rfl rfl rfl ?_
      refine r_iload ok140 44 rfl rfl rfl ?_
      refine r_iadd ok140 45 rfl rfl ?_
      refine r_istore ok140 46 rfl rfl ?_
      refine r_iload ok140 47 rfl rfl rfl ?_
      refine r_iload ok140 48 rfl rfl rfl ?_
      refine r_if_le ok140 49 rfl rfl (fun c11 => ?_) (fun c11 => ?_)
      · have h11 := h10.1 c11
        refine r_iconst (v := 0) ok140 52 rfl rfl rfl ?_
        refine r_iadd ok140 53 rfl rfl ?_
        refine r_istore ok140 54 rfl rfl ?_
        refine r_iinc (v := x8 + 1) ok140 55 rfl rfl rfl rfl ?_
        refine r_goto ok140 56 rfl rfl ?_
        exact G.weak (L' := [some (.ref 0), some (.int x1), some (.int x2), some (.int x3), some (.int x4), some (.int x5), some (.int (x6 + 0)), some (.int (x7 + v10)), some (.int (x8 + 1)), none]) ⟨rfl, ⟨rfl, ⟨rfl, ⟨rfl, ⟨rfl, ⟨rfl, ⟨rfl, ⟨rfl, ⟨rfl, trivial⟩⟩⟩⟩⟩⟩⟩⟩⟩ h11
      · have h11 := h10.2 c11
        refine r_iconst (v := 1) ok140 50 rfl rfl rfl ?_
        refine r_goto ok140 51 rfl rfl ?_
        refine r_iadd ok140 53 rfl rfl ?_
        refine r_istore ok140 54 rfl rfl ?_
        refine r_iinc (v := x8 + 1) ok140 55 rfl rfl rfl rfl ?_
        refine r_goto ok140 56 rfl rfl ?_
        exact G.weak (L' := [some (.ref 0), some (.int x1), some (.int x2), some (.int x3), some (.int x4), some (.int x5), some (.int (x6 + 1)), some (.int (x7 + v10)), some (.int (x8 + 1)), none]) ⟨rfl, ⟨rfl, ⟨rfl, ⟨rfl, ⟨rfl, ⟨rfl, ⟨rfl, ⟨rfl, ⟨rfl, trivial⟩⟩⟩⟩⟩⟩⟩⟩⟩ h11

theorem K140 {Θ : Th} {d : Nat} {σ : Mem} {Q : Po} {x1 : Int32} {x2 : Int32} {x3 : Int32} {x4 : Int32} {x5 : Int32} (h : G Θ (d + 1) 140 0 [some (.ref 0), some (.int x1), some (.int x2), some (.int x3), some (.int x4), some (.int x5), none, none, none, none] [] σ Q) : Cm Θ (d + 1) 140 [.ref 0, .int x1, .int x2, .int x3, .int x4, .int x5] σ Q :=
  C_of_G okM140 (Nat.le_of_ble_eq_true rfl) rfl h

-- 141: LikeYears.lawOf(I)I
set_option maxRecDepth 100000 in
set_option maxHeartbeats 4000000 in
theorem B141_0 {Θ : Th} {d : Nat} {σ : Mem} {Q : Po} {x1 : Int32} 
    (h : (σ.2.2 0 2 ≠ 0 ∧ (shq (σ.2.2 0 2)).1 = 1 ∧ Ci Θ d 12 [.ref (σ.2.2 0 2), .int x1] σ (fun v2 σ2 => ((v2 = 0 → Q (some (.int (-1))) σ2) ∧ (¬ v2 = 0 → (σ2.2.2 0 4 ≠ 0 ∧ (shq (σ2.2.2 0 4)).1 = 6 ∧ (σ2.2.2 0 2 ≠ 0 ∧ (shq (σ2.2.2 0 2)).1 = 1 ∧ Ci Θ d 61 [.ref (σ2.2.2 0 4), .ref (σ2.2.2 0 2), .int x1] σ2 (fun v6 σ6 => Q (some (.int v6)) σ6)))))))) :
    G Θ (d + 1) 141 0 [some (.ref 0), some (.int x1)] [] σ Q := by
  refine r_aload_n ok141 0 rfl rfl rfl ?_
  obtain ⟨c1, s1, h1⟩ := h
  refine r_getR ok141 1 rfl rfl rfl rfl c1 ?_
  refine r_iload_n ok141 2 rfl rfl rfl ?_
  refine r_invVi (as := [.int x1]) (S := []) ok141 3 rfl rfl mf12 s1 rfl (Nat.le_of_ble_eq_true rfl) rfl h1 (fun v2 σ2 h2 => ?_)
  refine r_if_eq ok141 4 rfl rfl (fun c3 => ?_) (fun c3 => ?_)
  · have h3 := h2.1 c3
    refine r_iconst (v := (-1)) ok141 12 rfl rfl rfl ?_
    exact r_iret ok141 13 rfl rfl rfl h3
  · have h3 := h2.2 c3
    refine r_aload_n ok141 5 rfl rfl rfl ?_
    obtain ⟨c4, s4, h4⟩ := h3
    refine r_getR ok141 6 rfl rfl rfl rfl c4 ?_
    refine r_aload_n ok141 7 rfl rfl rfl ?_
    obtain ⟨c5, s5, h5⟩ := h4
    refine r_getR ok141 8 rfl rfl rfl rfl c5 ?_
    refine r_iload_n ok141 9 rfl rfl rfl ?_
    refine r_invVi (as := [.ref (σ2.2.2 0 2), .int x1]) (S := []) ok141 10 rfl rfl mf61 s4 rfl (Nat.le_of_ble_eq_true rfl) rfl h5 (fun v6 σ6 h6 => ?_)
    refine r_goto ok141 11 rfl rfl ?_
    exact r_iret ok141 13 rfl rfl rfl h6

theorem K141 {Θ : Th} {d : Nat} {σ : Mem} {Q : Po} {x1 : Int32} (h : G Θ (d + 1) 141 0 [some (.ref 0), some (.int x1)] [] σ Q) : Cm Θ (d + 1) 141 [.ref 0, .int x1] σ Q :=
  C_of_G okM141 (Nat.le_of_ble_eq_true rfl) rfl h

-- 142: LikeYears.moved(I)I
set_option maxRecDepth 100000 in
set_option maxHeartbeats 4000000 in
theorem B142_0 {Θ : Th} {d : Nat} {σ : Mem} {Q : Po} {x1 : Int32} 
    (h : G Θ (d + 1) 142 13 [some (.ref 0), some (.int x1), some (.int 0), some (.int 0), some (.int 0), some (.int (-1)), some (.int 0), none] [] σ Q) :
    G Θ (d + 1) 142 0 [some (.ref 0), some (.int x1), none, none, none, none, none, none] [] σ Q := by
  refine r_iconst (v := 0) ok142 0 rfl rfl rfl ?_
  refine r_istore_n ok142 1 rfl rfl ?_
  refine r_iconst (v := 0) ok142 2 rfl rfl rfl ?_
  refine r_istore_n ok142 3 rfl rfl ?_
  refine r_iconst (v := 0) ok142 4 rfl rfl rfl ?_
  refine r_istore ok142 5 rfl rfl ?_
  refine r_iconst (v := (-1)) ok142 6 rfl rfl rfl ?_
  refine r_istore ok142 7 rfl rfl ?_
  refine r_iconst (v := 0) ok142 8 rfl rfl rfl ?_
  refine r_istore ok142 9 rfl rfl ?_
  exact h

set_option maxRecDepth 100000 in
set_option maxHeartbeats 4000000 in
theorem B142_13 {Θ : Th} {d : Nat} {σ : Mem} {Q : Po} {x1 : Int32} {x2 : Int32} {x3 : Int32} {x4 : Int32} {x5 : Int32} {x6 : Int32} 
    (h : (σ.2.2 0 2 ≠ 0 ∧ (shq (σ.2.2 0 2)).1 = 1 ∧ (((σ.1 (σ.2.2 0 2) 4) ≤ x6 → (((x1.toInt < 0 ∨ 2 < x1.toInt) → Q (some (.int (-1))) σ) ∧ (x1.toInt = 0 → Q (some (.int x2)) σ) ∧ (x1.toInt = 1 → Q (some (.int x3)) σ) ∧ (x1.toInt = 2 → Q (some (.int x5)) σ))) ∧ (¬ (σ.1 (σ.2.2 0 2) 4) ≤ x6 → Ci Θ d 166 [.ref 0, .int x6] σ (fun v4 σ4 => ((v4 ≤ 0 → ((v4 ≤ x4 → G Θ (d + 1) 142 13 [some (.ref 0), some (.int x1), some (.int (x2 + 0)), some (.int (x3 + v4)), some (.int x4), some (.int x5), some (.int (x6 + 1)), none] [] σ4 Q) ∧ (¬ v4 ≤ x4 → G Θ (d + 1) 142 13 [some (.ref 0), some (.int x1), some (.int (x2 + 0)), some (.int (x3 + v4)), some (.int v4), some (.int x6), some (.int (x6 + 1)), none] [] σ4 Q))) ∧ (¬ v4 ≤ 0 → ((v4 ≤ x4 → G Θ (d + 1) 142 13 [some (.ref 0), some (.int x1), some (.int (x2 + 1)), some (.int (x3 + v4)), some (.int x4), some (.int x5), some (.int (x6 + 1)), none] [] σ4 Q) ∧ (¬ v4 ≤ x4 → G Θ (d + 1) 142 13 [some (.ref 0), some (.int x1), some (.int (x2 + 1)), some (.int (x3 + v4)), some (.int v4), some (.int x6), some (.int (x6 + 1)), none] [] σ4 Q))))))))) :
    G Θ (d + 1) 142 13 [some (.ref 0), some (.int x1), some (.int x2), some (.int x3), some (.int x4), some (.int x5), some (.int x6), none] [] σ Q := by
  refine r_iload ok142 10 rfl rfl rfl ?_
  refine r_aload_n ok142 11 rfl rfl rfl ?_
  obtain ⟨c1, s1, h1⟩ := h
  refine r_getR ok142 12 rfl rfl rfl rfl c1 ?_
  refine r_getI ok142 13 rfl rfl s1 rfl ?_
  refine r_icmp_ge ok142 14 rfl rfl (fun c2 => ?_) (fun c2 => ?_)
  · have h2 := h1.1 c2
    refine r_iload_n ok142 40 rfl rfl rfl ?_
    refine r_tsw (tl := [100, 102, 104]) ok142 41 rfl rfl rfl rfl (fun c3 => ?_) ?_
    · have h3 := h2.1 c3
      refine r_iconst (v := (-1)) ok142 48 rfl rfl rfl ?_
      exact r_iret ok142 49 rfl rfl rfl h3
    · refine And.intro (fun c3 => ?_) ?_
      · have h3 := h2.2.1 c3
        refine r_iload_n ok142 42 rfl rfl rfl ?_
        exact r_iret ok142 43 rfl rfl rfl h3
      · refine And.intro (fun c3 => ?_) ?_
        · have h3 := h2.2.2.1 c3
          refine r_iload_n ok142 44 rfl rfl rfl ?_
          exact r_iret ok142 45 rfl rfl rfl h3
        · intro c3
          have h3 := h2.2.2.2 c3
          refine r_iload ok142 46 rfl rfl rfl ?_
          exact r_iret ok142 47 rfl rfl rfl h3
  · have h2 := h1.2 c2
    refine r_aload_n ok142 15 rfl rfl rfl ?_
    refine r_iload ok142 16 rfl rfl rfl ?_
    refine r_invVi (as := [.int x6]) (S := []) ok142 17 rfl rfl mf166 rfl rfl (Nat.le_of_ble_eq_true rfl) rfl h2 (fun v4 σ4 h4 => ?_)
    refine r_istore ok142 18 rfl rfl ?_
    refine r_iload_n ok142 19 rfl rfl rfl ?_
    refine r_iload ok142 20 rfl rfl rfl ?_
    refine r_iadd ok142 21 rfl rfl ?_
    refine r_istore_n ok142 22 rfl rfl ?_
    refine r_iload_n ok142 23 rfl rfl rfl ?_
    refine r_iload ok142 24 rfl rfl rfl ?_
    refine r_if_le ok142 25 rfl rfl (fun c5 => ?_) (fun c5 => ?_)
    · have h5 := h4.1 c5
      refine r_iconst (v := 0) ok142 28 rfl rfl rfl ?_
      refine r_iadd ok142 29 rfl rfl ?_
      refine r_istore_n ok142 30 rfl rfl ?_
      refine r_iload ok142 31 rfl rfl rfl ?_
      refine r_iload ok142 32 rfl rfl rfl ?_
      refine r_icmp_le ok142 33 rfl rfl (fun c6 => ?_) (fun c6 => ?_)
      · have h6 := h5.1 c6
        refine r_iinc (v := x6 + 1) ok142 38 rfl rfl rfl rfl ?_
        refine r_goto ok142 39 rfl rfl ?_
        exact G.weak (L' := [some (.ref 0), some (.int x1), some (.int (x2 + 0)), some (.int (x3 + v4)), some (.int x4), some (.int x5), some (.int (x6 + 1)), none]) ⟨rfl, ⟨rfl, ⟨rfl, ⟨rfl, ⟨rfl, ⟨rfl, ⟨rfl, trivial⟩⟩⟩⟩⟩⟩⟩ h6
      · have h6 := h5.2 c6
        refine r_iload ok142 34 rfl rfl rfl ?_
        refine r_istore ok142 35 rfl rfl ?_
        refine r_iload ok142 36 rfl rfl rfl ?_
        refine r_istore ok142 37 rfl rfl ?_
        refine r_iinc (v := x6 + 1) ok142 38 rfl rfl rfl rfl ?_
        refine r_goto ok142 39 rfl rfl ?_
        exact G.weak (L' := [some (.ref 0), some (.int x1), some (.int (x2 + 0)), some (.int (x3 + v4)), some (.int v4), some (.int x6), some (.int (x6 + 1)), none]) ⟨rfl, ⟨rfl, ⟨rfl, ⟨rfl, ⟨rfl, ⟨rfl, ⟨rfl, trivial⟩⟩⟩⟩⟩⟩⟩ h6
    · have h5 := h4.2 c5
      refine r_iconst (v := 1) ok142 26 rfl rfl rfl ?_
      refine r_goto ok142 27 rfl rfl ?_
      refine r_iadd ok142 29 rfl rfl ?_
      refine r_istore_n ok142 30 rfl rfl ?_
      refine r_iload ok142 31 rfl rfl rfl ?_
      refine r_iload ok142 32 rfl rfl rfl ?_
      refine r_icmp_le ok142 33 rfl rfl (fun c7 => ?_) (fun c7 => ?_)
      · have h7 := h5.1 c7
        refine r_iinc (v := x6 + 1) ok142 38 rfl rfl rfl rfl ?_
        refine r_goto ok142 39 rfl rfl ?_
        exact G.weak (L' := [some (.ref 0), some (.int x1), some (.int (x2 + 1)), some (.int (x3 + v4)), some (.int x4), some (.int x5), some (.int (x6 + 1)), none]) ⟨rfl, ⟨rfl, ⟨rfl, ⟨rfl, ⟨rfl, ⟨rfl, ⟨rfl, trivial⟩⟩⟩⟩⟩⟩⟩ h7
      · have h7 := h5.2 c7
        refine r_iload ok142 34 rfl rfl rfl ?_
        refine r_istore ok142 35 rfl rfl ?_
        refine r_iload ok142 36 rfl rfl rfl ?_
        refine r_istore ok142 37 rfl rfl ?_
        refine r_iinc (v := x6 + 1) ok142 38 rfl rfl rfl rfl ?_
        refine r_goto ok142 39 rfl rfl ?_
        exact G.weak (L' := [some (.ref 0), some (.int x1), some (.int (x2 + 1)), some (.int (x3 + v4)), some (.int v4), some (.int x6), some (.int (x6 + 1)), none]) ⟨rfl, ⟨rfl, ⟨rfl, ⟨rfl, ⟨rfl, ⟨rfl, ⟨rfl, trivial⟩⟩⟩⟩⟩⟩⟩ h7

theorem K142 {Θ : Th} {d : Nat} {σ : Mem} {Q : Po} {x1 : Int32} (h : G Θ (d + 1) 142 0 [some (.ref 0), some (.int x1), none, none, none, none, none, none] [] σ Q) : Cm Θ (d + 1) 142 [.ref 0, .int x1] σ Q :=
  C_of_G okM142 (Nat.le_of_ble_eq_true rfl) rfl h

-- 143: LikeYears.mercy(I)I
set_option maxRecDepth 100000 in
set_option maxHeartbeats 4000000 in
theorem B143_0 {Θ : Th} {d : Nat} {σ : Mem} {Q : Po} {x1 : Int32} 
    (h : G Θ (d + 1) 143 7 [some (.ref 0), some (.int x1), some (.int (-1)), some (.int (-1)), some (.int 0), none] [] σ Q) :
    G Θ (d + 1) 143 0 [some (.ref 0), some (.int x1), none, none, none, none] [] σ Q := by
  refine r_iconst (v := (-1)) ok143 0 rfl rfl rfl ?_
  refine r_istore_n ok143 1 rfl rfl ?_
  refine r_iconst (v := (-1)) ok143 2 rfl rfl rfl ?_
  refine r_istore_n ok143 3 rfl rfl ?_
  refine r_iconst (v := 0) ok143 4 rfl rfl rfl ?_
  refine r_istore ok143 5 rfl rfl ?_
  exact h

set_option maxRecDepth 100000 in
set_option maxHeartbeats 4000000 in
theorem B143_7 {Θ : Th} {d : Nat} {σ : Mem} {Q : Po} {x1 : Int32} {x2 : Int32} {x3 : Int32} {x4 : Int32} 
    (h : (σ.2.2 0 2 ≠ 0 ∧ (shq (σ.2.2 0 2)).1 = 1 ∧ (((σ.1 (σ.2.2 0 2) 0) ≤ x4 → ((¬ x1 = 0 → ((¬ x1 = 1 → Q (some (.int (-1))) σ) ∧ (x1 = 1 → Q (some (.int x3)) σ))) ∧ (x1 = 0 → Q (some (.int x2)) σ))) ∧ (¬ (σ.1 (σ.2.2 0 2) 0) ≤ x4 → (σ.2.2 0 2 ≠ 0 ∧ (shq (σ.2.2 0 2)).1 = 1 ∧ Ci Θ d 14 [.ref (σ.2.2 0 2), .int x4] σ (fun v6 σ6 => ((¬ v6 = 0 → G Θ (d + 1) 143 7 [some (.ref 0), some (.int x1), some (.int x2), some (.int x3), some (.int (x4 + 1)), none] [] σ6 Q) ∧ (v6 = 0 → (σ6.2.2 0 2 ≠ 0 ∧ (shq (σ6.2.2 0 2)).1 = 1 ∧ (σ6.2.2 0 2 ≠ 0 ∧ (shq (σ6.2.2 0 2)).1 = 1 ∧ Cv Θ d 76 [.ref 6, .ref (σ6.2.2 0 2), .int ((σ6.1 (σ6.2.2 0 2) 3) ||| ((1 : Int32) <<< (x4 &&& 31)))] σ6 (fun σ10 => (σ10.2.2 0 2 ≠ 0 ∧ (shq (σ10.2.2 0 2)).1 = 1 ∧ Ci Θ d 77 [.ref 6, .ref (σ10.2.2 0 2)] σ10 (fun v12 σ12 => (σ12.2.2 0 2 ≠ 0 ∧ (shq (σ12.2.2 0 2)).1 = 1 ∧ Ci Θ d 83 [.ref 6, .ref (σ12.2.2 0 2), .int 0] σ12 (fun v14 σ14 => ((x2 < 0 → G Θ (d + 1) 143 7 [some (.ref 0), some (.int x1), some (.int x4), some (.int v14), some (.int (x4 + 1)), none] [] σ14 Q) ∧ (¬ x2 < 0 → ((x3 ≤ v14 → G Θ (d + 1) 143 7 [some (.ref 0), some (.int x1), some (.int x2), some (.int x3), some (.int (x4 + 1)), none] [] σ14 Q) ∧ (¬ x3 ≤ v14 → G Θ (d + 1) 143 7 [some (.ref 0), some (.int x1), some (.int x4), some (.int v14), some (.int (x4 + 1)), none] [] σ14 Q))))))))))))))))))) :
    G Θ (d + 1) 143 7 [some (.ref 0), some (.int x1), some (.int x2), some (.int x3), some (.int x4), none] [] σ Q := by
  refine r_iload ok143 6 rfl rfl rfl ?_
  refine r_aload_n ok143 7 rfl rfl rfl ?_
  obtain ⟨c1, s1, h1⟩ := h
  refine r_getR ok143 8 rfl rfl rfl rfl c1 ?_
  refine r_getI ok143 9 rfl rfl s1 rfl ?_
  refine r_icmp_ge ok143 10 rfl rfl (fun c2 => ?_) (fun c2 => ?_)
  · have h2 := h1.1 c2
    refine r_iload_n ok143 52 rfl rfl rfl ?_
    refine r_if_ne ok143 53 rfl rfl (fun c3 => ?_) (fun c3 => ?_)
    · have h3 := h2.1 c3
      refine r_iload_n ok143 56 rfl rfl rfl ?_
      refine r_iconst (v := 1) ok143 57 rfl rfl rfl ?_
      refine r_icmp_ne ok143 58 rfl rfl (fun c4 => ?_) (fun c4 => ?_)
      · have h4 := h3.1 c4
        refine r_iconst (v := (-1)) ok143 61 rfl rfl rfl ?_
        exact r_iret ok143 62 rfl rfl rfl h4
      · have h4 := h3.2 c4
        refine r_iload_n ok143 59 rfl rfl rfl ?_
        refine r_goto ok143 60 rfl rfl ?_
        exact r_iret ok143 62 rfl rfl rfl h4
    · have h3 := h2.2 c3
      refine r_iload_n ok143 54 rfl rfl rfl ?_
      exact r_iret ok143 55 rfl rfl rfl h3
  · have h2 := h1.2 c2
    refine r_aload_n ok143 11 rfl rfl rfl ?_
    obtain ⟨c5, s5, h5⟩ := h2
    refine r_getR ok143 12 rfl rfl rfl rfl c5 ?_
    refine r_iload ok143 13 rfl rfl rfl ?_
    refine r_invVi (as := [.int x4]) (S := []) ok143 14 rfl rfl mf14 s5 rfl (Nat.le_of_ble_eq_true rfl) rfl h5 (fun v6 σ6 h6 => ?_)
    refine r_if_ne ok143 15 rfl rfl (fun c7 => ?_) (fun c7 => ?_)
    · have h7 := h6.1 c7
      refine r_iinc (v := x4 + 1) ok143 50 rfl rfl rfl rfl ?_
      refine r_goto ok143 51 rfl rfl ?_
      exact h7
    · have h7 := h6.2 c7
      refine r_aload_n ok143 16 rfl rfl rfl ?_
      refine r_getA ok143 17 rfl rfl rfl rfl ?_
      refine r_aload_n ok143 18 rfl rfl rfl ?_
      obtain ⟨c8, s8, h8⟩ := h7
      refine r_getR ok143 19 rfl rfl rfl rfl c8 ?_
      refine r_aload_n ok143 20 rfl rfl rfl ?_
      obtain ⟨c9, s9, h9⟩ := h8
      refine r_getR ok143 21 rfl rfl rfl rfl c9 ?_
      refine r_getI ok143 22 rfl rfl s9 rfl ?_
      refine r_iconst (v := 1) ok143 23 rfl rfl rfl ?_
      refine r_iload ok143 24 rfl rfl rfl ?_
      refine r_ishl ok143 25 rfl rfl ?_
      refine r_ior ok143 26 rfl rfl ?_
      refine r_invVv (as := [.ref (σ6.2.2 0 2), .int ((σ6.1 (σ6.2.2 0 2) 3) ||| ((1 : Int32) <<< (x4 &&& 31)))]) (S := []) ok143 27 rfl rfl mf76 rfl rfl (Nat.le_of_ble_eq_true rfl) rfl h9 (fun σ10 h10 => ?_)
      refine r_aload_n ok143 28 rfl rfl rfl ?_
      refine r_getA ok143 29 rfl rfl rfl rfl ?_
      refine r_aload_n ok143 30 rfl rfl rfl ?_
      obtain ⟨c11, s11, h11⟩ := h10
      refine r_getR ok143 31 rfl rfl rfl rfl c11 ?_
      refine r_invVi (as := [.ref (σ10.2.2 0 2)]) (S := []) ok143 32 rfl rfl mf77 rfl rfl (Nat.le_of_ble_eq_true rfl) rfl h11 (fun v12 σ12 h12 => ?_)
      refine r_pop ok143 33 rfl rfl rfl ?_
      refine r_aload_n ok143 34 rfl rfl rfl ?_
      refine r_getA ok143 35 rfl rfl rfl rfl ?_
      refine r_aload_n ok143 36 rfl rfl rfl ?_
      obtain ⟨c13, s13, h13⟩ := h12
      refine r_getR ok143 37 rfl rfl rfl rfl c13 ?_
      refine r_iconst (v := 0) ok143 38 rfl rfl rfl ?_
      refine r_invVi (as := [.ref (σ12.2.2 0 2), .int 0]) (S := []) ok143 39 rfl rfl mf83 rfl rfl (Nat.le_of_ble_eq_true rfl) rfl h13 (fun v14 σ14 h14 => ?_)
      refine r_istore ok143 40 rfl rfl ?_
      refine r_iload_n ok143 41 rfl rfl rfl ?_
      refine r_if_lt ok143 42 rfl rfl (fun c15 => ?_) (fun c15 => ?_)
      · have h15 := h14.1 c15
        refine r_iload ok143 46 rfl rfl rfl ?_
        refine r_istore_n ok143 47 rfl rfl ?_
        refine r_iload ok143 48 rfl rfl rfl ?_
        refine r_istore_n ok143 49 rfl rfl ?_
        refine r_iinc (v := x4 + 1) ok143 50 rfl rfl rfl rfl ?_
        refine r_goto ok143 51 rfl rfl ?_
        exact G.weak (L' := [some (.ref 0), some (.int x1), some (.int x4), some (.int v14), some (.int (x4 + 1)), none]) ⟨rfl, ⟨rfl, ⟨rfl, ⟨rfl, ⟨rfl, trivial⟩⟩⟩⟩⟩ h15
      · have h15 := h14.2 c15
        refine r_iload ok143 43 rfl rfl rfl ?_
        refine r_iload_n ok143 44 rfl rfl rfl ?_
        refine r_icmp_ge ok143 45 rfl rfl (fun c16 => ?_) (fun c16 => ?_)
        · have h16 := h15.1 c16
          refine r_iinc (v := x4 + 1) ok143 50 rfl rfl rfl rfl ?_
          refine r_goto ok143 51 rfl rfl ?_
          exact G.weak (L' := [some (.ref 0), some (.int x1), some (.int x2), some (.int x3), some (.int (x4 + 1)), none]) ⟨rfl, ⟨rfl, ⟨rfl, ⟨rfl, ⟨rfl, trivial⟩⟩⟩⟩⟩ h16
        · have h16 := h15.2 c16
          refine r_iload ok143 46 rfl rfl rfl ?_
          refine r_istore_n ok143 47 rfl rfl ?_
          refine r_iload ok143 48 rfl rfl rfl ?_
          refine r_istore_n ok143 49 rfl rfl ?_
          refine r_iinc (v := x4 + 1) ok143 50 rfl rfl rfl rfl ?_
          refine r_goto ok143 51 rfl rfl ?_
          exact G.weak (L' := [some (.ref 0), some (.int x1), some (.int x4), some (.int v14), some (.int (x4 + 1)), none]) ⟨rfl, ⟨rfl, ⟨rfl, ⟨rfl, ⟨rfl, trivial⟩⟩⟩⟩⟩ h16

theorem K143 {Θ : Th} {d : Nat} {σ : Mem} {Q : Po} {x1 : Int32} (h : G Θ (d + 1) 143 0 [some (.ref 0), some (.int x1), none, none, none, none] [] σ Q) : Cm Θ (d + 1) 143 [.ref 0, .int x1] σ Q :=
  C_of_G okM143 (Nat.le_of_ble_eq_true rfl) rfl h

-- 144: LikeYears.step(II)Z
set_option maxRecDepth 100000 in
set_option maxHeartbeats 4000000 in
theorem B144_0 {Θ : Th} {d : Nat} {σ : Mem} {Q : Po} {x1 : Int32} {x2 : Int32} 
    (h : (σ.2.2 0 2 ≠ 0 ∧ (shq (σ.2.2 0 2)).1 = 1 ∧ Ci Θ d 13 [.ref (σ.2.2 0 2), .int x1, .int x2] σ (fun v2 σ2 => ((¬ v2 = 0 → (σ2.2.2 0 2 ≠ 0 ∧ (shq (σ2.2.2 0 2)).1 = 1 ∧ Cv Θ d 16 [.ref (σ2.2.2 0 2), .int 16, .int x1, .int x2] σ2 (fun σ5 => Q (some (.int 1)) σ5))) ∧ (v2 = 0 → Q (some (.int 0)) σ2))))) :
    G Θ (d + 1) 144 0 [some (.ref 0), some (.int x1), some (.int x2)] [] σ Q := by
  refine r_aload_n ok144 0 rfl rfl rfl ?_
  obtain ⟨c1, s1, h1⟩ := h
  refine r_getR ok144 1 rfl rfl rfl rfl c1 ?_
  refine r_iload_n ok144 2 rfl rfl rfl ?_
  refine r_iload_n ok144 3 rfl rfl rfl ?_
  refine r_invVi (as := [.int x1, .int x2]) (S := []) ok144 4 rfl rfl mf13 s1 rfl (Nat.le_of_ble_eq_true rfl) rfl h1 (fun v2 σ2 h2 => ?_)
  refine r_if_ne ok144 5 rfl rfl (fun c3 => ?_) (fun c3 => ?_)
  · have h3 := h2.1 c3
    refine r_aload_n ok144 8 rfl rfl rfl ?_
    obtain ⟨c4, s4, h4⟩ := h3
    refine r_getR ok144 9 rfl rfl rfl rfl c4 ?_
    refine r_bipush (v := 16) ok144 10 rfl rfl rfl ?_
    refine r_iload_n ok144 11 rfl rfl rfl ?_
    refine r_iload_n ok144 12 rfl rfl rfl ?_
    refine r_invVv (as := [.int 16, .int x1, .int x2]) (S := []) ok144 13 rfl rfl mf16 s4 rfl (Nat.le_of_ble_eq_true rfl) rfl h4 (fun σ5 h5 => ?_)
    refine r_iconst (v := 1) ok144 14 rfl rfl rfl ?_
    exact r_zret ok144 15 rfl rfl rfl (Or.inr rfl) h5
  · have h3 := h2.2 c3
    refine r_iconst (v := 0) ok144 6 rfl rfl rfl ?_
    exact r_zret ok144 7 rfl rfl rfl (Or.inl rfl) h3

theorem K144 {Θ : Th} {d : Nat} {σ : Mem} {Q : Po} {x1 : Int32} {x2 : Int32} (h : G Θ (d + 1) 144 0 [some (.ref 0), some (.int x1), some (.int x2)] [] σ Q) : Cm Θ (d + 1) 144 [.ref 0, .int x1, .int x2] σ Q :=
  C_of_G okM144 (Nat.le_of_ble_eq_true rfl) rfl h

-- 145: LikeYears.ends(ZI)J
set_option maxRecDepth 100000 in
set_option maxHeartbeats 4000000 in
theorem B145_0 {Θ : Th} {d : Nat} {σ : Mem} {Q : Po} {x1 : Int32} {x2 : Int32} 
    (h : Ci Θ d 155 [.int x2] σ (fun v1 σ1 => ((¬ v1 = 0 → Cr Θ d 161 [.ref 0] σ1 (fun v3 σ3 => (shq v3).1 = 7 ∧ ((x1 = 0 → Cr Θ d 160 [.ref 0] σ3 (fun v5 σ5 => (shq v5).1 = 8 ∧ (σ5.2.2 0 2 ≠ 0 ∧ (shq (σ5.2.2 0 2)).1 = 1 ∧ Ci Θ d 90 [.ref v5, .ref (σ5.2.2 0 2)] σ5 (fun v7 σ7 => G Θ (d + 1) 145 53 [some (.ref 0), some (.int x1), some (.int x2), some (.ref v3), some (.int v7), some (.int (-1)), some (.int 0)] [] σ7 Q)))) ∧ (¬ x1 = 0 → Cr Θ d 160 [.ref 0] σ3 (fun v8 σ8 => (shq v8).1 = 8 ∧ (σ8.2.2 0 2 ≠ 0 ∧ (shq (σ8.2.2 0 2)).1 = 1 ∧ Ci Θ d 91 [.ref v8, .ref (σ8.2.2 0 2)] σ8 (fun v10 σ10 => G Θ (d + 1) 145 53 [some (.ref 0), some (.int x1), some (.int x2), some (.ref v3), some (.int v10), some (.int (-1)), some (.int 0)] [] σ10 Q))))))) ∧ (v1 = 0 → Q (some (.long (-1))) σ1)))) :
    G Θ (d + 1) 145 0 [some (.ref 0), some (.int x1), some (.int x2), none, none, none, none] [] σ Q := by
  refine r_iload_n ok145 0 rfl rfl rfl ?_
  refine r_invSi (as := [.int x2]) (S := []) ok145 1 rfl rfl mf155 rfl (Nat.le_of_ble_eq_true rfl) rfl h (fun v1 σ1 h1 => ?_)
  refine r_if_ne ok145 2 rfl rfl (fun c2 => ?_) (fun c2 => ?_)
  · have h2 := h1.1 c2
    refine r_aload_n ok145 5 rfl rfl rfl ?_
    refine r_invVr (as := []) (S := []) ok145 6 rfl rfl mf161 rfl rfl (Nat.le_of_ble_eq_true rfl) rfl h2 (fun v3 σ3 h3 => ?_)
    obtain ⟨s3, h3⟩ := h3
    refine r_astore_n ok145 7 rfl rfl ?_
    refine r_iload_n ok145 8 rfl rfl rfl ?_
    refine r_if_eq ok145 9 rfl rfl (fun c4 => ?_) (fun c4 => ?_)
    · have h4 := h3.1 c4
      refine r_aload_n ok145 16 rfl rfl rfl ?_
      refine r_invVr (as := []) (S := []) ok145 17 rfl rfl mf160 rfl rfl (Nat.le_of_ble_eq_true rfl) rfl h4 (fun v5 σ5 h5 => ?_)
      obtain ⟨s5, h5⟩ := h5
      refine r_aload_n ok145 18 rfl rfl rfl ?_
      obtain ⟨c6, s6, h6⟩ := h5
      refine r_getR ok145 19 rfl rfl rfl rfl c6 ?_
      refine r_invVi (as := [.ref (σ5.2.2 0 2)]) (S := []) ok145 20 rfl rfl mf90 s5 rfl (Nat.le_of_ble_eq_true rfl) rfl h6 (fun v7 σ7 h7 => ?_)
      refine r_istore ok145 21 rfl rfl ?_
      refine r_iconst (v := (-1)) ok145 22 rfl rfl rfl ?_
      refine r_istore ok145 23 rfl rfl ?_
      refine r_iconst (v := 0) ok145 24 rfl rfl rfl ?_
      refine r_istore ok145 25 rfl rfl ?_
      exact h7
    · have h4 := h3.2 c4
      refine r_aload_n ok145 10 rfl rfl rfl ?_
      refine r_invVr (as := []) (S := []) ok145 11 rfl rfl mf160 rfl rfl (Nat.le_of_ble_eq_true rfl) rfl h4 (fun v8 σ8 h8 => ?_)
      obtain ⟨s8, h8⟩ := h8
      refine r_aload_n ok145 12 rfl rfl rfl ?_
      obtain ⟨c9, s9, h9⟩ := h8
      refine r_getR ok145 13 rfl rfl rfl rfl c9 ?_
      refine r_invVi (as := [.ref (σ8.2.2 0 2)]) (S := []) ok145 14 rfl rfl mf91 s8 rfl (Nat.le_of_ble_eq_true rfl) rfl h9 (fun v10 σ10 h10 => ?_)
      refine r_goto ok145 15 rfl rfl ?_
      refine r_istore ok145 21 rfl rfl ?_
      refine r_iconst (v := (-1)) ok145 22 rfl rfl rfl ?_
      refine r_istore ok145 23 rfl rfl ?_
      refine r_iconst (v := 0) ok145 24 rfl rfl rfl ?_
      refine r_istore ok145 25 rfl rfl ?_
      exact h10
  · have h2 := h1.2 c2
    refine r_ldc2_w (v := (-1)) ok145 3 rfl rfl rfl ?_
    exact r_lret ok145 4 rfl rfl rfl h2

set_option maxRecDepth 100000 in
set_option maxHeartbeats 4000000 in
theorem B145_53 {Θ : Th} {d : Nat} {σ : Mem} {Q : Po} {x1 : Int32} {x2 : Int32} {r3 : Nat} {x4 : Int32} {x5 : Int32} {x6 : Int32} (hp3 : (shq r3).1 = 7)
    (h : (σ.2.2 0 2 ≠ 0 ∧ (shq (σ.2.2 0 2)).1 = 1 ∧ (((σ.1 (σ.2.2 0 2) 4) ≤ x6 → ((0 ≤ x5 → Cl Θ d 71 [.ref r3, .int x5, .int x2] σ (fun v4 σ4 => Q (some (.long v4)) σ4)) ∧ (¬ 0 ≤ x5 → Q (some (.long (-1))) σ))) ∧ (¬ (σ.1 (σ.2.2 0 2) 4) ≤ x6 → ((((x4 >>> (x6 &&& 31)) &&& 1) = 0 → G Θ (d + 1) 145 53 [some (.ref 0), some (.int x1), some (.int x2), some (.ref r3), some (.int x4), some (.int x5), some (.int (x6 + 1))] [] σ Q) ∧ (¬ ((x4 >>> (x6 &&& 31)) &&& 1) = 0 → ((x5 < 0 → G Θ (d + 1) 145 53 [some (.ref 0), some (.int x1), some (.int x2), some (.ref r3), some (.int x4), some (.int x6), some (.int (x6 + 1))] [] σ Q) ∧ (¬ x5 < 0 → Ci Θ d 72 [.ref r3, .int x6, .int x5, .int x1] σ (fun v7 σ7 => ((v7 = 0 → G Θ (d + 1) 145 53 [some (.ref 0), some (.int x1), some (.int x2), some (.ref r3), some (.int x4), some (.int x5), some (.int (x6 + 1))] [] σ7 Q) ∧ (¬ v7 = 0 → G Θ (d + 1) 145 53 [some (.ref 0), some (.int x1), some (.int x2), some (.ref r3), some (.int x4), some (.int x6), some (.int (x6 + 1))] [] σ7 Q))))))))))) :
    G Θ (d + 1) 145 53 [some (.ref 0), some (.int x1), some (.int x2), some (.ref r3), some (.int x4), some (.int x5), some (.int x6)] [] σ Q := by
  refine r_iload ok145 26 rfl rfl rfl ?_
  refine r_aload_n ok145 27 rfl rfl rfl ?_
  obtain ⟨c1, s1, h1⟩ := h
  refine r_getR ok145 28 rfl rfl rfl rfl c1 ?_
  refine r_getI ok145 29 rfl rfl s1 rfl ?_
  refine r_icmp_ge ok145 30 rfl rfl (fun c2 => ?_) (fun c2 => ?_)
  · have h2 := h1.1 c2
    refine r_iload ok145 49 rfl rfl rfl ?_
    refine r_if_ge ok145 50 rfl rfl (fun c3 => ?_) (fun c3 => ?_)
    · have h3 := h2.1 c3
      refine r_aload_n ok145 53 rfl rfl rfl ?_
      refine r_iload ok145 54 rfl rfl rfl ?_
      refine r_iload_n ok145 55 rfl rfl rfl ?_
      refine r_invVl (as := [.int x5, .int x2]) (S := []) ok145 56 rfl rfl mf71 hp3 rfl (Nat.le_of_ble_eq_true rfl) rfl h3 (fun v4 σ4 h4 => ?_)
      exact r_lret ok145 57 rfl rfl rfl h4
    · have h3 := h2.2 c3
      refine r_ldc2_w (v := (-1)) ok145 51 rfl rfl rfl ?_
      exact r_lret ok145 52 rfl rfl rfl h3
  · have h2 := h1.2 c2
    refine r_iload ok145 31 rfl rfl rfl ?_
    refine r_iload ok145 32 rfl rfl rfl ?_
    refine r_ishr ok145 33 rfl rfl ?_
    refine r_iconst (v := 1) ok145 34 rfl rfl rfl ?_
    refine r_iand ok145 35 rfl rfl ?_
    refine r_if_eq ok145 36 rfl rfl (fun c5 => ?_) (fun c5 => ?_)
    · have h5 := h2.1 c5
      refine r_iinc (v := x6 + 1) ok145 47 rfl rfl rfl rfl ?_
      refine r_goto ok145 48 rfl rfl ?_
      exact h5
    · have h5 := h2.2 c5
      refine r_iload ok145 37 rfl rfl rfl ?_
      refine r_if_lt ok145 38 rfl rfl (fun c6 => ?_) (fun c6 => ?_)
      · have h6 := h5.1 c6
        refine r_iload ok145 45 rfl rfl rfl ?_
        refine r_istore ok145 46 rfl rfl ?_
        refine r_iinc (v := x6 + 1) ok145 47 rfl rfl rfl rfl ?_
        refine r_goto ok145 48 rfl rfl ?_
        exact h6
      · have h6 := h5.2 c6
        refine r_aload_n ok145 39 rfl rfl rfl ?_
        refine r_iload ok145 40 rfl rfl rfl ?_
        refine r_iload ok145 41 rfl rfl rfl ?_
        refine r_iload_n ok145 42 rfl rfl rfl ?_
        refine r_invVi (as := [.int x6, .int x5, .int x1]) (S := []) ok145 43 rfl rfl mf72 hp3 rfl (Nat.le_of_ble_eq_true rfl) rfl h6 (fun v7 σ7 h7 => ?_)
        refine r_if_eq ok145 44 rfl rfl (fun c8 => ?_) (fun c8 => ?_)
        · have h8 := h7.1 c8
          refine r_iinc (v := x6 + 1) ok145 47 rfl rfl rfl rfl ?_
          refine r_goto ok145 48 rfl rfl ?_
          exact h8
        · have h8 := h7.2 c8
          refine r_iload ok145 45 rfl rfl rfl ?_
          refine r_istore ok145 46 rfl rfl ?_
          refine r_iinc (v := x6 + 1) ok145 47 rfl rfl rfl rfl ?_
          refine r_goto ok145 48 rfl rfl ?_
          exact h8

theorem K145 {Θ : Th} {d : Nat} {σ : Mem} {Q : Po} {x1 : Int32} {x2 : Int32} (h : G Θ (d + 1) 145 0 [some (.ref 0), some (.int x1), some (.int x2), none, none, none, none] [] σ Q) : Cm Θ (d + 1) 145 [.ref 0, .int x1, .int x2] σ Q :=
  C_of_G okM145 (Nat.le_of_ble_eq_true rfl) rfl h

-- 146: LikeYears.first(I)I
set_option maxRecDepth 100000 in
set_option maxHeartbeats 4000000 in
theorem B146_0 {Θ : Th} {d : Nat} {σ : Mem} {Q : Po} {x1 : Int32} 
    (h : Ci Θ d 157 [.int x1] σ (fun v1 σ1 => ((¬ v1 = 0 → Cr Θ d 160 [.ref 0] σ1 (fun v3 σ3 => (shq v3).1 = 8 ∧ (σ3.2.2 0 2 ≠ 0 ∧ (shq (σ3.2.2 0 2)).1 = 1 ∧ Ci Θ d 91 [.ref v3, .ref (σ3.2.2 0 2)] σ3 (fun v5 σ5 => Cr Θ d 160 [.ref 0] σ5 (fun v6 σ6 => (shq v6).1 = 8 ∧ (σ6.2.2 0 2 ≠ 0 ∧ (shq (σ6.2.2 0 2)).1 = 1 ∧ Ci Θ d 90 [.ref v6, .ref (σ6.2.2 0 2)] σ6 (fun v8 σ8 => G Θ (d + 1) 146 36 [some (.ref 0), some (.int x1), some (.int v5), some (.int v8), some (.int 0), none, none] [] σ8 Q))))))) ∧ (v1 = 0 → Q (some (.int (-1))) σ1)))) :
    G Θ (d + 1) 146 0 [some (.ref 0), some (.int x1), none, none, none, none, none] [] σ Q := by
  refine r_iload_n ok146 0 rfl rfl rfl ?_
  refine r_invSi (as := [.int x1]) (S := []) ok146 1 rfl rfl mf157 rfl (Nat.le_of_ble_eq_true rfl) rfl h (fun v1 σ1 h1 => ?_)
  refine r_if_ne ok146 2 rfl rfl (fun c2 => ?_) (fun c2 => ?_)
  · have h2 := h1.1 c2
    refine r_aload_n ok146 5 rfl rfl rfl ?_
    refine r_invVr (as := []) (S := []) ok146 6 rfl rfl mf160 rfl rfl (Nat.le_of_ble_eq_true rfl) rfl h2 (fun v3 σ3 h3 => ?_)
    obtain ⟨s3, h3⟩ := h3
    refine r_aload_n ok146 7 rfl rfl rfl ?_
    obtain ⟨c4, s4, h4⟩ := h3
    refine r_getR ok146 8 rfl rfl rfl rfl c4 ?_
    refine r_invVi (as := [.ref (σ3.2.2 0 2)]) (S := []) ok146 9 rfl rfl mf91 s3 rfl (Nat.le_of_ble_eq_true rfl) rfl h4 (fun v5 σ5 h5 => ?_)
    refine r_istore_n ok146 10 rfl rfl ?_
    refine r_aload_n ok146 11 rfl rfl rfl ?_
    refine r_invVr (as := []) (S := []) ok146 12 rfl rfl mf160 rfl rfl (Nat.le_of_ble_eq_true rfl) rfl h5 (fun v6 σ6 h6 => ?_)
    obtain ⟨s6, h6⟩ := h6
    refine r_aload_n ok146 13 rfl rfl rfl ?_
    obtain ⟨c7, s7, h7⟩ := h6
    refine r_getR ok146 14 rfl rfl rfl rfl c7 ?_
    refine r_invVi (as := [.ref (σ6.2.2 0 2)]) (S := []) ok146 15 rfl rfl mf90 s6 rfl (Nat.le_of_ble_eq_true rfl) rfl h7 (fun v8 σ8 h8 => ?_)
    refine r_istore_n ok146 16 rfl rfl ?_
    refine r_iconst (v := 0) ok146 17 rfl rfl rfl ?_
    refine r_istore ok146 18 rfl rfl ?_
    exact h8
  · have h2 := h1.2 c2
    refine r_iconst (v := (-1)) ok146 3 rfl rfl rfl ?_
    exact r_iret ok146 4 rfl rfl rfl h2

set_option maxRecDepth 100000 in
set_option maxHeartbeats 4000000 in
theorem B146_36 {Θ : Th} {d : Nat} {σ : Mem} {Q : Po} {x1 : Int32} {x2 : Int32} {x3 : Int32} {x4 : Int32} 
    (h : (σ.2.2 0 2 ≠ 0 ∧ (shq (σ.2.2 0 2)).1 = 1 ∧ (((σ.1 (σ.2.2 0 2) 4) ≤ x4 → Q (some (.int (-1))) σ) ∧ (¬ (σ.1 (σ.2.2 0 2) 4) ≤ x4 → ((((x3 >>> (x4 &&& 31)) &&& 1) = 0 → ((((x2 >>> (x4 &&& 31)) &&& 1) = 0 → G Θ (d + 1) 146 36 [some (.ref 0), some (.int x1), some (.int x2), some (.int x3), some (.int (x4 + 1)), none, none] [] σ Q) ∧ (¬ ((x2 >>> (x4 &&& 31)) &&& 1) = 0 → (σ.2.2 0 2 ≠ 0 ∧ (shq (σ.2.2 0 2)).1 = 1 ∧ (vp_in x4 16 ∧ ((x1 ≤ (σ.1 (σ.2.2 0 2 + 5) x4.toNatClampNeg) → G Θ (d + 1) 146 36 [some (.ref 0), some (.int x1), some (.int x2), some (.int x3), some (.int (x4 + 1)), none, none] [] σ Q) ∧ (¬ x1 ≤ (σ.1 (σ.2.2 0 2 + 5) x4.toNatClampNeg) → Q (some (.int x4)) σ))))))) ∧ (¬ ((x3 >>> (x4 &&& 31)) &&& 1) = 0 → (σ.2.2 0 2 ≠ 0 ∧ (shq (σ.2.2 0 2)).1 = 1 ∧ (vp_in x4 16 ∧ (((σ.1 (σ.2.2 0 2 + 5) x4.toNatClampNeg) ≤ x1 → ((((x2 >>> (x4 &&& 31)) &&& 1) = 0 → G Θ (d + 1) 146 36 [some (.ref 0), some (.int x1), some (.int x2), some (.int x3), some (.int (x4 + 1)), none, none] [] σ Q) ∧ (¬ ((x2 >>> (x4 &&& 31)) &&& 1) = 0 → (σ.2.2 0 2 ≠ 0 ∧ (shq (σ.2.2 0 2)).1 = 1 ∧ (vp_in x4 16 ∧ ((x1 ≤ (σ.1 (σ.2.2 0 2 + 5) x4.toNatClampNeg) → G Θ (d + 1) 146 36 [some (.ref 0), some (.int x1), some (.int x2), some (.int x3), some (.int (x4 + 1)), none, none] [] σ Q) ∧ (¬ x1 ≤ (σ.1 (σ.2.2 0 2 + 5) x4.toNatClampNeg) → Q (some (.int x4)) σ))))))) ∧ (¬ (σ.1 (σ.2.2 0 2 + 5) x4.toNatClampNeg) ≤ x1 → ((((x2 >>> (x4 &&& 31)) &&& 1) = 0 → Q (some (.int x4)) σ) ∧ (¬ ((x2 >>> (x4 &&& 31)) &&& 1) = 0 → (σ.2.2 0 2 ≠ 0 ∧ (shq (σ.2.2 0 2)).1 = 1 ∧ (vp_in x4 16 ∧ ((x1 ≤ (σ.1 (σ.2.2 0 2 + 5) x4.toNatClampNeg) → Q (some (.int x4)) σ) ∧ (¬ x1 ≤ (σ.1 (σ.2.2 0 2 + 5) x4.toNatClampNeg) → Q (some (.int x4)) σ)))))))))))))))) :
    G Θ (d + 1) 146 36 [some (.ref 0), some (.int x1), some (.int x2), some (.int x3), some (.int x4), none, none] [] σ Q := by
  refine r_iload ok146 19 rfl rfl rfl ?_
  refine r_aload_n ok146 20 rfl rfl rfl ?_
  obtain ⟨c1, s1, h1⟩ := h
  refine r_getR ok146 21 rfl rfl rfl rfl c1 ?_
  refine r_getI ok146 22 rfl rfl s1 rfl ?_
  refine r_icmp_ge ok146 23 rfl rfl (fun c2 => ?_) (fun c2 => ?_)
  · have h2 := h1.1 c2
    refine r_iconst (v := (-1)) ok146 66 rfl rfl rfl ?_
    exact r_iret ok146 67 rfl rfl rfl h2
  · have h2 := h1.2 c2
    refine r_iload_n ok146 24 rfl rfl rfl ?_
    refine r_iload ok146 25 rfl rfl rfl ?_
    refine r_ishr ok146 26 rfl rfl ?_
    refine r_iconst (v := 1) ok146 27 rfl rfl rfl ?_
    refine r_iand ok146 28 rfl rfl ?_
    refine r_if_eq ok146 29 rfl rfl (fun c3 => ?_) (fun c3 => ?_)
    · have h3 := h2.1 c3
      refine r_iconst (v := 0) ok146 39 rfl rfl rfl ?_
      refine r_istore ok146 40 rfl rfl ?_
      refine r_iload_n ok146 41 rfl rfl rfl ?_
      refine r_iload ok146 42 rfl rfl rfl ?_
      refine r_ishr ok146 43 rfl rfl ?_
      refine r_iconst (v := 1) ok146 44 rfl rfl rfl ?_
      refine r_iand ok146 45 rfl rfl ?_
      refine r_if_eq ok146 46 rfl rfl (fun c4 => ?_) (fun c4 => ?_)
      · have h4 := h3.1 c4
        refine r_iconst (v := 0) ok146 56 rfl rfl rfl ?_
        refine r_istore ok146 57 rfl rfl ?_
        refine r_iload ok146 58 rfl rfl rfl ?_
        refine r_if_ne ok146 59 rfl rfl (fun c5 => absurd c5 (by decide)) (fun _ => ?_)
        refine r_iload ok146 60 rfl rfl rfl ?_
        refine r_if_eq ok146 61 rfl rfl (fun _ => ?_) (fun c6 => absurd c6 (by decide))
        refine r_iinc (v := x4 + 1) ok146 64 rfl rfl rfl rfl ?_
        refine r_goto ok146 65 rfl rfl ?_
        exact G.weak (L' := [some (.ref 0), some (.int x1), some (.int x2), some (.int x3), some (.int (x4 + 1)), none, none]) ⟨rfl, ⟨rfl, ⟨rfl, ⟨rfl, ⟨rfl, trivial⟩⟩⟩⟩⟩ h4
      · have h4 := h3.2 c4
        refine r_iload_n ok146 47 rfl rfl rfl ?_
        refine r_aload_n ok146 48 rfl rfl rfl ?_
        obtain ⟨c7, s7, h7⟩ := h4
        refine r_getR ok146 49 rfl rfl rfl rfl c7 ?_
        refine r_getF ok146 50 rfl rfl s7 rfl ?_
        refine r_iload ok146 51 rfl rfl rfl ?_
        obtain ⟨c8, h8⟩ := h7
        refine r_iald ok146 52 rfl rfl (rel_shp s7 (i := 8) rfl) c8 ?_
        refine r_icmp_le ok146 53 rfl rfl (fun c9 => ?_) (fun c9 => ?_)
        · have h9 := h8.1 c9
          refine r_iconst (v := 0) ok146 56 rfl rfl rfl ?_
          refine r_istore ok146 57 rfl rfl ?_
          refine r_iload ok146 58 rfl rfl rfl ?_
          refine r_if_ne ok146 59 rfl rfl (fun c10 => absurd c10 (by decide)) (fun _ => ?_)
          refine r_iload ok146 60 rfl rfl rfl ?_
          refine r_if_eq ok146 61 rfl rfl (fun _ => ?_) (fun c11 => absurd c11 (by decide))
          refine r_iinc (v := x4 + 1) ok146 64 rfl rfl rfl rfl ?_
          refine r_goto ok146 65 rfl rfl ?_
          exact G.weak (L' := [some (.ref 0), some (.int x1), some (.int x2), some (.int x3), some (.int (x4 + 1)), none, none]) ⟨rfl, ⟨rfl, ⟨rfl, ⟨rfl, ⟨rfl, trivial⟩⟩⟩⟩⟩ h9
        · have h9 := h8.2 c9
          refine r_iconst (v := 1) ok146 54 rfl rfl rfl ?_
          refine r_goto ok146 55 rfl rfl ?_
          refine r_istore ok146 57 rfl rfl ?_
          refine r_iload ok146 58 rfl rfl rfl ?_
          refine r_if_ne ok146 59 rfl rfl (fun c12 => absurd c12 (by decide)) (fun _ => ?_)
          refine r_iload ok146 60 rfl rfl rfl ?_
          refine r_if_eq ok146 61 rfl rfl (fun c13 => absurd c13 (by decide)) (fun _ => ?_)
          refine r_iload ok146 62 rfl rfl rfl ?_
          exact r_iret ok146 63 rfl rfl rfl h9
    · have h3 := h2.2 c3
      refine r_iload_n ok146 30 rfl rfl rfl ?_
      refine r_aload_n ok146 31 rfl rfl rfl ?_
      obtain ⟨c14, s14, h14⟩ := h3
      refine r_getR ok146 32 rfl rfl rfl rfl c14 ?_
      refine r_getF ok146 33 rfl rfl s14 rfl ?_
      refine r_iload ok146 34 rfl rfl rfl ?_
      obtain ⟨c15, h15⟩ := h14
      refine r_iald ok146 35 rfl rfl (rel_shp s14 (i := 8) rfl) c15 ?_
      refine r_icmp_ge ok146 36 rfl rfl (fun c16 => ?_) (fun c16 => ?_)
      · have h16 := h15.1 c16
        refine r_iconst (v := 0) ok146 39 rfl rfl rfl ?_
        refine r_istore ok146 40 rfl rfl ?_
        refine r_iload_n ok146 41 rfl rfl rfl ?_
        refine r_iload ok146 42 rfl rfl rfl ?_
        refine r_ishr ok146 43 rfl rfl ?_
        refine r_iconst (v := 1) ok146 44 rfl rfl rfl ?_
        refine r_iand ok146 45 rfl rfl ?_
        refine r_if_eq ok146 46 rfl rfl (fun c17 => ?_) (fun c17 => ?_)
        · have h17 := h16.1 c17
          refine r_iconst (v := 0) ok146 56 rfl rfl rfl ?_
          refine r_istore ok146 57 rfl rfl ?_
          refine r_iload ok146 58 rfl rfl rfl ?_
          refine r_if_ne ok146 59 rfl rfl (fun c18 => absurd c18 (by decide)) (fun _ => ?_)
          refine r_iload ok146 60 rfl rfl rfl ?_
          refine r_if_eq ok146 61 rfl rfl (fun _ => ?_) (fun c19 => absurd c19 (by decide))
          refine r_iinc (v := x4 + 1) ok146 64 rfl rfl rfl rfl ?_
          refine r_goto ok146 65 rfl rfl ?_
          exact G.weak (L' := [some (.ref 0), some (.int x1), some (.int x2), some (.int x3), some (.int (x4 + 1)), none, none]) ⟨rfl, ⟨rfl, ⟨rfl, ⟨rfl, ⟨rfl, trivial⟩⟩⟩⟩⟩ h17
        · have h17 := h16.2 c17
          refine r_iload_n ok146 47 rfl rfl rfl ?_
          refine r_aload_n ok146 48 rfl rfl rfl ?_
          obtain ⟨c20, s20, h20⟩ := h17
          refine r_getR ok146 49 rfl rfl rfl rfl c20 ?_
          refine r_getF ok146 50 rfl rfl s20 rfl ?_
          refine r_iload ok146 51 rfl rfl rfl ?_
          obtain ⟨c21, h21⟩ := h20
          refine r_iald ok146 52 rfl rfl (rel_shp s20 (i := 8) rfl) c21 ?_
          refine r_icmp_le ok146 53 rfl rfl (fun c22 => ?_) (fun c22 => ?_)
          · have h22 := h21.1 c22
            refine r_iconst (v := 0) ok146 56 rfl rfl rfl ?_
            refine r_istore ok146 57 rfl rfl ?_
            refine r_iload ok146 58 rfl rfl rfl ?_
            refine r_if_ne ok146 59 rfl rfl (fun c23 => absurd c23 (by decide)) (fun _ => ?_)
            refine r_iload ok146 60 rfl rfl rfl ?_
            refine r_if_eq ok146 61 rfl rfl (fun _ => ?_) (fun c24 => absurd c24 (by decide))
            refine r_iinc (v := x4 + 1) ok146 64 rfl rfl rfl rfl ?_
            refine r_goto ok146 65 rfl rfl ?_
            exact G.weak (L' := [some (.ref 0), some (.int x1), some (.int x2), some (.int x3), some (.int (x4 + 1)), none, none]) ⟨rfl, ⟨rfl, ⟨rfl, ⟨rfl, ⟨rfl, trivial⟩⟩⟩⟩⟩ h22
          · have h22 := h21.2 c22
            refine r_iconst (v := 1) ok146 54 rfl rfl rfl ?_
            refine r_goto ok146 55 rfl rfl ?_
            refine r_istore ok146 57 rfl rfl ?_
            refine r_iload ok146 58 rfl rfl rfl ?_
            refine r_if_ne ok146 59 rfl rfl (fun c25 => absurd c25 (by decide)) (fun _ => ?_)
            refine r_iload ok146 60 rfl rfl rfl ?_
            refine r_if_eq ok146 61 rfl rfl (fun c26 => absurd c26 (by decide)) (fun _ => ?_)
            refine r_iload ok146 62 rfl rfl rfl ?_
            exact r_iret ok146 63 rfl rfl rfl h22
      · have h16 := h15.2 c16
        refine r_iconst (v := 1) ok146 37 rfl rfl rfl ?_
        refine r_goto ok146 38 rfl rfl ?_
        refine r_istore ok146 40 rfl rfl ?_
        refine r_iload_n ok146 41 rfl rfl rfl ?_
        refine r_iload ok146 42 rfl rfl rfl ?_
        refine r_ishr ok146 43 rfl rfl ?_
        refine r_iconst (v := 1) ok146 44 rfl rfl rfl ?_
        refine r_iand ok146 45 rfl rfl ?_
        refine r_if_eq ok146 46 rfl rfl (fun c27 => ?_) (fun c27 => ?_)
        · have h27 := h16.1 c27
          refine r_iconst (v := 0) ok146 56 rfl rfl rfl ?_
          refine r_istore ok146 57 rfl rfl ?_
          refine r_iload ok146 58 rfl rfl rfl ?_
          refine r_if_ne ok146 59 rfl rfl (fun _ => ?_) (fun c28 => absurd c28 (by decide))
          refine r_iload ok146 62 rfl rfl rfl ?_
          exact r_iret ok146 63 rfl rfl rfl h27
        · have h27 := h16.2 c27
          refine r_iload_n ok146 47 rfl rfl rfl ?_
          refine r_aload_n ok146 48 rfl rfl rfl ?_
          obtain ⟨c29, s29, h29⟩ := h27
          refine r_getR ok146 49 rfl rfl rfl rfl c29 ?_
          refine r_getF ok146 50 rfl rfl s29 rfl ?_
          refine r_iload ok146 51 rfl rfl rfl ?_
          obtain ⟨c30, h30⟩ := h29
          refine r_iald ok146 52 rfl rfl (rel_shp s29 (i := 8) rfl) c30 ?_
          refine r_icmp_le ok146 53 rfl rfl (fun c31 => ?_) (fun c31 => ?_)
          · have h31 := h30.1 c31
            refine r_iconst (v := 0) ok146 56 rfl rfl rfl ?_
            refine r_istore ok146 57 rfl rfl ?_
            refine r_iload ok146 58 rfl rfl rfl ?_
            refine r_if_ne ok146 59 rfl rfl (fun _ => ?_) (fun c32 => absurd c32 (by decide))
            refine r_iload ok146 62 rfl rfl rfl ?_
            exact r_iret ok146 63 rfl rfl rfl h31
          · have h31 := h30.2 c31
            refine r_iconst (v := 1) ok146 54 rfl rfl rfl ?_
            refine r_goto ok146 55 rfl rfl ?_
            refine r_istore ok146 57 rfl rfl ?_
            refine r_iload ok146 58 rfl rfl rfl ?_
            refine r_if_ne ok146 59 rfl rfl (fun _ => ?_) (fun c33 => absurd c33 (by decide))
            refine r_iload ok146 62 rfl rfl rfl ?_
            exact r_iret ok146 63 rfl rfl rfl h31

theorem K146 {Θ : Th} {d : Nat} {σ : Mem} {Q : Po} {x1 : Int32} (h : G Θ (d + 1) 146 0 [some (.ref 0), some (.int x1), none, none, none, none, none] [] σ Q) : Cm Θ (d + 1) 146 [.ref 0, .int x1] σ Q :=
  C_of_G okM146 (Nat.le_of_ble_eq_true rfl) rfl h

-- 147: LikeYears.come(IIII)I
set_option maxRecDepth 100000 in
set_option maxHeartbeats 4000000 in
theorem B147_0 {Θ : Th} {d : Nat} {σ : Mem} {Q : Po} {x1 : Int32} {x2 : Int32} {x3 : Int32} {x4 : Int32} 
    (h : ((x1 < 0 → Q (some (.int (-1))) σ) ∧ (¬ x1 < 0 → ((9 < x1 → Q (some (.int (-1))) σ) ∧ (¬ 9 < x1 → Ci Θ d 156 [.int x2] σ (fun v5 σ5 => ((v5 = 0 → Q (some (.int (-1))) σ5) ∧ (¬ v5 = 0 → Ci Θ d 157 [.int x3] σ5 (fun v8 σ8 => ((v8 = 0 → Q (some (.int (-1))) σ8) ∧ (¬ v8 = 0 → ((x4 < 1 → Q (some (.int (-1))) σ8) ∧ (¬ x4 < 1 → ((4 < x4 → Q (some (.int (-1))) σ8) ∧ (¬ 4 < x4 → (σ8.2.2 0 2 ≠ 0 ∧ (shq (σ8.2.2 0 2)).1 = 1 ∧ (((σ8.1 (σ8.2.2 0 2) 4) < 16 → (σ8.2.2 0 2 ≠ 0 ∧ (shq (σ8.2.2 0 2)).1 = 1 ∧ (σ8.2.2 0 2 ≠ 0 ∧ (shq (σ8.2.2 0 2)).1 = 1 ∧ Cv Θ d 9 [.ref (σ8.2.2 0 2), .int (σ8.1 (σ8.2.2 0 2) 4), .int x1, .int x2, .int x3, .int x4] σ8 (fun σ20 => G Θ (d + 1) 147 88 [some (.ref 0), none, none, none, none, none, some (.int (σ8.1 (σ8.2.2 0 2) 4)), some (.int 0)] [] σ20 Q)))) ∧ (¬ (σ8.1 (σ8.2.2 0 2) 4) < 16 → Q (some (.int (-1))) σ8)))))))))))))))))) :
    G Θ (d + 1) 147 0 [some (.ref 0), some (.int x1), some (.int x2), some (.int x3), some (.int x4), none, none, none] [] σ Q := by
  refine r_iload_n ok147 0 rfl rfl rfl ?_
  refine r_if_lt ok147 1 rfl rfl (fun c1 => ?_) (fun c1 => ?_)
  · have h1 := h.1 c1
    refine r_iconst (v := 0) ok147 19 rfl rfl rfl ?_
    refine r_istore ok147 20 rfl rfl ?_
    refine r_iload ok147 21 rfl rfl rfl ?_
    refine r_if_eq ok147 22 rfl rfl (fun _ => ?_) (fun c2 => absurd c2 (by decide))
    refine r_iconst (v := (-1)) ok147 28 rfl rfl rfl ?_
    exact r_iret ok147 29 rfl rfl rfl h1
  · have h1 := h.2 c1
    refine r_iload_n ok147 2 rfl rfl rfl ?_
    refine r_bipush (v := 9) ok147 3 rfl rfl rfl ?_
    refine r_icmp_gt ok147 4 rfl rfl (fun c3 => ?_) (fun c3 => ?_)
    · have h3 := h1.1 c3
      refine r_iconst (v := 0) ok147 19 rfl rfl rfl ?_
      refine r_istore ok147 20 rfl rfl ?_
      refine r_iload ok147 21 rfl rfl rfl ?_
      refine r_if_eq ok147 22 rfl rfl (fun _ => ?_) (fun c4 => absurd c4 (by decide))
      refine r_iconst (v := (-1)) ok147 28 rfl rfl rfl ?_
      exact r_iret ok147 29 rfl rfl rfl h3
    · have h3 := h1.2 c3
      refine r_iload_n ok147 5 rfl rfl rfl ?_
      refine r_invSi (as := [.int x2]) (S := []) ok147 6 rfl rfl mf156 rfl (Nat.le_of_ble_eq_true rfl) rfl h3 (fun v5 σ5 h5 => ?_)
      refine r_if_eq ok147 7 rfl rfl (fun c6 => ?_) (fun c6 => ?_)
      · have h6 := h5.1 c6
        refine r_iconst (v := 0) ok147 19 rfl rfl rfl ?_
        refine r_istore ok147 20 rfl rfl ?_
        refine r_iload ok147 21 rfl rfl rfl ?_
        refine r_if_eq ok147 22 rfl rfl (fun _ => ?_) (fun c7 => absurd c7 (by decide))
        refine r_iconst (v := (-1)) ok147 28 rfl rfl rfl ?_
        exact r_iret ok147 29 rfl rfl rfl h6
      · have h6 := h5.2 c6
        refine r_iload_n ok147 8 rfl rfl rfl ?_
        refine r_invSi (as := [.int x3]) (S := []) ok147 9 rfl rfl mf157 rfl (Nat.le_of_ble_eq_true rfl) rfl h6 (fun v8 σ8 h8 => ?_)
        refine r_if_eq ok147 10 rfl rfl (fun c9 => ?_) (fun c9 => ?_)
        · have h9 := h8.1 c9
          refine r_iconst (v := 0) ok147 19 rfl rfl rfl ?_
          refine r_istore ok147 20 rfl rfl ?_
          refine r_iload ok147 21 rfl rfl rfl ?_
          refine r_if_eq ok147 22 rfl rfl (fun _ => ?_) (fun c10 => absurd c10 (by decide))
          refine r_iconst (v := (-1)) ok147 28 rfl rfl rfl ?_
          exact r_iret ok147 29 rfl rfl rfl h9
        · have h9 := h8.2 c9
          refine r_iload ok147 11 rfl rfl rfl ?_
          refine r_iconst (v := 1) ok147 12 rfl rfl rfl ?_
          refine r_icmp_lt ok147 13 rfl rfl (fun c11 => ?_) (fun c11 => ?_)
          · have h11 := h9.1 c11
            refine r_iconst (v := 0) ok147 19 rfl rfl rfl ?_
            refine r_istore ok147 20 rfl rfl ?_
            refine r_iload ok147 21 rfl rfl rfl ?_
            refine r_if_eq ok147 22 rfl rfl (fun _ => ?_) (fun c12 => absurd c12 (by decide))
            refine r_iconst (v := (-1)) ok147 28 rfl rfl rfl ?_
            exact r_iret ok147 29 rfl rfl rfl h11
          · have h11 := h9.2 c11
            refine r_iload ok147 14 rfl rfl rfl ?_
            refine r_iconst (v := 4) ok147 15 rfl rfl rfl ?_
            refine r_icmp_gt ok147 16 rfl rfl (fun c13 => ?_) (fun c13 => ?_)
            · have h13 := h11.1 c13
              refine r_iconst (v := 0) ok147 19 rfl rfl rfl ?_
              refine r_istore ok147 20 rfl rfl ?_
              refine r_iload ok147 21 rfl rfl rfl ?_
              refine r_if_eq ok147 22 rfl rfl (fun _ => ?_) (fun c14 => absurd c14 (by decide))
              refine r_iconst (v := (-1)) ok147 28 rfl rfl rfl ?_
              exact r_iret ok147 29 rfl rfl rfl h13
            · have h13 := h11.2 c13
              refine r_iconst (v := 1) ok147 17 rfl rfl rfl ?_
              refine r_goto ok147 18 rfl rfl ?_
              refine r_istore ok147 20 rfl rfl ?_
              refine r_iload ok147 21 rfl rfl rfl ?_
              refine r_if_eq ok147 22 rfl rfl (fun c15 => absurd c15 (by decide)) (fun _ => ?_)
              refine r_aload_n ok147 23 rfl rfl rfl ?_
              obtain ⟨c16, s16, h16⟩ := h13
              refine r_getR ok147 24 rfl rfl rfl rfl c16 ?_
              refine r_getI ok147 25 rfl rfl s16 rfl ?_
              refine r_bipush (v := 16) ok147 26 rfl rfl rfl ?_
              refine r_icmp_lt ok147 27 rfl rfl (fun c17 => ?_) (fun c17 => ?_)
              · have h17 := h16.1 c17
                refine r_aload_n ok147 30 rfl rfl rfl ?_
                obtain ⟨c18, s18, h18⟩ := h17
                refine r_getR ok147 31 rfl rfl rfl rfl c18 ?_
                refine r_getI ok147 32 rfl rfl s18 rfl ?_
                refine r_istore ok147 33 rfl rfl ?_
                refine r_aload_n ok147 34 rfl rfl rfl ?_
                obtain ⟨c19, s19, h19⟩ := h18
                refine r_getR ok147 35 rfl rfl rfl rfl c19 ?_
                refine r_iload ok147 36 rfl rfl rfl ?_
                refine r_iload_n ok147 37 rfl rfl rfl ?_
                refine r_iload_n ok147 38 rfl rfl rfl ?_
                refine r_iload_n ok147 39 rfl rfl rfl ?_
                refine r_iload ok147 40 rfl rfl rfl ?_
                refine r_invVv (as := [.int (σ8.1 (σ8.2.2 0 2) 4), .int x1, .int x2, .int x3, .int x4]) (S := []) ok147 41 rfl rfl mf9 s19 rfl (Nat.le_of_ble_eq_true rfl) rfl h19 (fun σ20 h20 => ?_)
                refine r_iconst (v := 0) ok147 42 rfl rfl rfl ?_
                refine r_istore ok147 43 rfl rfl ?_
                exact G.weak (L' := [some (.ref 0), none, none, none, none, none, some (.int (σ8.1 (σ8.2.2 0 2) 4)), some (.int 0)]) ⟨rfl, ⟨rfl, ⟨rfl, trivial⟩⟩⟩ h20
              · have h17 := h16.2 c17
                refine r_iconst (v := (-1)) ok147 28 rfl rfl rfl ?_
                exact r_iret ok147 29 rfl rfl rfl h17

set_option maxRecDepth 100000 in
set_option maxHeartbeats 4000000 in
theorem B147_88 {Θ : Th} {d : Nat} {σ : Mem} {Q : Po} {x6 : Int32} {x7 : Int32} 
    (h : (σ.2.2 0 2 ≠ 0 ∧ (shq (σ.2.2 0 2)).1 = 1 ∧ (((σ.1 (σ.2.2 0 2) 0) ≤ x7 → Cv Θ d 167 [.ref 0, .int 0, .int x6, .int 0, .int 0] σ (fun σ3 => Q (some (.int x6)) σ3)) ∧ (¬ (σ.1 (σ.2.2 0 2) 0) ≤ x7 → (σ.2.2 0 2 ≠ 0 ∧ (shq (σ.2.2 0 2)).1 = 1 ∧ (σ.2.2 0 2 ≠ 0 ∧ (shq (σ.2.2 0 2)).1 = 1 ∧ Ci Θ d 15 [.ref (σ.2.2 0 2), .int 16, .int x7] σ (fun v6 σ6 => Cv Θ d 16 [.ref (σ.2.2 0 2), .int x6, .int x7, .int v6] σ6 (fun σ7 => G Θ (d + 1) 147 88 [some (.ref 0), none, none, none, none, none, some (.int x6), some (.int (x7 + 1))] [] σ7 Q)))))))) :
    G Θ (d + 1) 147 88 [some (.ref 0), none, none, none, none, none, some (.int x6), some (.int x7)] [] σ Q := by
  refine r_iload ok147 44 rfl rfl rfl ?_
  refine r_aload_n ok147 45 rfl rfl rfl ?_
  obtain ⟨c1, s1, h1⟩ := h
  refine r_getR ok147 46 rfl rfl rfl rfl c1 ?_
  refine r_getI ok147 47 rfl rfl s1 rfl ?_
  refine r_icmp_ge ok147 48 rfl rfl (fun c2 => ?_) (fun c2 => ?_)
  · have h2 := h1.1 c2
    refine r_aload_n ok147 61 rfl rfl rfl ?_
    refine r_iconst (v := 0) ok147 62 rfl rfl rfl ?_
    refine r_iload ok147 63 rfl rfl rfl ?_
    refine r_iconst (v := 0) ok147 64 rfl rfl rfl ?_
    refine r_iconst (v := 0) ok147 65 rfl rfl rfl ?_
    refine r_invVv (as := [.int 0, .int x6, .int 0, .int 0]) (S := []) ok147 66 rfl rfl mf167 rfl rfl (Nat.le_of_ble_eq_true rfl) rfl h2 (fun σ3 h3 => ?_)
    refine r_iload ok147 67 rfl rfl rfl ?_
    exact r_iret ok147 68 rfl rfl rfl h3
  · have h2 := h1.2 c2
    refine r_aload_n ok147 49 rfl rfl rfl ?_
    obtain ⟨c4, s4, h4⟩ := h2
    refine r_getR ok147 50 rfl rfl rfl rfl c4 ?_
    refine r_iload ok147 51 rfl rfl rfl ?_
    refine r_iload ok147 52 rfl rfl rfl ?_
    refine r_aload_n ok147 53 rfl rfl rfl ?_
    obtain ⟨c5, s5, h5⟩ := h4
    refine r_getR ok147 54 rfl rfl rfl rfl c5 ?_
    refine r_bipush (v := 16) ok147 55 rfl rfl rfl ?_
    refine r_iload ok147 56 rfl rfl rfl ?_
    refine r_invVi (as := [.int 16, .int x7]) (S := [.int x7, .int x6, .ref (σ.2.2 0 2)]) ok147 57 rfl rfl mf15 s5 rfl (Nat.le_of_ble_eq_true rfl) rfl h5 (fun v6 σ6 h6 => ?_)
    refine r_invVv (as := [.int x6, .int x7, .int v6]) (S := []) ok147 58 rfl rfl mf16 s4 rfl (Nat.le_of_ble_eq_true rfl) rfl h6 (fun σ7 h7 => ?_)
    refine r_iinc (v := x7 + 1) ok147 59 rfl rfl rfl rfl ?_
    refine r_goto ok147 60 rfl rfl ?_
    exact h7

theorem K147 {Θ : Th} {d : Nat} {σ : Mem} {Q : Po} {x1 : Int32} {x2 : Int32} {x3 : Int32} {x4 : Int32} (h : G Θ (d + 1) 147 0 [some (.ref 0), some (.int x1), some (.int x2), some (.int x3), some (.int x4), none, none, none] [] σ Q) : Cm Θ (d + 1) 147 [.ref 0, .int x1, .int x2, .int x3, .int x4] σ Q :=
  C_of_G okM147 (Nat.le_of_ble_eq_true rfl) rfl h

-- 148: LikeYears.count(IZ)Z
set_option maxRecDepth 100000 in
set_option maxHeartbeats 4000000 in
theorem B148_0 {Θ : Th} {d : Nat} {σ : Mem} {Q : Po} {x1 : Int32} {x2 : Int32} 
    (h : (σ.2.2 0 2 ≠ 0 ∧ (shq (σ.2.2 0 2)).1 = 1 ∧ Ci Θ d 11 [.ref (σ.2.2 0 2), .int x1] σ (fun v2 σ2 => ((v2 = 0 → Q (some (.int 0)) σ2) ∧ (¬ v2 = 0 → (σ2.2.2 0 2 ≠ 0 ∧ (shq (σ2.2.2 0 2)).1 = 1 ∧ Ci Θ d 14 [.ref (σ2.2.2 0 2), .int x1] σ2 (fun v5 σ5 => ((¬ v5 = x2 → (σ5.2.2 0 2 ≠ 0 ∧ (shq (σ5.2.2 0 2)).1 = 1 ∧ (σ5.2.2 0 2 ≠ 0 ∧ (shq (σ5.2.2 0 2)).1 = 1 ∧ Cv Θ d 76 [.ref 6, .ref (σ5.2.2 0 2), .int ((σ5.1 (σ5.2.2 0 2) 3) ^^^ ((1 : Int32) <<< (x1 &&& 31)))] σ5 (fun σ9 => (σ9.2.2 0 2 ≠ 0 ∧ (shq (σ9.2.2 0 2)).1 = 1 ∧ Ci Θ d 77 [.ref 6, .ref (σ9.2.2 0 2)] σ9 (fun v11 σ11 => ((v11 < 0 → ((x2 = 0 → ((x2 = 0 → Cv Θ d 167 [.ref 0, .int 1, .int x1, .int 1, .int 0] σ11 (fun σ15 => Q (some (.int 1)) σ15)) ∧ (¬ x2 = 0 → Cv Θ d 167 [.ref 0, .int 1, .int x1, .int 1, .int 1] σ11 (fun σ16 => Q (some (.int 1)) σ16)))) ∧ (¬ x2 = 0 → ((x2 = 0 → Cv Θ d 167 [.ref 0, .int 1, .int x1, .int 0, .int 0] σ11 (fun σ18 => Q (some (.int 1)) σ18)) ∧ (¬ x2 = 0 → Cv Θ d 167 [.ref 0, .int 1, .int x1, .int 0, .int 1] σ11 (fun σ19 => Q (some (.int 1)) σ19)))))) ∧ (¬ v11 < 0 → Q (some (.int 0)) σ11)))))))) ∧ (v5 = x2 → Q (some (.int 0)) σ5))))))))) :
    G Θ (d + 1) 148 0 [some (.ref 0), some (.int x1), some (.int x2)] [] σ Q := by
  refine r_aload_n ok148 0 rfl rfl rfl ?_
  obtain ⟨c1, s1, h1⟩ := h
  refine r_getR ok148 1 rfl rfl rfl rfl c1 ?_
  refine r_iload_n ok148 2 rfl rfl rfl ?_
  refine r_invVi (as := [.int x1]) (S := []) ok148 3 rfl rfl mf11 s1 rfl (Nat.le_of_ble_eq_true rfl) rfl h1 (fun v2 σ2 h2 => ?_)
  refine r_if_eq ok148 4 rfl rfl (fun c3 => ?_) (fun c3 => ?_)
  · have h3 := h2.1 c3
    refine r_iconst (v := 0) ok148 11 rfl rfl rfl ?_
    exact r_zret ok148 12 rfl rfl rfl (Or.inl rfl) h3
  · have h3 := h2.2 c3
    refine r_aload_n ok148 5 rfl rfl rfl ?_
    obtain ⟨c4, s4, h4⟩ := h3
    refine r_getR ok148 6 rfl rfl rfl rfl c4 ?_
    refine r_iload_n ok148 7 rfl rfl rfl ?_
    refine r_invVi (as := [.int x1]) (S := []) ok148 8 rfl rfl mf14 s4 rfl (Nat.le_of_ble_eq_true rfl) rfl h4 (fun v5 σ5 h5 => ?_)
    refine r_iload_n ok148 9 rfl rfl rfl ?_
    refine r_icmp_ne ok148 10 rfl rfl (fun c6 => ?_) (fun c6 => ?_)
    · have h6 := h5.1 c6
      refine r_aload_n ok148 13 rfl rfl rfl ?_
      refine r_getA ok148 14 rfl rfl rfl rfl ?_
      refine r_aload_n ok148 15 rfl rfl rfl ?_
      obtain ⟨c7, s7, h7⟩ := h6
      refine r_getR ok148 16 rfl rfl rfl rfl c7 ?_
      refine r_aload_n ok148 17 rfl rfl rfl ?_
      obtain ⟨c8, s8, h8⟩ := h7
      refine r_getR ok148 18 rfl rfl rfl rfl c8 ?_
      refine r_getI ok148 19 rfl rfl s8 rfl ?_
      refine r_iconst (v := 1) ok148 20 rfl rfl rfl ?_
      refine r_iload_n ok148 21 rfl rfl rfl ?_
      refine r_ishl ok148 22 rfl rfl ?_
      refine r_ixor ok148 23 rfl rfl ?_
      refine r_invVv (as := [.ref (σ5.2.2 0 2), .int ((σ5.1 (σ5.2.2 0 2) 3) ^^^ ((1 : Int32) <<< (x1 &&& 31)))]) (S := []) ok148 24 rfl rfl mf76 rfl rfl (Nat.le_of_ble_eq_true rfl) rfl h8 (fun σ9 h9 => ?_)
      refine r_aload_n ok148 25 rfl rfl rfl ?_
      refine r_getA ok148 26 rfl rfl rfl rfl ?_
      refine r_aload_n ok148 27 rfl rfl rfl ?_
      obtain ⟨c10, s10, h10⟩ := h9
      refine r_getR ok148 28 rfl rfl rfl rfl c10 ?_
      refine r_invVi (as := [.ref (σ9.2.2 0 2)]) (S := []) ok148 29 rfl rfl mf77 rfl rfl (Nat.le_of_ble_eq_true rfl) rfl h10 (fun v11 σ11 h11 => ?_)
      refine r_if_lt ok148 30 rfl rfl (fun c12 => ?_) (fun c12 => ?_)
      · have h12 := h11.1 c12
        refine r_aload_n ok148 33 rfl rfl rfl ?_
        refine r_iconst (v := 1) ok148 34 rfl rfl rfl ?_
        refine r_iload_n ok148 35 rfl rfl rfl ?_
        refine r_iload_n ok148 36 rfl rfl rfl ?_
        refine r_if_eq ok148 37 rfl rfl (fun c13 => ?_) (fun c13 => ?_)
        · have h13 := h12.1 c13
          refine r_iconst (v := 1) ok148 40 rfl rfl rfl ?_
          refine r_iload_n ok148 41 rfl rfl rfl ?_
          refine r_if_eq ok148 42 rfl rfl (fun c14 => ?_) (fun c14 => ?_)
          · have h14 := h13.1 c14
            refine r_iconst (v := 0) ok148 45 rfl rfl rfl ?_
            refine r_invVv (as := [.int 1, .int x1, .int 1, .int 0]) (S := []) ok148 46 rfl rfl mf167 rfl rfl (Nat.le_of_ble_eq_true rfl) rfl h14 (fun σ15 h15 => ?_)
            refine r_iconst (v := 1) ok148 47 rfl rfl rfl ?_
            exact r_zret ok148 48 rfl rfl rfl (Or.inr rfl) h15
          · have h14 := h13.2 c14
            refine r_iconst (v := 1) ok148 43 rfl rfl rfl ?_
            refine r_goto ok148 44 rfl rfl ?_
            refine r_invVv (as := [.int 1, .int x1, .int 1, .int 1]) (S := []) ok148 46 rfl rfl mf167 rfl rfl (Nat.le_of_ble_eq_true rfl) rfl h14 (fun σ16 h16 => ?_)
            refine r_iconst (v := 1) ok148 47 rfl rfl rfl ?_
            exact r_zret ok148 48 rfl rfl rfl (Or.inr rfl) h16
        · have h13 := h12.2 c13
          refine r_iconst (v := 0) ok148 38 rfl rfl rfl ?_
          refine r_goto ok148 39 rfl rfl ?_
          refine r_iload_n ok148 41 rfl rfl rfl ?_
          refine r_if_eq ok148 42 rfl rfl (fun c17 => ?_) (fun c17 => ?_)
          · have h17 := h13.1 c17
            refine r_iconst (v := 0) ok148 45 rfl rfl rfl ?_
            refine r_invVv (as := [.int 1, .int x1, .int 0, .int 0]) (S := []) ok148 46 rfl rfl mf167 rfl rfl (Nat.le_of_ble_eq_true rfl) rfl h17 (fun σ18 h18 => ?_)
            refine r_iconst (v := 1) ok148 47 rfl rfl rfl ?_
            exact r_zret ok148 48 rfl rfl rfl (Or.inr rfl) h18
          · have h17 := h13.2 c17
            refine r_iconst (v := 1) ok148 43 rfl rfl rfl ?_
            refine r_goto ok148 44 rfl rfl ?_
            refine r_invVv (as := [.int 1, .int x1, .int 0, .int 1]) (S := []) ok148 46 rfl rfl mf167 rfl rfl (Nat.le_of_ble_eq_true rfl) rfl h17 (fun σ19 h19 => ?_)
            refine r_iconst (v := 1) ok148 47 rfl rfl rfl ?_
            exact r_zret ok148 48 rfl rfl rfl (Or.inr rfl) h19
      · have h12 := h11.2 c12
        refine r_iconst (v := 0) ok148 31 rfl rfl rfl ?_
        exact r_zret ok148 32 rfl rfl rfl (Or.inl rfl) h12
    · have h6 := h5.2 c6
      refine r_iconst (v := 0) ok148 11 rfl rfl rfl ?_
      exact r_zret ok148 12 rfl rfl rfl (Or.inl rfl) h6

theorem K148 {Θ : Th} {d : Nat} {σ : Mem} {Q : Po} {x1 : Int32} {x2 : Int32} (h : G Θ (d + 1) 148 0 [some (.ref 0), some (.int x1), some (.int x2)] [] σ Q) : Cm Θ (d + 1) 148 [.ref 0, .int x1, .int x2] σ Q :=
  C_of_G okM148 (Nat.le_of_ble_eq_true rfl) rfl h

-- 149: LikeYears.give(II)Z
set_option maxRecDepth 100000 in
set_option maxHeartbeats 4000000 in
theorem B149_0 {Θ : Th} {d : Nat} {σ : Mem} {Q : Po} {x1 : Int32} {x2 : Int32} 
    (h : (σ.2.2 0 2 ≠ 0 ∧ (shq (σ.2.2 0 2)).1 = 1 ∧ Ci Θ d 12 [.ref (σ.2.2 0 2), .int x1] σ (fun v2 σ2 => ((v2 = 0 → Q (some (.int 0)) σ2) ∧ (¬ v2 = 0 → Ci Θ d 157 [.int x2] σ2 (fun v4 σ4 => ((v4 = 0 → Q (some (.int 0)) σ4) ∧ (¬ v4 = 0 → (σ4.2.2 0 2 ≠ 0 ∧ (shq (σ4.2.2 0 2)).1 = 1 ∧ (vp_in x1 16 ∧ ((¬ (σ4.1 (σ4.2.2 0 2 + 5) x1.toNatClampNeg) = x2 → (σ4.2.2 0 2 ≠ 0 ∧ (shq (σ4.2.2 0 2)).1 = 1 ∧ (vp_in x1 16 ∧ Cv Θ d 167 [.ref 0, .int 2, .int x1, .int (σ4.1 (σ4.2.2 0 2 + 5) x1.toNatClampNeg), .int x2] σ4 (fun σ11 => Q (some (.int 1)) σ11)))) ∧ ((σ4.1 (σ4.2.2 0 2 + 5) x1.toNatClampNeg) = x2 → Q (some (.int 0)) σ4)))))))))))) :
    G Θ (d + 1) 149 0 [some (.ref 0), some (.int x1), some (.int x2)] [] σ Q := by
  refine r_aload_n ok149 0 rfl rfl rfl ?_
  obtain ⟨c1, s1, h1⟩ := h
  refine r_getR ok149 1 rfl rfl rfl rfl c1 ?_
  refine r_iload_n ok149 2 rfl rfl rfl ?_
  refine r_invVi (as := [.int x1]) (S := []) ok149 3 rfl rfl mf12 s1 rfl (Nat.le_of_ble_eq_true rfl) rfl h1 (fun v2 σ2 h2 => ?_)
  refine r_if_eq ok149 4 rfl rfl (fun c3 => ?_) (fun c3 => ?_)
  · have h3 := h2.1 c3
    refine r_iconst (v := 0) ok149 15 rfl rfl rfl ?_
    exact r_zret ok149 16 rfl rfl rfl (Or.inl rfl) h3
  · have h3 := h2.2 c3
    refine r_iload_n ok149 5 rfl rfl rfl ?_
    refine r_invSi (as := [.int x2]) (S := []) ok149 6 rfl rfl mf157 rfl (Nat.le_of_ble_eq_true rfl) rfl h3 (fun v4 σ4 h4 => ?_)
    refine r_if_eq ok149 7 rfl rfl (fun c5 => ?_) (fun c5 => ?_)
    · have h5 := h4.1 c5
      refine r_iconst (v := 0) ok149 15 rfl rfl rfl ?_
      exact r_zret ok149 16 rfl rfl rfl (Or.inl rfl) h5
    · have h5 := h4.2 c5
      refine r_aload_n ok149 8 rfl rfl rfl ?_
      obtain ⟨c6, s6, h6⟩ := h5
      refine r_getR ok149 9 rfl rfl rfl rfl c6 ?_
      refine r_getF ok149 10 rfl rfl s6 rfl ?_
      refine r_iload_n ok149 11 rfl rfl rfl ?_
      obtain ⟨c7, h7⟩ := h6
      refine r_iald ok149 12 rfl rfl (rel_shp s6 (i := 8) rfl) c7 ?_
      refine r_iload_n ok149 13 rfl rfl rfl ?_
      refine r_icmp_ne ok149 14 rfl rfl (fun c8 => ?_) (fun c8 => ?_)
      · have h8 := h7.1 c8
        refine r_aload_n ok149 17 rfl rfl rfl ?_
        refine r_iconst (v := 2) ok149 18 rfl rfl rfl ?_
        refine r_iload_n ok149 19 rfl rfl rfl ?_
        refine r_aload_n ok149 20 rfl rfl rfl ?_
        obtain ⟨c9, s9, h9⟩ := h8
        refine r_getR ok149 21 rfl rfl rfl rfl c9 ?_
        refine r_getF ok149 22 rfl rfl s9 rfl ?_
        refine r_iload_n ok149 23 rfl rfl rfl ?_
        obtain ⟨c10, h10⟩ := h9
        refine r_iald ok149 24 rfl rfl (rel_shp s9 (i := 8) rfl) c10 ?_
        refine r_iload_n ok149 25 rfl rfl rfl ?_
        refine r_invVv (as := [.int 2, .int x1, .int (σ4.1 (σ4.2.2 0 2 + 5) x1.toNatClampNeg), .int x2]) (S := []) ok149 26 rfl rfl mf167 rfl rfl (Nat.le_of_ble_eq_true rfl) rfl h10 (fun σ11 h11 => ?_)
        refine r_iconst (v := 1) ok149 27 rfl rfl rfl ?_
        exact r_zret ok149 28 rfl rfl rfl (Or.inr rfl) h11
      · have h8 := h7.2 c8
        refine r_iconst (v := 0) ok149 15 rfl rfl rfl ?_
        exact r_zret ok149 16 rfl rfl rfl (Or.inl rfl) h8

theorem K149 {Θ : Th} {d : Nat} {σ : Mem} {Q : Po} {x1 : Int32} {x2 : Int32} (h : G Θ (d + 1) 149 0 [some (.ref 0), some (.int x1), some (.int x2)] [] σ Q) : Cm Θ (d + 1) 149 [.ref 0, .int x1, .int x2] σ Q :=
  C_of_G okM149 (Nat.le_of_ble_eq_true rfl) rfl h

-- 150: LikeYears.undo()Z
set_option maxRecDepth 100000 in
set_option maxHeartbeats 4000000 in
theorem B150_0 {Θ : Th} {d : Nat} {σ : Mem} {Q : Po} 
    (h : (σ.2.2 0 2 ≠ 0 ∧ (shq (σ.2.2 0 2)).1 = 1 ∧ Ci Θ d 3 [.ref 78, .ref (σ.2.2 0 2)] σ (fun v2 σ2 => ((v2 = 0 → ((v2 = 0 ∨ v2 = 1) ∧ Q (some (.int v2)) (sI σ2 0 17 (σ2.1 0 17)))) ∧ (¬ v2 = 0 → ((v2 = 0 ∨ v2 = 1) ∧ Q (some (.int v2)) (sI σ2 0 17 0))))))) :
    G Θ (d + 1) 150 0 [some (.ref 0), none] [] σ Q := by
  refine r_aload_n ok150 0 rfl rfl rfl ?_
  refine r_getA ok150 1 rfl rfl rfl rfl ?_
  refine r_aload_n ok150 2 rfl rfl rfl ?_
  obtain ⟨c1, s1, h1⟩ := h
  refine r_getR ok150 3 rfl rfl rfl rfl c1 ?_
  refine r_invVi (as := [.ref (σ.2.2 0 2)]) (S := []) ok150 4 rfl rfl mf3 rfl rfl (Nat.le_of_ble_eq_true rfl) rfl h1 (fun v2 σ2 h2 => ?_)
  refine r_istore_n ok150 5 rfl rfl ?_
  refine r_aload_n ok150 6 rfl rfl rfl ?_
  refine r_iload_n ok150 7 rfl rfl rfl ?_
  refine r_if_eq ok150 8 rfl rfl (fun c3 => ?_) (fun c3 => ?_)
  · have h3 := h2.1 c3
    refine r_aload_n ok150 11 rfl rfl rfl ?_
    refine r_getI ok150 12 rfl rfl rfl rfl ?_
    refine r_putI ok150 13 rfl rfl rfl rfl ?_
    refine r_iload_n ok150 14 rfl rfl rfl ?_
    exact r_zret ok150 15 rfl rfl rfl h3.1 h3.2
  · have h3 := h2.2 c3
    refine r_iconst (v := 0) ok150 9 rfl rfl rfl ?_
    refine r_goto ok150 10 rfl rfl ?_
    refine r_putI ok150 13 rfl rfl rfl rfl ?_
    refine r_iload_n ok150 14 rfl rfl rfl ?_
    exact r_zret ok150 15 rfl rfl rfl h3.1 h3.2

theorem K150 {Θ : Th} {d : Nat} {σ : Mem} {Q : Po} (h : G Θ (d + 1) 150 0 [some (.ref 0), none] [] σ Q) : Cm Θ (d + 1) 150 [.ref 0] σ Q :=
  C_of_G okM150 (Nat.le_of_ble_eq_true rfl) rfl h

-- 151: LikeYears.redo()Z
set_option maxRecDepth 100000 in
set_option maxHeartbeats 4000000 in
theorem B151_0 {Θ : Th} {d : Nat} {σ : Mem} {Q : Po} 
    (h : (σ.2.2 0 2 ≠ 0 ∧ (shq (σ.2.2 0 2)).1 = 1 ∧ Ci Θ d 4 [.ref 78, .ref (σ.2.2 0 2)] σ (fun v2 σ2 => ((v2 = 0 → ((v2 = 0 ∨ v2 = 1) ∧ Q (some (.int v2)) (sI σ2 0 17 (σ2.1 0 17)))) ∧ (¬ v2 = 0 → ((v2 = 0 ∨ v2 = 1) ∧ Q (some (.int v2)) (sI σ2 0 17 0))))))) :
    G Θ (d + 1) 151 0 [some (.ref 0), none] [] σ Q := by
  refine r_aload_n ok151 0 rfl rfl rfl ?_
  refine r_getA ok151 1 rfl rfl rfl rfl ?_
  refine r_aload_n ok151 2 rfl rfl rfl ?_
  obtain ⟨c1, s1, h1⟩ := h
  refine r_getR ok151 3 rfl rfl rfl rfl c1 ?_
  refine r_invVi (as := [.ref (σ.2.2 0 2)]) (S := []) ok151 4 rfl rfl mf4 rfl rfl (Nat.le_of_ble_eq_true rfl) rfl h1 (fun v2 σ2 h2 => ?_)
  refine r_istore_n ok151 5 rfl rfl ?_
  refine r_aload_n ok151 6 rfl rfl rfl ?_
  refine r_iload_n ok151 7 rfl rfl rfl ?_
  refine r_if_eq ok151 8 rfl rfl (fun c3 => ?_) (fun c3 => ?_)
  · have h3 := h2.1 c3
    refine r_aload_n ok151 11 rfl rfl rfl ?_
    refine r_getI ok151 12 rfl rfl rfl rfl ?_
    refine r_putI ok151 13 rfl rfl rfl rfl ?_
    refine r_iload_n ok151 14 rfl rfl rfl ?_
    exact r_zret ok151 15 rfl rfl rfl h3.1 h3.2
  · have h3 := h2.2 c3
    refine r_iconst (v := 0) ok151 9 rfl rfl rfl ?_
    refine r_goto ok151 10 rfl rfl ?_
    refine r_putI ok151 13 rfl rfl rfl rfl ?_
    refine r_iload_n ok151 14 rfl rfl rfl ?_
    exact r_zret ok151 15 rfl rfl rfl h3.1 h3.2

theorem K151 {Θ : Th} {d : Nat} {σ : Mem} {Q : Po} (h : G Θ (d + 1) 151 0 [some (.ref 0), none] [] σ Q) : Cm Θ (d + 1) 151 [.ref 0] σ Q :=
  C_of_G okM151 (Nat.le_of_ble_eq_true rfl) rfl h

-- 152: LikeYears.keep(I)I
set_option maxRecDepth 100000 in
set_option maxHeartbeats 4000000 in
theorem B152_0 {Θ : Th} {d : Nat} {σ : Mem} {Q : Po} {x1 : Int32} 
    (h : ((x1 < 0 → Q (some (.int (-1))) σ) ∧ (¬ x1 < 0 → ((x1 < 3 → (vp_in x1 3 ∧ (σ.2.2 0 2 ≠ 0 ∧ (shq (σ.2.2 0 2)).1 = 1 ∧ Cv Θ d 19 [.ref (47 + 10 * x1.toNatClampNeg), .ref (σ.2.2 0 2)] σ (fun σ5 => (vp_in x1 3 ∧ ((sI σ5 77 (x1.toNatClampNeg) (vp_nar .boolean 1)).2.2 0 2 ≠ 0 ∧ (shq ((sI σ5 77 (x1.toNatClampNeg) (vp_nar .boolean 1)).2.2 0 2)).1 = 1 ∧ Q (some (.int ((sI σ5 77 (x1.toNatClampNeg) (vp_nar .boolean 1)).1 ((sI σ5 77 (x1.toNatClampNeg) (vp_nar .boolean 1)).2.2 0 2) 4))) (sI σ5 77 (x1.toNatClampNeg) (vp_nar .boolean 1)))))))) ∧ (¬ x1 < 3 → Q (some (.int (-1))) σ))))) :
    G Θ (d + 1) 152 0 [some (.ref 0), some (.int x1)] [] σ Q := by
  refine r_iload_n ok152 0 rfl rfl rfl ?_
  refine r_if_lt ok152 1 rfl rfl (fun c1 => ?_) (fun c1 => ?_)
  · have h1 := h.1 c1
    refine r_iconst (v := (-1)) ok152 5 rfl rfl rfl ?_
    exact r_iret ok152 6 rfl rfl rfl h1
  · have h1 := h.2 c1
    refine r_iload_n ok152 2 rfl rfl rfl ?_
    refine r_iconst (v := 3) ok152 3 rfl rfl rfl ?_
    refine r_icmp_lt ok152 4 rfl rfl (fun c2 => ?_) (fun c2 => ?_)
    · have h2 := h1.1 c2
      refine r_aload_n ok152 7 rfl rfl rfl ?_
      refine r_getA ok152 8 rfl rfl rfl rfl ?_
      refine r_iload_n ok152 9 rfl rfl rfl ?_
      obtain ⟨c3, h3⟩ := h2
      refine r_aald ok152 10 rfl rfl rfl c3 ?_
      refine r_aload_n ok152 11 rfl rfl rfl ?_
      obtain ⟨c4, s4, h4⟩ := h3
      refine r_getR ok152 12 rfl rfl rfl rfl c4 ?_
      refine r_invVv (as := [.ref (σ.2.2 0 2)]) (S := []) ok152 13 rfl rfl mf19 (box_shp c3) rfl (Nat.le_of_ble_eq_true rfl) rfl h4 (fun σ5 h5 => ?_)
      refine r_aload_n ok152 14 rfl rfl rfl ?_
      refine r_getA ok152 15 rfl rfl rfl rfl ?_
      refine r_iload_n ok152 16 rfl rfl rfl ?_
      refine r_iconst (v := 1) ok152 17 rfl rfl rfl ?_
      obtain ⟨c6, h6⟩ := h5
      refine r_zast ok152 18 rfl rfl rfl c6 ?_
      refine r_aload_n ok152 19 rfl rfl rfl ?_
      obtain ⟨c7, s7, h7⟩ := h6
      refine r_getR ok152 20 rfl rfl rfl rfl c7 ?_
      refine r_getI ok152 21 rfl rfl s7 rfl ?_
      exact r_iret ok152 22 rfl rfl rfl h7
    · have h2 := h1.2 c2
      refine r_iconst (v := (-1)) ok152 5 rfl rfl rfl ?_
      exact r_iret ok152 6 rfl rfl rfl h2

theorem K152 {Θ : Th} {d : Nat} {σ : Mem} {Q : Po} {x1 : Int32} (h : G Θ (d + 1) 152 0 [some (.ref 0), some (.int x1)] [] σ Q) : Cm Θ (d + 1) 152 [.ref 0, .int x1] σ Q :=
  C_of_G okM152 (Nat.le_of_ble_eq_true rfl) rfl h

-- 153: LikeYears.back(I)I
set_option maxRecDepth 100000 in
set_option maxHeartbeats 4000000 in
theorem B153_0 {Θ : Th} {d : Nat} {σ : Mem} {Q : Po} {x1 : Int32} 
    (h : ((x1 < 0 → Q (some (.int (-1))) σ) ∧ (¬ x1 < 0 → ((3 ≤ x1 → Q (some (.int (-1))) σ) ∧ (¬ 3 ≤ x1 → (vp_in x1 3 ∧ ((¬ (σ.1 77 x1.toNatClampNeg) = 0 → (σ.2.2 0 2 ≠ 0 ∧ (shq (σ.2.2 0 2)).1 = 1 ∧ (vp_in x1 3 ∧ Cv Θ d 19 [.ref (σ.2.2 0 2), .ref (47 + 10 * x1.toNatClampNeg)] σ (fun σ7 => Cv Θ d 0 [.ref 78] σ7 (fun σ8 => ((sI σ8 0 17 0).2.2 0 2 ≠ 0 ∧ (shq ((sI σ8 0 17 0).2.2 0 2)).1 = 1 ∧ Q (some (.int ((sI σ8 0 17 0).1 ((sI σ8 0 17 0).2.2 0 2) 4))) (sI σ8 0 17 0))))))) ∧ ((σ.1 77 x1.toNatClampNeg) = 0 → Q (some (.int (-1))) σ)))))))) :
    G Θ (d + 1) 153 0 [some (.ref 0), some (.int x1)] [] σ Q := by
  refine r_iload_n ok153 0 rfl rfl rfl ?_
  refine r_if_lt ok153 1 rfl rfl (fun c1 => ?_) (fun c1 => ?_)
  · have h1 := h.1 c1
    refine r_iconst (v := (-1)) ok153 10 rfl rfl rfl ?_
    exact r_iret ok153 11 rfl rfl rfl h1
  · have h1 := h.2 c1
    refine r_iload_n ok153 2 rfl rfl rfl ?_
    refine r_iconst (v := 3) ok153 3 rfl rfl rfl ?_
    refine r_icmp_ge ok153 4 rfl rfl (fun c2 => ?_) (fun c2 => ?_)
    · have h2 := h1.1 c2
      refine r_iconst (v := (-1)) ok153 10 rfl rfl rfl ?_
      exact r_iret ok153 11 rfl rfl rfl h2
    · have h2 := h1.2 c2
      refine r_aload_n ok153 5 rfl rfl rfl ?_
      refine r_getA ok153 6 rfl rfl rfl rfl ?_
      refine r_iload_n ok153 7 rfl rfl rfl ?_
      obtain ⟨c3, h3⟩ := h2
      refine r_zald ok153 8 rfl rfl rfl c3 ?_
      refine r_if_ne ok153 9 rfl rfl (fun c4 => ?_) (fun c4 => ?_)
      · have h4 := h3.1 c4
        refine r_aload_n ok153 12 rfl rfl rfl ?_
        obtain ⟨c5, s5, h5⟩ := h4
        refine r_getR ok153 13 rfl rfl rfl rfl c5 ?_
        refine r_aload_n ok153 14 rfl rfl rfl ?_
        refine r_getA ok153 15 rfl rfl rfl rfl ?_
        refine r_iload_n ok153 16 rfl rfl rfl ?_
        obtain ⟨c6, h6⟩ := h5
        refine r_aald ok153 17 rfl rfl rfl c6 ?_
        refine r_invVv (as := [.ref (47 + 10 * x1.toNatClampNeg)]) (S := []) ok153 18 rfl rfl mf19 s5 rfl (Nat.le_of_ble_eq_true rfl) rfl h6 (fun σ7 h7 => ?_)
        refine r_aload_n ok153 19 rfl rfl rfl ?_
        refine r_getA ok153 20 rfl rfl rfl rfl ?_
        refine r_invVv (as := []) (S := []) ok153 21 rfl rfl mf0 rfl rfl (Nat.le_of_ble_eq_true rfl) rfl h7 (fun σ8 h8 => ?_)
        refine r_aload_n ok153 22 rfl rfl rfl ?_
        refine r_iconst (v := 0) ok153 23 rfl rfl rfl ?_
        refine r_putI ok153 24 rfl rfl rfl rfl ?_
        refine r_aload_n ok153 25 rfl rfl rfl ?_
        obtain ⟨c9, s9, h9⟩ := h8
        refine r_getR ok153 26 rfl rfl rfl rfl c9 ?_
        refine r_getI ok153 27 rfl rfl s9 rfl ?_
        exact r_iret ok153 28 rfl rfl rfl h9
      · have h4 := h3.2 c4
        refine r_iconst (v := (-1)) ok153 10 rfl rfl rfl ?_
        exact r_iret ok153 11 rfl rfl rfl h4

theorem K153 {Θ : Th} {d : Nat} {σ : Mem} {Q : Po} {x1 : Int32} (h : G Θ (d + 1) 153 0 [some (.ref 0), some (.int x1)] [] σ Q) : Cm Θ (d + 1) 153 [.ref 0, .int x1] σ Q :=
  C_of_G okM153 (Nat.le_of_ble_eq_true rfl) rfl h

-- 154: LikeYears.about(I)I
set_option maxRecDepth 100000 in
set_option maxHeartbeats 4000000 in
theorem B154_0 {Θ : Th} {d : Nat} {σ : Mem} {Q : Po} {x1 : Int32} 
    (h : (((x1.toInt < 0 ∨ 5 < x1.toInt) → ((x1 < 10 → Q (some (.int (-1))) σ) ∧ (¬ x1 < 10 → (σ.2.2 0 2 ≠ 0 ∧ (shq (σ.2.2 0 2)).1 = 1 ∧ (((σ.1 (σ.2.2 0 2) 4) ≤ (x1 - 10) → Q (some (.int (-1))) σ) ∧ (¬ (σ.1 (σ.2.2 0 2) 4) ≤ (x1 - 10) → (σ.2.2 0 2 ≠ 0 ∧ (shq (σ.2.2 0 2)).1 = 1 ∧ (vp_in (x1 - 10) 16 ∧ Q (some (.int (σ.1 (σ.2.2 0 2 + 5) (x1 - 10).toNatClampNeg))) σ)))))))) ∧ (x1.toInt = 0 → (σ.2.2 0 2 ≠ 0 ∧ (shq (σ.2.2 0 2)).1 = 1 ∧ Q (some (.int (σ.1 (σ.2.2 0 2) 0))) σ)) ∧ (x1.toInt = 1 → (σ.2.2 0 2 ≠ 0 ∧ (shq (σ.2.2 0 2)).1 = 1 ∧ Q (some (.int (σ.1 (σ.2.2 0 2) 4))) σ)) ∧ (x1.toInt = 2 → (σ.2.2 0 2 ≠ 0 ∧ (shq (σ.2.2 0 2)).1 = 1 ∧ Q (some (.int (σ.1 (σ.2.2 0 2) 10))) σ)) ∧ (x1.toInt = 3 → Q (some (.int (σ.1 78 0))) σ) ∧ (x1.toInt = 4 → Q (some (.int (σ.1 1 0))) σ) ∧ (x1.toInt = 5 → (σ.2.2 0 4 ≠ 0 ∧ (shq (σ.2.2 0 4)).1 = 6 ∧ Q (some (.int (σ.1 (σ.2.2 0 4) 2))) σ)))) :
    G Θ d 154 0 [some (.ref 0), some (.int x1)] [] σ Q := by
  refine r_iload_n ok154 0 rfl rfl rfl ?_
  refine r_tsw (tl := [40, 48, 56, 64, 72, 80]) ok154 1 rfl rfl rfl rfl (fun c1 => ?_) ?_
  · have h1 := h.1 c1
    refine r_iload_n ok154 26 rfl rfl rfl ?_
    refine r_bipush (v := 10) ok154 27 rfl rfl rfl ?_
    refine r_icmp_lt ok154 28 rfl rfl (fun c2 => ?_) (fun c2 => ?_)
    · have h2 := h1.1 c2
      refine r_iconst (v := (-1)) ok154 44 rfl rfl rfl ?_
      exact r_iret ok154 45 rfl rfl rfl h2
    · have h2 := h1.2 c2
      refine r_iload_n ok154 29 rfl rfl rfl ?_
      refine r_bipush (v := 10) ok154 30 rfl rfl rfl ?_
      refine r_isub ok154 31 rfl rfl ?_
      refine r_aload_n ok154 32 rfl rfl rfl ?_
      obtain ⟨c3, s3, h3⟩ := h2
      refine r_getR ok154 33 rfl rfl rfl rfl c3 ?_
      refine r_getI ok154 34 rfl rfl s3 rfl ?_
      refine r_icmp_ge ok154 35 rfl rfl (fun c4 => ?_) (fun c4 => ?_)
      · have h4 := h3.1 c4
        refine r_iconst (v := (-1)) ok154 44 rfl rfl rfl ?_
        exact r_iret ok154 45 rfl rfl rfl h4
      · have h4 := h3.2 c4
        refine r_aload_n ok154 36 rfl rfl rfl ?_
        obtain ⟨c5, s5, h5⟩ := h4
        refine r_getR ok154 37 rfl rfl rfl rfl c5 ?_
        refine r_getF ok154 38 rfl rfl s5 rfl ?_
        refine r_iload_n ok154 39 rfl rfl rfl ?_
        refine r_bipush (v := 10) ok154 40 rfl rfl rfl ?_
        refine r_isub ok154 41 rfl rfl ?_
        obtain ⟨c6, h6⟩ := h5
        refine r_iald ok154 42 rfl rfl (rel_shp s5 (i := 8) rfl) c6 ?_
        refine r_goto ok154 43 rfl rfl ?_
        exact r_iret ok154 45 rfl rfl rfl h6
  · refine And.intro (fun c1 => ?_) ?_
    · have h1 := h.2.1 c1
      refine r_aload_n ok154 2 rfl rfl rfl ?_
      obtain ⟨c7, s7, h7⟩ := h1
      refine r_getR ok154 3 rfl rfl rfl rfl c7 ?_
      refine r_getI ok154 4 rfl rfl s7 rfl ?_
      exact r_iret ok154 5 rfl rfl rfl h7
    · refine And.intro (fun c1 => ?_) ?_
      · have h1 := h.2.2.1 c1
        refine r_aload_n ok154 6 rfl rfl rfl ?_
        obtain ⟨c8, s8, h8⟩ := h1
        refine r_getR ok154 7 rfl rfl rfl rfl c8 ?_
        refine r_getI ok154 8 rfl rfl s8 rfl ?_
        exact r_iret ok154 9 rfl rfl rfl h8
      · refine And.intro (fun c1 => ?_) ?_
        · have h1 := h.2.2.2.1 c1
          refine r_aload_n ok154 10 rfl rfl rfl ?_
          obtain ⟨c9, s9, h9⟩ := h1
          refine r_getR ok154 11 rfl rfl rfl rfl c9 ?_
          refine r_getI ok154 12 rfl rfl s9 rfl ?_
          exact r_iret ok154 13 rfl rfl rfl h9
        · refine And.intro (fun c1 => ?_) ?_
          · have h1 := h.2.2.2.2.1 c1
            refine r_aload_n ok154 14 rfl rfl rfl ?_
            refine r_getA ok154 15 rfl rfl rfl rfl ?_
            refine r_getI ok154 16 rfl rfl rfl rfl ?_
            exact r_iret ok154 17 rfl rfl rfl h1
          · refine And.intro (fun c1 => ?_) ?_
            · have h1 := h.2.2.2.2.2.1 c1
              refine r_aload_n ok154 18 rfl rfl rfl ?_
              refine r_getA ok154 19 rfl rfl rfl rfl ?_
              refine r_getI ok154 20 rfl rfl rfl rfl ?_
              exact r_iret ok154 21 rfl rfl rfl h1
            · intro c1
              have h1 := h.2.2.2.2.2.2 c1
              refine r_aload_n ok154 22 rfl rfl rfl ?_
              obtain ⟨c10, s10, h10⟩ := h1
              refine r_getR ok154 23 rfl rfl rfl rfl c10 ?_
              refine r_getI ok154 24 rfl rfl s10 rfl ?_
              exact r_iret ok154 25 rfl rfl rfl h10

theorem K154 {Θ : Th} {d : Nat} {σ : Mem} {Q : Po} {x1 : Int32} (h : G Θ d 154 0 [some (.ref 0), some (.int x1)] [] σ Q) : Cm Θ d 154 [.ref 0, .int x1] σ Q :=
  C_of_G okM154 (Nat.le_of_ble_eq_true rfl) rfl h

-- 155: LikeYears.isPart(I)Z
set_option maxRecDepth 100000 in
set_option maxHeartbeats 4000000 in
theorem B155_0 {Θ : Th} {d : Nat} {σ : Mem} {Q : Po} {x0 : Int32} 
    (h : ((x0 = 0 → Q (some (.int 1)) σ) ∧ (¬ x0 = 0 → ((¬ x0 = 1 → Q (some (.int 0)) σ) ∧ (x0 = 1 → Q (some (.int 1)) σ))))) :
    G Θ d 155 0 [some (.int x0)] [] σ Q := by
  refine r_iload_n ok155 0 rfl rfl rfl ?_
  refine r_if_eq ok155 1 rfl rfl (fun c1 => ?_) (fun c1 => ?_)
  · have h1 := h.1 c1
    refine r_iconst (v := 1) ok155 5 rfl rfl rfl ?_
    refine r_goto ok155 6 rfl rfl ?_
    exact r_zret ok155 8 rfl rfl rfl (Or.inr rfl) h1
  · have h1 := h.2 c1
    refine r_iload_n ok155 2 rfl rfl rfl ?_
    refine r_iconst (v := 1) ok155 3 rfl rfl rfl ?_
    refine r_icmp_ne ok155 4 rfl rfl (fun c2 => ?_) (fun c2 => ?_)
    · have h2 := h1.1 c2
      refine r_iconst (v := 0) ok155 7 rfl rfl rfl ?_
      exact r_zret ok155 8 rfl rfl rfl (Or.inl rfl) h2
    · have h2 := h1.2 c2
      refine r_iconst (v := 1) ok155 5 rfl rfl rfl ?_
      refine r_goto ok155 6 rfl rfl ?_
      exact r_zret ok155 8 rfl rfl rfl (Or.inr rfl) h2

theorem K155 {Θ : Th} {d : Nat} {σ : Mem} {Q : Po} {x0 : Int32} (h : G Θ d 155 0 [some (.int x0)] [] σ Q) : Cm Θ d 155 [.int x0] σ Q :=
  C_of_G okM155 (Nat.le_of_ble_eq_true rfl) rfl h

-- 156: LikeYears.isYear(I)Z
set_option maxRecDepth 100000 in
set_option maxHeartbeats 4000000 in
theorem B156_0 {Θ : Th} {d : Nat} {σ : Mem} {Q : Po} {x0 : Int32} 
    (h : ((x0 < 0 → Q (some (.int 0)) σ) ∧ (¬ x0 < 0 → ((99 < x0 → Q (some (.int 0)) σ) ∧ (¬ 99 < x0 → Q (some (.int 1)) σ))))) :
    G Θ d 156 0 [some (.int x0)] [] σ Q := by
  refine r_iload_n ok156 0 rfl rfl rfl ?_
  refine r_if_lt ok156 1 rfl rfl (fun c1 => ?_) (fun c1 => ?_)
  · have h1 := h.1 c1
    refine r_iconst (v := 0) ok156 7 rfl rfl rfl ?_
    exact r_zret ok156 8 rfl rfl rfl (Or.inl rfl) h1
  · have h1 := h.2 c1
    refine r_iload_n ok156 2 rfl rfl rfl ?_
    refine r_bipush (v := 99) ok156 3 rfl rfl rfl ?_
    refine r_icmp_gt ok156 4 rfl rfl (fun c2 => ?_) (fun c2 => ?_)
    · have h2 := h1.1 c2
      refine r_iconst (v := 0) ok156 7 rfl rfl rfl ?_
      exact r_zret ok156 8 rfl rfl rfl (Or.inl rfl) h2
    · have h2 := h1.2 c2
      refine r_iconst (v := 1) ok156 5 rfl rfl rfl ?_
      refine r_goto ok156 6 rfl rfl ?_
      exact r_zret ok156 8 rfl rfl rfl (Or.inr rfl) h2

theorem K156 {Θ : Th} {d : Nat} {σ : Mem} {Q : Po} {x0 : Int32} (h : G Θ d 156 0 [some (.int x0)] [] σ Q) : Cm Θ d 156 [.int x0] σ Q :=
  C_of_G okM156 (Nat.le_of_ble_eq_true rfl) rfl h

-- 157: LikeYears.isGiven(I)Z
set_option maxRecDepth 100000 in
set_option maxHeartbeats 4000000 in
theorem B157_0 {Θ : Th} {d : Nat} {σ : Mem} {Q : Po} {x0 : Int32} 
    (h : ((x0 < 0 → Q (some (.int 0)) σ) ∧ (¬ x0 < 0 → ((240 < x0 → Q (some (.int 0)) σ) ∧ (¬ 240 < x0 → Q (some (.int 1)) σ))))) :
    G Θ d 157 0 [some (.int x0)] [] σ Q := by
  refine r_iload_n ok157 0 rfl rfl rfl ?_
  refine r_if_lt ok157 1 rfl rfl (fun c1 => ?_) (fun c1 => ?_)
  · have h1 := h.1 c1
    refine r_iconst (v := 0) ok157 7 rfl rfl rfl ?_
    exact r_zret ok157 8 rfl rfl rfl (Or.inl rfl) h1
  · have h1 := h.2 c1
    refine r_iload_n ok157 2 rfl rfl rfl ?_
    refine r_sipush (v := 240) ok157 3 rfl rfl rfl ?_
    refine r_icmp_gt ok157 4 rfl rfl (fun c2 => ?_) (fun c2 => ?_)
    · have h2 := h1.1 c2
      refine r_iconst (v := 0) ok157 7 rfl rfl rfl ?_
      exact r_zret ok157 8 rfl rfl rfl (Or.inl rfl) h2
    · have h2 := h1.2 c2
      refine r_iconst (v := 1) ok157 5 rfl rfl rfl ?_
      refine r_goto ok157 6 rfl rfl ?_
      exact r_zret ok157 8 rfl rfl rfl (Or.inr rfl) h2

theorem K157 {Θ : Th} {d : Nat} {σ : Mem} {Q : Po} {x0 : Int32} (h : G Θ d 157 0 [some (.int x0)] [] σ Q) : Cm Θ d 157 [.int x0] σ Q :=
  C_of_G okM157 (Nat.le_of_ble_eq_true rfl) rfl h

-- 158: LikeYears.isGrid(II)Z
set_option maxRecDepth 100000 in
set_option maxHeartbeats 4000000 in
theorem B158_0 {Θ : Th} {d : Nat} {σ : Mem} {Q : Po} {x1 : Int32} {x2 : Int32} 
    (h : (σ.2.2 0 2 ≠ 0 ∧ (shq (σ.2.2 0 2)).1 = 1 ∧ Ci Θ d 11 [.ref (σ.2.2 0 2), .int x1] σ (fun v2 σ2 => ((v2 = 0 → Q (some (.int 0)) σ2) ∧ (¬ v2 = 0 → (σ2.2.2 0 2 ≠ 0 ∧ (shq (σ2.2.2 0 2)).1 = 1 ∧ Ci Θ d 11 [.ref (σ2.2.2 0 2), .int x2] σ2 (fun v5 σ5 => ((v5 = 0 → Q (some (.int 0)) σ5) ∧ (¬ v5 = 0 → ((x2 ≤ x1 → Q (some (.int 0)) σ5) ∧ (¬ x2 ≤ x1 → Q (some (.int 1)) σ5))))))))))) :
    G Θ (d + 1) 158 0 [some (.ref 0), some (.int x1), some (.int x2)] [] σ Q := by
  refine r_aload_n ok158 0 rfl rfl rfl ?_
  obtain ⟨c1, s1, h1⟩ := h
  refine r_getR ok158 1 rfl rfl rfl rfl c1 ?_
  refine r_iload_n ok158 2 rfl rfl rfl ?_
  refine r_invVi (as := [.int x1]) (S := []) ok158 3 rfl rfl mf11 s1 rfl (Nat.le_of_ble_eq_true rfl) rfl h1 (fun v2 σ2 h2 => ?_)
  refine r_if_eq ok158 4 rfl rfl (fun c3 => ?_) (fun c3 => ?_)
  · have h3 := h2.1 c3
    refine r_iconst (v := 0) ok158 15 rfl rfl rfl ?_
    exact r_zret ok158 16 rfl rfl rfl (Or.inl rfl) h3
  · have h3 := h2.2 c3
    refine r_aload_n ok158 5 rfl rfl rfl ?_
    obtain ⟨c4, s4, h4⟩ := h3
    refine r_getR ok158 6 rfl rfl rfl rfl c4 ?_
    refine r_iload_n ok158 7 rfl rfl rfl ?_
    refine r_invVi (as := [.int x2]) (S := []) ok158 8 rfl rfl mf11 s4 rfl (Nat.le_of_ble_eq_true rfl) rfl h4 (fun v5 σ5 h5 => ?_)
    refine r_if_eq ok158 9 rfl rfl (fun c6 => ?_) (fun c6 => ?_)
    · have h6 := h5.1 c6
      refine r_iconst (v := 0) ok158 15 rfl rfl rfl ?_
      exact r_zret ok158 16 rfl rfl rfl (Or.inl rfl) h6
    · have h6 := h5.2 c6
      refine r_iload_n ok158 10 rfl rfl rfl ?_
      refine r_iload_n ok158 11 rfl rfl rfl ?_
      refine r_icmp_ge ok158 12 rfl rfl (fun c7 => ?_) (fun c7 => ?_)
      · have h7 := h6.1 c7
        refine r_iconst (v := 0) ok158 15 rfl rfl rfl ?_
        exact r_zret ok158 16 rfl rfl rfl (Or.inl rfl) h7
      · have h7 := h6.2 c7
        refine r_iconst (v := 1) ok158 13 rfl rfl rfl ?_
        refine r_goto ok158 14 rfl rfl ?_
        exact r_zret ok158 16 rfl rfl rfl (Or.inr rfl) h7

theorem K158 {Θ : Th} {d : Nat} {σ : Mem} {Q : Po} {x1 : Int32} {x2 : Int32} (h : G Θ (d + 1) 158 0 [some (.ref 0), some (.int x1), some (.int x2)] [] σ Q) : Cm Θ (d + 1) 158 [.ref 0, .int x1, .int x2] σ Q :=
  C_of_G okM158 (Nat.le_of_ble_eq_true rfl) rfl h

-- 159: LikeYears.isRuns(II)Z
set_option maxRecDepth 100000 in
set_option maxHeartbeats 4000000 in
theorem B159_0 {Θ : Th} {d : Nat} {σ : Mem} {Q : Po} {x1 : Int32} {x2 : Int32} 
    (h : (σ.2.2 0 2 ≠ 0 ∧ (shq (σ.2.2 0 2)).1 = 1 ∧ Ci Θ d 11 [.ref (σ.2.2 0 2), .int x1] σ (fun v2 σ2 => ((v2 = 0 → Q (some (.int 0)) σ2) ∧ (¬ v2 = 0 → ((x2 < 1 → Q (some (.int 0)) σ2) ∧ (¬ x2 < 1 → ((12 < x2 → Q (some (.int 0)) σ2) ∧ (¬ 12 < x2 → Q (some (.int 1)) σ2))))))))) :
    G Θ (d + 1) 159 0 [some (.ref 0), some (.int x1), some (.int x2)] [] σ Q := by
  refine r_aload_n ok159 0 rfl rfl rfl ?_
  obtain ⟨c1, s1, h1⟩ := h
  refine r_getR ok159 1 rfl rfl rfl rfl c1 ?_
  refine r_iload_n ok159 2 rfl rfl rfl ?_
  refine r_invVi (as := [.int x1]) (S := []) ok159 3 rfl rfl mf11 s1 rfl (Nat.le_of_ble_eq_true rfl) rfl h1 (fun v2 σ2 h2 => ?_)
  refine r_if_eq ok159 4 rfl rfl (fun c3 => ?_) (fun c3 => ?_)
  · have h3 := h2.1 c3
    refine r_iconst (v := 0) ok159 13 rfl rfl rfl ?_
    exact r_zret ok159 14 rfl rfl rfl (Or.inl rfl) h3
  · have h3 := h2.2 c3
    refine r_iload_n ok159 5 rfl rfl rfl ?_
    refine r_iconst (v := 1) ok159 6 rfl rfl rfl ?_
    refine r_icmp_lt ok159 7 rfl rfl (fun c4 => ?_) (fun c4 => ?_)
    · have h4 := h3.1 c4
      refine r_iconst (v := 0) ok159 13 rfl rfl rfl ?_
      exact r_zret ok159 14 rfl rfl rfl (Or.inl rfl) h4
    · have h4 := h3.2 c4
      refine r_iload_n ok159 8 rfl rfl rfl ?_
      refine r_bipush (v := 12) ok159 9 rfl rfl rfl ?_
      refine r_icmp_gt ok159 10 rfl rfl (fun c5 => ?_) (fun c5 => ?_)
      · have h5 := h4.1 c5
        refine r_iconst (v := 0) ok159 13 rfl rfl rfl ?_
        exact r_zret ok159 14 rfl rfl rfl (Or.inl rfl) h5
      · have h5 := h4.2 c5
        refine r_iconst (v := 1) ok159 11 rfl rfl rfl ?_
        refine r_goto ok159 12 rfl rfl ?_
        exact r_zret ok159 14 rfl rfl rfl (Or.inr rfl) h5

theorem K159 {Θ : Th} {d : Nat} {σ : Mem} {Q : Po} {x1 : Int32} {x2 : Int32} (h : G Θ (d + 1) 159 0 [some (.ref 0), some (.int x1), some (.int x2)] [] σ Q) : Cm Θ (d + 1) 159 [.ref 0, .int x1, .int x2] σ Q :=
  C_of_G okM159 (Nat.le_of_ble_eq_true rfl) rfl h

-- 160: LikeYears.knownOrder()LLikeYears$Order;
set_option maxRecDepth 100000 in
set_option maxHeartbeats 4000000 in
theorem B160_0 {Θ : Th} {d : Nat} {σ : Mem} {Q : Po} 
    (h : ((¬ ((σ.1 0 17) &&& 1) = 0 → Q (some (.ref 83)) σ) ∧ (((σ.1 0 17) &&& 1) = 0 → (σ.2.2 0 2 ≠ 0 ∧ (shq (σ.2.2 0 2)).1 = 1 ∧ (σ.2.2 0 2 ≠ 0 ∧ (shq (σ.2.2 0 2)).1 = 1 ∧ Cv Θ d 76 [.ref 83, .ref (σ.2.2 0 2), .int (σ.1 (σ.2.2 0 2) 3)] σ (fun σ4 => (σ4.2.2 0 2 ≠ 0 ∧ (shq (σ4.2.2 0 2)).1 = 1 ∧ Ci Θ d 77 [.ref 83, .ref (σ4.2.2 0 2)] σ4 (fun v6 σ6 => Q (some (.ref 83)) (sI σ6 0 17 ((σ6.1 0 17) ||| 1)))))))))) :
    G Θ (d + 1) 160 0 [some (.ref 0)] [] σ Q := by
  refine r_aload_n ok160 0 rfl rfl rfl ?_
  refine r_getI ok160 1 rfl rfl rfl rfl ?_
  refine r_iconst (v := 1) ok160 2 rfl rfl rfl ?_
  refine r_iand ok160 3 rfl rfl ?_
  refine r_if_ne ok160 4 rfl rfl (fun c1 => ?_) (fun c1 => ?_)
  · have h1 := h.1 c1
    refine r_aload_n ok160 25 rfl rfl rfl ?_
    refine r_getA ok160 26 rfl rfl rfl rfl ?_
    exact r_aret ok160 27 rfl rfl rfl h1
  · have h1 := h.2 c1
    refine r_aload_n ok160 5 rfl rfl rfl ?_
    refine r_getA ok160 6 rfl rfl rfl rfl ?_
    refine r_aload_n ok160 7 rfl rfl rfl ?_
    obtain ⟨c2, s2, h2⟩ := h1
    refine r_getR ok160 8 rfl rfl rfl rfl c2 ?_
    refine r_aload_n ok160 9 rfl rfl rfl ?_
    obtain ⟨c3, s3, h3⟩ := h2
    refine r_getR ok160 10 rfl rfl rfl rfl c3 ?_
    refine r_getI ok160 11 rfl rfl s3 rfl ?_
    refine r_invVv (as := [.ref (σ.2.2 0 2), .int (σ.1 (σ.2.2 0 2) 3)]) (S := []) ok160 12 rfl rfl mf76 rfl rfl (Nat.le_of_ble_eq_true rfl) rfl h3 (fun σ4 h4 => ?_)
    refine r_aload_n ok160 13 rfl rfl rfl ?_
    refine r_getA ok160 14 rfl rfl rfl rfl ?_
    refine r_aload_n ok160 15 rfl rfl rfl ?_
    obtain ⟨c5, s5, h5⟩ := h4
    refine r_getR ok160 16 rfl rfl rfl rfl c5 ?_
    refine r_invVi (as := [.ref (σ4.2.2 0 2)]) (S := []) ok160 17 rfl rfl mf77 rfl rfl (Nat.le_of_ble_eq_true rfl) rfl h5 (fun v6 σ6 h6 => ?_)
    refine r_pop ok160 18 rfl rfl rfl ?_
    refine r_aload_n ok160 19 rfl rfl rfl ?_
    refine r_dup ok160 20 rfl rfl rfl ?_
    refine r_getI ok160 21 rfl rfl rfl rfl ?_
    refine r_iconst (v := 1) ok160 22 rfl rfl rfl ?_
    refine r_ior ok160 23 rfl rfl ?_
    refine r_putI ok160 24 rfl rfl rfl rfl ?_
    refine r_aload_n ok160 25 rfl rfl rfl ?_
    refine r_getA ok160 26 rfl rfl rfl rfl ?_
    exact r_aret ok160 27 rfl rfl rfl h6

theorem K160 {Θ : Th} {d : Nat} {σ : Mem} {Q : Po} (h : G Θ (d + 1) 160 0 [some (.ref 0)] [] σ Q) : Cm Θ (d + 1) 160 [.ref 0] σ Q :=
  C_of_G okM160 (Nat.le_of_ble_eq_true rfl) rfl h

-- 161: LikeYears.knownSquares()LLikeYears$Nearest;
set_option maxRecDepth 100000 in
set_option maxHeartbeats 4000000 in
theorem B161_0 {Θ : Th} {d : Nat} {σ : Mem} {Q : Po} 
    (h : ((¬ ((σ.1 0 17) &&& 2) = 0 → Q (some (.ref 92)) σ) ∧ (((σ.1 0 17) &&& 2) = 0 → (σ.2.2 0 2 ≠ 0 ∧ (shq (σ.2.2 0 2)).1 = 1 ∧ Cr Θ d 160 [.ref 0] σ (fun v3 σ3 => (shq v3).1 = 8 ∧ (σ3.2.2 0 2 ≠ 0 ∧ (shq (σ3.2.2 0 2)).1 = 1 ∧ Ci Θ d 17 [.ref (σ3.2.2 0 2)] σ3 (fun v5 σ5 => Cv Θ d 68 [.ref 92, .ref (σ.2.2 0 2), .ref (v3 + 2), .int v5] σ5 (fun σ6 => Q (some (.ref 92)) (sI σ6 0 17 ((σ6.1 0 17) ||| 2)))))))))) :
    G Θ (d + 1) 161 0 [some (.ref 0)] [] σ Q := by
  refine r_aload_n ok161 0 rfl rfl rfl ?_
  refine r_getI ok161 1 rfl rfl rfl rfl ?_
  refine r_iconst (v := 2) ok161 2 rfl rfl rfl ?_
  refine r_iand ok161 3 rfl rfl ?_
  refine r_if_ne ok161 4 rfl rfl (fun c1 => ?_) (fun c1 => ?_)
  · have h1 := h.1 c1
    refine r_aload_n ok161 22 rfl rfl rfl ?_
    refine r_getA ok161 23 rfl rfl rfl rfl ?_
    exact r_aret ok161 24 rfl rfl rfl h1
  · have h1 := h.2 c1
    refine r_aload_n ok161 5 rfl rfl rfl ?_
    refine r_getA ok161 6 rfl rfl rfl rfl ?_
    refine r_aload_n ok161 7 rfl rfl rfl ?_
    obtain ⟨c2, s2, h2⟩ := h1
    refine r_getR ok161 8 rfl rfl rfl rfl c2 ?_
    refine r_aload_n ok161 9 rfl rfl rfl ?_
    refine r_invVr (as := []) (S := [.ref (σ.2.2 0 2), .ref 92]) ok161 10 rfl rfl mf160 rfl rfl (Nat.le_of_ble_eq_true rfl) rfl h2 (fun v3 σ3 h3 => ?_)
    obtain ⟨s3, h3⟩ := h3
    refine r_getF ok161 11 rfl rfl s3 rfl ?_
    refine r_aload_n ok161 12 rfl rfl rfl ?_
    obtain ⟨c4, s4, h4⟩ := h3
    refine r_getR ok161 13 rfl rfl rfl rfl c4 ?_
    refine r_invVi (as := []) (S := [.ref (v3 + 2), .ref (σ.2.2 0 2), .ref 92]) ok161 14 rfl rfl mf17 s4 rfl (Nat.le_of_ble_eq_true rfl) rfl h4 (fun v5 σ5 h5 => ?_)
    refine r_invVv (as := [.ref (σ.2.2 0 2), .ref (v3 + 2), .int v5]) (S := []) ok161 15 rfl rfl mf68 rfl rfl (Nat.le_of_ble_eq_true rfl) rfl h5 (fun σ6 h6 => ?_)
    refine r_aload_n ok161 16 rfl rfl rfl ?_
    refine r_dup ok161 17 rfl rfl rfl ?_
    refine r_getI ok161 18 rfl rfl rfl rfl ?_
    refine r_iconst (v := 2) ok161 19 rfl rfl rfl ?_
    refine r_ior ok161 20 rfl rfl ?_
    refine r_putI ok161 21 rfl rfl rfl rfl ?_
    refine r_aload_n ok161 22 rfl rfl rfl ?_
    refine r_getA ok161 23 rfl rfl rfl rfl ?_
    exact r_aret ok161 24 rfl rfl rfl h6

theorem K161 {Θ : Th} {d : Nat} {σ : Mem} {Q : Po} (h : G Θ (d + 1) 161 0 [some (.ref 0)] [] σ Q) : Cm Θ (d + 1) 161 [.ref 0] σ Q :=
  C_of_G okM161 (Nat.le_of_ble_eq_true rfl) rfl h

-- 162: LikeYears.knownGaps()LLikeYears$Nearest;
set_option maxRecDepth 100000 in
set_option maxHeartbeats 4000000 in
theorem B162_0 {Θ : Th} {d : Nat} {σ : Mem} {Q : Po} 
    (h : ((¬ ((σ.1 0 17) &&& 4) = 0 → Q (some (.ref 92)) σ) ∧ (((σ.1 0 17) &&& 4) = 0 → (σ.2.2 0 2 ≠ 0 ∧ (shq (σ.2.2 0 2)).1 = 1 ∧ Cr Θ d 160 [.ref 0] σ (fun v3 σ3 => (shq v3).1 = 8 ∧ Cv Θ d 73 [.ref 92, .ref (σ.2.2 0 2), .ref (v3 + 2)] σ3 (fun σ4 => Q (some (.ref 92)) (sI σ4 0 17 ((σ4.1 0 17) ||| 4)))))))) :
    G Θ (d + 1) 162 0 [some (.ref 0)] [] σ Q := by
  refine r_aload_n ok162 0 rfl rfl rfl ?_
  refine r_getI ok162 1 rfl rfl rfl rfl ?_
  refine r_iconst (v := 4) ok162 2 rfl rfl rfl ?_
  refine r_iand ok162 3 rfl rfl ?_
  refine r_if_ne ok162 4 rfl rfl (fun c1 => ?_) (fun c1 => ?_)
  · have h1 := h.1 c1
    refine r_aload_n ok162 19 rfl rfl rfl ?_
    refine r_getA ok162 20 rfl rfl rfl rfl ?_
    exact r_aret ok162 21 rfl rfl rfl h1
  · have h1 := h.2 c1
    refine r_aload_n ok162 5 rfl rfl rfl ?_
    refine r_getA ok162 6 rfl rfl rfl rfl ?_
    refine r_aload_n ok162 7 rfl rfl rfl ?_
    obtain ⟨c2, s2, h2⟩ := h1
    refine r_getR ok162 8 rfl rfl rfl rfl c2 ?_
    refine r_aload_n ok162 9 rfl rfl rfl ?_
    refine r_invVr (as := []) (S := [.ref (σ.2.2 0 2), .ref 92]) ok162 10 rfl rfl mf160 rfl rfl (Nat.le_of_ble_eq_true rfl) rfl h2 (fun v3 σ3 h3 => ?_)
    obtain ⟨s3, h3⟩ := h3
    refine r_getF ok162 11 rfl rfl s3 rfl ?_
    refine r_invVv (as := [.ref (σ.2.2 0 2), .ref (v3 + 2)]) (S := []) ok162 12 rfl rfl mf73 rfl rfl (Nat.le_of_ble_eq_true rfl) rfl h3 (fun σ4 h4 => ?_)
    refine r_aload_n ok162 13 rfl rfl rfl ?_
    refine r_dup ok162 14 rfl rfl rfl ?_
    refine r_getI ok162 15 rfl rfl rfl rfl ?_
    refine r_iconst (v := 4) ok162 16 rfl rfl rfl ?_
    refine r_ior ok162 17 rfl rfl ?_
    refine r_putI ok162 18 rfl rfl rfl rfl ?_
    refine r_aload_n ok162 19 rfl rfl rfl ?_
    refine r_getA ok162 20 rfl rfl rfl rfl ?_
    exact r_aret ok162 21 rfl rfl rfl h4

theorem K162 {Θ : Th} {d : Nat} {σ : Mem} {Q : Po} (h : G Θ (d + 1) 162 0 [some (.ref 0)] [] σ Q) : Cm Θ (d + 1) 162 [.ref 0] σ Q :=
  C_of_G okM162 (Nat.le_of_ble_eq_true rfl) rfl h

-- 163: LikeYears.gridCost(II)LLikeYears$Fraction;
set_option maxRecDepth 100000 in
set_option maxHeartbeats 4000000 in
theorem B163_0 {Θ : Th} {d : Nat} {σ : Mem} {Q : Po} {x1 : Int32} {x2 : Int32} 
    (h : (σ.2.2 0 2 ≠ 0 ∧ (shq (σ.2.2 0 2)).1 = 1 ∧ Cv Θ d 76 [.ref 6, .ref (σ.2.2 0 2), .int (((1 : Int32) <<< (x1 &&& 31)) ||| ((1 : Int32) <<< (x2 &&& 31)))] σ (fun σ2 => (σ2.2.2 0 2 ≠ 0 ∧ (shq (σ2.2.2 0 2)).1 = 1 ∧ (σ2.2.2 0 2 ≠ 0 ∧ (shq (σ2.2.2 0 2)).1 = 1 ∧ Ci Θ d 17 [.ref (σ2.2.2 0 2)] σ2 (fun v5 σ5 => Cv Θ d 68 [.ref 101, .ref (σ2.2.2 0 2), .ref 8, .int v5] σ5 (fun σ6 => Q (some (.ref 105)) σ6))))))) :
    G Θ (d + 1) 163 0 [some (.ref 0), some (.int x1), some (.int x2)] [] σ Q := by
  refine r_aload_n ok163 0 rfl rfl rfl ?_
  refine r_getA ok163 1 rfl rfl rfl rfl ?_
  refine r_aload_n ok163 2 rfl rfl rfl ?_
  obtain ⟨c1, s1, h1⟩ := h
  refine r_getR ok163 3 rfl rfl rfl rfl c1 ?_
  refine r_iconst (v := 1) ok163 4 rfl rfl rfl ?_
  refine r_iload_n ok163 5 rfl rfl rfl ?_
  refine r_ishl ok163 6 rfl rfl ?_
  refine r_iconst (v := 1) ok163 7 rfl rfl rfl ?_
  refine r_iload_n ok163 8 rfl rfl rfl ?_
  refine r_ishl ok163 9 rfl rfl ?_
  refine r_ior ok163 10 rfl rfl ?_
  refine r_invVv (as := [.ref (σ.2.2 0 2), .int (((1 : Int32) <<< (x1 &&& 31)) ||| ((1 : Int32) <<< (x2 &&& 31)))]) (S := []) ok163 11 rfl rfl mf76 rfl rfl (Nat.le_of_ble_eq_true rfl) rfl h1 (fun σ2 h2 => ?_)
  refine r_aload_n ok163 12 rfl rfl rfl ?_
  refine r_getA ok163 13 rfl rfl rfl rfl ?_
  refine r_aload_n ok163 14 rfl rfl rfl ?_
  obtain ⟨c3, s3, h3⟩ := h2
  refine r_getR ok163 15 rfl rfl rfl rfl c3 ?_
  refine r_aload_n ok163 16 rfl rfl rfl ?_
  refine r_getA ok163 17 rfl rfl rfl rfl ?_
  refine r_getF ok163 18 rfl rfl rfl rfl ?_
  refine r_aload_n ok163 19 rfl rfl rfl ?_
  obtain ⟨c4, s4, h4⟩ := h3
  refine r_getR ok163 20 rfl rfl rfl rfl c4 ?_
  refine r_invVi (as := []) (S := [.ref 8, .ref (σ2.2.2 0 2), .ref 101]) ok163 21 rfl rfl mf17 s4 rfl (Nat.le_of_ble_eq_true rfl) rfl h4 (fun v5 σ5 h5 => ?_)
  refine r_invVv (as := [.ref (σ2.2.2 0 2), .ref 8, .int v5]) (S := []) ok163 22 rfl rfl mf68 rfl rfl (Nat.le_of_ble_eq_true rfl) rfl h5 (fun σ6 h6 => ?_)
  refine r_aload_n ok163 23 rfl rfl rfl ?_
  refine r_getA ok163 24 rfl rfl rfl rfl ?_
  refine r_getF ok163 25 rfl rfl rfl rfl ?_
  exact r_aret ok163 26 rfl rfl rfl h6

theorem K163 {Θ : Th} {d : Nat} {σ : Mem} {Q : Po} {x1 : Int32} {x2 : Int32} (h : G Θ (d + 1) 163 0 [some (.ref 0), some (.int x1), some (.int x2)] [] σ Q) : Cm Θ (d + 1) 163 [.ref 0, .int x1, .int x2] σ Q :=
  C_of_G okM163 (Nat.le_of_ble_eq_true rfl) rfl h

-- 164: LikeYears.findBest()I
set_option maxRecDepth 100000 in
set_option maxHeartbeats 4000000 in
theorem B164_0 {Θ : Th} {d : Nat} {σ : Mem} {Q : Po} 
    (h : G Θ (d + 1) 164 4 [some (.ref 0), some (.int (-1)), some (.int 0), none, none] [] σ Q) :
    G Θ (d + 1) 164 0 [some (.ref 0), none, none, none, none] [] σ Q := by
  refine r_iconst (v := (-1)) ok164 0 rfl rfl rfl ?_
  refine r_istore_n ok164 1 rfl rfl ?_
  refine r_iconst (v := 0) ok164 2 rfl rfl rfl ?_
  refine r_istore_n ok164 3 rfl rfl ?_
  exact h

set_option maxRecDepth 100000 in
set_option maxHeartbeats 4000000 in
theorem B164_4 {Θ : Th} {d : Nat} {σ : Mem} {Q : Po} {x1 : Int32} {x2 : Int32} 
    (h : (σ.2.2 0 2 ≠ 0 ∧ (shq (σ.2.2 0 2)).1 = 1 ∧ (((σ.1 (σ.2.2 0 2) 0) ≤ x2 → Q (some (.int x1)) σ) ∧ (¬ (σ.1 (σ.2.2 0 2) 0) ≤ x2 → G Θ (d + 1) 164 19 [some (.ref 0), some (.int x1), some (.int x2), some (.int (x2 + 1)), none] [] σ Q)))) :
    G Θ (d + 1) 164 4 [some (.ref 0), some (.int x1), some (.int x2), none, none] [] σ Q := by
  refine r_iload_n ok164 4 rfl rfl rfl ?_
  refine r_aload_n ok164 5 rfl rfl rfl ?_
  obtain ⟨c1, s1, h1⟩ := h
  refine r_getR ok164 6 rfl rfl rfl rfl c1 ?_
  refine r_getI ok164 7 rfl rfl s1 rfl ?_
  refine r_icmp_ge ok164 8 rfl rfl (fun c2 => ?_) (fun c2 => ?_)
  · have h2 := h1.1 c2
    refine r_iload_n ok164 54 rfl rfl rfl ?_
    exact r_iret ok164 55 rfl rfl rfl h2
  · have h2 := h1.2 c2
    refine r_iload_n ok164 9 rfl rfl rfl ?_
    refine r_iconst (v := 1) ok164 10 rfl rfl rfl ?_
    refine r_iadd ok164 11 rfl rfl ?_
    refine r_istore_n ok164 12 rfl rfl ?_
    exact h2

set_option maxRecDepth 100000 in
set_option maxHeartbeats 4000000 in
theorem B164_19 {Θ : Th} {d : Nat} {σ : Mem} {Q : Po} {x1 : Int32} {x2 : Int32} {x3 : Int32} 
    (h : (σ.2.2 0 2 ≠ 0 ∧ (shq (σ.2.2 0 2)).1 = 1 ∧ (((σ.1 (σ.2.2 0 2) 0) ≤ x3 → G Θ (d + 1) 164 4 [some (.ref 0), some (.int x1), some (.int (x2 + 1)), none, none] [] σ Q) ∧ (¬ (σ.1 (σ.2.2 0 2) 0) ≤ x3 → Cr Θ d 163 [.ref 0, .int x2, .int x3] σ (fun v3 σ3 => (shq v3).1 = 5 ∧ ((x1 < 0 → Cv Θ d 47 [.ref 123, .long (σ3.2.1 v3 0), .long (σ3.2.1 v3 1)] σ3 (fun σ5 => G Θ (d + 1) 164 19 [some (.ref 0), some (.int ((10 * x2) + x3)), some (.int x2), some (.int (x3 + 1)), none] [] σ5 Q)) ∧ (¬ x1 < 0 → Ci Θ d 51 [.long (σ3.2.1 v3 0), .long (σ3.2.1 v3 1), .long (σ3.2.1 123 0), .long (σ3.2.1 123 1)] σ3 (fun v6 σ6 => ((0 ≤ v6 → G Θ (d + 1) 164 19 [some (.ref 0), some (.int x1), some (.int x2), some (.int (x3 + 1)), none] [] σ6 Q) ∧ (¬ 0 ≤ v6 → Cv Θ d 47 [.ref 123, .long (σ6.2.1 v3 0), .long (σ6.2.1 v3 1)] σ6 (fun σ8 => G Θ (d + 1) 164 19 [some (.ref 0), some (.int ((10 * x2) + x3)), some (.int x2), some (.int (x3 + 1)), none] [] σ8 Q))))))))))) :
    G Θ (d + 1) 164 19 [some (.ref 0), some (.int x1), some (.int x2), some (.int x3), none] [] σ Q := by
  refine r_iload_n ok164 13 rfl rfl rfl ?_
  refine r_aload_n ok164 14 rfl rfl rfl ?_
  obtain ⟨c1, s1, h1⟩ := h
  refine r_getR ok164 15 rfl rfl rfl rfl c1 ?_
  refine r_getI ok164 16 rfl rfl s1 rfl ?_
  refine r_icmp_ge ok164 17 rfl rfl (fun c2 => ?_) (fun c2 => ?_)
  · have h2 := h1.1 c2
    refine r_iinc (v := x2 + 1) ok164 52 rfl rfl rfl rfl ?_
    refine r_goto ok164 53 rfl rfl ?_
    exact G.weak (L' := [some (.ref 0), some (.int x1), some (.int (x2 + 1)), none, none]) ⟨rfl, ⟨rfl, ⟨rfl, trivial⟩⟩⟩ h2
  · have h2 := h1.2 c2
    refine r_aload_n ok164 18 rfl rfl rfl ?_
    refine r_iload_n ok164 19 rfl rfl rfl ?_
    refine r_iload_n ok164 20 rfl rfl rfl ?_
    refine r_invVr (as := [.int x2, .int x3]) (S := []) ok164 21 rfl rfl mf163 rfl rfl (Nat.le_of_ble_eq_true rfl) rfl h2 (fun v3 σ3 h3 => ?_)
    obtain ⟨s3, h3⟩ := h3
    refine r_astore ok164 22 rfl rfl ?_
    refine r_iload_n ok164 23 rfl rfl rfl ?_
    refine r_if_lt ok164 24 rfl rfl (fun c4 => ?_) (fun c4 => ?_)
    · have h4 := h3.1 c4
      refine r_aload_n ok164 37 rfl rfl rfl ?_
      refine r_getA ok164 38 rfl rfl rfl rfl ?_
      refine r_aload ok164 39 rfl rfl rfl ?_
      refine r_getL ok164 40 rfl rfl s3 rfl ?_
      refine r_aload ok164 41 rfl rfl rfl ?_
      refine r_getL ok164 42 rfl rfl s3 rfl ?_
      refine r_invVv (as := [.long (σ3.2.1 v3 0), .long (σ3.2.1 v3 1)]) (S := []) ok164 43 rfl rfl mf47 rfl rfl (Nat.le_of_ble_eq_true rfl) rfl h4 (fun σ5 h5 => ?_)
      refine r_bipush (v := 10) ok164 44 rfl rfl rfl ?_
      refine r_iload_n ok164 45 rfl rfl rfl ?_
      refine r_imul ok164 46 rfl rfl ?_
      refine r_iload_n ok164 47 rfl rfl rfl ?_
      refine r_iadd ok164 48 rfl rfl ?_
      refine r_istore_n ok164 49 rfl rfl ?_
      refine r_iinc (v := x3 + 1) ok164 50 rfl rfl rfl rfl ?_
      refine r_goto ok164 51 rfl rfl ?_
      exact G.weak (L' := [some (.ref 0), some (.int ((10 * x2) + x3)), some (.int x2), some (.int (x3 + 1)), none]) ⟨rfl, ⟨rfl, ⟨rfl, ⟨rfl, trivial⟩⟩⟩⟩ h5
    · have h4 := h3.2 c4
      refine r_aload ok164 25 rfl rfl rfl ?_
      refine r_getL ok164 26 rfl rfl s3 rfl ?_
      refine r_aload ok164 27 rfl rfl rfl ?_
      refine r_getL ok164 28 rfl rfl s3 rfl ?_
      refine r_aload_n ok164 29 rfl rfl rfl ?_
      refine r_getA ok164 30 rfl rfl rfl rfl ?_
      refine r_getL ok164 31 rfl rfl rfl rfl ?_
      refine r_aload_n ok164 32 rfl rfl rfl ?_
      refine r_getA ok164 33 rfl rfl rfl rfl ?_
      refine r_getL ok164 34 rfl rfl rfl rfl ?_
      refine r_invSi (as := [.long (σ3.2.1 v3 0), .long (σ3.2.1 v3 1), .long (σ3.2.1 123 0), .long (σ3.2.1 123 1)]) (S := []) ok164 35 rfl rfl mf51 rfl (Nat.le_of_ble_eq_true rfl) rfl h4 (fun v6 σ6 h6 => ?_)
      refine r_if_ge ok164 36 rfl rfl (fun c7 => ?_) (fun c7 => ?_)
      · have h7 := h6.1 c7
        refine r_iinc (v := x3 + 1) ok164 50 rfl rfl rfl rfl ?_
        refine r_goto ok164 51 rfl rfl ?_
        exact G.weak (L' := [some (.ref 0), some (.int x1), some (.int x2), some (.int (x3 + 1)), none]) ⟨rfl, ⟨rfl, ⟨rfl, ⟨rfl, trivial⟩⟩⟩⟩ h7
      · have h7 := h6.2 c7
        refine r_aload_n ok164 37 rfl rfl rfl ?_
        refine r_getA ok164 38 rfl rfl rfl rfl ?_
        refine r_aload ok164 39 rfl rfl rfl ?_
        refine r_getL ok164 40 rfl rfl s3 rfl ?_
        refine r_aload ok164 41 rfl rfl rfl ?_
        refine r_getL ok164 42 rfl rfl s3 rfl ?_
        refine r_invVv (as := [.long (σ6.2.1 v3 0), .long (σ6.2.1 v3 1)]) (S := []) ok164 43 rfl rfl mf47 rfl rfl (Nat.le_of_ble_eq_true rfl) rfl h7 (fun σ8 h8 => ?_)
        refine r_bipush (v := 10) ok164 44 rfl rfl rfl ?_
        refine r_iload_n ok164 45 rfl rfl rfl ?_
        refine r_imul ok164 46 rfl rfl ?_
        refine r_iload_n ok164 47 rfl rfl rfl ?_
        refine r_iadd ok164 48 rfl rfl ?_
        refine r_istore_n ok164 49 rfl rfl ?_
        refine r_iinc (v := x3 + 1) ok164 50 rfl rfl rfl rfl ?_
        refine r_goto ok164 51 rfl rfl ?_
        exact G.weak (L' := [some (.ref 0), some (.int ((10 * x2) + x3)), some (.int x2), some (.int (x3 + 1)), none]) ⟨rfl, ⟨rfl, ⟨rfl, ⟨rfl, trivial⟩⟩⟩⟩ h8

theorem K164 {Θ : Th} {d : Nat} {σ : Mem} {Q : Po} (h : G Θ (d + 1) 164 0 [some (.ref 0), none, none, none, none] [] σ Q) : Cm Θ (d + 1) 164 [.ref 0] σ Q :=
  C_of_G okM164 (Nat.le_of_ble_eq_true rfl) rfl h

-- 165: LikeYears.outside(III)I
set_option maxRecDepth 100000 in
set_option maxHeartbeats 4000000 in
theorem B165_0 {Θ : Th} {d : Nat} {σ : Mem} {Q : Po} {x0 : Int32} {x1 : Int32} {x2 : Int32} 
    (h : ((x1 ≤ x0 → ((x0 ≤ x2 → Q (some (.int 0)) σ) ∧ (¬ x0 ≤ x2 → Q (some (.int (x0 - x2))) σ))) ∧ (¬ x1 ≤ x0 → Q (some (.int (x1 - x0))) σ))) :
    G Θ d 165 0 [some (.int x0), some (.int x1), some (.int x2)] [] σ Q := by
  refine r_iload_n ok165 0 rfl rfl rfl ?_
  refine r_iload_n ok165 1 rfl rfl rfl ?_
  refine r_icmp_ge ok165 2 rfl rfl (fun c1 => ?_) (fun c1 => ?_)
  · have h1 := h.1 c1
    refine r_iload_n ok165 7 rfl rfl rfl ?_
    refine r_iload_n ok165 8 rfl rfl rfl ?_
    refine r_icmp_le ok165 9 rfl rfl (fun c2 => ?_) (fun c2 => ?_)
    · have h2 := h1.1 c2
      refine r_iconst (v := 0) ok165 14 rfl rfl rfl ?_
      exact r_iret ok165 15 rfl rfl rfl h2
    · have h2 := h1.2 c2
      refine r_iload_n ok165 10 rfl rfl rfl ?_
      refine r_iload_n ok165 11 rfl rfl rfl ?_
      refine r_isub ok165 12 rfl rfl ?_
      refine r_goto ok165 13 rfl rfl ?_
      exact r_iret ok165 15 rfl rfl rfl h2
  · have h1 := h.2 c1
    refine r_iload_n ok165 3 rfl rfl rfl ?_
    refine r_iload_n ok165 4 rfl rfl rfl ?_
    refine r_isub ok165 5 rfl rfl ?_
    exact r_iret ok165 6 rfl rfl rfl h1

theorem K165 {Θ : Th} {d : Nat} {σ : Mem} {Q : Po} {x0 : Int32} {x1 : Int32} {x2 : Int32} (h : G Θ d 165 0 [some (.int x0), some (.int x1), some (.int x2)] [] σ Q) : Cm Θ d 165 [.int x0, .int x1, .int x2] σ Q :=
  C_of_G okM165 (Nat.le_of_ble_eq_true rfl) rfl h

-- 166: LikeYears.moveOf(I)I
set_option maxRecDepth 100000 in
set_option maxHeartbeats 4000000 in
theorem B166_0 {Θ : Th} {d : Nat} {σ : Mem} {Q : Po} {x1 : Int32} 
    (h : (σ.2.2 0 4 ≠ 0 ∧ (shq (σ.2.2 0 4)).1 = 6 ∧ (σ.2.2 0 2 ≠ 0 ∧ (shq (σ.2.2 0 2)).1 = 1 ∧ Ci Θ d 61 [.ref (σ.2.2 0 4), .ref (σ.2.2 0 2), .int x1] σ (fun v3 σ3 => ((0 ≤ v3 → (σ3.2.2 0 2 ≠ 0 ∧ (shq (σ3.2.2 0 2)).1 = 1 ∧ (vp_in x1 16 ∧ (σ3.2.2 0 4 ≠ 0 ∧ (shq (σ3.2.2 0 4)).1 = 6 ∧ (vp_in v3 8 ∧ (σ3.2.2 0 4 ≠ 0 ∧ (shq (σ3.2.2 0 4)).1 = 6 ∧ (vp_in v3 8 ∧ Ci Θ d 165 [.int (σ3.1 (σ3.2.2 0 2 + 5) x1.toNatClampNeg), .int (σ3.1 (σ3.2.2 0 4 + 1) v3.toNatClampNeg), .int (σ3.1 (σ3.2.2 0 4 + 2) v3.toNatClampNeg)] σ3 (fun v11 σ11 => Q (some (.int v11)) σ11)))))))) ∧ (¬ 0 ≤ v3 → Q (some (.int 0)) σ3)))))) :
    G Θ (d + 1) 166 0 [some (.ref 0), some (.int x1), none] [] σ Q := by
  refine r_aload_n ok166 0 rfl rfl rfl ?_
  obtain ⟨c1, s1, h1⟩ := h
  refine r_getR ok166 1 rfl rfl rfl rfl c1 ?_
  refine r_aload_n ok166 2 rfl rfl rfl ?_
  obtain ⟨c2, s2, h2⟩ := h1
  refine r_getR ok166 3 rfl rfl rfl rfl c2 ?_
  refine r_iload_n ok166 4 rfl rfl rfl ?_
  refine r_invVi (as := [.ref (σ.2.2 0 2), .int x1]) (S := []) ok166 5 rfl rfl mf61 s1 rfl (Nat.le_of_ble_eq_true rfl) rfl h2 (fun v3 σ3 h3 => ?_)
  refine r_istore_n ok166 6 rfl rfl ?_
  refine r_iload_n ok166 7 rfl rfl rfl ?_
  refine r_if_ge ok166 8 rfl rfl (fun c4 => ?_) (fun c4 => ?_)
  · have h4 := h3.1 c4
    refine r_aload_n ok166 11 rfl rfl rfl ?_
    obtain ⟨c5, s5, h5⟩ := h4
    refine r_getR ok166 12 rfl rfl rfl rfl c5 ?_
    refine r_getF ok166 13 rfl rfl s5 rfl ?_
    refine r_iload_n ok166 14 rfl rfl rfl ?_
    obtain ⟨c6, h6⟩ := h5
    refine r_iald ok166 15 rfl rfl (rel_shp s5 (i := 8) rfl) c6 ?_
    refine r_aload_n ok166 16 rfl rfl rfl ?_
    obtain ⟨c7, s7, h7⟩ := h6
    refine r_getR ok166 17 rfl rfl rfl rfl c7 ?_
    refine r_getF ok166 18 rfl rfl s7 rfl ?_
    refine r_iload_n ok166 19 rfl rfl rfl ?_
    obtain ⟨c8, h8⟩ := h7
    refine r_iald ok166 20 rfl rfl (rel_shp s7 (i := 23) rfl) c8 ?_
    refine r_aload_n ok166 21 rfl rfl rfl ?_
    obtain ⟨c9, s9, h9⟩ := h8
    refine r_getR ok166 22 rfl rfl rfl rfl c9 ?_
    refine r_getF ok166 23 rfl rfl s9 rfl ?_
    refine r_iload_n ok166 24 rfl rfl rfl ?_
    obtain ⟨c10, h10⟩ := h9
    refine r_iald ok166 25 rfl rfl (rel_shp s9 (i := 24) rfl) c10 ?_
    refine r_invSi (as := [.int (σ3.1 (σ3.2.2 0 2 + 5) x1.toNatClampNeg), .int (σ3.1 (σ3.2.2 0 4 + 1) v3.toNatClampNeg), .int (σ3.1 (σ3.2.2 0 4 + 2) v3.toNatClampNeg)]) (S := []) ok166 26 rfl rfl mf165 rfl (Nat.le_of_ble_eq_true rfl) rfl h10 (fun v11 σ11 h11 => ?_)
    exact r_iret ok166 27 rfl rfl rfl h11
  · have h4 := h3.2 c4
    refine r_iconst (v := 0) ok166 9 rfl rfl rfl ?_
    refine r_goto ok166 10 rfl rfl ?_
    exact r_iret ok166 27 rfl rfl rfl h4

theorem K166 {Θ : Th} {d : Nat} {σ : Mem} {Q : Po} {x1 : Int32} (h : G Θ (d + 1) 166 0 [some (.ref 0), some (.int x1), none] [] σ Q) : Cm Θ (d + 1) 166 [.ref 0, .int x1] σ Q :=
  C_of_G okM166 (Nat.le_of_ble_eq_true rfl) rfl h

-- 167: LikeYears.act(IIII)V
set_option maxRecDepth 100000 in
set_option maxHeartbeats 4000000 in
theorem B167_0 {Θ : Th} {d : Nat} {σ : Mem} {Q : Po} {x1 : Int32} {x2 : Int32} {x3 : Int32} {x4 : Int32} 
    (h : Cv Θ d 1 [.ref 78, .int x1, .int x2, .int x3, .int x4] σ (fun σ1 => (σ1.2.2 0 2 ≠ 0 ∧ (shq (σ1.2.2 0 2)).1 = 1 ∧ Cv Θ d 5 [.ref (σ1.2.2 0 2), .int x1, .int x2, .int x4] σ1 (fun σ3 => Q none (sI σ3 0 17 0))))) :
    G Θ (d + 1) 167 0 [some (.ref 0), some (.int x1), some (.int x2), some (.int x3), some (.int x4)] [] σ Q := by
  refine r_aload_n ok167 0 rfl rfl rfl ?_
  refine r_getA ok167 1 rfl rfl rfl rfl ?_
  refine r_iload_n ok167 2 rfl rfl rfl ?_
  refine r_iload_n ok167 3 rfl rfl rfl ?_
  refine r_iload_n ok167 4 rfl rfl rfl ?_
  refine r_iload ok167 5 rfl rfl rfl ?_
  refine r_invVv (as := [.int x1, .int x2, .int x3, .int x4]) (S := []) ok167 6 rfl rfl mf1 rfl rfl (Nat.le_of_ble_eq_true rfl) rfl h (fun σ1 h1 => ?_)
  refine r_aload_n ok167 7 rfl rfl rfl ?_
  obtain ⟨c2, s2, h2⟩ := h1
  refine r_getR ok167 8 rfl rfl rfl rfl c2 ?_
  refine r_iload_n ok167 9 rfl rfl rfl ?_
  refine r_iload_n ok167 10 rfl rfl rfl ?_
  refine r_iload ok167 11 rfl rfl rfl ?_
  refine r_invSv (as := [.ref (σ1.2.2 0 2), .int x1, .int x2, .int x4]) (S := []) ok167 12 rfl rfl mf5 rfl (Nat.le_of_ble_eq_true rfl) rfl h2 (fun σ3 h3 => ?_)
  refine r_aload_n ok167 13 rfl rfl rfl ?_
  refine r_iconst (v := 0) ok167 14 rfl rfl rfl ?_
  refine r_putI ok167 15 rfl rfl rfl rfl ?_
  exact r_ret ok167 16 rfl rfl rfl h3

theorem K167 {Θ : Th} {d : Nat} {σ : Mem} {Q : Po} {x1 : Int32} {x2 : Int32} {x3 : Int32} {x4 : Int32} (h : G Θ (d + 1) 167 0 [some (.ref 0), some (.int x1), some (.int x2), some (.int x3), some (.int x4)] [] σ Q) : Cm Θ (d + 1) 167 [.ref 0, .int x1, .int x2, .int x3, .int x4] σ Q :=
  C_of_G okM167 (Nat.le_of_ble_eq_true rfl) rfl h
