-- 0: LikeYears$Acts.forget()V
set_option maxRecDepth 100000 in
set_option maxHeartbeats 4000000 in
theorem B0_0 {Θ : Th} {d : Nat} {σ : Mem} {Q : Po} 
    (h : Q none (sI (sI σ 78 0 0) 78 1 0)) :
    G Θ d 0 0 [some (.ref 78)] [] σ Q := by
  refine r_aload_n ok0 0 rfl rfl rfl ?_
  refine r_iconst (v := 0) ok0 1 rfl rfl rfl ?_
  refine r_putI ok0 2 rfl rfl rfl rfl ?_
  refine r_aload_n ok0 3 rfl rfl rfl ?_
  refine r_iconst (v := 0) ok0 4 rfl rfl rfl ?_
  refine r_putI ok0 5 rfl rfl rfl rfl ?_
  exact r_ret ok0 6 rfl rfl rfl h

theorem K0 {Θ : Th} {d : Nat} {σ : Mem} {Q : Po} (h : G Θ d 0 0 [some (.ref 78)] [] σ Q) : Cm Θ d 0 [.ref 78] σ Q :=
  C_of_G okM0 (Nat.le_of_ble_eq_true rfl) rfl h

-- 1: LikeYears$Acts.add(IIII)V
set_option maxRecDepth 100000 in
set_option maxHeartbeats 4000000 in
theorem B1_0 {Θ : Th} {d : Nat} {σ : Mem} {Q : Po} {x1 : Int32} {x2 : Int32} {x3 : Int32} {x4 : Int32} 
    (h : ((¬ (σ.1 78 0) = 60 → (vp_in (σ.1 78 0) 60 ∧ (vp_in ((sI σ 79 ((σ.1 78 0).toNatClampNeg) x1).1 78 0) 60 ∧ (vp_in ((sI (sI σ 79 ((σ.1 78 0).toNatClampNeg) x1) 80 (((sI σ 79 ((σ.1 78 0).toNatClampNeg) x1).1 78 0).toNatClampNeg) x2).1 78 0) 60 ∧ (vp_in ((sI (sI (sI σ 79 ((σ.1 78 0).toNatClampNeg) x1) 80 (((sI σ 79 ((σ.1 78 0).toNatClampNeg) x1).1 78 0).toNatClampNeg) x2) 81 (((sI (sI σ 79 ((σ.1 78 0).toNatClampNeg) x1) 80 (((sI σ 79 ((σ.1 78 0).toNatClampNeg) x1).1 78 0).toNatClampNeg) x2).1 78 0).toNatClampNeg) x3).1 78 0) 60 ∧ Q none (sI (sI (sI (sI (sI (sI σ 79 ((σ.1 78 0).toNatClampNeg) x1) 80 (((sI σ 79 ((σ.1 78 0).toNatClampNeg) x1).1 78 0).toNatClampNeg) x2) 81 (((sI (sI σ 79 ((σ.1 78 0).toNatClampNeg) x1) 80 (((sI σ 79 ((σ.1 78 0).toNatClampNeg) x1).1 78 0).toNatClampNeg) x2).1 78 0).toNatClampNeg) x3) 82 (((sI (sI (sI σ 79 ((σ.1 78 0).toNatClampNeg) x1) 80 (((sI σ 79 ((σ.1 78 0).toNatClampNeg) x1).1 78 0).toNatClampNeg) x2) 81 (((sI (sI σ 79 ((σ.1 78 0).toNatClampNeg) x1) 80 (((sI σ 79 ((σ.1 78 0).toNatClampNeg) x1).1 78 0).toNatClampNeg) x2).1 78 0).toNatClampNeg) x3).1 78 0).toNatClampNeg) x4) 78 0 (((sI (sI (sI (sI σ 79 ((σ.1 78 0).toNatClampNeg) x1) 80 (((sI σ 79 ((σ.1 78 0).toNatClampNeg) x1).1 78 0).toNatClampNeg) x2) 81 (((sI (sI σ 79 ((σ.1 78 0).toNatClampNeg) x1) 80 (((sI σ 79 ((σ.1 78 0).toNatClampNeg) x1).1 78 0).toNatClampNeg) x2).1 78 0).toNatClampNeg) x3) 82 (((sI (sI (sI σ 79 ((σ.1 78 0).toNatClampNeg) x1) 80 (((sI σ 79 ((σ.1 78 0).toNatClampNeg) x1).1 78 0).toNatClampNeg) x2) 81 (((sI (sI σ 79 ((σ.1 78 0).toNatClampNeg) x1) 80 (((sI σ 79 ((σ.1 78 0).toNatClampNeg) x1).1 78 0).toNatClampNeg) x2).1 78 0).toNatClampNeg) x3).1 78 0).toNatClampNeg) x4).1 78 0) + 1)) 78 1 ((sI (sI (sI (sI (sI σ 79 ((σ.1 78 0).toNatClampNeg) x1) 80 (((sI σ 79 ((σ.1 78 0).toNatClampNeg) x1).1 78 0).toNatClampNeg) x2) 81 (((sI (sI σ 79 ((σ.1 78 0).toNatClampNeg) x1) 80 (((sI σ 79 ((σ.1 78 0).toNatClampNeg) x1).1 78 0).toNatClampNeg) x2).1 78 0).toNatClampNeg) x3) 82 (((sI (sI (sI σ 79 ((σ.1 78 0).toNatClampNeg) x1) 80 (((sI σ 79 ((σ.1 78 0).toNatClampNeg) x1).1 78 0).toNatClampNeg) x2) 81 (((sI (sI σ 79 ((σ.1 78 0).toNatClampNeg) x1) 80 (((sI σ 79 ((σ.1 78 0).toNatClampNeg) x1).1 78 0).toNatClampNeg) x2).1 78 0).toNatClampNeg) x3).1 78 0).toNatClampNeg) x4) 78 0 (((sI (sI (sI (sI σ 79 ((σ.1 78 0).toNatClampNeg) x1) 80 (((sI σ 79 ((σ.1 78 0).toNatClampNeg) x1).1 78 0).toNatClampNeg) x2) 81 (((sI (sI σ 79 ((σ.1 78 0).toNatClampNeg) x1) 80 (((sI σ 79 ((σ.1 78 0).toNatClampNeg) x1).1 78 0).toNatClampNeg) x2).1 78 0).toNatClampNeg) x3) 82 (((sI (sI (sI σ 79 ((σ.1 78 0).toNatClampNeg) x1) 80 (((sI σ 79 ((σ.1 78 0).toNatClampNeg) x1).1 78 0).toNatClampNeg) x2) 81 (((sI (sI σ 79 ((σ.1 78 0).toNatClampNeg) x1) 80 (((sI σ 79 ((σ.1 78 0).toNatClampNeg) x1).1 78 0).toNatClampNeg) x2).1 78 0).toNatClampNeg) x3).1 78 0).toNatClampNeg) x4).1 78 0) + 1)).1 78 0))))))) ∧ ((σ.1 78 0) = 60 → Cv Θ d 2 [.ref 79] σ (fun σ6 => Cv Θ d 2 [.ref 80] σ6 (fun σ7 => Cv Θ d 2 [.ref 81] σ7 (fun σ8 => Cv Θ d 2 [.ref 82] σ8 (fun σ9 => (vp_in ((sI σ9 78 0 ((σ9.1 78 0) - 1)).1 78 0) 60 ∧ (vp_in ((sI (sI σ9 78 0 ((σ9.1 78 0) - 1)) 79 (((sI σ9 78 0 ((σ9.1 78 0) - 1)).1 78 0).toNatClampNeg) x1).1 78 0) 60 ∧ (vp_in ((sI (sI (sI σ9 78 0 ((σ9.1 78 0) - 1)) 79 (((sI σ9 78 0 ((σ9.1 78 0) - 1)).1 78 0).toNatClampNeg) x1) 80 (((sI (sI σ9 78 0 ((σ9.1 78 0) - 1)) 79 (((sI σ9 78 0 ((σ9.1 78 0) - 1)).1 78 0).toNatClampNeg) x1).1 78 0).toNatClampNeg) x2).1 78 0) 60 ∧ (vp_in ((sI (sI (sI (sI σ9 78 0 ((σ9.1 78 0) - 1)) 79 (((sI σ9 78 0 ((σ9.1 78 0) - 1)).1 78 0).toNatClampNeg) x1) 80 (((sI (sI σ9 78 0 ((σ9.1 78 0) - 1)) 79 (((sI σ9 78 0 ((σ9.1 78 0) - 1)).1 78 0).toNatClampNeg) x1).1 78 0).toNatClampNeg) x2) 81 (((sI (sI (sI σ9 78 0 ((σ9.1 78 0) - 1)) 79 (((sI σ9 78 0 ((σ9.1 78 0) - 1)).1 78 0).toNatClampNeg) x1) 80 (((sI (sI σ9 78 0 ((σ9.1 78 0) - 1)) 79 (((sI σ9 78 0 ((σ9.1 78 0) - 1)).1 78 0).toNatClampNeg) x1).1 78 0).toNatClampNeg) x2).1 78 0).toNatClampNeg) x3).1 78 0) 60 ∧ Q none (sI (sI (sI (sI (sI (sI (sI σ9 78 0 ((σ9.1 78 0) - 1)) 79 (((sI σ9 78 0 ((σ9.1 78 0) - 1)).1 78 0).toNatClampNeg) x1) 80 (((sI (sI σ9 78 0 ((σ9.1 78 0) - 1)) 79 (((sI σ9 78 0 ((σ9.1 78 0) - 1)).1 78 0).toNatClampNeg) x1).1 78 0).toNatClampNeg) x2) 81 (((sI (sI (sI σ9 78 0 ((σ9.1 78 0) - 1)) 79 (((sI σ9 78 0 ((σ9.1 78 0) - 1)).1 78 0).toNatClampNeg) x1) 80 (((sI (sI σ9 78 0 ((σ9.1 78 0) - 1)) 79 (((sI σ9 78 0 ((σ9.1 78 0) - 1)).1 78 0).toNatClampNeg) x1).1 78 0).toNatClampNeg) x2).1 78 0).toNatClampNeg) x3) 82 (((sI (sI (sI (sI σ9 78 0 ((σ9.1 78 0) - 1)) 79 (((sI σ9 78 0 ((σ9.1 78 0) - 1)).1 78 0).toNatClampNeg) x1) 80 (((sI (sI σ9 78 0 ((σ9.1 78 0) - 1)) 79 (((sI σ9 78 0 ((σ9.1 78 0) - 1)).1 78 0).toNatClampNeg) x1).1 78 0).toNatClampNeg) x2) 81 (((sI (sI (sI σ9 78 0 ((σ9.1 78 0) - 1)) 79 (((sI σ9 78 0 ((σ9.1 78 0) - 1)).1 78 0).toNatClampNeg) x1) 80 (((sI (sI σ9 78 0 ((σ9.1 78 0) - 1)) 79 (((sI σ9 78 0 ((σ9.1 78 0) - 1)).1 78 0).toNatClampNeg) x1).1 78 0).toNatClampNeg) x2).1 78 0).toNatClampNeg) x3).1 78 0).toNatClampNeg) x4) 78 0 (((sI (sI (sI (sI (sI σ9 78 0 ((σ9.1 78 0) - 1)) 79 (((sI σ9 78 0 ((σ9.1 78 0) - 1)).1 78 0).toNatClampNeg) x1) 80 (((sI (sI σ9 78 0 ((σ9.1 78 0) - 1)) 79 (((sI σ9 78 0 ((σ9.1 78 0) - 1)).1 78 0).toNatClampNeg) x1).1 78 0).toNatClampNeg) x2) 81 (((sI (sI (sI σ9 78 0 ((σ9.1 78 0) - 1)) 79 (((sI σ9 78 0 ((σ9.1 78 0) - 1)).1 78 0).toNatClampNeg) x1) 80 (((sI (sI σ9 78 0 ((σ9.1 78 0) - 1)) 79 (((sI σ9 78 0 ((σ9.1 78 0) - 1)).1 78 0).toNatClampNeg) x1).1 78 0).toNatClampNeg) x2).1 78 0).toNatClampNeg) x3) 82 (((sI (sI (sI (sI σ9 78 0 ((σ9.1 78 0) - 1)) 79 (((sI σ9 78 0 ((σ9.1 78 0) - 1)).1 78 0).toNatClampNeg) x1) 80 (((sI (sI σ9 78 0 ((σ9.1 78 0) - 1)) 79 (((sI σ9 78 0 ((σ9.1 78 0) - 1)).1 78 0).toNatClampNeg) x1).1 78 0).toNatClampNeg) x2) 81 (((sI (sI (sI σ9 78 0 ((σ9.1 78 0) - 1)) 79 (((sI σ9 78 0 ((σ9.1 78 0) - 1)).1 78 0).toNatClampNeg) x1) 80 (((sI (sI σ9 78 0 ((σ9.1 78 0) - 1)) 79 (((sI σ9 78 0 ((σ9.1 78 0) - 1)).1 78 0).toNatClampNeg) x1).1 78 0).toNatClampNeg) x2).1 78 0).toNatClampNeg) x3).1 78 0).toNatClampNeg) x4).1 78 0) + 1)) 78 1 ((sI (sI (sI (sI (sI (sI σ9 78 0 ((σ9.1 78 0) - 1)) 79 (((sI σ9 78 0 ((σ9.1 78 0) - 1)).1 78 0).toNatClampNeg) x1) 80 (((sI (sI σ9 78 0 ((σ9.1 78 0) - 1)) 79 (((sI σ9 78 0 ((σ9.1 78 0) - 1)).1 78 0).toNatClampNeg) x1).1 78 0).toNatClampNeg) x2) 81 (((sI (sI (sI σ9 78 0 ((σ9.1 78 0) - 1)) 79 (((sI σ9 78 0 ((σ9.1 78 0) - 1)).1 78 0).toNatClampNeg) x1) 80 (((sI (sI σ9 78 0 ((σ9.1 78 0) - 1)) 79 (((sI σ9 78 0 ((σ9.1 78 0) - 1)).1 78 0).toNatClampNeg) x1).1 78 0).toNatClampNeg) x2).1 78 0).toNatClampNeg) x3) 82 (((sI (sI (sI (sI σ9 78 0 ((σ9.1 78 0) - 1)) 79 (((sI σ9 78 0 ((σ9.1 78 0) - 1)).1 78 0).toNatClampNeg) x1) 80 (((sI (sI σ9 78 0 ((σ9.1 78 0) - 1)) 79 (((sI σ9 78 0 ((σ9.1 78 0) - 1)).1 78 0).toNatClampNeg) x1).1 78 0).toNatClampNeg) x2) 81 (((sI (sI (sI σ9 78 0 ((σ9.1 78 0) - 1)) 79 (((sI σ9 78 0 ((σ9.1 78 0) - 1)).1 78 0).toNatClampNeg) x1) 80 (((sI (sI σ9 78 0 ((σ9.1 78 0) - 1)) 79 (((sI σ9 78 0 ((σ9.1 78 0) - 1)).1 78 0).toNatClampNeg) x1).1 78 0).toNatClampNeg) x2).1 78 0).toNatClampNeg) x3).1 78 0).toNatClampNeg) x4) 78 0 (((sI (sI (sI (sI (sI σ9 78 0 ((σ9.1 78 0) - 1)) 79 (((sI σ9 78 0 ((σ9.1 78 0) - 1)).1 78 0).toNatClampNeg) x1) 80 (((sI (sI σ9 78 0 ((σ9.1 78 0) - 1)) 79 (((sI σ9 78 0 ((σ9.1 78 0) - 1)).1 78 0).toNatClampNeg) x1).1 78 0).toNatClampNeg) x2) 81 (((sI (sI (sI σ9 78 0 ((σ9.1 78 0) - 1)) 79 (((sI σ9 78 0 ((σ9.1 78 0) - 1)).1 78 0).toNatClampNeg) x1) 80 (((sI (sI σ9 78 0 ((σ9.1 78 0) - 1)) 79 (((sI σ9 78 0 ((σ9.1 78 0) - 1)).1 78 0).toNatClampNeg) x1).1 78 0).toNatClampNeg) x2).1 78 0).toNatClampNeg) x3) 82 (((sI (sI (sI (sI σ9 78 0 ((σ9.1 78 0) - 1)) 79 (((sI σ9 78 0 ((σ9.1 78 0) - 1)).1 78 0).toNatClampNeg) x1) 80 (((sI (sI σ9 78 0 ((σ9.1 78 0) - 1)) 79 (((sI σ9 78 0 ((σ9.1 78 0) - 1)).1 78 0).toNatClampNeg) x1).1 78 0).toNatClampNeg) x2) 81 (((sI (sI (sI σ9 78 0 ((σ9.1 78 0) - 1)) 79 (((sI σ9 78 0 ((σ9.1 78 0) - 1)).1 78 0).toNatClampNeg) x1) 80 (((sI (sI σ9 78 0 ((σ9.1 78 0) - 1)) 79 (((sI σ9 78 0 ((σ9.1 78 0) - 1)).1 78 0).toNatClampNeg) x1).1 78 0).toNatClampNeg) x2).1 78 0).toNatClampNeg) x3).1 78 0).toNatClampNeg) x4).1 78 0) + 1)).1 78 0))))))))))))) :
    G Θ (d + 1) 1 0 [some (.ref 78), some (.int x1), some (.int x2), some (.int x3), some (.int x4)] [] σ Q := by
  refine r_aload_n ok1 0 rfl rfl rfl ?_
  refine r_getI ok1 1 rfl rfl rfl rfl ?_
  refine r_bipush (v := 60) ok1 2 rfl rfl rfl ?_
  refine r_icmp_ne ok1 3 rfl rfl (fun c1 => ?_) (fun c1 => ?_)
  · have h1 := h.1 c1
    refine r_aload_n ok1 22 rfl rfl rfl ?_
    refine r_getF ok1 23 rfl rfl rfl rfl ?_
    refine r_aload_n ok1 24 rfl rfl rfl ?_
    refine r_getI ok1 25 rfl rfl rfl rfl ?_
    refine r_iload_n ok1 26 rfl rfl rfl ?_
    obtain ⟨c2, h2⟩ := h1
    refine r_iast ok1 27 rfl rfl rfl c2 ?_
    refine r_aload_n ok1 28 rfl rfl rfl ?_
    refine r_getF ok1 29 rfl rfl rfl rfl ?_
    refine r_aload_n ok1 30 rfl rfl rfl ?_
    refine r_getI ok1 31 rfl rfl rfl rfl ?_
    refine r_iload_n ok1 32 rfl rfl rfl ?_
    obtain ⟨c3, h3⟩ := h2
    refine r_iast ok1 33 rfl rfl rfl c3 ?_
    refine r_aload_n ok1 34 rfl rfl rfl ?_
    refine r_getF ok1 35 rfl rfl rfl rfl ?_
    refine r_aload_n ok1 36 rfl rfl rfl ?_
    refine r_getI ok1 37 rfl rfl rfl rfl ?_
    refine r_iload_n ok1 38 rfl rfl rfl ?_
    obtain ⟨c4, h4⟩ := h3
    refine r_iast ok1 39 rfl rfl rfl c4 ?_
    refine r_aload_n ok1 40 rfl rfl rfl ?_
    refine r_getF ok1 41 rfl rfl rfl rfl ?_
    refine r_aload_n ok1 42 rfl rfl rfl ?_
    refine r_getI ok1 43 rfl rfl rfl rfl ?_
    refine r_iload ok1 44 rfl rfl rfl ?_
    obtain ⟨c5, h5⟩ := h4
    refine r_iast ok1 45 rfl rfl rfl c5 ?_
    refine r_aload_n ok1 46 rfl rfl rfl ?_
    refine r_dup ok1 47 rfl rfl rfl ?_
    refine r_getI ok1 48 rfl rfl rfl rfl ?_
    refine r_iconst (v := 1) ok1 49 rfl rfl rfl ?_
    refine r_iadd ok1 50 rfl rfl ?_
    refine r_putI ok1 51 rfl rfl rfl rfl ?_
    refine r_aload_n ok1 52 rfl rfl rfl ?_
    refine r_aload_n ok1 53 rfl rfl rfl ?_
    refine r_getI ok1 54 rfl rfl rfl rfl ?_
    refine r_putI ok1 55 rfl rfl rfl rfl ?_
    exact r_ret ok1 56 rfl rfl rfl h5
  · have h1 := h.2 c1
    refine r_aload_n ok1 4 rfl rfl rfl ?_
    refine r_getF ok1 5 rfl rfl rfl rfl ?_
    refine r_invSv (as := [.ref 79]) (S := []) ok1 6 rfl rfl mf2 rfl (Nat.le_of_ble_eq_true rfl) rfl h1 (fun σ6 h6 => ?_)
    refine r_aload_n ok1 7 rfl rfl rfl ?_
    refine r_getF ok1 8 rfl rfl rfl rfl ?_
    refine r_invSv (as := [.ref 80]) (S := []) ok1 9 rfl rfl mf2 rfl (Nat.le_of_ble_eq_true rfl) rfl h6 (fun σ7 h7 => ?_)
    refine r_aload_n ok1 10 rfl rfl rfl ?_
    refine r_getF ok1 11 rfl rfl rfl rfl ?_
    refine r_invSv (as := [.ref 81]) (S := []) ok1 12 rfl rfl mf2 rfl (Nat.le_of_ble_eq_true rfl) rfl h7 (fun σ8 h8 => ?_)
    refine r_aload_n ok1 13 rfl rfl rfl ?_
    refine r_getF ok1 14 rfl rfl rfl rfl ?_
    refine r_invSv (as := [.ref 82]) (S := []) ok1 15 rfl rfl mf2 rfl (Nat.le_of_ble_eq_true rfl) rfl h8 (fun σ9 h9 => ?_)
    refine r_aload_n ok1 16 rfl rfl rfl ?_
    refine r_dup ok1 17 rfl rfl rfl ?_
    refine r_getI ok1 18 rfl rfl rfl rfl ?_
    refine r_iconst (v := 1) ok1 19 rfl rfl rfl ?_
    refine r_isub ok1 20 rfl rfl ?_
    refine r_putI ok1 21 rfl rfl rfl rfl ?_
    refine r_aload_n ok1 22 rfl rfl rfl ?_
    refine r_getF ok1 23 rfl rfl rfl rfl ?_
    refine r_aload_n ok1 24 rfl rfl rfl ?_
    refine r_getI ok1 25 rfl rfl rfl rfl ?_
    refine r_iload_n ok1 26 rfl rfl rfl ?_
    obtain ⟨c10, h10⟩ := h9
    refine r_iast ok1 27 rfl rfl rfl c10 ?_
    refine r_aload_n ok1 28 rfl rfl rfl ?_
    refine r_getF ok1 29 rfl rfl rfl rfl ?_
    refine r_aload_n ok1 30 rfl rfl rfl ?_
    refine r_getI ok1 31 rfl rfl rfl rfl ?_
    refine r_iload_n ok1 32 rfl rfl rfl ?_
    obtain ⟨c11, h11⟩ := h10
    refine r_iast ok1 33 rfl rfl rfl c11 ?_
    refine r_aload_n ok1 34 rfl rfl rfl ?_
    refine r_getF ok1 35 rfl rfl rfl rfl ?_
    refine r_aload_n ok1 36 rfl rfl rfl ?_
    refine r_getI ok1 37 rfl rfl rfl rfl ?_
    refine r_iload_n ok1 38 rfl rfl rfl ?_
    obtain ⟨c12, h12⟩ := h11
    refine r_iast ok1 39 rfl rfl rfl c12 ?_
    refine r_aload_n ok1 40 rfl rfl rfl ?_
    refine r_getF ok1 41 rfl rfl rfl rfl ?_
    refine r_aload_n ok1 42 rfl rfl rfl ?_
    refine r_getI ok1 43 rfl rfl rfl rfl ?_
    refine r_iload ok1 44 rfl rfl rfl ?_
    obtain ⟨c13, h13⟩ := h12
    refine r_iast ok1 45 rfl rfl rfl c13 ?_
    refine r_aload_n ok1 46 rfl rfl rfl ?_
    refine r_dup ok1 47 rfl rfl rfl ?_
    refine r_getI ok1 48 rfl rfl rfl rfl ?_
    refine r_iconst (v := 1) ok1 49 rfl rfl rfl ?_
    refine r_iadd ok1 50 rfl rfl ?_
    refine r_putI ok1 51 rfl rfl rfl rfl ?_
    refine r_aload_n ok1 52 rfl rfl rfl ?_
    refine r_aload_n ok1 53 rfl rfl rfl ?_
    refine r_getI ok1 54 rfl rfl rfl rfl ?_
    refine r_putI ok1 55 rfl rfl rfl rfl ?_
    exact r_ret ok1 56 rfl rfl rfl h13

theorem K1 {Θ : Th} {d : Nat} {σ : Mem} {Q : Po} {x1 : Int32} {x2 : Int32} {x3 : Int32} {x4 : Int32} (h : G Θ (d + 1) 1 0 [some (.ref 78), some (.int x1), some (.int x2), some (.int x3), some (.int x4)] [] σ Q) : Cm Θ (d + 1) 1 [.ref 78, .int x1, .int x2, .int x3, .int x4] σ Q :=
  C_of_G okM1 (Nat.le_of_ble_eq_true rfl) rfl h

-- 2: LikeYears$Acts.dropFirst([I)V
set_option maxRecDepth 100000 in
set_option maxHeartbeats 4000000 in
theorem B2_0 {Θ : Th} {d : Nat} {σ : Mem} {Q : Po} {r0 n0 : Nat} (hp0 : shq r0 = (20, n0))
    (h : ((¬ (1 : Int32) < 0 ∧ ¬ (0 : Int32) < 0 ∧ ¬ (59 : Int32) < 0 ∧ (1 : Int32).toNatClampNeg + (59 : Int32).toNatClampNeg ≤ n0 ∧ (0 : Int32).toNatClampNeg + (59 : Int32).toNatClampNeg ≤ n0) ∧ Q none (cpI σ r0 1 r0 0 59))) :
    G Θ (d + 1) 2 0 [some (.ref r0)] [] σ Q := by
  refine r_aload_n ok2 0 rfl rfl rfl ?_
  refine r_iconst (v := 1) ok2 1 rfl rfl rfl ?_
  refine r_aload_n ok2 2 rfl rfl rfl ?_
  refine r_iconst (v := 0) ok2 3 rfl rfl rfl ?_
  refine r_bipush (v := 59) ok2 4 rfl rfl rfl ?_
  obtain ⟨c1, h1⟩ := h
  refine r_copy ok2 5 rfl rfl hp0 hp0 (by decide +kernel) c1 (Nat.le_of_ble_eq_true rfl) w_arraycopy.1 w_arraycopy.2.1 w_arraycopy.2.2 ?_
  exact r_ret ok2 6 rfl rfl rfl h1

theorem K2 {Θ : Th} {d : Nat} {σ : Mem} {Q : Po} {r0 n0 : Nat} (h : G Θ (d + 1) 2 0 [some (.ref r0)] [] σ Q) : Cm Θ (d + 1) 2 [.ref r0] σ Q :=
  C_of_G okM2 (Nat.le_of_ble_eq_true rfl) rfl h

-- 3: LikeYears$Acts.takeBack(LLikeYears$Book;)Z
set_option maxRecDepth 100000 in
set_option maxHeartbeats 4000000 in
theorem B3_0 {Θ : Th} {d : Nat} {σ : Mem} {Q : Po} {r1 : Nat} (hp1 : (shq r1).1 = 1)
    (h : ((¬ (σ.1 78 0) = 0 → (vp_in ((sI σ 78 0 ((σ.1 78 0) - 1)).1 78 0) 60 ∧ ((¬ ((sI σ 78 0 ((σ.1 78 0) - 1)).1 79 ((sI σ 78 0 ((σ.1 78 0) - 1)).1 78 0).toNatClampNeg) = 0 → (vp_in ((sI σ 78 0 ((σ.1 78 0) - 1)).1 78 0) 60 ∧ (vp_in ((sI σ 78 0 ((σ.1 78 0) - 1)).1 78 0) 60 ∧ (vp_in ((sI σ 78 0 ((σ.1 78 0) - 1)).1 78 0) 60 ∧ Cv Θ d 5 [.ref r1, .int ((sI σ 78 0 ((σ.1 78 0) - 1)).1 79 ((sI σ 78 0 ((σ.1 78 0) - 1)).1 78 0).toNatClampNeg), .int ((sI σ 78 0 ((σ.1 78 0) - 1)).1 80 ((sI σ 78 0 ((σ.1 78 0) - 1)).1 78 0).toNatClampNeg), .int ((sI σ 78 0 ((σ.1 78 0) - 1)).1 81 ((sI σ 78 0 ((σ.1 78 0) - 1)).1 78 0).toNatClampNeg)] (sI σ 78 0 ((σ.1 78 0) - 1)) (fun σ7 => Q (some (.int 1)) σ7))))) ∧ (((sI σ 78 0 ((σ.1 78 0) - 1)).1 79 ((sI σ 78 0 ((σ.1 78 0) - 1)).1 78 0).toNatClampNeg) = 0 → (vp_in ((sI σ 78 0 ((σ.1 78 0) - 1)).1 78 0) 60 ∧ Q (some (.int 1)) (sI (sI σ 78 0 ((σ.1 78 0) - 1)) r1 4 ((sI σ 78 0 ((σ.1 78 0) - 1)).1 80 ((sI σ 78 0 ((σ.1 78 0) - 1)).1 78 0).toNatClampNeg))))))) ∧ ((σ.1 78 0) = 0 → Q (some (.int 0)) σ))) :
    G Θ (d + 1) 3 0 [some (.ref 78), some (.ref r1)] [] σ Q := by
  refine r_aload_n ok3 0 rfl rfl rfl ?_
  refine r_getI ok3 1 rfl rfl rfl rfl ?_
  refine r_if_ne ok3 2 rfl rfl (fun c1 => ?_) (fun c1 => ?_)
  · have h1 := h.1 c1
    refine r_aload_n ok3 5 rfl rfl rfl ?_
    refine r_dup ok3 6 rfl rfl rfl ?_
    refine r_getI ok3 7 rfl rfl rfl rfl ?_
    refine r_iconst (v := 1) ok3 8 rfl rfl rfl ?_
    refine r_isub ok3 9 rfl rfl ?_
    refine r_putI ok3 10 rfl rfl rfl rfl ?_
    refine r_aload_n ok3 11 rfl rfl rfl ?_
    refine r_getF ok3 12 rfl rfl rfl rfl ?_
    refine r_aload_n ok3 13 rfl rfl rfl ?_
    refine r_getI ok3 14 rfl rfl rfl rfl ?_
    obtain ⟨c2, h2⟩ := h1
    refine r_iald ok3 15 rfl rfl rfl c2 ?_
    refine r_if_ne ok3 16 rfl rfl (fun c3 => ?_) (fun c3 => ?_)
    · have h3 := h2.1 c3
      refine r_aload_n ok3 25 rfl rfl rfl ?_
      refine r_aload_n ok3 26 rfl rfl rfl ?_
      refine r_getF ok3 27 rfl rfl rfl rfl ?_
      refine r_aload_n ok3 28 rfl rfl rfl ?_
      refine r_getI ok3 29 rfl rfl rfl rfl ?_
      obtain ⟨c4, h4⟩ := h3
      refine r_iald ok3 30 rfl rfl rfl c4 ?_
      refine r_aload_n ok3 31 rfl rfl rfl ?_
      refine r_getF ok3 32 rfl rfl rfl rfl ?_
      refine r_aload_n ok3 33 rfl rfl rfl ?_
      refine r_getI ok3 34 rfl rfl rfl rfl ?_
      obtain ⟨c5, h5⟩ := h4
      refine r_iald ok3 35 rfl rfl rfl c5 ?_
      refine r_aload_n ok3 36 rfl rfl rfl ?_
      refine r_getF ok3 37 rfl rfl rfl rfl ?_
      refine r_aload_n ok3 38 rfl rfl rfl ?_
      refine r_getI ok3 39 rfl rfl rfl rfl ?_
      obtain ⟨c6, h6⟩ := h5
      refine r_iald ok3 40 rfl rfl rfl c6 ?_
      refine r_invSv (as := [.ref r1, .int ((sI σ 78 0 ((σ.1 78 0) - 1)).1 79 ((sI σ 78 0 ((σ.1 78 0) - 1)).1 78 0).toNatClampNeg), .int ((sI σ 78 0 ((σ.1 78 0) - 1)).1 80 ((sI σ 78 0 ((σ.1 78 0) - 1)).1 78 0).toNatClampNeg), .int ((sI σ 78 0 ((σ.1 78 0) - 1)).1 81 ((sI σ 78 0 ((σ.1 78 0) - 1)).1 78 0).toNatClampNeg)]) (S := []) ok3 41 rfl rfl mf5 rfl (Nat.le_of_ble_eq_true rfl) rfl h6 (fun σ7 h7 => ?_)
      refine r_iconst (v := 1) ok3 42 rfl rfl rfl ?_
      exact r_zret ok3 43 rfl rfl rfl (Or.inr rfl) h7
    · have h3 := h2.2 c3
      refine r_aload_n ok3 17 rfl rfl rfl ?_
      refine r_aload_n ok3 18 rfl rfl rfl ?_
      refine r_getF ok3 19 rfl rfl rfl rfl ?_
      refine r_aload_n ok3 20 rfl rfl rfl ?_
      refine r_getI ok3 21 rfl rfl rfl rfl ?_
      obtain ⟨c8, h8⟩ := h3
      refine r_iald ok3 22 rfl rfl rfl c8 ?_
      refine r_putI ok3 23 rfl rfl hp1 rfl ?_
      refine r_goto ok3 24 rfl rfl ?_
      refine r_iconst (v := 1) ok3 42 rfl rfl rfl ?_
      exact r_zret ok3 43 rfl rfl rfl (Or.inr rfl) h8
  · have h1 := h.2 c1
    refine r_iconst (v := 0) ok3 3 rfl rfl rfl ?_
    exact r_zret ok3 4 rfl rfl rfl (Or.inl rfl) h1

theorem K3 {Θ : Th} {d : Nat} {σ : Mem} {Q : Po} {r1 : Nat} (h : G Θ (d + 1) 3 0 [some (.ref 78), some (.ref r1)] [] σ Q) : Cm Θ (d + 1) 3 [.ref 78, .ref r1] σ Q :=
  C_of_G okM3 (Nat.le_of_ble_eq_true rfl) rfl h

-- 4: LikeYears$Acts.doAgain(LLikeYears$Book;)Z
set_option maxRecDepth 100000 in
set_option maxHeartbeats 4000000 in
theorem B4_0 {Θ : Th} {d : Nat} {σ : Mem} {Q : Po} {r1 : Nat} (hp1 : (shq r1).1 = 1)
    (h : ((¬ (σ.1 78 0) = (σ.1 78 1) → (vp_in (σ.1 78 0) 60 ∧ (vp_in (σ.1 78 0) 60 ∧ (vp_in (σ.1 78 0) 60 ∧ Cv Θ d 5 [.ref r1, .int (σ.1 79 (σ.1 78 0).toNatClampNeg), .int (σ.1 80 (σ.1 78 0).toNatClampNeg), .int (σ.1 82 (σ.1 78 0).toNatClampNeg)] σ (fun σ5 => Q (some (.int 1)) (sI σ5 78 0 ((σ5.1 78 0) + 1))))))) ∧ ((σ.1 78 0) = (σ.1 78 1) → Q (some (.int 0)) σ))) :
    G Θ (d + 1) 4 0 [some (.ref 78), some (.ref r1)] [] σ Q := by
  refine r_aload_n ok4 0 rfl rfl rfl ?_
  refine r_getI ok4 1 rfl rfl rfl rfl ?_
  refine r_aload_n ok4 2 rfl rfl rfl ?_
  refine r_getI ok4 3 rfl rfl rfl rfl ?_
  refine r_icmp_ne ok4 4 rfl rfl (fun c1 => ?_) (fun c1 => ?_)
  · have h1 := h.1 c1
    refine r_aload_n ok4 7 rfl rfl rfl ?_
    refine r_aload_n ok4 8 rfl rfl rfl ?_
    refine r_getF ok4 9 rfl rfl rfl rfl ?_
    refine r_aload_n ok4 10 rfl rfl rfl ?_
    refine r_getI ok4 11 rfl rfl rfl rfl ?_
    obtain ⟨c2, h2⟩ := h1
    refine r_iald ok4 12 rfl rfl rfl c2 ?_
    refine r_aload_n ok4 13 rfl rfl rfl ?_
    refine r_getF ok4 14 rfl rfl rfl rfl ?_
    refine r_aload_n ok4 15 rfl rfl rfl ?_
    refine r_getI ok4 16 rfl rfl rfl rfl ?_
    obtain ⟨c3, h3⟩ := h2
    refine r_iald ok4 17 rfl rfl rfl c3 ?_
    refine r_aload_n ok4 18 rfl rfl rfl ?_
    refine r_getF ok4 19 rfl rfl rfl rfl ?_
    refine r_aload_n ok4 20 rfl rfl rfl ?_
    refine r_getI ok4 21 rfl rfl rfl rfl ?_
    obtain ⟨c4, h4⟩ := h3
    refine r_iald ok4 22 rfl rfl rfl c4 ?_
    refine r_invSv (as := [.ref r1, .int (σ.1 79 (σ.1 78 0).toNatClampNeg), .int (σ.1 80 (σ.1 78 0).toNatClampNeg), .int (σ.1 82 (σ.1 78 0).toNatClampNeg)]) (S := []) ok4 23 rfl rfl mf5 rfl (Nat.le_of_ble_eq_true rfl) rfl h4 (fun σ5 h5 => ?_)
    refine r_aload_n ok4 24 rfl rfl rfl ?_
    refine r_dup ok4 25 rfl rfl rfl ?_
    refine r_getI ok4 26 rfl rfl rfl rfl ?_
    refine r_iconst (v := 1) ok4 27 rfl rfl rfl ?_
    refine r_iadd ok4 28 rfl rfl ?_
    refine r_putI ok4 29 rfl rfl rfl rfl ?_
    refine r_iconst (v := 1) ok4 30 rfl rfl rfl ?_
    exact r_zret ok4 31 rfl rfl rfl (Or.inr rfl) h5
  · have h1 := h.2 c1
    refine r_iconst (v := 0) ok4 5 rfl rfl rfl ?_
    exact r_zret ok4 6 rfl rfl rfl (Or.inl rfl) h1

theorem K4 {Θ : Th} {d : Nat} {σ : Mem} {Q : Po} {r1 : Nat} (h : G Θ (d + 1) 4 0 [some (.ref 78), some (.ref r1)] [] σ Q) : Cm Θ (d + 1) 4 [.ref 78, .ref r1] σ Q :=
  C_of_G okM4 (Nat.le_of_ble_eq_true rfl) rfl h

-- 5: LikeYears$Acts.carryOut(LLikeYears$Book;III)V
set_option maxRecDepth 100000 in
set_option maxHeartbeats 4000000 in
theorem B5_0 {Θ : Th} {d : Nat} {σ : Mem} {Q : Po} {r0 : Nat} {x1 : Int32} {x2 : Int32} {x3 : Int32} (hp0 : (shq r0).1 = 1)
    (h : ((x1.toInt = 0 → Q none (sI σ r0 4 (x2 + 1))) ∧ (x1.toInt = 1 → Q none (sI σ r0 3 (((σ.1 r0 3) &&& (((1 : Int32) <<< (x2 &&& 31)) ^^^ (-1))) ||| (x3 <<< (x2 &&& 31))))) ∧ (¬ x1.toInt = 0 → ¬ x1.toInt = 1 → (vp_in x2 16 ∧ Q none (sI σ (r0 + 5) (x2.toNatClampNeg) x3))))) :
    G Θ d 5 0 [some (.ref r0), some (.int x1), some (.int x2), some (.int x3)] [] σ Q := by
  refine r_iload_n ok5 0 rfl rfl rfl ?_
  refine r_lsw2 ok5 1 rfl (by decide) rfl rfl rfl (fun c1 => ?_) (fun c1 => ?_) (fun c1 e1 => ?_)
  · have h1 := h.1 c1
    refine r_aload_n ok5 2 rfl rfl rfl ?_
    refine r_iload_n ok5 3 rfl rfl rfl ?_
    refine r_iconst (v := 1) ok5 4 rfl rfl rfl ?_
    refine r_iadd ok5 5 rfl rfl ?_
    refine r_putI ok5 6 rfl rfl hp0 rfl ?_
    refine r_goto ok5 7 rfl rfl ?_
    exact r_ret ok5 28 rfl rfl rfl h1
  · have h1 := h.2.1 c1
    refine r_aload_n ok5 8 rfl rfl rfl ?_
    refine r_aload_n ok5 9 rfl rfl rfl ?_
    refine r_getI ok5 10 rfl rfl hp0 rfl ?_
    refine r_iconst (v := 1) ok5 11 rfl rfl rfl ?_
    refine r_iload_n ok5 12 rfl rfl rfl ?_
    refine r_ishl ok5 13 rfl rfl ?_
    refine r_iconst (v := (-1)) ok5 14 rfl rfl rfl ?_
    refine r_ixor ok5 15 rfl rfl ?_
    refine r_iand ok5 16 rfl rfl ?_
    refine r_iload_n ok5 17 rfl rfl rfl ?_
    refine r_iload_n ok5 18 rfl rfl rfl ?_
    refine r_ishl ok5 19 rfl rfl ?_
    refine r_ior ok5 20 rfl rfl ?_
    refine r_putI ok5 21 rfl rfl hp0 rfl ?_
    refine r_goto ok5 22 rfl rfl ?_
    exact r_ret ok5 28 rfl rfl rfl h1
  · have h1 := h.2.2 c1 e1
    refine r_aload_n ok5 23 rfl rfl rfl ?_
    refine r_getF ok5 24 rfl rfl hp0 rfl ?_
    refine r_iload_n ok5 25 rfl rfl rfl ?_
    refine r_iload_n ok5 26 rfl rfl rfl ?_
    obtain ⟨c2, h2⟩ := h1
    refine r_iast ok5 27 rfl rfl (rel_shp hp0 (i := 8) rfl) c2 ?_
    exact r_ret ok5 28 rfl rfl rfl h2

theorem K5 {Θ : Th} {d : Nat} {σ : Mem} {Q : Po} {r0 : Nat} {x1 : Int32} {x2 : Int32} {x3 : Int32} (h : G Θ d 5 0 [some (.ref r0), some (.int x1), some (.int x2), some (.int x3)] [] σ Q) : Cm Θ d 5 [.ref r0, .int x1, .int x2, .int x3] σ Q :=
  C_of_G okM5 (Nat.le_of_ble_eq_true rfl) rfl h

-- 6: LikeYears$Book.empty()V
set_option maxRecDepth 100000 in
set_option maxHeartbeats 4000000 in
theorem B6_0 {Θ : Th} {d : Nat} {σ : Mem} {Q : Po} {o : Nat} (ho : (shq o).1 = 1)
    (h : Cv Θ d 292 [.ref (o + 7), .int 0] (sI (sI (sI (sI σ o 0 0) o 3 0) o 4 0) o 10 0) (fun σ1 => Q none σ1)) :
    G Θ (d + 1) 6 0 [some (.ref o)] [] σ Q := by
  refine r_aload_n ok6 0 rfl rfl rfl ?_
  refine r_iconst (v := 0) ok6 1 rfl rfl rfl ?_
  refine r_putI ok6 2 rfl rfl ho rfl ?_
  refine r_aload_n ok6 3 rfl rfl rfl ?_
  refine r_iconst (v := 0) ok6 4 rfl rfl rfl ?_
  refine r_putI ok6 5 rfl rfl ho rfl ?_
  refine r_aload_n ok6 6 rfl rfl rfl ?_
  refine r_iconst (v := 0) ok6 7 rfl rfl rfl ?_
  refine r_putI ok6 8 rfl rfl ho rfl ?_
  refine r_aload_n ok6 9 rfl rfl rfl ?_
  refine r_iconst (v := 0) ok6 10 rfl rfl rfl ?_
  refine r_putI ok6 11 rfl rfl ho rfl ?_
  refine r_aload_n ok6 12 rfl rfl rfl ?_
  refine r_getF ok6 13 rfl rfl ho rfl ?_
  refine r_iconst (v := 0) ok6 14 rfl rfl rfl ?_
  refine r_invSv (as := [.ref (o + 7), .int 0]) (S := []) ok6 15 rfl rfl mf292 rfl (Nat.le_of_ble_eq_true rfl) rfl h (fun σ1 h1 => ?_)
  exact r_ret ok6 16 rfl rfl rfl h1

theorem K6 {Θ : Th} {d : Nat} {σ : Mem} {Q : Po} {o : Nat} (h : G Θ (d + 1) 6 0 [some (.ref o)] [] σ Q) : Cm Θ (d + 1) 6 [.ref o] σ Q :=
  C_of_G okM6 (Nat.le_of_ble_eq_true rfl) rfl h

-- 7: LikeYears$Book.addMark(JI)V
set_option maxRecDepth 100000 in
set_option maxHeartbeats 4000000 in
theorem B7_0 {Θ : Th} {d : Nat} {σ : Mem} {Q : Po} {o : Nat} {x1 : Int64} {x3 : Int32} (ho : (shq o).1 = 1)
    (h : (vp_in (σ.1 o 0) 6 ∧ (vp_in ((sL σ (o + 1) ((σ.1 o 0).toNatClampNeg) x1).1 o 0) 6 ∧ Q none (sI (sI (sI (sL σ (o + 1) ((σ.1 o 0).toNatClampNeg) x1) (o + 2) (((sL σ (o + 1) ((σ.1 o 0).toNatClampNeg) x1).1 o 0).toNatClampNeg) x3) o 3 (((sI (sL σ (o + 1) ((σ.1 o 0).toNatClampNeg) x1) (o + 2) (((sL σ (o + 1) ((σ.1 o 0).toNatClampNeg) x1).1 o 0).toNatClampNeg) x3).1 o 3) ||| ((1 : Int32) <<< (((sI (sL σ (o + 1) ((σ.1 o 0).toNatClampNeg) x1) (o + 2) (((sL σ (o + 1) ((σ.1 o 0).toNatClampNeg) x1).1 o 0).toNatClampNeg) x3).1 o 0) &&& 31)))) o 0 (((sI (sI (sL σ (o + 1) ((σ.1 o 0).toNatClampNeg) x1) (o + 2) (((sL σ (o + 1) ((σ.1 o 0).toNatClampNeg) x1).1 o 0).toNatClampNeg) x3) o 3 (((sI (sL σ (o + 1) ((σ.1 o 0).toNatClampNeg) x1) (o + 2) (((sL σ (o + 1) ((σ.1 o 0).toNatClampNeg) x1).1 o 0).toNatClampNeg) x3).1 o 3) ||| ((1 : Int32) <<< (((sI (sL σ (o + 1) ((σ.1 o 0).toNatClampNeg) x1) (o + 2) (((sL σ (o + 1) ((σ.1 o 0).toNatClampNeg) x1).1 o 0).toNatClampNeg) x3).1 o 0) &&& 31)))).1 o 0) + 1))))) :
    G Θ d 7 0 [some (.ref o), some (.long x1), none, some (.int x3)] [] σ Q := by
  refine r_aload_n ok7 0 rfl rfl rfl ?_
  refine r_getF ok7 1 rfl rfl ho rfl ?_
  refine r_aload_n ok7 2 rfl rfl rfl ?_
  refine r_getI ok7 3 rfl rfl ho rfl ?_
  refine r_lload_n ok7 4 rfl rfl rfl ?_
  obtain ⟨c1, h1⟩ := h
  refine r_last ok7 5 rfl rfl (rel_shp ho (i := 4) rfl) c1 ?_
  refine r_aload_n ok7 6 rfl rfl rfl ?_
  refine r_getF ok7 7 rfl rfl ho rfl ?_
  refine r_aload_n ok7 8 rfl rfl rfl ?_
  refine r_getI ok7 9 rfl rfl ho rfl ?_
  refine r_iload_n ok7 10 rfl rfl rfl ?_
  obtain ⟨c2, h2⟩ := h1
  refine r_iast ok7 11 rfl rfl (rel_shp ho (i := 5) rfl) c2 ?_
  refine r_aload_n ok7 12 rfl rfl rfl ?_
  refine r_dup ok7 13 rfl rfl rfl ?_
  refine r_getI ok7 14 rfl rfl ho rfl ?_
  refine r_iconst (v := 1) ok7 15 rfl rfl rfl ?_
  refine r_aload_n ok7 16 rfl rfl rfl ?_
  refine r_getI ok7 17 rfl rfl ho rfl ?_
  refine r_ishl ok7 18 rfl rfl ?_
  refine r_ior ok7 19 rfl rfl ?_
  refine r_putI ok7 20 rfl rfl ho rfl ?_
  refine r_aload_n ok7 21 rfl rfl rfl ?_
  refine r_dup ok7 22 rfl rfl rfl ?_
  refine r_getI ok7 23 rfl rfl ho rfl ?_
  refine r_iconst (v := 1) ok7 24 rfl rfl rfl ?_
  refine r_iadd ok7 25 rfl rfl ?_
  refine r_putI ok7 26 rfl rfl ho rfl ?_
  exact r_ret ok7 27 rfl rfl rfl h2

theorem K7 {Θ : Th} {d : Nat} {σ : Mem} {Q : Po} {o : Nat} {x1 : Int64} {x3 : Int32} (h : G Θ d 7 0 [some (.ref o), some (.long x1), none, some (.int x3)] [] σ Q) : Cm Θ d 7 [.ref o, .long x1, .int x3] σ Q :=
  C_of_G okM7 (Nat.le_of_ble_eq_true rfl) rfl h

-- 8: LikeYears$Book.addTold(II)V
set_option maxRecDepth 100000 in
set_option maxHeartbeats 4000000 in
theorem B8_0 {Θ : Th} {d : Nat} {σ : Mem} {Q : Po} {o : Nat} {x1 : Int32} {x2 : Int32} (ho : (shq o).1 = 1)
    (h : (vp_in (σ.1 o 10) 20 ∧ (vp_in ((sI σ (o + 8) ((σ.1 o 10).toNatClampNeg) x1).1 o 10) 20 ∧ Q none (sI (sI (sI σ (o + 8) ((σ.1 o 10).toNatClampNeg) x1) (o + 9) (((sI σ (o + 8) ((σ.1 o 10).toNatClampNeg) x1).1 o 10).toNatClampNeg) x2) o 10 (((sI (sI σ (o + 8) ((σ.1 o 10).toNatClampNeg) x1) (o + 9) (((sI σ (o + 8) ((σ.1 o 10).toNatClampNeg) x1).1 o 10).toNatClampNeg) x2).1 o 10) + 1))))) :
    G Θ d 8 0 [some (.ref o), some (.int x1), some (.int x2)] [] σ Q := by
  refine r_aload_n ok8 0 rfl rfl rfl ?_
  refine r_getF ok8 1 rfl rfl ho rfl ?_
  refine r_aload_n ok8 2 rfl rfl rfl ?_
  refine r_getI ok8 3 rfl rfl ho rfl ?_
  refine r_iload_n ok8 4 rfl rfl rfl ?_
  obtain ⟨c1, h1⟩ := h
  refine r_iast ok8 5 rfl rfl (rel_shp ho (i := 11) rfl) c1 ?_
  refine r_aload_n ok8 6 rfl rfl rfl ?_
  refine r_getF ok8 7 rfl rfl ho rfl ?_
  refine r_aload_n ok8 8 rfl rfl rfl ?_
  refine r_getI ok8 9 rfl rfl ho rfl ?_
  refine r_iload_n ok8 10 rfl rfl rfl ?_
  obtain ⟨c2, h2⟩ := h1
  refine r_iast ok8 11 rfl rfl (rel_shp ho (i := 12) rfl) c2 ?_
  refine r_aload_n ok8 12 rfl rfl rfl ?_
  refine r_dup ok8 13 rfl rfl rfl ?_
  refine r_getI ok8 14 rfl rfl ho rfl ?_
  refine r_iconst (v := 1) ok8 15 rfl rfl rfl ?_
  refine r_iadd ok8 16 rfl rfl ?_
  refine r_putI ok8 17 rfl rfl ho rfl ?_
  exact r_ret ok8 18 rfl rfl rfl h2

theorem K8 {Θ : Th} {d : Nat} {σ : Mem} {Q : Po} {o : Nat} {x1 : Int32} {x2 : Int32} (h : G Θ d 8 0 [some (.ref o), some (.int x1), some (.int x2)] [] σ Q) : Cm Θ d 8 [.ref o, .int x1, .int x2] σ Q :=
  C_of_G okM8 (Nat.le_of_ble_eq_true rfl) rfl h

-- 9: LikeYears$Book.setCase(IIIII)V
set_option maxRecDepth 100000 in
set_option maxHeartbeats 4000000 in
theorem B9_0 {Θ : Th} {d : Nat} {σ : Mem} {Q : Po} {o : Nat} {x1 : Int32} {x2 : Int32} {x3 : Int32} {x4 : Int32} {x5 : Int32} (ho : (shq o).1 = 1)
    (h : (vp_in x1 16 ∧ (vp_in x1 16 ∧ (vp_in x1 16 ∧ (vp_in x1 16 ∧ Q none (sI (sI (sI (sI σ (o + 3) (x1.toNatClampNeg) x2) (o + 4) (x1.toNatClampNeg) x3) (o + 5) (x1.toNatClampNeg) x4) (o + 6) (x1.toNatClampNeg) x5)))))) :
    G Θ d 9 0 [some (.ref o), some (.int x1), some (.int x2), some (.int x3), some (.int x4), some (.int x5)] [] σ Q := by
  refine r_aload_n ok9 0 rfl rfl rfl ?_
  refine r_getF ok9 1 rfl rfl ho rfl ?_
  refine r_iload_n ok9 2 rfl rfl rfl ?_
  refine r_iload_n ok9 3 rfl rfl rfl ?_
  obtain ⟨c1, h1⟩ := h
  refine r_iast ok9 4 rfl rfl (rel_shp ho (i := 6) rfl) c1 ?_
  refine r_aload_n ok9 5 rfl rfl rfl ?_
  refine r_getF ok9 6 rfl rfl ho rfl ?_
  refine r_iload_n ok9 7 rfl rfl rfl ?_
  refine r_iload_n ok9 8 rfl rfl rfl ?_
  obtain ⟨c2, h2⟩ := h1
  refine r_iast ok9 9 rfl rfl (rel_shp ho (i := 7) rfl) c2 ?_
  refine r_aload_n ok9 10 rfl rfl rfl ?_
  refine r_getF ok9 11 rfl rfl ho rfl ?_
  refine r_iload_n ok9 12 rfl rfl rfl ?_
  refine r_iload ok9 13 rfl rfl rfl ?_
  obtain ⟨c3, h3⟩ := h2
  refine r_iast ok9 14 rfl rfl (rel_shp ho (i := 8) rfl) c3 ?_
  refine r_aload_n ok9 15 rfl rfl rfl ?_
  refine r_getF ok9 16 rfl rfl ho rfl ?_
  refine r_iload_n ok9 17 rfl rfl rfl ?_
  refine r_iload ok9 18 rfl rfl rfl ?_
  obtain ⟨c4, h4⟩ := h3
  refine r_iast ok9 19 rfl rfl (rel_shp ho (i := 9) rfl) c4 ?_
  exact r_ret ok9 20 rfl rfl rfl h4

theorem K9 {Θ : Th} {d : Nat} {σ : Mem} {Q : Po} {o : Nat} {x1 : Int32} {x2 : Int32} {x3 : Int32} {x4 : Int32} {x5 : Int32} (h : G Θ d 9 0 [some (.ref o), some (.int x1), some (.int x2), some (.int x3), some (.int x4), some (.int x5)] [] σ Q) : Cm Θ d 9 [.ref o, .int x1, .int x2, .int x3, .int x4, .int x5] σ Q :=
  C_of_G okM9 (Nat.le_of_ble_eq_true rfl) rfl h

-- 10: LikeYears$Book.markNamed(J)I
set_option maxRecDepth 100000 in
set_option maxHeartbeats 4000000 in
theorem B10_0 {Θ : Th} {d : Nat} {σ : Mem} {Q : Po} {o : Nat} {x1 : Int64} (ho : (shq o).1 = 1)
    (h : G Θ d 10 2 [some (.ref o), some (.long x1), none, some (.int 0)] [] σ Q) :
    G Θ d 10 0 [some (.ref o), some (.long x1), none, none] [] σ Q := by
  refine r_iconst (v := 0) ok10 0 rfl rfl rfl ?_
  refine r_istore_n ok10 1 rfl rfl ?_
  exact h

set_option maxRecDepth 100000 in
set_option maxHeartbeats 4000000 in
theorem B10_2 {Θ : Th} {d : Nat} {σ : Mem} {Q : Po} {o : Nat} {x1 : Int64} {x3 : Int32} (ho : (shq o).1 = 1)
    (h : (((σ.1 o 0) ≤ x3 → Q (some (.int (-1))) σ) ∧ (¬ (σ.1 o 0) ≤ x3 → (vp_in x3 6 ∧ ((¬ (lg_cmp (σ.2.1 (o + 1) x3.toNatClampNeg) x1) = 0 → G Θ d 10 2 [some (.ref o), some (.long x1), none, some (.int (x3 + 1))] [] σ Q) ∧ ((lg_cmp (σ.2.1 (o + 1) x3.toNatClampNeg) x1) = 0 → Q (some (.int x3)) σ)))))) :
    G Θ d 10 2 [some (.ref o), some (.long x1), none, some (.int x3)] [] σ Q := by
  refine r_iload_n ok10 2 rfl rfl rfl ?_
  refine r_aload_n ok10 3 rfl rfl rfl ?_
  refine r_getI ok10 4 rfl rfl ho rfl ?_
  refine r_icmp_ge ok10 5 rfl rfl (fun c1 => ?_) (fun c1 => ?_)
  · have h1 := h.1 c1
    refine r_iconst (v := (-1)) ok10 17 rfl rfl rfl ?_
    exact r_iret ok10 18 rfl rfl rfl h1
  · have h1 := h.2 c1
    refine r_aload_n ok10 6 rfl rfl rfl ?_
    refine r_getF ok10 7 rfl rfl ho rfl ?_
    refine r_iload_n ok10 8 rfl rfl rfl ?_
    obtain ⟨c2, h2⟩ := h1
    refine r_lald ok10 9 rfl rfl (rel_shp ho (i := 4) rfl) c2 ?_
    refine r_lload_n ok10 10 rfl rfl rfl ?_
    refine r_lcmp ok10 11 rfl rfl ?_
    refine r_if_ne ok10 12 rfl rfl (fun c3 => ?_) (fun c3 => ?_)
    · have h3 := h2.1 c3
      refine r_iinc (v := x3 + 1) ok10 15 rfl rfl rfl rfl ?_
      refine r_goto ok10 16 rfl rfl ?_
      exact h3
    · have h3 := h2.2 c3
      refine r_iload_n ok10 13 rfl rfl rfl ?_
      exact r_iret ok10 14 rfl rfl rfl h3

theorem K10 {Θ : Th} {d : Nat} {σ : Mem} {Q : Po} {o : Nat} {x1 : Int64} (h : G Θ d 10 0 [some (.ref o), some (.long x1), none, none] [] σ Q) : Cm Θ d 10 [.ref o, .long x1] σ Q :=
  C_of_G okM10 (Nat.le_of_ble_eq_true rfl) rfl h

-- 11: LikeYears$Book.isMark(I)Z
set_option maxRecDepth 100000 in
set_option maxHeartbeats 4000000 in
theorem B11_0 {Θ : Th} {d : Nat} {σ : Mem} {Q : Po} {o : Nat} {x1 : Int32} (ho : (shq o).1 = 1)
    (h : ((x1 < 0 → Q (some (.int 0)) σ) ∧ (¬ x1 < 0 → (((σ.1 o 0) ≤ x1 → Q (some (.int 0)) σ) ∧ (¬ (σ.1 o 0) ≤ x1 → Q (some (.int 1)) σ))))) :
    G Θ d 11 0 [some (.ref o), some (.int x1)] [] σ Q := by
  refine r_iload_n ok11 0 rfl rfl rfl ?_
  refine r_if_lt ok11 1 rfl rfl (fun c1 => ?_) (fun c1 => ?_)
  · have h1 := h.1 c1
    refine r_iconst (v := 0) ok11 8 rfl rfl rfl ?_
    exact r_zret ok11 9 rfl rfl rfl (Or.inl rfl) h1
  · have h1 := h.2 c1
    refine r_iload_n ok11 2 rfl rfl rfl ?_
    refine r_aload_n ok11 3 rfl rfl rfl ?_
    refine r_getI ok11 4 rfl rfl ho rfl ?_
    refine r_icmp_ge ok11 5 rfl rfl (fun c2 => ?_) (fun c2 => ?_)
    · have h2 := h1.1 c2
      refine r_iconst (v := 0) ok11 8 rfl rfl rfl ?_
      exact r_zret ok11 9 rfl rfl rfl (Or.inl rfl) h2
    · have h2 := h1.2 c2
      refine r_iconst (v := 1) ok11 6 rfl rfl rfl ?_
      refine r_goto ok11 7 rfl rfl ?_
      exact r_zret ok11 9 rfl rfl rfl (Or.inr rfl) h2

theorem K11 {Θ : Th} {d : Nat} {σ : Mem} {Q : Po} {o : Nat} {x1 : Int32} (h : G Θ d 11 0 [some (.ref o), some (.int x1)] [] σ Q) : Cm Θ d 11 [.ref o, .int x1] σ Q :=
  C_of_G okM11 (Nat.le_of_ble_eq_true rfl) rfl h

-- 12: LikeYears$Book.isCase(I)Z
set_option maxRecDepth 100000 in
set_option maxHeartbeats 4000000 in
theorem B12_0 {Θ : Th} {d : Nat} {σ : Mem} {Q : Po} {o : Nat} {x1 : Int32} (ho : (shq o).1 = 1)
    (h : ((x1 < 0 → Q (some (.int 0)) σ) ∧ (¬ x1 < 0 → (((σ.1 o 4) ≤ x1 → Q (some (.int 0)) σ) ∧ (¬ (σ.1 o 4) ≤ x1 → Q (some (.int 1)) σ))))) :
    G Θ d 12 0 [some (.ref o), some (.int x1)] [] σ Q := by
  refine r_iload_n ok12 0 rfl rfl rfl ?_
  refine r_if_lt ok12 1 rfl rfl (fun c1 => ?_) (fun c1 => ?_)
  · have h1 := h.1 c1
    refine r_iconst (v := 0) ok12 8 rfl rfl rfl ?_
    exact r_zret ok12 9 rfl rfl rfl (Or.inl rfl) h1
  · have h1 := h.2 c1
    refine r_iload_n ok12 2 rfl rfl rfl ?_
    refine r_aload_n ok12 3 rfl rfl rfl ?_
    refine r_getI ok12 4 rfl rfl ho rfl ?_
    refine r_icmp_ge ok12 5 rfl rfl (fun c2 => ?_) (fun c2 => ?_)
    · have h2 := h1.1 c2
      refine r_iconst (v := 0) ok12 8 rfl rfl rfl ?_
      exact r_zret ok12 9 rfl rfl rfl (Or.inl rfl) h2
    · have h2 := h1.2 c2
      refine r_iconst (v := 1) ok12 6 rfl rfl rfl ?_
      refine r_goto ok12 7 rfl rfl ?_
      exact r_zret ok12 9 rfl rfl rfl (Or.inr rfl) h2

theorem K12 {Θ : Th} {d : Nat} {σ : Mem} {Q : Po} {o : Nat} {x1 : Int32} (h : G Θ d 12 0 [some (.ref o), some (.int x1)] [] σ Q) : Cm Θ d 12 [.ref o, .int x1] σ Q :=
  C_of_G okM12 (Nat.le_of_ble_eq_true rfl) rfl h

-- 13: LikeYears$Book.isStep(II)Z
set_option maxRecDepth 100000 in
set_option maxHeartbeats 4000000 in
theorem B13_0 {Θ : Th} {d : Nat} {σ : Mem} {Q : Po} {o : Nat} {x1 : Int32} {x2 : Int32} (ho : (shq o).1 = 1)
    (h : Ci Θ d 11 [.ref o, .int x1] σ (fun v1 σ1 => ((v1 = 0 → Q (some (.int 0)) σ1) ∧ (¬ v1 = 0 → ((x2 < 0 → Q (some (.int 0)) σ1) ∧ (¬ x2 < 0 → (vp_in x1 6 ∧ (((σ1.1 (o + 2) x1.toNatClampNeg) < x2 → Q (some (.int 0)) σ1) ∧ (¬ (σ1.1 (o + 2) x1.toNatClampNeg) < x2 → Q (some (.int 1)) σ1))))))))) :
    G Θ (d + 1) 13 0 [some (.ref o), some (.int x1), some (.int x2)] [] σ Q := by
  refine r_aload_n ok13 0 rfl rfl rfl ?_
  refine r_iload_n ok13 1 rfl rfl rfl ?_
  refine r_invVi (as := [.int x1]) (S := []) ok13 2 rfl rfl mf11 ho rfl (Nat.le_of_ble_eq_true rfl) rfl h (fun v1 σ1 h1 => ?_)
  refine r_if_eq ok13 3 rfl rfl (fun c2 => ?_) (fun c2 => ?_)
  · have h2 := h1.1 c2
    refine r_iconst (v := 0) ok13 14 rfl rfl rfl ?_
    exact r_zret ok13 15 rfl rfl rfl (Or.inl rfl) h2
  · have h2 := h1.2 c2
    refine r_iload_n ok13 4 rfl rfl rfl ?_
    refine r_if_lt ok13 5 rfl rfl (fun c3 => ?_) (fun c3 => ?_)
    · have h3 := h2.1 c3
      refine r_iconst (v := 0) ok13 14 rfl rfl rfl ?_
      exact r_zret ok13 15 rfl rfl rfl (Or.inl rfl) h3
    · have h3 := h2.2 c3
      refine r_iload_n ok13 6 rfl rfl rfl ?_
      refine r_aload_n ok13 7 rfl rfl rfl ?_
      refine r_getF ok13 8 rfl rfl ho rfl ?_
      refine r_iload_n ok13 9 rfl rfl rfl ?_
      obtain ⟨c4, h4⟩ := h3
      refine r_iald ok13 10 rfl rfl (rel_shp ho (i := 5) rfl) c4 ?_
      refine r_icmp_gt ok13 11 rfl rfl (fun c5 => ?_) (fun c5 => ?_)
      · have h5 := h4.1 c5
        refine r_iconst (v := 0) ok13 14 rfl rfl rfl ?_
        exact r_zret ok13 15 rfl rfl rfl (Or.inl rfl) h5
      · have h5 := h4.2 c5
        refine r_iconst (v := 1) ok13 12 rfl rfl rfl ?_
        refine r_goto ok13 13 rfl rfl ?_
        exact r_zret ok13 15 rfl rfl rfl (Or.inr rfl) h5

theorem K13 {Θ : Th} {d : Nat} {σ : Mem} {Q : Po} {o : Nat} {x1 : Int32} {x2 : Int32} (h : G Θ (d + 1) 13 0 [some (.ref o), some (.int x1), some (.int x2)] [] σ Q) : Cm Θ (d + 1) 13 [.ref o, .int x1, .int x2] σ Q :=
  C_of_G okM13 (Nat.le_of_ble_eq_true rfl) rfl h

-- 14: LikeYears$Book.isCounted(I)Z
set_option maxRecDepth 100000 in
set_option maxHeartbeats 4000000 in
theorem B14_0 {Θ : Th} {d : Nat} {σ : Mem} {Q : Po} {o : Nat} {x1 : Int32} (ho : (shq o).1 = 1)
    (h : (((((σ.1 o 3) >>> (x1 &&& 31)) &&& 1) = 0 → Q (some (.int 0)) σ) ∧ (¬ (((σ.1 o 3) >>> (x1 &&& 31)) &&& 1) = 0 → Q (some (.int 1)) σ))) :
    G Θ d 14 0 [some (.ref o), some (.int x1)] [] σ Q := by
  refine r_aload_n ok14 0 rfl rfl rfl ?_
  refine r_getI ok14 1 rfl rfl ho rfl ?_
  refine r_iload_n ok14 2 rfl rfl rfl ?_
  refine r_ishr ok14 3 rfl rfl ?_
  refine r_iconst (v := 1) ok14 4 rfl rfl rfl ?_
  refine r_iand ok14 5 rfl rfl ?_
  refine r_if_eq ok14 6 rfl rfl (fun c1 => ?_) (fun c1 => ?_)
  · have h1 := h.1 c1
    refine r_iconst (v := 0) ok14 9 rfl rfl rfl ?_
    exact r_zret ok14 10 rfl rfl rfl (Or.inl rfl) h1
  · have h1 := h.2 c1
    refine r_iconst (v := 1) ok14 7 rfl rfl rfl ?_
    refine r_goto ok14 8 rfl rfl ?_
    exact r_zret ok14 10 rfl rfl rfl (Or.inr rfl) h1

theorem K14 {Θ : Th} {d : Nat} {σ : Mem} {Q : Po} {o : Nat} {x1 : Int32} (h : G Θ d 14 0 [some (.ref o), some (.int x1)] [] σ Q) : Cm Θ d 14 [.ref o, .int x1] σ Q :=
  C_of_G okM14 (Nat.le_of_ble_eq_true rfl) rfl h

-- 15: LikeYears$Book.stepOf(II)I
set_option maxRecDepth 100000 in
set_option maxHeartbeats 4000000 in
theorem B15_0 {Θ : Th} {d : Nat} {σ : Mem} {Q : Po} {o : Nat} {x1 : Int32} {x2 : Int32} (ho : (shq o).1 = 1)
    (h : (vp_in ((x1 * 6) + x2) 102 ∧ Q (some (.int (σ.1 (o + 7) ((x1 * 6) + x2).toNatClampNeg))) σ)) :
    G Θ d 15 0 [some (.ref o), some (.int x1), some (.int x2)] [] σ Q := by
  refine r_aload_n ok15 0 rfl rfl rfl ?_
  refine r_getF ok15 1 rfl rfl ho rfl ?_
  refine r_iload_n ok15 2 rfl rfl rfl ?_
  refine r_bipush (v := 6) ok15 3 rfl rfl rfl ?_
  refine r_imul ok15 4 rfl rfl ?_
  refine r_iload_n ok15 5 rfl rfl rfl ?_
  refine r_iadd ok15 6 rfl rfl ?_
  obtain ⟨c1, h1⟩ := h
  refine r_iald ok15 7 rfl rfl (rel_shp ho (i := 10) rfl) c1 ?_
  exact r_iret ok15 8 rfl rfl rfl h1

theorem K15 {Θ : Th} {d : Nat} {σ : Mem} {Q : Po} {o : Nat} {x1 : Int32} {x2 : Int32} (h : G Θ d 15 0 [some (.ref o), some (.int x1), some (.int x2)] [] σ Q) : Cm Θ d 15 [.ref o, .int x1, .int x2] σ Q :=
  C_of_G okM15 (Nat.le_of_ble_eq_true rfl) rfl h

-- 16: LikeYears$Book.setStep(III)V
set_option maxRecDepth 100000 in
set_option maxHeartbeats 4000000 in
theorem B16_0 {Θ : Th} {d : Nat} {σ : Mem} {Q : Po} {o : Nat} {x1 : Int32} {x2 : Int32} {x3 : Int32} (ho : (shq o).1 = 1)
    (h : (vp_in ((x1 * 6) + x2) 102 ∧ Q none (sI σ (o + 7) (((x1 * 6) + x2).toNatClampNeg) x3))) :
    G Θ d 16 0 [some (.ref o), some (.int x1), some (.int x2), some (.int x3)] [] σ Q := by
  refine r_aload_n ok16 0 rfl rfl rfl ?_
  refine r_getF ok16 1 rfl rfl ho rfl ?_
  refine r_iload_n ok16 2 rfl rfl rfl ?_
  refine r_bipush (v := 6) ok16 3 rfl rfl rfl ?_
  refine r_imul ok16 4 rfl rfl ?_
  refine r_iload_n ok16 5 rfl rfl rfl ?_
  refine r_iadd ok16 6 rfl rfl ?_
  refine r_iload_n ok16 7 rfl rfl rfl ?_
  obtain ⟨c1, h1⟩ := h
  refine r_iast ok16 8 rfl rfl (rel_shp ho (i := 10) rfl) c1 ?_
  exact r_ret ok16 9 rfl rfl rfl h1

theorem K16 {Θ : Th} {d : Nat} {σ : Mem} {Q : Po} {o : Nat} {x1 : Int32} {x2 : Int32} {x3 : Int32} (h : G Θ d 16 0 [some (.ref o), some (.int x1), some (.int x2), some (.int x3)] [] σ Q) : Cm Θ d 16 [.ref o, .int x1, .int x2, .int x3] σ Q :=
  C_of_G okM16 (Nat.le_of_ble_eq_true rfl) rfl h

-- 17: LikeYears$Book.allCases()I
set_option maxRecDepth 100000 in
set_option maxHeartbeats 4000000 in
theorem B17_0 {Θ : Th} {d : Nat} {σ : Mem} {Q : Po} {o : Nat} (ho : (shq o).1 = 1)
    (h : Q (some (.int (((1 : Int32) <<< ((σ.1 o 4) &&& 31)) - 1))) σ) :
    G Θ d 17 0 [some (.ref o)] [] σ Q := by
  refine r_iconst (v := 1) ok17 0 rfl rfl rfl ?_
  refine r_aload_n ok17 1 rfl rfl rfl ?_
  refine r_getI ok17 2 rfl rfl ho rfl ?_
  refine r_ishl ok17 3 rfl rfl ?_
  refine r_iconst (v := 1) ok17 4 rfl rfl rfl ?_
  refine r_isub ok17 5 rfl rfl ?_
  exact r_iret ok17 6 rfl rfl rfl h

theorem K17 {Θ : Th} {d : Nat} {σ : Mem} {Q : Po} {o : Nat} (h : G Θ d 17 0 [some (.ref o)] [] σ Q) : Cm Θ d 17 [.ref o] σ Q :=
  C_of_G okM17 (Nat.le_of_ble_eq_true rfl) rfl h

-- 18: LikeYears$Book.noLess(III)Z
set_option maxRecDepth 100000 in
set_option maxHeartbeats 4000000 in
theorem B18_0 {Θ : Th} {d : Nat} {σ : Mem} {Q : Po} {o : Nat} {x1 : Int32} {x2 : Int32} {x3 : Int32} (ho : (shq o).1 = 1)
    (h : G Θ (d + 1) 18 3 [some (.ref o), some (.int x1), some (.int x2), some (.int x3), some (.int 0)] [] σ Q) :
    G Θ (d + 1) 18 0 [some (.ref o), some (.int x1), some (.int x2), some (.int x3), none] [] σ Q := by
  refine r_iconst (v := 0) ok18 0 rfl rfl rfl ?_
  refine r_istore ok18 1 rfl rfl ?_
  exact h

set_option maxRecDepth 100000 in
set_option maxHeartbeats 4000000 in
theorem B18_3 {Θ : Th} {d : Nat} {σ : Mem} {Q : Po} {o : Nat} {x1 : Int32} {x2 : Int32} {x3 : Int32} {x4 : Int32} (ho : (shq o).1 = 1)
    (h : (((σ.1 o 0) ≤ x4 → Q (some (.int 1)) σ) ∧ (¬ (σ.1 o 0) ≤ x4 → ((((x3 >>> (x4 &&& 31)) &&& 1) = 0 → G Θ (d + 1) 18 3 [some (.ref o), some (.int x1), some (.int x2), some (.int x3), some (.int (x4 + 1))] [] σ Q) ∧ (¬ ((x3 >>> (x4 &&& 31)) &&& 1) = 0 → Ci Θ d 15 [.ref o, .int x1, .int x4] σ (fun v3 σ3 => Ci Θ d 15 [.ref o, .int x2, .int x4] σ3 (fun v4 σ4 => ((v4 ≤ v3 → G Θ (d + 1) 18 3 [some (.ref o), some (.int x1), some (.int x2), some (.int x3), some (.int (x4 + 1))] [] σ4 Q) ∧ (¬ v4 ≤ v3 → Q (some (.int 0)) σ4))))))))) :
    G Θ (d + 1) 18 3 [some (.ref o), some (.int x1), some (.int x2), some (.int x3), some (.int x4)] [] σ Q := by
  refine r_iload ok18 2 rfl rfl rfl ?_
  refine r_aload_n ok18 3 rfl rfl rfl ?_
  refine r_getI ok18 4 rfl rfl ho rfl ?_
  refine r_icmp_ge ok18 5 rfl rfl (fun c1 => ?_) (fun c1 => ?_)
  · have h1 := h.1 c1
    refine r_iconst (v := 1) ok18 25 rfl rfl rfl ?_
    exact r_zret ok18 26 rfl rfl rfl (Or.inr rfl) h1
  · have h1 := h.2 c1
    refine r_iload_n ok18 6 rfl rfl rfl ?_
    refine r_iload ok18 7 rfl rfl rfl ?_
    refine r_ishr ok18 8 rfl rfl ?_
    refine r_iconst (v := 1) ok18 9 rfl rfl rfl ?_
    refine r_iand ok18 10 rfl rfl ?_
    refine r_if_eq ok18 11 rfl rfl (fun c2 => ?_) (fun c2 => ?_)
    · have h2 := h1.1 c2
      refine r_iinc (v := x4 + 1) ok18 23 rfl rfl rfl rfl ?_
      refine r_goto ok18 24 rfl rfl ?_
      exact h2
    · have h2 := h1.2 c2
      refine r_aload_n ok18 12 rfl rfl rfl ?_
      refine r_iload_n ok18 13 rfl rfl rfl ?_
      refine r_iload ok18 14 rfl rfl rfl ?_
      refine r_invVi (as := [.int x1, .int x4]) (S := []) ok18 15 rfl rfl mf15 ho rfl (Nat.le_of_ble_eq_true rfl) rfl h2 (fun v3 σ3 h3 => ?_)
      refine r_aload_n ok18 16 rfl rfl rfl ?_
      refine r_iload_n ok18 17 rfl rfl rfl ?_
      refine r_iload ok18 18 rfl rfl rfl ?_
      refine r_invVi (as := [.int x2, .int x4]) (S := [.int v3]) ok18 19 rfl rfl mf15 ho rfl (Nat.le_of_ble_eq_true rfl) rfl h3 (fun v4 σ4 h4 => ?_)
      refine r_icmp_ge ok18 20 rfl rfl (fun c5 => ?_) (fun c5 => ?_)
      · have h5 := h4.1 c5
        refine r_iinc (v := x4 + 1) ok18 23 rfl rfl rfl rfl ?_
        refine r_goto ok18 24 rfl rfl ?_
        exact h5
      · have h5 := h4.2 c5
        refine r_iconst (v := 0) ok18 21 rfl rfl rfl ?_
        exact r_zret ok18 22 rfl rfl rfl (Or.inl rfl) h5

theorem K18 {Θ : Th} {d : Nat} {σ : Mem} {Q : Po} {o : Nat} {x1 : Int32} {x2 : Int32} {x3 : Int32} (h : G Θ (d + 1) 18 0 [some (.ref o), some (.int x1), some (.int x2), some (.int x3), none] [] σ Q) : Cm Θ (d + 1) 18 [.ref o, .int x1, .int x2, .int x3] σ Q :=
  C_of_G okM18 (Nat.le_of_ble_eq_true rfl) rfl h

-- 19: LikeYears$Book.copyCases(LLikeYears$Book;)V
set_option maxRecDepth 100000 in
set_option maxHeartbeats 4000000 in
theorem B19_0 {Θ : Th} {d : Nat} {σ : Mem} {Q : Po} {o : Nat} {r1 : Nat} (ho : (shq o).1 = 1) (hp1 : (shq r1).1 = 1)
    (h : Q none (cpI (cpI (cpI (cpI (cpI (sI (sI σ o 3 (σ.1 r1 3)) o 4 ((sI σ o 3 (σ.1 r1 3)).1 r1 4)) (r1 + 3) 0 (o + 3) 0 16) (r1 + 4) 0 (o + 4) 0 16) (r1 + 5) 0 (o + 5) 0 16) (r1 + 6) 0 (o + 6) 0 16) (r1 + 7) 0 (o + 7) 0 96)) :
    G Θ (d + 1) 19 0 [some (.ref o), some (.ref r1)] [] σ Q := by
  refine r_aload_n ok19 0 rfl rfl rfl ?_
  refine r_aload_n ok19 1 rfl rfl rfl ?_
  refine r_getI ok19 2 rfl rfl hp1 rfl ?_
  refine r_putI ok19 3 rfl rfl ho rfl ?_
  refine r_aload_n ok19 4 rfl rfl rfl ?_
  refine r_aload_n ok19 5 rfl rfl rfl ?_
  refine r_getI ok19 6 rfl rfl hp1 rfl ?_
  refine r_putI ok19 7 rfl rfl ho rfl ?_
  refine r_aload_n ok19 8 rfl rfl rfl ?_
  refine r_getF ok19 9 rfl rfl hp1 rfl ?_
  refine r_iconst (v := 0) ok19 10 rfl rfl rfl ?_
  refine r_aload_n ok19 11 rfl rfl rfl ?_
  refine r_getF ok19 12 rfl rfl ho rfl ?_
  refine r_iconst (v := 0) ok19 13 rfl rfl rfl ?_
  refine r_bipush (v := 16) ok19 14 rfl rfl rfl ?_
  refine r_copy ok19 15 rfl rfl (rel_shp hp1 (i := 6) rfl) (rel_shp ho (i := 6) rfl) (by decide +kernel) (by decide) (Nat.le_of_ble_eq_true rfl) w_arraycopy.1 w_arraycopy.2.1 w_arraycopy.2.2 ?_
  refine r_aload_n ok19 16 rfl rfl rfl ?_
  refine r_getF ok19 17 rfl rfl hp1 rfl ?_
  refine r_iconst (v := 0) ok19 18 rfl rfl rfl ?_
  refine r_aload_n ok19 19 rfl rfl rfl ?_
  refine r_getF ok19 20 rfl rfl ho rfl ?_
  refine r_iconst (v := 0) ok19 21 rfl rfl rfl ?_
  refine r_bipush (v := 16) ok19 22 rfl rfl rfl ?_
  refine r_copy ok19 23 rfl rfl (rel_shp hp1 (i := 7) rfl) (rel_shp ho (i := 7) rfl) (by decide +kernel) (by decide) (Nat.le_of_ble_eq_true rfl) w_arraycopy.1 w_arraycopy.2.1 w_arraycopy.2.2 ?_
  refine r_aload_n ok19 24 rfl rfl rfl ?_
  refine r_getF ok19 25 rfl rfl hp1 rfl ?_
  refine r_iconst (v := 0) ok19 26 rfl rfl rfl ?_
  refine r_aload_n ok19 27 rfl rfl rfl ?_
  refine r_getF ok19 28 rfl rfl ho rfl ?_
  refine r_iconst (v := 0) ok19 29 rfl rfl rfl ?_
  refine r_bipush (v := 16) ok19 30 rfl rfl rfl ?_
  refine r_copy ok19 31 rfl rfl (rel_shp hp1 (i := 8) rfl) (rel_shp ho (i := 8) rfl) (by decide +kernel) (by decide) (Nat.le_of_ble_eq_true rfl) w_arraycopy.1 w_arraycopy.2.1 w_arraycopy.2.2 ?_
  refine r_aload_n ok19 32 rfl rfl rfl ?_
  refine r_getF ok19 33 rfl rfl hp1 rfl ?_
  refine r_iconst (v := 0) ok19 34 rfl rfl rfl ?_
  refine r_aload_n ok19 35 rfl rfl rfl ?_
  refine r_getF ok19 36 rfl rfl ho rfl ?_
  refine r_iconst (v := 0) ok19 37 rfl rfl rfl ?_
  refine r_bipush (v := 16) ok19 38 rfl rfl rfl ?_
  refine r_copy ok19 39 rfl rfl (rel_shp hp1 (i := 9) rfl) (rel_shp ho (i := 9) rfl) (by decide +kernel) (by decide) (Nat.le_of_ble_eq_true rfl) w_arraycopy.1 w_arraycopy.2.1 w_arraycopy.2.2 ?_
  refine r_aload_n ok19 40 rfl rfl rfl ?_
  refine r_getF ok19 41 rfl rfl hp1 rfl ?_
  refine r_iconst (v := 0) ok19 42 rfl rfl rfl ?_
  refine r_aload_n ok19 43 rfl rfl rfl ?_
  refine r_getF ok19 44 rfl rfl ho rfl ?_
  refine r_iconst (v := 0) ok19 45 rfl rfl rfl ?_
  refine r_bipush (v := 96) ok19 46 rfl rfl rfl ?_
  refine r_copy ok19 47 rfl rfl (rel_shp hp1 (i := 10) rfl) (rel_shp ho (i := 10) rfl) (by decide +kernel) (by decide) (Nat.le_of_ble_eq_true rfl) w_arraycopy.1 w_arraycopy.2.1 w_arraycopy.2.2 ?_
  exact r_ret ok19 48 rfl rfl rfl h

theorem K19 {Θ : Th} {d : Nat} {σ : Mem} {Q : Po} {o : Nat} {r1 : Nat} (h : G Θ (d + 1) 19 0 [some (.ref o), some (.ref r1)] [] σ Q) : Cm Θ (d + 1) 19 [.ref o, .ref r1] σ Q :=
  C_of_G okM19 (Nat.le_of_ble_eq_true rfl) rfl h

-- 47: LikeYears$Fraction.set(JJ)V
set_option maxRecDepth 100000 in
set_option maxHeartbeats 4000000 in
theorem B47_0 {Θ : Th} {d : Nat} {σ : Mem} {Q : Po} {o : Nat} {x1 : Int64} {x3 : Int64} (ho : (shq o).1 = 5)
    (h : Cl Θ d 50 [.long (if 0 < x1 then x1 else -x1), .long x3] σ (fun v1 σ1 => (((lg_cmp v1 0) ≤ 0 → Q none σ1) ∧ (¬ (lg_cmp v1 0) ≤ 0 → (¬ v1 = 0 ∧ (¬ v1 = 0 ∧ Q none (sL (sL σ1 o 0 (x1 / v1)) o 1 (x3 / v1)))))))) :
    G Θ (d + 1) 47 0 [some (.ref o), some (.long x1), none, some (.long x3), none, none, none] [] σ Q := by
  refine r_lload_n ok47 0 rfl rfl rfl ?_
  refine r_mlabs ok47 1 rfl rfl rfl (Nat.le_of_ble_eq_true rfl) w_labs (Nat.le_of_ble_eq_true rfl) ?_
  refine r_lload_n ok47 2 rfl rfl rfl ?_
  refine r_invSl (as := [.long (if 0 < x1 then x1 else -x1), .long x3]) (S := []) ok47 3 rfl rfl mf50 rfl (Nat.le_of_ble_eq_true rfl) rfl h (fun v1 σ1 h1 => ?_)
  refine r_lstore ok47 4 rfl rfl ?_
  refine r_lload ok47 5 rfl rfl rfl ?_
  refine r_lconst (v := 0) ok47 6 rfl rfl rfl ?_
  refine r_lcmp ok47 7 rfl rfl ?_
  refine r_if_le ok47 8 rfl rfl (fun c2 => ?_) (fun c2 => ?_)
  · have h2 := h1.1 c2
    exact r_ret ok47 19 rfl rfl rfl h2
  · have h2 := h1.2 c2
    refine r_aload_n ok47 9 rfl rfl rfl ?_
    refine r_lload_n ok47 10 rfl rfl rfl ?_
    refine r_lload ok47 11 rfl rfl rfl ?_
    obtain ⟨c3, h3⟩ := h2
    refine r_ldiv ok47 12 rfl rfl c3 ?_
    refine r_putL ok47 13 rfl rfl ho rfl ?_
    refine r_aload_n ok47 14 rfl rfl rfl ?_
    refine r_lload_n ok47 15 rfl rfl rfl ?_
    refine r_lload ok47 16 rfl rfl rfl ?_
    obtain ⟨c4, h4⟩ := h3
    refine r_ldiv ok47 17 rfl rfl c4 ?_
    refine r_putL ok47 18 rfl rfl ho rfl ?_
    exact r_ret ok47 19 rfl rfl rfl h4

theorem K47 {Θ : Th} {d : Nat} {σ : Mem} {Q : Po} {o : Nat} {x1 : Int64} {x3 : Int64} (h : G Θ (d + 1) 47 0 [some (.ref o), some (.long x1), none, some (.long x3), none, none, none] [] σ Q) : Cm Θ (d + 1) 47 [.ref o, .long x1, .long x3] σ Q :=
  C_of_G okM47 (Nat.le_of_ble_eq_true rfl) rfl h

-- 48: LikeYears$Fraction.add(JJ)V
set_option maxRecDepth 100000 in
set_option maxHeartbeats 4000000 in
theorem B48_0 {Θ : Th} {d : Nat} {σ : Mem} {Q : Po} {o : Nat} {x1 : Int64} {x3 : Int64} (ho : (shq o).1 = 5)
    (h : Cl Θ d 50 [.long (σ.2.1 o 1), .long x3] σ (fun v1 σ1 => (((lg_cmp v1 0) ≤ 0 → Q none σ1) ∧ (¬ (lg_cmp v1 0) ≤ 0 → (¬ v1 = 0 ∧ (¬ v1 = 0 ∧ (¬ v1 = 0 ∧ Cv Θ d 47 [.ref o, .long (((σ1.2.1 o 0) * (x3 / v1)) + (x1 * ((σ1.2.1 o 1) / v1))), .long (((σ1.2.1 o 1) / v1) * x3)] σ1 (fun σ6 => Q none σ6)))))))) :
    G Θ (d + 1) 48 0 [some (.ref o), some (.long x1), none, some (.long x3), none, none, none] [] σ Q := by
  refine r_aload_n ok48 0 rfl rfl rfl ?_
  refine r_getL ok48 1 rfl rfl ho rfl ?_
  refine r_lload_n ok48 2 rfl rfl rfl ?_
  refine r_invSl (as := [.long (σ.2.1 o 1), .long x3]) (S := []) ok48 3 rfl rfl mf50 rfl (Nat.le_of_ble_eq_true rfl) rfl h (fun v1 σ1 h1 => ?_)
  refine r_lstore ok48 4 rfl rfl ?_
  refine r_lload ok48 5 rfl rfl rfl ?_
  refine r_lconst (v := 0) ok48 6 rfl rfl rfl ?_
  refine r_lcmp ok48 7 rfl rfl ?_
  refine r_if_le ok48 8 rfl rfl (fun c2 => ?_) (fun c2 => ?_)
  · have h2 := h1.1 c2
    exact r_ret ok48 30 rfl rfl rfl h2
  · have h2 := h1.2 c2
    refine r_aload_n ok48 9 rfl rfl rfl ?_
    refine r_aload_n ok48 10 rfl rfl rfl ?_
    refine r_getL ok48 11 rfl rfl ho rfl ?_
    refine r_lload_n ok48 12 rfl rfl rfl ?_
    refine r_lload ok48 13 rfl rfl rfl ?_
    obtain ⟨c3, h3⟩ := h2
    refine r_ldiv ok48 14 rfl rfl c3 ?_
    refine r_lmul ok48 15 rfl rfl ?_
    refine r_lload_n ok48 16 rfl rfl rfl ?_
    refine r_aload_n ok48 17 rfl rfl rfl ?_
    refine r_getL ok48 18 rfl rfl ho rfl ?_
    refine r_lload ok48 19 rfl rfl rfl ?_
    obtain ⟨c4, h4⟩ := h3
    refine r_ldiv ok48 20 rfl rfl c4 ?_
    refine r_lmul ok48 21 rfl rfl ?_
    refine r_ladd ok48 22 rfl rfl ?_
    refine r_aload_n ok48 23 rfl rfl rfl ?_
    refine r_getL ok48 24 rfl rfl ho rfl ?_
    refine r_lload ok48 25 rfl rfl rfl ?_
    obtain ⟨c5, h5⟩ := h4
    refine r_ldiv ok48 26 rfl rfl c5 ?_
    refine r_lload_n ok48 27 rfl rfl rfl ?_
    refine r_lmul ok48 28 rfl rfl ?_
    refine r_invVv (as := [.long (((σ1.2.1 o 0) * (x3 / v1)) + (x1 * ((σ1.2.1 o 1) / v1))), .long (((σ1.2.1 o 1) / v1) * x3)]) (S := []) ok48 29 rfl rfl mf47 ho rfl (Nat.le_of_ble_eq_true rfl) rfl h5 (fun σ6 h6 => ?_)
    exact r_ret ok48 30 rfl rfl rfl h6

theorem K48 {Θ : Th} {d : Nat} {σ : Mem} {Q : Po} {o : Nat} {x1 : Int64} {x3 : Int64} (h : G Θ (d + 1) 48 0 [some (.ref o), some (.long x1), none, some (.long x3), none, none, none] [] σ Q) : Cm Θ (d + 1) 48 [.ref o, .long x1, .long x3] σ Q :=
  C_of_G okM48 (Nat.le_of_ble_eq_true rfl) rfl h

-- 49: LikeYears$Fraction.part(I)J
set_option maxRecDepth 100000 in
set_option maxHeartbeats 4000000 in
theorem B49_0 {Θ : Th} {d : Nat} {σ : Mem} {Q : Po} {o : Nat} {x1 : Int32} (ho : (shq o).1 = 5)
    (h : ((¬ x1 = 0 → Q (some (.long (σ.2.1 o 1))) σ) ∧ (x1 = 0 → Q (some (.long (σ.2.1 o 0))) σ))) :
    G Θ d 49 0 [some (.ref o), some (.int x1)] [] σ Q := by
  refine r_iload_n ok49 0 rfl rfl rfl ?_
  refine r_if_ne ok49 1 rfl rfl (fun c1 => ?_) (fun c1 => ?_)
  · have h1 := h.1 c1
    refine r_aload_n ok49 5 rfl rfl rfl ?_
    refine r_getL ok49 6 rfl rfl ho rfl ?_
    exact r_lret ok49 7 rfl rfl rfl h1
  · have h1 := h.2 c1
    refine r_aload_n ok49 2 rfl rfl rfl ?_
    refine r_getL ok49 3 rfl rfl ho rfl ?_
    refine r_goto ok49 4 rfl rfl ?_
    exact r_lret ok49 7 rfl rfl rfl h1

theorem K49 {Θ : Th} {d : Nat} {σ : Mem} {Q : Po} {o : Nat} {x1 : Int32} (h : G Θ d 49 0 [some (.ref o), some (.int x1)] [] σ Q) : Cm Θ d 49 [.ref o, .int x1] σ Q :=
  C_of_G okM49 (Nat.le_of_ble_eq_true rfl) rfl h

-- 50: LikeYears$Fraction.common(JJ)J
set_option maxRecDepth 100000 in
set_option maxHeartbeats 4000000 in
theorem B50_0 {Θ : Th} {d : Nat} {σ : Mem} {Q : Po} {x0 : Int64} {x2 : Int64} 
    (h : G Θ d 50 9 [none, none, none, none, some (.long x0), none, some (.long x2), none, some (.int 0), none, none] [] σ Q) :
    G Θ d 50 0 [some (.long x0), none, some (.long x2), none, none, none, none, none, none, none, none] [] σ Q := by
  refine r_lload_n ok50 0 rfl rfl rfl ?_
  refine r_lstore ok50 1 rfl rfl ?_
  refine r_lload_n ok50 2 rfl rfl rfl ?_
  refine r_lstore ok50 3 rfl rfl ?_
  refine r_iconst (v := 0) ok50 4 rfl rfl rfl ?_
  refine r_istore ok50 5 rfl rfl ?_
  exact G.weak (L' := [none, none, none, none, some (.long x0), none, some (.long x2), none, some (.int 0), none, none]) ⟨rfl, ⟨rfl, ⟨rfl, trivial⟩⟩⟩ h

set_option maxRecDepth 100000 in
set_option maxHeartbeats 4000000 in
theorem B50_9 {Θ : Th} {d : Nat} {σ : Mem} {Q : Po} {x4 : Int64} {x6 : Int64} {x8 : Int32} 
    (h : ((100 ≤ x8 → Q (some (.long x4)) σ) ∧ (¬ 100 ≤ x8 → (((lg_cmp x6 0) = 0 → Q (some (.long x4)) σ) ∧ (¬ (lg_cmp x6 0) = 0 → (¬ x6 = 0 ∧ G Θ d 50 9 [none, none, none, none, some (.long x6), none, some (.long (x4 - x4 / x6 * x6)), none, some (.int (x8 + 1)), none, none] [] σ Q)))))) :
    G Θ d 50 9 [none, none, none, none, some (.long x4), none, some (.long x6), none, some (.int x8), none, none] [] σ Q := by
  refine r_iload ok50 6 rfl rfl rfl ?_
  refine r_bipush (v := 100) ok50 7 rfl rfl rfl ?_
  refine r_icmp_ge ok50 8 rfl rfl (fun c1 => ?_) (fun c1 => ?_)
  · have h1 := h.1 c1
    refine r_lload ok50 23 rfl rfl rfl ?_
    exact r_lret ok50 24 rfl rfl rfl h1
  · have h1 := h.2 c1
    refine r_lload ok50 9 rfl rfl rfl ?_
    refine r_lconst (v := 0) ok50 10 rfl rfl rfl ?_
    refine r_lcmp ok50 11 rfl rfl ?_
    refine r_if_eq ok50 12 rfl rfl (fun c2 => ?_) (fun c2 => ?_)
    · have h2 := h1.1 c2
      refine r_lload ok50 23 rfl rfl rfl ?_
      exact r_lret ok50 24 rfl rfl rfl h2
    · have h2 := h1.2 c2
      refine r_lload ok50 13 rfl rfl rfl ?_
      refine r_lload ok50 14 rfl rfl rfl ?_
      obtain ⟨c3, h3⟩ := h2
      refine r_lrem ok50 15 rfl rfl c3 ?_
      refine r_lstore ok50 16 rfl rfl ?_
      refine r_lload ok50 17 rfl rfl rfl ?_
      refine r_lstore ok50 18 rfl rfl ?_
      refine r_lload ok50 19 rfl rfl rfl ?_
      refine r_lstore ok50 20 rfl rfl ?_
      refine r_iinc (v := x8 + 1) ok50 21 rfl rfl rfl rfl ?_
      refine r_goto ok50 22 rfl rfl ?_
      exact G.weak (L' := [none, none, none, none, some (.long x6), none, some (.long (x4 - x4 / x6 * x6)), none, some (.int (x8 + 1)), none, none]) ⟨rfl, ⟨rfl, ⟨rfl, trivial⟩⟩⟩ h3

theorem K50 {Θ : Th} {d : Nat} {σ : Mem} {Q : Po} {x0 : Int64} {x2 : Int64} (h : G Θ d 50 0 [some (.long x0), none, some (.long x2), none, none, none, none, none, none, none, none] [] σ Q) : Cm Θ d 50 [.long x0, .long x2] σ Q :=
  C_of_G okM50 (Nat.le_of_ble_eq_true rfl) rfl h

-- 51: LikeYears$Fraction.compare(JJJJ)I
set_option maxRecDepth 100000 in
set_option maxHeartbeats 4000000 in
theorem B51_0 {Θ : Th} {d : Nat} {σ : Mem} {Q : Po} {x0 : Int64} {x2 : Int64} {x4 : Int64} {x6 : Int64} 
    (h : (((lg_cmp x2 0) ≤ 0 → Q (some (.int 0)) σ) ∧ (¬ (lg_cmp x2 0) ≤ 0 → ((0 < (lg_cmp x6 0) → (¬ x2 = 0 ∧ (¬ x6 = 0 ∧ (((lg_cmp (x0 / x2) (x4 / x6)) = 0 → (¬ x2 = 0 ∧ (¬ x6 = 0 ∧ Ci Θ d 287 [.long ((x0 - x0 / x2 * x2) * x6), .long ((x4 - x4 / x6 * x6) * x2)] σ (fun v8 σ8 => Q (some (.int v8)) σ8)))) ∧ (¬ (lg_cmp (x0 / x2) (x4 / x6)) = 0 → Ci Θ d 287 [.long (x0 / x2), .long (x4 / x6)] σ (fun v9 σ9 => Q (some (.int v9)) σ9)))))) ∧ (¬ 0 < (lg_cmp x6 0) → Q (some (.int 0)) σ))))) :
    G Θ (d + 1) 51 0 [some (.long x0), none, some (.long x2), none, some (.long x4), none, some (.long x6), none, none, none, none, none] [] σ Q := by
  refine r_lload_n ok51 0 rfl rfl rfl ?_
  refine r_lconst (v := 0) ok51 1 rfl rfl rfl ?_
  refine r_lcmp ok51 2 rfl rfl ?_
  refine r_if_le ok51 3 rfl rfl (fun c1 => ?_) (fun c1 => ?_)
  · have h1 := h.1 c1
    refine r_iconst (v := 0) ok51 8 rfl rfl rfl ?_
    exact r_iret ok51 9 rfl rfl rfl h1
  · have h1 := h.2 c1
    refine r_lload ok51 4 rfl rfl rfl ?_
    refine r_lconst (v := 0) ok51 5 rfl rfl rfl ?_
    refine r_lcmp ok51 6 rfl rfl ?_
    refine r_if_gt ok51 7 rfl rfl (fun c2 => ?_) (fun c2 => ?_)
    · have h2 := h1.1 c2
      refine r_lload_n ok51 10 rfl rfl rfl ?_
      refine r_lload_n ok51 11 rfl rfl rfl ?_
      obtain ⟨c3, h3⟩ := h2
      refine r_ldiv ok51 12 rfl rfl c3 ?_
      refine r_lstore ok51 13 rfl rfl ?_
      refine r_lload ok51 14 rfl rfl rfl ?_
      refine r_lload ok51 15 rfl rfl rfl ?_
      obtain ⟨c4, h4⟩ := h3
      refine r_ldiv ok51 16 rfl rfl c4 ?_
      refine r_lstore ok51 17 rfl rfl ?_
      refine r_lload ok51 18 rfl rfl rfl ?_
      refine r_lload ok51 19 rfl rfl rfl ?_
      refine r_lcmp ok51 20 rfl rfl ?_
      refine r_if_eq ok51 21 rfl rfl (fun c5 => ?_) (fun c5 => ?_)
      · have h5 := h4.1 c5
        refine r_lload_n ok51 26 rfl rfl rfl ?_
        refine r_lload_n ok51 27 rfl rfl rfl ?_
        obtain ⟨c6, h6⟩ := h5
        refine r_lrem ok51 28 rfl rfl c6 ?_
        refine r_lload ok51 29 rfl rfl rfl ?_
        refine r_lmul ok51 30 rfl rfl ?_
        refine r_lload ok51 31 rfl rfl rfl ?_
        refine r_lload ok51 32 rfl rfl rfl ?_
        obtain ⟨c7, h7⟩ := h6
        refine r_lrem ok51 33 rfl rfl c7 ?_
        refine r_lload_n ok51 34 rfl rfl rfl ?_
        refine r_lmul ok51 35 rfl rfl ?_
        refine r_invSi (as := [.long ((x0 - x0 / x2 * x2) * x6), .long ((x4 - x4 / x6 * x6) * x2)]) (S := []) ok51 36 rfl rfl mf287 rfl (Nat.le_of_ble_eq_true rfl) rfl h7 (fun v8 σ8 h8 => ?_)
        exact r_iret ok51 37 rfl rfl rfl h8
      · have h5 := h4.2 c5
        refine r_lload ok51 22 rfl rfl rfl ?_
        refine r_lload ok51 23 rfl rfl rfl ?_
        refine r_invSi (as := [.long (x0 / x2), .long (x4 / x6)]) (S := []) ok51 24 rfl rfl mf287 rfl (Nat.le_of_ble_eq_true rfl) rfl h5 (fun v9 σ9 h9 => ?_)
        exact r_iret ok51 25 rfl rfl rfl h9
    · have h2 := h1.2 c2
      refine r_iconst (v := 0) ok51 8 rfl rfl rfl ?_
      exact r_iret ok51 9 rfl rfl rfl h2

theorem K51 {Θ : Th} {d : Nat} {σ : Mem} {Q : Po} {x0 : Int64} {x2 : Int64} {x4 : Int64} {x6 : Int64} (h : G Θ (d + 1) 51 0 [some (.long x0), none, some (.long x2), none, some (.long x4), none, some (.long x6), none, none, none, none, none] [] σ Q) : Cm Θ (d + 1) 51 [.long x0, .long x2, .long x4, .long x6] σ Q :=
  C_of_G okM51 (Nat.le_of_ble_eq_true rfl) rfl h
