-- 250: LikeYearsModel.mercy(I)I
set_option maxRecDepth 100000 in
set_option maxHeartbeats 4000000 in
theorem B250_0 {Θ : Th} {d : Nat} {σ : Mem} {Q : Po} {x1 : Int32} 
    (h : ((x1 < 0 → Q (some (.int (-1))) σ) ∧ (¬ x1 < 0 → ((x1 ≤ 1 → G Θ (d + 1) 250 18 [some (.ref 124), some (.int x1), some (.int (-1)), some (.int 0), some (.int 0), none] [] σ Q) ∧ (¬ x1 ≤ 1 → Q (some (.int (-1))) σ))))) :
    G Θ (d + 1) 250 0 [some (.ref 124), some (.int x1), none, none, none, none] [] σ Q := by
  refine r_iload_n ok250 0 rfl rfl rfl ?_
  refine r_if_lt ok250 1 rfl rfl (fun c1 => ?_) (fun c1 => ?_)
  · have h1 := h.1 c1
    refine r_iconst (v := (-1)) ok250 5 rfl rfl rfl ?_
    exact r_iret ok250 6 rfl rfl rfl h1
  · have h1 := h.2 c1
    refine r_iload_n ok250 2 rfl rfl rfl ?_
    refine r_iconst (v := 1) ok250 3 rfl rfl rfl ?_
    refine r_icmp_le ok250 4 rfl rfl (fun c2 => ?_) (fun c2 => ?_)
    · have h2 := h1.1 c2
      refine r_iconst (v := (-1)) ok250 7 rfl rfl rfl ?_
      refine r_istore_n ok250 8 rfl rfl ?_
      refine r_iconst (v := 0) ok250 9 rfl rfl rfl ?_
      refine r_istore_n ok250 10 rfl rfl ?_
      refine r_iconst (v := 0) ok250 11 rfl rfl rfl ?_
      refine r_istore ok250 12 rfl rfl ?_
      exact h2
    · have h2 := h1.2 c2
      refine r_iconst (v := (-1)) ok250 5 rfl rfl rfl ?_
      exact r_iret ok250 6 rfl rfl rfl h2

set_option maxRecDepth 100000 in
set_option maxHeartbeats 4000000 in
theorem B250_18 {Θ : Th} {d : Nat} {σ : Mem} {Q : Po} {x1 : Int32} {x2 : Int32} {x3 : Int32} {x4 : Int32} 
    (h : (((σ.1 124 37) ≤ x4 → ((0 ≤ x2 → ((¬ x1 = 0 → Q (some (.int x3)) σ) ∧ (x1 = 0 → Q (some (.int x2)) σ))) ∧ (¬ 0 ≤ x2 → Q (some (.int (-1))) σ))) ∧ (¬ (σ.1 124 37) ≤ x4 → (vp_in x4 6 ∧ (((σ.1 147 x4.toNatClampNeg) = 0 → Ci Θ d 196 [.ref 124] σ (fun v6 σ6 => Cv Θ d 197 [.ref 124, .int (v6 ||| ((1 : Int32) <<< (x4 &&& 31))), .int 1] σ6 (fun σ7 => Ci Θ d 206 [.ref 124] σ7 (fun v8 σ8 => ((x2 < 0 → G Θ (d + 1) 250 18 [some (.ref 124), some (.int x1), some (.int x4), some (.int v8), some (.int (x4 + 1)), none] [] σ8 Q) ∧ (¬ x2 < 0 → ((v8 < x3 → G Θ (d + 1) 250 18 [some (.ref 124), some (.int x1), some (.int x4), some (.int v8), some (.int (x4 + 1)), none] [] σ8 Q) ∧ (¬ v8 < x3 → G Θ (d + 1) 250 18 [some (.ref 124), some (.int x1), some (.int x2), some (.int x3), some (.int (x4 + 1)), none] [] σ8 Q)))))))) ∧ (¬ (σ.1 147 x4.toNatClampNeg) = 0 → G Θ (d + 1) 250 18 [some (.ref 124), some (.int x1), some (.int x2), some (.int x3), some (.int (x4 + 1)), none] [] σ Q)))))) :
    G Θ (d + 1) 250 18 [some (.ref 124), some (.int x1), some (.int x2), some (.int x3), some (.int x4), none] [] σ Q := by
  refine r_iload ok250 13 rfl rfl rfl ?_
  refine r_aload_n ok250 14 rfl rfl rfl ?_
  refine r_getI ok250 15 rfl rfl rfl rfl ?_
  refine r_icmp_ge ok250 16 rfl rfl (fun c1 => ?_) (fun c1 => ?_)
  · have h1 := h.1 c1
    refine r_iload_n ok250 47 rfl rfl rfl ?_
    refine r_if_ge ok250 48 rfl rfl (fun c2 => ?_) (fun c2 => ?_)
    · have h2 := h1.1 c2
      refine r_iload_n ok250 51 rfl rfl rfl ?_
      refine r_if_ne ok250 52 rfl rfl (fun c3 => ?_) (fun c3 => ?_)
      · have h3 := h2.1 c3
        refine r_iload_n ok250 55 rfl rfl rfl ?_
        exact r_iret ok250 56 rfl rfl rfl h3
      · have h3 := h2.2 c3
        refine r_iload_n ok250 53 rfl rfl rfl ?_
        refine r_goto ok250 54 rfl rfl ?_
        exact r_iret ok250 56 rfl rfl rfl h3
    · have h2 := h1.2 c2
      refine r_iconst (v := (-1)) ok250 49 rfl rfl rfl ?_
      refine r_goto ok250 50 rfl rfl ?_
      exact r_iret ok250 56 rfl rfl rfl h2
  · have h1 := h.2 c1
    refine r_aload_n ok250 17 rfl rfl rfl ?_
    refine r_getF ok250 18 rfl rfl rfl rfl ?_
    refine r_iload ok250 19 rfl rfl rfl ?_
    obtain ⟨c4, h4⟩ := h1
    refine r_zald ok250 20 rfl rfl rfl c4 ?_
    refine r_if_eq ok250 21 rfl rfl (fun c5 => ?_) (fun c5 => ?_)
    · have h5 := h4.1 c5
      refine r_aload_n ok250 23 rfl rfl rfl ?_
      refine r_aload_n ok250 24 rfl rfl rfl ?_
      refine r_invVi (as := []) (S := [.ref 124]) ok250 25 rfl rfl mf196 rfl rfl (Nat.le_of_ble_eq_true rfl) rfl h5 (fun v6 σ6 h6 => ?_)
      refine r_iconst (v := 1) ok250 26 rfl rfl rfl ?_
      refine r_iload ok250 27 rfl rfl rfl ?_
      refine r_ishl ok250 28 rfl rfl ?_
      refine r_ior ok250 29 rfl rfl ?_
      refine r_iconst (v := 1) ok250 30 rfl rfl rfl ?_
      refine r_invVv (as := [.int (v6 ||| ((1 : Int32) <<< (x4 &&& 31))), .int 1]) (S := []) ok250 31 rfl rfl mf197 rfl rfl (Nat.le_of_ble_eq_true rfl) rfl h6 (fun σ7 h7 => ?_)
      refine r_aload_n ok250 32 rfl rfl rfl ?_
      refine r_invVi (as := []) (S := []) ok250 33 rfl rfl mf206 rfl rfl (Nat.le_of_ble_eq_true rfl) rfl h7 (fun v8 σ8 h8 => ?_)
      refine r_istore ok250 34 rfl rfl ?_
      refine r_iload_n ok250 35 rfl rfl rfl ?_
      refine r_if_lt ok250 36 rfl rfl (fun c9 => ?_) (fun c9 => ?_)
      · have h9 := h8.1 c9
        refine r_iload ok250 41 rfl rfl rfl ?_
        refine r_istore_n ok250 42 rfl rfl ?_
        refine r_iload ok250 43 rfl rfl rfl ?_
        refine r_istore_n ok250 44 rfl rfl ?_
        refine r_iinc (v := x4 + 1) ok250 45 rfl rfl rfl rfl ?_
        refine r_goto ok250 46 rfl rfl ?_
        exact G.weak (L' := [some (.ref 124), some (.int x1), some (.int x4), some (.int v8), some (.int (x4 + 1)), none]) ⟨rfl, ⟨rfl, ⟨rfl, ⟨rfl, ⟨rfl, trivial⟩⟩⟩⟩⟩ h9
      · have h9 := h8.2 c9
        refine r_iload ok250 37 rfl rfl rfl ?_
        refine r_iload_n ok250 38 rfl rfl rfl ?_
        refine r_icmp_lt ok250 39 rfl rfl (fun c10 => ?_) (fun c10 => ?_)
        · have h10 := h9.1 c10
          refine r_iload ok250 41 rfl rfl rfl ?_
          refine r_istore_n ok250 42 rfl rfl ?_
          refine r_iload ok250 43 rfl rfl rfl ?_
          refine r_istore_n ok250 44 rfl rfl ?_
          refine r_iinc (v := x4 + 1) ok250 45 rfl rfl rfl rfl ?_
          refine r_goto ok250 46 rfl rfl ?_
          exact G.weak (L' := [some (.ref 124), some (.int x1), some (.int x4), some (.int v8), some (.int (x4 + 1)), none]) ⟨rfl, ⟨rfl, ⟨rfl, ⟨rfl, ⟨rfl, trivial⟩⟩⟩⟩⟩ h10
        · have h10 := h9.2 c10
          refine r_goto ok250 40 rfl rfl ?_
          refine r_iinc (v := x4 + 1) ok250 45 rfl rfl rfl rfl ?_
          refine r_goto ok250 46 rfl rfl ?_
          exact G.weak (L' := [some (.ref 124), some (.int x1), some (.int x2), some (.int x3), some (.int (x4 + 1)), none]) ⟨rfl, ⟨rfl, ⟨rfl, ⟨rfl, ⟨rfl, trivial⟩⟩⟩⟩⟩ h10
    · have h5 := h4.2 c5
      refine r_goto ok250 22 rfl rfl ?_
      refine r_iinc (v := x4 + 1) ok250 45 rfl rfl rfl rfl ?_
      refine r_goto ok250 46 rfl rfl ?_
      exact h5

theorem K250 {Θ : Th} {d : Nat} {σ : Mem} {Q : Po} {x1 : Int32} (h : G Θ (d + 1) 250 0 [some (.ref 124), some (.int x1), none, none, none, none] [] σ Q) : Cm Θ (d + 1) 250 [.ref 124, .int x1] σ Q :=
  C_of_G okM250 (Nat.le_of_ble_eq_true rfl) rfl h

-- 251: LikeYearsModel.note(II)V
set_option maxRecDepth 100000 in
set_option maxHeartbeats 4000000 in
theorem B251_0 {Θ : Th} {d : Nat} {σ : Mem} {Q : Po} {x1 : Int32} {x2 : Int32} 
    (h : (vp_in (σ.1 124 68) 600 ∧ (vp_in ((sI σ 161 ((σ.1 124 68).toNatClampNeg) x1).1 124 68) 600 ∧ Q none (sI (sI (sI σ 161 ((σ.1 124 68).toNatClampNeg) x1) 162 (((sI σ 161 ((σ.1 124 68).toNatClampNeg) x1).1 124 68).toNatClampNeg) x2) 124 68 (((sI (sI σ 161 ((σ.1 124 68).toNatClampNeg) x1) 162 (((sI σ 161 ((σ.1 124 68).toNatClampNeg) x1).1 124 68).toNatClampNeg) x2).1 124 68) + 1))))) :
    G Θ d 251 0 [some (.ref 124), some (.int x1), some (.int x2)] [] σ Q := by
  refine r_aload_n ok251 0 rfl rfl rfl ?_
  refine r_getF ok251 1 rfl rfl rfl rfl ?_
  refine r_aload_n ok251 2 rfl rfl rfl ?_
  refine r_getI ok251 3 rfl rfl rfl rfl ?_
  refine r_iload_n ok251 4 rfl rfl rfl ?_
  obtain ⟨c1, h1⟩ := h
  refine r_iast ok251 5 rfl rfl rfl c1 ?_
  refine r_aload_n ok251 6 rfl rfl rfl ?_
  refine r_getF ok251 7 rfl rfl rfl rfl ?_
  refine r_aload_n ok251 8 rfl rfl rfl ?_
  refine r_getI ok251 9 rfl rfl rfl rfl ?_
  refine r_iload_n ok251 10 rfl rfl rfl ?_
  obtain ⟨c2, h2⟩ := h1
  refine r_iast ok251 11 rfl rfl rfl c2 ?_
  refine r_aload_n ok251 12 rfl rfl rfl ?_
  refine r_dup ok251 13 rfl rfl rfl ?_
  refine r_getI ok251 14 rfl rfl rfl rfl ?_
  refine r_iconst (v := 1) ok251 15 rfl rfl rfl ?_
  refine r_iadd ok251 16 rfl rfl ?_
  refine r_putI ok251 17 rfl rfl rfl rfl ?_
  exact r_ret ok251 18 rfl rfl rfl h2

theorem K251 {Θ : Th} {d : Nat} {σ : Mem} {Q : Po} {x1 : Int32} {x2 : Int32} (h : G Θ d 251 0 [some (.ref 124), some (.int x1), some (.int x2)] [] σ Q) : Cm Θ d 251 [.ref 124, .int x1, .int x2] σ Q :=
  C_of_G okM251 (Nat.le_of_ble_eq_true rfl) rfl h

-- 252: LikeYearsModel.upper()I
set_option maxRecDepth 100000 in
set_option maxHeartbeats 4000000 in
theorem B252_0 {Θ : Th} {d : Nat} {σ : Mem} {Q : Po} 
    (h : ((¬ (σ.1 124 72) = 0 → (vp_in ((σ.1 124 72) - 1) 600 ∧ Q (some (.int (σ.1 171 ((σ.1 124 72) - 1).toNatClampNeg))) σ)) ∧ ((σ.1 124 72) = 0 → Q (some (.int 30)) σ))) :
    G Θ d 252 0 [some (.ref 124)] [] σ Q := by
  refine r_aload_n ok252 0 rfl rfl rfl ?_
  refine r_getI ok252 1 rfl rfl rfl rfl ?_
  refine r_if_ne ok252 2 rfl rfl (fun c1 => ?_) (fun c1 => ?_)
  · have h1 := h.1 c1
    refine r_aload_n ok252 5 rfl rfl rfl ?_
    refine r_getF ok252 6 rfl rfl rfl rfl ?_
    refine r_aload_n ok252 7 rfl rfl rfl ?_
    refine r_getI ok252 8 rfl rfl rfl rfl ?_
    refine r_iconst (v := 1) ok252 9 rfl rfl rfl ?_
    refine r_isub ok252 10 rfl rfl ?_
    obtain ⟨c2, h2⟩ := h1
    refine r_iald ok252 11 rfl rfl rfl c2 ?_
    exact r_iret ok252 12 rfl rfl rfl h2
  · have h1 := h.2 c1
    refine r_bipush (v := 30) ok252 3 rfl rfl rfl ?_
    refine r_goto ok252 4 rfl rfl ?_
    exact r_iret ok252 12 rfl rfl rfl h1

theorem K252 {Θ : Th} {d : Nat} {σ : Mem} {Q : Po} (h : G Θ d 252 0 [some (.ref 124)] [] σ Q) : Cm Θ d 252 [.ref 124] σ Q :=
  C_of_G okM252 (Nat.le_of_ble_eq_true rfl) rfl h

-- 253: LikeYearsModel.hold(I)V
set_option maxRecDepth 100000 in
set_option maxHeartbeats 4000000 in
theorem B253_0 {Θ : Th} {d : Nat} {σ : Mem} {Q : Po} {x1 : Int32} 
    (h : (vp_in (σ.1 124 72) 600 ∧ ((x1 = 30 → Q none (sI (sI (sI σ 171 ((σ.1 124 72).toNatClampNeg) x1) 124 72 (((sI σ 171 ((σ.1 124 72).toNatClampNeg) x1).1 124 72) + 1)) 124 73 (((sI (sI σ 171 ((σ.1 124 72).toNatClampNeg) x1) 124 72 (((sI σ 171 ((σ.1 124 72).toNatClampNeg) x1).1 124 72) + 1)).1 124 73) + 1))) ∧ (¬ x1 = 30 → ((¬ x1 = 22 → Q none (sI (sI σ 171 ((σ.1 124 72).toNatClampNeg) x1) 124 72 (((sI σ 171 ((σ.1 124 72).toNatClampNeg) x1).1 124 72) + 1))) ∧ (x1 = 22 → Q none (sI (sI (sI σ 171 ((σ.1 124 72).toNatClampNeg) x1) 124 72 (((sI σ 171 ((σ.1 124 72).toNatClampNeg) x1).1 124 72) + 1)) 124 73 (((sI (sI σ 171 ((σ.1 124 72).toNatClampNeg) x1) 124 72 (((sI σ 171 ((σ.1 124 72).toNatClampNeg) x1).1 124 72) + 1)).1 124 73) + 1)))))))) :
    G Θ d 253 0 [some (.ref 124), some (.int x1)] [] σ Q := by
  refine r_aload_n ok253 0 rfl rfl rfl ?_
  refine r_getF ok253 1 rfl rfl rfl rfl ?_
  refine r_aload_n ok253 2 rfl rfl rfl ?_
  refine r_getI ok253 3 rfl rfl rfl rfl ?_
  refine r_iload_n ok253 4 rfl rfl rfl ?_
  obtain ⟨c1, h1⟩ := h
  refine r_iast ok253 5 rfl rfl rfl c1 ?_
  refine r_aload_n ok253 6 rfl rfl rfl ?_
  refine r_dup ok253 7 rfl rfl rfl ?_
  refine r_getI ok253 8 rfl rfl rfl rfl ?_
  refine r_iconst (v := 1) ok253 9 rfl rfl rfl ?_
  refine r_iadd ok253 10 rfl rfl ?_
  refine r_putI ok253 11 rfl rfl rfl rfl ?_
  refine r_iload_n ok253 12 rfl rfl rfl ?_
  refine r_bipush (v := 30) ok253 13 rfl rfl rfl ?_
  refine r_icmp_eq ok253 14 rfl rfl (fun c2 => ?_) (fun c2 => ?_)
  · have h2 := h1.1 c2
    refine r_aload_n ok253 18 rfl rfl rfl ?_
    refine r_dup ok253 19 rfl rfl rfl ?_
    refine r_getI ok253 20 rfl rfl rfl rfl ?_
    refine r_iconst (v := 1) ok253 21 rfl rfl rfl ?_
    refine r_iadd ok253 22 rfl rfl ?_
    refine r_putI ok253 23 rfl rfl rfl rfl ?_
    exact r_ret ok253 24 rfl rfl rfl h2
  · have h2 := h1.2 c2
    refine r_iload_n ok253 15 rfl rfl rfl ?_
    refine r_bipush (v := 22) ok253 16 rfl rfl rfl ?_
    refine r_icmp_ne ok253 17 rfl rfl (fun c3 => ?_) (fun c3 => ?_)
    · have h3 := h2.1 c3
      exact r_ret ok253 24 rfl rfl rfl h3
    · have h3 := h2.2 c3
      refine r_aload_n ok253 18 rfl rfl rfl ?_
      refine r_dup ok253 19 rfl rfl rfl ?_
      refine r_getI ok253 20 rfl rfl rfl rfl ?_
      refine r_iconst (v := 1) ok253 21 rfl rfl rfl ?_
      refine r_iadd ok253 22 rfl rfl ?_
      refine r_putI ok253 23 rfl rfl rfl rfl ?_
      exact r_ret ok253 24 rfl rfl rfl h3

theorem K253 {Θ : Th} {d : Nat} {σ : Mem} {Q : Po} {x1 : Int32} (h : G Θ d 253 0 [some (.ref 124), some (.int x1)] [] σ Q) : Cm Θ d 253 [.ref 124, .int x1] σ Q :=
  C_of_G okM253 (Nat.le_of_ble_eq_true rfl) rfl h

-- 254: LikeYearsModel.pop()V
set_option maxRecDepth 100000 in
set_option maxHeartbeats 4000000 in
theorem B254_0 {Θ : Th} {d : Nat} {σ : Mem} {Q : Po} 
    (h : (vp_in ((sI σ 124 72 ((σ.1 124 72) - 1)).1 124 72) 600 ∧ ((¬ ((sI σ 124 72 ((σ.1 124 72) - 1)).1 171 ((sI σ 124 72 ((σ.1 124 72) - 1)).1 124 72).toNatClampNeg) = 22 → (vp_in ((sI σ 124 72 ((σ.1 124 72) - 1)).1 124 72) 600 ∧ Cv Θ d 251 [.ref 124, .int ((sI σ 124 72 ((σ.1 124 72) - 1)).1 171 ((sI σ 124 72 ((σ.1 124 72) - 1)).1 124 72).toNatClampNeg), .int 0] (sI σ 124 72 ((σ.1 124 72) - 1)) (fun σ4 => Q none σ4))) ∧ (((sI σ 124 72 ((σ.1 124 72) - 1)).1 171 ((sI σ 124 72 ((σ.1 124 72) - 1)).1 124 72).toNatClampNeg) = 22 → (vp_in ((sI (sI σ 124 72 ((σ.1 124 72) - 1)) 124 73 (((sI σ 124 72 ((σ.1 124 72) - 1)).1 124 73) - 1)).1 124 72) 600 ∧ Cv Θ d 251 [.ref 124, .int ((sI (sI σ 124 72 ((σ.1 124 72) - 1)) 124 73 (((sI σ 124 72 ((σ.1 124 72) - 1)).1 124 73) - 1)).1 171 ((sI (sI σ 124 72 ((σ.1 124 72) - 1)) 124 73 (((sI σ 124 72 ((σ.1 124 72) - 1)).1 124 73) - 1)).1 124 72).toNatClampNeg), .int 0] (sI (sI σ 124 72 ((σ.1 124 72) - 1)) 124 73 (((sI σ 124 72 ((σ.1 124 72) - 1)).1 124 73) - 1)) (fun σ6 => Q none σ6)))))) :
    G Θ (d + 1) 254 0 [some (.ref 124)] [] σ Q := by
  refine r_aload_n ok254 0 rfl rfl rfl ?_
  refine r_dup ok254 1 rfl rfl rfl ?_
  refine r_getI ok254 2 rfl rfl rfl rfl ?_
  refine r_iconst (v := 1) ok254 3 rfl rfl rfl ?_
  refine r_isub ok254 4 rfl rfl ?_
  refine r_putI ok254 5 rfl rfl rfl rfl ?_
  refine r_aload_n ok254 6 rfl rfl rfl ?_
  refine r_getF ok254 7 rfl rfl rfl rfl ?_
  refine r_aload_n ok254 8 rfl rfl rfl ?_
  refine r_getI ok254 9 rfl rfl rfl rfl ?_
  obtain ⟨c1, h1⟩ := h
  refine r_iald ok254 10 rfl rfl rfl c1 ?_
  refine r_bipush (v := 22) ok254 11 rfl rfl rfl ?_
  refine r_icmp_ne ok254 12 rfl rfl (fun c2 => ?_) (fun c2 => ?_)
  · have h2 := h1.1 c2
    refine r_aload_n ok254 19 rfl rfl rfl ?_
    refine r_aload_n ok254 20 rfl rfl rfl ?_
    refine r_getF ok254 21 rfl rfl rfl rfl ?_
    refine r_aload_n ok254 22 rfl rfl rfl ?_
    refine r_getI ok254 23 rfl rfl rfl rfl ?_
    obtain ⟨c3, h3⟩ := h2
    refine r_iald ok254 24 rfl rfl rfl c3 ?_
    refine r_iconst (v := 0) ok254 25 rfl rfl rfl ?_
    refine r_invVv (as := [.int ((sI σ 124 72 ((σ.1 124 72) - 1)).1 171 ((sI σ 124 72 ((σ.1 124 72) - 1)).1 124 72).toNatClampNeg), .int 0]) (S := []) ok254 26 rfl rfl mf251 rfl rfl (Nat.le_of_ble_eq_true rfl) rfl h3 (fun σ4 h4 => ?_)
    exact r_ret ok254 27 rfl rfl rfl h4
  · have h2 := h1.2 c2
    refine r_aload_n ok254 13 rfl rfl rfl ?_
    refine r_dup ok254 14 rfl rfl rfl ?_
    refine r_getI ok254 15 rfl rfl rfl rfl ?_
    refine r_iconst (v := 1) ok254 16 rfl rfl rfl ?_
    refine r_isub ok254 17 rfl rfl ?_
    refine r_putI ok254 18 rfl rfl rfl rfl ?_
    refine r_aload_n ok254 19 rfl rfl rfl ?_
    refine r_aload_n ok254 20 rfl rfl rfl ?_
    refine r_getF ok254 21 rfl rfl rfl rfl ?_
    refine r_aload_n ok254 22 rfl rfl rfl ?_
    refine r_getI ok254 23 rfl rfl rfl rfl ?_
    obtain ⟨c5, h5⟩ := h2
    refine r_iald ok254 24 rfl rfl rfl c5 ?_
    refine r_iconst (v := 0) ok254 25 rfl rfl rfl ?_
    refine r_invVv (as := [.int ((sI (sI σ 124 72 ((σ.1 124 72) - 1)) 124 73 (((sI σ 124 72 ((σ.1 124 72) - 1)).1 124 73) - 1)).1 171 ((sI (sI σ 124 72 ((σ.1 124 72) - 1)) 124 73 (((sI σ 124 72 ((σ.1 124 72) - 1)).1 124 73) - 1)).1 124 72).toNatClampNeg), .int 0]) (S := []) ok254 26 rfl rfl mf251 rfl rfl (Nat.le_of_ble_eq_true rfl) rfl h5 (fun σ6 h6 => ?_)
    exact r_ret ok254 27 rfl rfl rfl h6

theorem K254 {Θ : Th} {d : Nat} {σ : Mem} {Q : Po} (h : G Θ (d + 1) 254 0 [some (.ref 124)] [] σ Q) : Cm Θ (d + 1) 254 [.ref 124] σ Q :=
  C_of_G okM254 (Nat.le_of_ble_eq_true rfl) rfl h

-- 255: LikeYearsModel.settle(I)V
set_option maxRecDepth 100000 in
set_option maxHeartbeats 4000000 in
theorem B255_0 {Θ : Th} {d : Nat} {σ : Mem} {Q : Po} {x1 : Int32} 
    (h : Ci Θ d 252 [.ref 124] σ (fun v1 σ1 => ((v1 = 30 → Q none σ1) ∧ (¬ v1 = 30 → Ci Θ d 252 [.ref 124] σ1 (fun v3 σ3 => ((v3 < x1 → Q none σ3) ∧ (¬ v3 < x1 → Cv Θ d 254 [.ref 124] σ3 (fun σ5 => G Θ (d + 1) 255 0 [some (.ref 124), some (.int x1)] [] σ5 Q)))))))) :
    G Θ (d + 1) 255 0 [some (.ref 124), some (.int x1)] [] σ Q := by
  refine r_aload_n ok255 0 rfl rfl rfl ?_
  refine r_invVi (as := []) (S := []) ok255 1 rfl rfl mf252 rfl rfl (Nat.le_of_ble_eq_true rfl) rfl h (fun v1 σ1 h1 => ?_)
  refine r_bipush (v := 30) ok255 2 rfl rfl rfl ?_
  refine r_icmp_eq ok255 3 rfl rfl (fun c2 => ?_) (fun c2 => ?_)
  · have h2 := h1.1 c2
    exact r_ret ok255 11 rfl rfl rfl h2
  · have h2 := h1.2 c2
    refine r_aload_n ok255 4 rfl rfl rfl ?_
    refine r_invVi (as := []) (S := []) ok255 5 rfl rfl mf252 rfl rfl (Nat.le_of_ble_eq_true rfl) rfl h2 (fun v3 σ3 h3 => ?_)
    refine r_iload_n ok255 6 rfl rfl rfl ?_
    refine r_icmp_lt ok255 7 rfl rfl (fun c4 => ?_) (fun c4 => ?_)
    · have h4 := h3.1 c4
      exact r_ret ok255 11 rfl rfl rfl h4
    · have h4 := h3.2 c4
      refine r_aload_n ok255 8 rfl rfl rfl ?_
      refine r_invVv (as := []) (S := []) ok255 9 rfl rfl mf254 rfl rfl (Nat.le_of_ble_eq_true rfl) rfl h4 (fun σ5 h5 => ?_)
      refine r_goto ok255 10 rfl rfl ?_
      exact h5

theorem K255 {Θ : Th} {d : Nat} {σ : Mem} {Q : Po} {x1 : Int32} (h : G Θ (d + 1) 255 0 [some (.ref 124), some (.int x1)] [] σ Q) : Cm Θ (d + 1) 255 [.ref 124, .int x1] σ Q :=
  C_of_G okM255 (Nat.le_of_ble_eq_true rfl) rfl h

-- 256: LikeYearsModel.isOpen()Z
set_option maxRecDepth 100000 in
set_option maxHeartbeats 4000000 in
theorem B256_0 {Θ : Th} {d : Nat} {σ : Mem} {Q : Po} 
    (h : G Θ d 256 4 [some (.ref 124), some (.int 0), some (.int 0)] [] σ Q) :
    G Θ d 256 0 [some (.ref 124), none, none] [] σ Q := by
  refine r_iconst (v := 0) ok256 0 rfl rfl rfl ?_
  refine r_istore_n ok256 1 rfl rfl ?_
  refine r_iconst (v := 0) ok256 2 rfl rfl rfl ?_
  refine r_istore_n ok256 3 rfl rfl ?_
  exact h

set_option maxRecDepth 100000 in
set_option maxHeartbeats 4000000 in
theorem B256_4 {Θ : Th} {d : Nat} {σ : Mem} {Q : Po} {x1 : Int32} {x2 : Int32} 
    (h : (((σ.1 124 72) ≤ x2 → ((x1 = 0 ∨ x1 = 1) ∧ Q (some (.int x1)) σ)) ∧ (¬ (σ.1 124 72) ≤ x2 → ((¬ x1 = 0 → G Θ d 256 4 [some (.ref 124), some (.int 1), some (.int (x2 + 1))] [] σ Q) ∧ (x1 = 0 → (vp_in x2 600 ∧ ((¬ (σ.1 171 x2.toNatClampNeg) = 30 → G Θ d 256 4 [some (.ref 124), some (.int 0), some (.int (x2 + 1))] [] σ Q) ∧ ((σ.1 171 x2.toNatClampNeg) = 30 → G Θ d 256 4 [some (.ref 124), some (.int 1), some (.int (x2 + 1))] [] σ Q)))))))) :
    G Θ d 256 4 [some (.ref 124), some (.int x1), some (.int x2)] [] σ Q := by
  refine r_iload_n ok256 4 rfl rfl rfl ?_
  refine r_aload_n ok256 5 rfl rfl rfl ?_
  refine r_getI ok256 6 rfl rfl rfl rfl ?_
  refine r_icmp_ge ok256 7 rfl rfl (fun c1 => ?_) (fun c1 => ?_)
  · have h1 := h.1 c1
    refine r_iload_n ok256 22 rfl rfl rfl ?_
    exact r_zret ok256 23 rfl rfl rfl h1.1 h1.2
  · have h1 := h.2 c1
    refine r_iload_n ok256 8 rfl rfl rfl ?_
    refine r_if_ne ok256 9 rfl rfl (fun c2 => ?_) (fun c2 => ?_)
    · have h2 := h1.1 c2
      refine r_iconst (v := 1) ok256 16 rfl rfl rfl ?_
      refine r_goto ok256 17 rfl rfl ?_
      refine r_istore_n ok256 19 rfl rfl ?_
      refine r_iinc (v := x2 + 1) ok256 20 rfl rfl rfl rfl ?_
      refine r_goto ok256 21 rfl rfl ?_
      exact h2
    · have h2 := h1.2 c2
      refine r_aload_n ok256 10 rfl rfl rfl ?_
      refine r_getF ok256 11 rfl rfl rfl rfl ?_
      refine r_iload_n ok256 12 rfl rfl rfl ?_
      obtain ⟨c3, h3⟩ := h2
      refine r_iald ok256 13 rfl rfl rfl c3 ?_
      refine r_bipush (v := 30) ok256 14 rfl rfl rfl ?_
      refine r_icmp_ne ok256 15 rfl rfl (fun c4 => ?_) (fun c4 => ?_)
      · have h4 := h3.1 c4
        refine r_iconst (v := 0) ok256 18 rfl rfl rfl ?_
        refine r_istore_n ok256 19 rfl rfl ?_
        refine r_iinc (v := x2 + 1) ok256 20 rfl rfl rfl rfl ?_
        refine r_goto ok256 21 rfl rfl ?_
        exact h4
      · have h4 := h3.2 c4
        refine r_iconst (v := 1) ok256 16 rfl rfl rfl ?_
        refine r_goto ok256 17 rfl rfl ?_
        refine r_istore_n ok256 19 rfl rfl ?_
        refine r_iinc (v := x2 + 1) ok256 20 rfl rfl rfl rfl ?_
        refine r_goto ok256 21 rfl rfl ?_
        exact h4

theorem K256 {Θ : Th} {d : Nat} {σ : Mem} {Q : Po} (h : G Θ d 256 0 [some (.ref 124), none, none] [] σ Q) : Cm Θ d 256 [.ref 124] σ Q :=
  C_of_G okM256 (Nat.le_of_ble_eq_true rfl) rfl h

-- 257: LikeYearsModel.rank(I)I
set_option maxRecDepth 100000 in
set_option maxHeartbeats 4000000 in
theorem B257_0 {Θ : Th} {d : Nat} {σ : Mem} {Q : Po} {x0 : Int32} 
    (h : ((¬ x0 = 27 → ((x0 = 24 → Q (some (.int 23)) σ) ∧ (¬ x0 = 24 → ((¬ x0 = 25 → Q (some (.int x0)) σ) ∧ (x0 = 25 → Q (some (.int 23)) σ))))) ∧ (x0 = 27 → Q (some (.int 26)) σ))) :
    G Θ d 257 0 [some (.int x0)] [] σ Q := by
  refine r_iload_n ok257 0 rfl rfl rfl ?_
  refine r_bipush (v := 27) ok257 1 rfl rfl rfl ?_
  refine r_icmp_ne ok257 2 rfl rfl (fun c1 => ?_) (fun c1 => ?_)
  · have h1 := h.1 c1
    refine r_iload_n ok257 5 rfl rfl rfl ?_
    refine r_bipush (v := 24) ok257 6 rfl rfl rfl ?_
    refine r_icmp_eq ok257 7 rfl rfl (fun c2 => ?_) (fun c2 => ?_)
    · have h2 := h1.1 c2
      refine r_bipush (v := 23) ok257 11 rfl rfl rfl ?_
      refine r_goto ok257 12 rfl rfl ?_
      exact r_iret ok257 14 rfl rfl rfl h2
    · have h2 := h1.2 c2
      refine r_iload_n ok257 8 rfl rfl rfl ?_
      refine r_bipush (v := 25) ok257 9 rfl rfl rfl ?_
      refine r_icmp_ne ok257 10 rfl rfl (fun c3 => ?_) (fun c3 => ?_)
      · have h3 := h2.1 c3
        refine r_iload_n ok257 13 rfl rfl rfl ?_
        exact r_iret ok257 14 rfl rfl rfl h3
      · have h3 := h2.2 c3
        refine r_bipush (v := 23) ok257 11 rfl rfl rfl ?_
        refine r_goto ok257 12 rfl rfl ?_
        exact r_iret ok257 14 rfl rfl rfl h3
  · have h1 := h.2 c1
    refine r_bipush (v := 26) ok257 3 rfl rfl rfl ?_
    refine r_goto ok257 4 rfl rfl ?_
    exact r_iret ok257 14 rfl rfl rfl h1

theorem K257 {Θ : Th} {d : Nat} {σ : Mem} {Q : Po} {x0 : Int32} (h : G Θ d 257 0 [some (.int x0)] [] σ Q) : Cm Θ d 257 [.int x0] σ Q :=
  C_of_G okM257 (Nat.le_of_ble_eq_true rfl) rfl h

-- 258: LikeYearsModel.known()I
set_option maxRecDepth 100000 in
set_option maxHeartbeats 4000000 in
theorem B258_0 {Θ : Th} {d : Nat} {σ : Mem} {Q : Po} 
    (h : Ci Θ d 177 [.ref 124, .long 457236047717] σ (fun v1 σ1 => ((v1 = 0 → Ci Θ d 177 [.ref 124, .long 26990] σ1 (fun v3 σ3 => ((v3 = 0 → Ci Θ d 177 [.ref 124, .long 444150998382] σ3 (fun v5 σ5 => ((v5 = 0 → Ci Θ d 177 [.ref 124, .long 131277443786868] σ5 (fun v7 σ7 => ((v7 = 0 → Q (some (.int (-1))) σ7) ∧ (¬ v7 = 0 → Q (some (.int 5)) σ7)))) ∧ (¬ v5 = 0 → Q (some (.int 4)) σ5)))) ∧ (¬ v3 = 0 → Q (some (.int 3)) σ3)))) ∧ (¬ v1 = 0 → Q (some (.int 2)) σ1)))) :
    G Θ (d + 1) 258 0 [some (.ref 124)] [] σ Q := by
  refine r_aload_n ok258 0 rfl rfl rfl ?_
  refine r_ldc2_w (v := 457236047717) ok258 1 rfl rfl rfl ?_
  refine r_invVi (as := [.long 457236047717]) (S := []) ok258 2 rfl rfl mf177 rfl rfl (Nat.le_of_ble_eq_true rfl) rfl h (fun v1 σ1 h1 => ?_)
  refine r_if_eq ok258 3 rfl rfl (fun c2 => ?_) (fun c2 => ?_)
  · have h2 := h1.1 c2
    refine r_aload_n ok258 6 rfl rfl rfl ?_
    refine r_ldc2_w (v := 26990) ok258 7 rfl rfl rfl ?_
    refine r_invVi (as := [.long 26990]) (S := []) ok258 8 rfl rfl mf177 rfl rfl (Nat.le_of_ble_eq_true rfl) rfl h2 (fun v3 σ3 h3 => ?_)
    refine r_if_eq ok258 9 rfl rfl (fun c4 => ?_) (fun c4 => ?_)
    · have h4 := h3.1 c4
      refine r_aload_n ok258 12 rfl rfl rfl ?_
      refine r_ldc2_w (v := 444150998382) ok258 13 rfl rfl rfl ?_
      refine r_invVi (as := [.long 444150998382]) (S := []) ok258 14 rfl rfl mf177 rfl rfl (Nat.le_of_ble_eq_true rfl) rfl h4 (fun v5 σ5 h5 => ?_)
      refine r_if_eq ok258 15 rfl rfl (fun c6 => ?_) (fun c6 => ?_)
      · have h6 := h5.1 c6
        refine r_aload_n ok258 18 rfl rfl rfl ?_
        refine r_ldc2_w (v := 131277443786868) ok258 19 rfl rfl rfl ?_
        refine r_invVi (as := [.long 131277443786868]) (S := []) ok258 20 rfl rfl mf177 rfl rfl (Nat.le_of_ble_eq_true rfl) rfl h6 (fun v7 σ7 h7 => ?_)
        refine r_if_eq ok258 21 rfl rfl (fun c8 => ?_) (fun c8 => ?_)
        · have h8 := h7.1 c8
          refine r_iconst (v := (-1)) ok258 24 rfl rfl rfl ?_
          exact r_iret ok258 25 rfl rfl rfl h8
        · have h8 := h7.2 c8
          refine r_iconst (v := 5) ok258 22 rfl rfl rfl ?_
          refine r_goto ok258 23 rfl rfl ?_
          exact r_iret ok258 25 rfl rfl rfl h8
      · have h6 := h5.2 c6
        refine r_iconst (v := 4) ok258 16 rfl rfl rfl ?_
        refine r_goto ok258 17 rfl rfl ?_
        exact r_iret ok258 25 rfl rfl rfl h6
    · have h4 := h3.2 c4
      refine r_iconst (v := 3) ok258 10 rfl rfl rfl ?_
      refine r_goto ok258 11 rfl rfl ?_
      exact r_iret ok258 25 rfl rfl rfl h4
  · have h2 := h1.2 c2
    refine r_iconst (v := 2) ok258 4 rfl rfl rfl ?_
    refine r_goto ok258 5 rfl rfl ?_
    exact r_iret ok258 25 rfl rfl rfl h2

theorem K258 {Θ : Th} {d : Nat} {σ : Mem} {Q : Po} (h : G Θ (d + 1) 258 0 [some (.ref 124)] [] σ Q) : Cm Θ (d + 1) 258 [.ref 124] σ Q :=
  C_of_G okM258 (Nat.le_of_ble_eq_true rfl) rfl h

-- 259: LikeYearsModel.named()I
set_option maxRecDepth 100000 in
set_option maxHeartbeats 4000000 in
theorem B259_0 {Θ : Th} {d : Nat} {σ : Mem} {Q : Po} 
    (h : G Θ d 259 4 [some (.ref 124), some (.int (-1)), some (.int 0)] [] σ Q) :
    G Θ d 259 0 [some (.ref 124), none, none] [] σ Q := by
  refine r_iconst (v := (-1)) ok259 0 rfl rfl rfl ?_
  refine r_istore_n ok259 1 rfl rfl ?_
  refine r_iconst (v := 0) ok259 2 rfl rfl rfl ?_
  refine r_istore_n ok259 3 rfl rfl ?_
  exact h

set_option maxRecDepth 100000 in
set_option maxHeartbeats 4000000 in
theorem B259_4 {Θ : Th} {d : Nat} {σ : Mem} {Q : Po} {x1 : Int32} {x2 : Int32} 
    (h : (((σ.1 124 37) ≤ x2 → Q (some (.int x1)) σ) ∧ (¬ (σ.1 124 37) ≤ x2 → (vp_in x2 6 ∧ ((¬ (lg_cmp (σ.2.1 148 x2.toNatClampNeg) (σ.2.1 124 9)) = 0 → G Θ d 259 4 [some (.ref 124), some (.int x1), some (.int (x2 + 1))] [] σ Q) ∧ ((lg_cmp (σ.2.1 148 x2.toNatClampNeg) (σ.2.1 124 9)) = 0 → G Θ d 259 4 [some (.ref 124), some (.int x2), some (.int (x2 + 1))] [] σ Q)))))) :
    G Θ d 259 4 [some (.ref 124), some (.int x1), some (.int x2)] [] σ Q := by
  refine r_iload_n ok259 4 rfl rfl rfl ?_
  refine r_aload_n ok259 5 rfl rfl rfl ?_
  refine r_getI ok259 6 rfl rfl rfl rfl ?_
  refine r_icmp_ge ok259 7 rfl rfl (fun c1 => ?_) (fun c1 => ?_)
  · have h1 := h.1 c1
    refine r_iload_n ok259 22 rfl rfl rfl ?_
    exact r_iret ok259 23 rfl rfl rfl h1
  · have h1 := h.2 c1
    refine r_aload_n ok259 8 rfl rfl rfl ?_
    refine r_getF ok259 9 rfl rfl rfl rfl ?_
    refine r_iload_n ok259 10 rfl rfl rfl ?_
    obtain ⟨c2, h2⟩ := h1
    refine r_lald ok259 11 rfl rfl rfl c2 ?_
    refine r_aload_n ok259 12 rfl rfl rfl ?_
    refine r_getL ok259 13 rfl rfl rfl rfl ?_
    refine r_lcmp ok259 14 rfl rfl ?_
    refine r_if_ne ok259 15 rfl rfl (fun c3 => ?_) (fun c3 => ?_)
    · have h3 := h2.1 c3
      refine r_iload_n ok259 18 rfl rfl rfl ?_
      refine r_istore_n ok259 19 rfl rfl ?_
      refine r_iinc (v := x2 + 1) ok259 20 rfl rfl rfl rfl ?_
      refine r_goto ok259 21 rfl rfl ?_
      exact h3
    · have h3 := h2.2 c3
      refine r_iload_n ok259 16 rfl rfl rfl ?_
      refine r_goto ok259 17 rfl rfl ?_
      refine r_istore_n ok259 19 rfl rfl ?_
      refine r_iinc (v := x2 + 1) ok259 20 rfl rfl rfl rfl ?_
      refine r_goto ok259 21 rfl rfl ?_
      exact h3

theorem K259 {Θ : Th} {d : Nat} {σ : Mem} {Q : Po} (h : G Θ d 259 0 [some (.ref 124), none, none] [] σ Q) : Cm Θ d 259 [.ref 124] σ Q :=
  C_of_G okM259 (Nat.le_of_ble_eq_true rfl) rfl h

-- 260: LikeYearsModel.operand(I)I
set_option maxRecDepth 100000 in
set_option maxHeartbeats 4000000 in
theorem B260_0 {Θ : Th} {d : Nat} {σ : Mem} {Q : Po} {x1 : Int32} 
    (h : ((¬ x1 = 0 → G Θ (d + 1) 260 18 [some (.ref 124), some (.int x1), none, none, none, none] [] σ Q) ∧ (x1 = 0 → Ci Θ d 177 [.ref 124, .long 7237492] σ (fun v2 σ2 => ((v2 = 0 → G Θ (d + 1) 260 18 [some (.ref 124), some (.int x1), none, none, none, none] [] σ2 Q) ∧ (¬ v2 = 0 → Ci Θ d 258 [.ref 124] σ2 (fun v4 σ4 => Ci Θ d 178 [.ref 124] σ4 (fun v5 σ5 => (((σ5.1 124 6) = 2 → G Θ (d + 1) 260 57 [some (.ref 124), some (.int x1), some (.int 1), some (.int v4), some (.int v5), none] [] σ5 Q) ∧ (¬ (σ5.1 124 6) = 2 → (((σ5.1 124 6) = 40 → G Θ (d + 1) 260 57 [some (.ref 124), some (.int x1), some (.int 1), some (.int v4), some (.int v5), none] [] σ5 Q) ∧ (¬ (σ5.1 124 6) = 40 → ((0 ≤ v4 → G Θ (d + 1) 260 57 [some (.ref 124), some (.int x1), some (.int 1), some (.int v4), some (.int v5), none] [] σ5 Q) ∧ (¬ 0 ≤ v4 → ((v5 = 0 → G Θ (d + 1) 260 73 [some (.ref 124), some (.int x1), some (.int 1), some (.int v4), some (.int v5), some (.int 0)] [] σ5 Q) ∧ (¬ v5 = 0 → G Θ (d + 1) 260 57 [some (.ref 124), some (.int x1), some (.int 1), some (.int v4), some (.int v5), none] [] σ5 Q)))))))))))))))) :
    G Θ (d + 1) 260 0 [some (.ref 124), some (.int x1), none, none, none, none] [] σ Q := by
  refine r_iload_n ok260 0 rfl rfl rfl ?_
  refine r_if_ne ok260 1 rfl rfl (fun c1 => ?_) (fun c1 => ?_)
  · have h1 := h.1 c1
    exact h1
  · have h1 := h.2 c1
    refine r_aload_n ok260 2 rfl rfl rfl ?_
    refine r_ldc2_w (v := 7237492) ok260 3 rfl rfl rfl ?_
    refine r_invVi (as := [.long 7237492]) (S := []) ok260 4 rfl rfl mf177 rfl rfl (Nat.le_of_ble_eq_true rfl) rfl h1 (fun v2 σ2 h2 => ?_)
    refine r_if_eq ok260 5 rfl rfl (fun c3 => ?_) (fun c3 => ?_)
    · have h3 := h2.1 c3
      exact h3
    · have h3 := h2.2 c3
      refine r_iconst (v := 1) ok260 6 rfl rfl rfl ?_
      refine r_goto ok260 7 rfl rfl ?_
      refine r_istore_n ok260 9 rfl rfl ?_
      refine r_aload_n ok260 10 rfl rfl rfl ?_
      refine r_invVi (as := []) (S := []) ok260 11 rfl rfl mf258 rfl rfl (Nat.le_of_ble_eq_true rfl) rfl h3 (fun v4 σ4 h4 => ?_)
      refine r_istore_n ok260 12 rfl rfl ?_
      refine r_aload_n ok260 13 rfl rfl rfl ?_
      refine r_invVi (as := []) (S := []) ok260 14 rfl rfl mf178 rfl rfl (Nat.le_of_ble_eq_true rfl) rfl h4 (fun v5 σ5 h5 => ?_)
      refine r_istore ok260 15 rfl rfl ?_
      refine r_aload_n ok260 16 rfl rfl rfl ?_
      refine r_getI ok260 17 rfl rfl rfl rfl ?_
      refine r_iconst (v := 2) ok260 18 rfl rfl rfl ?_
      refine r_icmp_eq ok260 19 rfl rfl (fun c6 => ?_) (fun c6 => ?_)
      · have h6 := h5.1 c6
        exact h6
      · have h6 := h5.2 c6
        refine r_aload_n ok260 20 rfl rfl rfl ?_
        refine r_getI ok260 21 rfl rfl rfl rfl ?_
        refine r_bipush (v := 40) ok260 22 rfl rfl rfl ?_
        refine r_icmp_eq ok260 23 rfl rfl (fun c7 => ?_) (fun c7 => ?_)
        · have h7 := h6.1 c7
          exact h7
        · have h7 := h6.2 c7
          refine r_iload_n ok260 24 rfl rfl rfl ?_
          refine r_if_ge ok260 25 rfl rfl (fun c8 => ?_) (fun c8 => ?_)
          · have h8 := h7.1 c8
            exact h8
          · have h8 := h7.2 c8
            refine r_iload ok260 26 rfl rfl rfl ?_
            refine r_if_eq ok260 27 rfl rfl (fun c9 => ?_) (fun c9 => ?_)
            · have h9 := h8.1 c9
              refine r_iconst (v := 0) ok260 30 rfl rfl rfl ?_
              refine r_istore ok260 31 rfl rfl ?_
              refine r_iload_n ok260 32 rfl rfl rfl ?_
              refine r_if_ne ok260 33 rfl rfl (fun _ => ?_) (fun c10 => absurd c10 (by decide))
              exact h9
            · have h9 := h8.2 c9
              exact h9

set_option maxRecDepth 100000 in
set_option maxHeartbeats 4000000 in
theorem B260_18 {Θ : Th} {d : Nat} {σ : Mem} {Q : Po} {x1 : Int32} 
    (h : Ci Θ d 258 [.ref 124] σ (fun v1 σ1 => Ci Θ d 178 [.ref 124] σ1 (fun v2 σ2 => (((σ2.1 124 6) = 2 → G Θ (d + 1) 260 57 [some (.ref 124), some (.int x1), some (.int 0), some (.int v1), some (.int v2), none] [] σ2 Q) ∧ (¬ (σ2.1 124 6) = 2 → (((σ2.1 124 6) = 40 → G Θ (d + 1) 260 57 [some (.ref 124), some (.int x1), some (.int 0), some (.int v1), some (.int v2), none] [] σ2 Q) ∧ (¬ (σ2.1 124 6) = 40 → ((0 ≤ v1 → G Θ (d + 1) 260 57 [some (.ref 124), some (.int x1), some (.int 0), some (.int v1), some (.int v2), none] [] σ2 Q) ∧ (¬ 0 ≤ v1 → ((v2 = 0 → G Θ (d + 1) 260 109 [some (.ref 124), some (.int x1), some (.int 0), some (.int v1), some (.int v2), none] [] σ2 Q) ∧ (¬ v2 = 0 → G Θ (d + 1) 260 57 [some (.ref 124), some (.int x1), some (.int 0), some (.int v1), some (.int v2), none] [] σ2 Q))))))))))) :
    G Θ (d + 1) 260 18 [some (.ref 124), some (.int x1), none, none, none, none] [] σ Q := by
  refine r_iconst (v := 0) ok260 8 rfl rfl rfl ?_
  refine r_istore_n ok260 9 rfl rfl ?_
  refine r_aload_n ok260 10 rfl rfl rfl ?_
  refine r_invVi (as := []) (S := []) ok260 11 rfl rfl mf258 rfl rfl (Nat.le_of_ble_eq_true rfl) rfl h (fun v1 σ1 h1 => ?_)
  refine r_istore_n ok260 12 rfl rfl ?_
  refine r_aload_n ok260 13 rfl rfl rfl ?_
  refine r_invVi (as := []) (S := []) ok260 14 rfl rfl mf178 rfl rfl (Nat.le_of_ble_eq_true rfl) rfl h1 (fun v2 σ2 h2 => ?_)
  refine r_istore ok260 15 rfl rfl ?_
  refine r_aload_n ok260 16 rfl rfl rfl ?_
  refine r_getI ok260 17 rfl rfl rfl rfl ?_
  refine r_iconst (v := 2) ok260 18 rfl rfl rfl ?_
  refine r_icmp_eq ok260 19 rfl rfl (fun c3 => ?_) (fun c3 => ?_)
  · have h3 := h2.1 c3
    exact h3
  · have h3 := h2.2 c3
    refine r_aload_n ok260 20 rfl rfl rfl ?_
    refine r_getI ok260 21 rfl rfl rfl rfl ?_
    refine r_bipush (v := 40) ok260 22 rfl rfl rfl ?_
    refine r_icmp_eq ok260 23 rfl rfl (fun c4 => ?_) (fun c4 => ?_)
    · have h4 := h3.1 c4
      exact h4
    · have h4 := h3.2 c4
      refine r_iload_n ok260 24 rfl rfl rfl ?_
      refine r_if_ge ok260 25 rfl rfl (fun c5 => ?_) (fun c5 => ?_)
      · have h5 := h4.1 c5
        exact h5
      · have h5 := h4.2 c5
        refine r_iload ok260 26 rfl rfl rfl ?_
        refine r_if_eq ok260 27 rfl rfl (fun c6 => ?_) (fun c6 => ?_)
        · have h6 := h5.1 c6
          refine r_iconst (v := 0) ok260 30 rfl rfl rfl ?_
          refine r_istore ok260 31 rfl rfl ?_
          refine r_iload_n ok260 32 rfl rfl rfl ?_
          refine r_if_ne ok260 33 rfl rfl (fun c7 => absurd c7 (by decide)) (fun _ => ?_)
          refine r_iload ok260 34 rfl rfl rfl ?_
          refine r_if_eq ok260 35 rfl rfl (fun _ => ?_) (fun c8 => absurd c8 (by decide))
          exact G.weak (L' := [some (.ref 124), some (.int x1), some (.int 0), some (.int v1), some (.int v2), none]) ⟨rfl, ⟨rfl, ⟨rfl, ⟨rfl, ⟨rfl, trivial⟩⟩⟩⟩⟩ h6
        · have h6 := h5.2 c6
          exact h6

set_option maxRecDepth 100000 in
set_option maxHeartbeats 4000000 in
theorem B260_57 {Θ : Th} {d : Nat} {σ : Mem} {Q : Po} {x1 : Int32} {x2 : Int32} {x3 : Int32} {x4 : Int32} 
    (h : ((¬ x2 = 0 → G Θ (d + 1) 260 73 [some (.ref 124), some (.int x1), some (.int x2), some (.int x3), some (.int x4), some (.int 1)] [] σ Q) ∧ (x2 = 0 → G Θ (d + 1) 260 73 [some (.ref 124), some (.int x1), some (.int x2), some (.int x3), some (.int x4), some (.int 1)] [] σ Q))) :
    G Θ (d + 1) 260 57 [some (.ref 124), some (.int x1), some (.int x2), some (.int x3), some (.int x4), none] [] σ Q := by
  refine r_iconst (v := 1) ok260 28 rfl rfl rfl ?_
  refine r_goto ok260 29 rfl rfl ?_
  refine r_istore ok260 31 rfl rfl ?_
  refine r_iload_n ok260 32 rfl rfl rfl ?_
  refine r_if_ne ok260 33 rfl rfl (fun c1 => ?_) (fun c1 => ?_)
  · have h1 := h.1 c1
    exact h1
  · have h1 := h.2 c1
    refine r_iload ok260 34 rfl rfl rfl ?_
    refine r_if_eq ok260 35 rfl rfl (fun c2 => absurd c2 (by decide)) (fun _ => ?_)
    exact h1

set_option maxRecDepth 100000 in
set_option maxHeartbeats 4000000 in
theorem B260_73 {Θ : Th} {d : Nat} {σ : Mem} {Q : Po} {x1 : Int32} {x2 : Int32} {x3 : Int32} {x4 : Int32} {x5 : Int32} 
    (h : ((x5 = 0 → G Θ (d + 1) 260 87 [some (.ref 124), some (.int x1), some (.int x2), some (.int x3), some (.int x4), none] [] σ Q) ∧ (¬ x5 = 0 → (((σ.1 124 71) = 50 → G Θ (d + 1) 260 109 [some (.ref 124), some (.int x1), some (.int x2), some (.int x3), some (.int x4), none] [] σ Q) ∧ (¬ (σ.1 124 71) = 50 → G Θ (d + 1) 260 87 [some (.ref 124), some (.int x1), some (.int x2), some (.int x3), some (.int x4), none] [] σ Q))))) :
    G Θ (d + 1) 260 73 [some (.ref 124), some (.int x1), some (.int x2), some (.int x3), some (.int x4), some (.int x5)] [] σ Q := by
  refine r_iload ok260 36 rfl rfl rfl ?_
  refine r_if_eq ok260 37 rfl rfl (fun c1 => ?_) (fun c1 => ?_)
  · have h1 := h.1 c1
    exact G.weak (L' := [some (.ref 124), some (.int x1), some (.int x2), some (.int x3), some (.int x4), none]) ⟨rfl, ⟨rfl, ⟨rfl, ⟨rfl, ⟨rfl, trivial⟩⟩⟩⟩⟩ h1
  · have h1 := h.2 c1
    refine r_aload_n ok260 38 rfl rfl rfl ?_
    refine r_getI ok260 39 rfl rfl rfl rfl ?_
    refine r_bipush (v := 50) ok260 40 rfl rfl rfl ?_
    refine r_icmp_eq ok260 41 rfl rfl (fun c2 => ?_) (fun c2 => ?_)
    · have h2 := h1.1 c2
      exact G.weak (L' := [some (.ref 124), some (.int x1), some (.int x2), some (.int x3), some (.int x4), none]) ⟨rfl, ⟨rfl, ⟨rfl, ⟨rfl, ⟨rfl, trivial⟩⟩⟩⟩⟩ h2
    · have h2 := h1.2 c2
      exact G.weak (L' := [some (.ref 124), some (.int x1), some (.int x2), some (.int x3), some (.int x4), none]) ⟨rfl, ⟨rfl, ⟨rfl, ⟨rfl, ⟨rfl, trivial⟩⟩⟩⟩⟩ h2

set_option maxRecDepth 100000 in
set_option maxHeartbeats 4000000 in
theorem B260_109 {Θ : Th} {d : Nat} {σ : Mem} {Q : Po} {x1 : Int32} {x2 : Int32} {x3 : Int32} {x4 : Int32} 
    (h : Cv Θ d 176 [.ref 124, .int 2] σ (fun σ1 => G Θ (d + 1) 260 134 [some (.ref 124), some (.int x1), some (.int x2), some (.int x3), some (.int x4), none] [] σ1 Q)) :
    G Θ (d + 1) 260 109 [some (.ref 124), some (.int x1), some (.int x2), some (.int x3), some (.int x4), none] [] σ Q := by
  refine r_aload_n ok260 52 rfl rfl rfl ?_
  refine r_iconst (v := 2) ok260 53 rfl rfl rfl ?_
  refine r_invVv (as := [.int 2]) (S := []) ok260 54 rfl rfl mf176 rfl rfl (Nat.le_of_ble_eq_true rfl) rfl h (fun σ1 h1 => ?_)
  refine r_goto ok260 55 rfl rfl ?_
  exact h1

set_option maxRecDepth 100000 in
set_option maxHeartbeats 4000000 in
theorem B260_87 {Θ : Th} {d : Nat} {σ : Mem} {Q : Po} {x1 : Int32} {x2 : Int32} {x3 : Int32} {x4 : Int32} 
    (h : ((¬ x2 = 0 → G Θ (d + 1) 260 100 [some (.ref 124), some (.int x1), some (.int x2), some (.int x3), some (.int x4), none] [] σ Q) ∧ (x2 = 0 → ((¬ (σ.1 124 6) = 40 → G Θ (d + 1) 260 117 [some (.ref 124), some (.int x1), some (.int x2), some (.int x3), some (.int x4), none] [] σ Q) ∧ ((σ.1 124 6) = 40 → G Θ (d + 1) 260 100 [some (.ref 124), some (.int x1), some (.int x2), some (.int x3), some (.int x4), none] [] σ Q))))) :
    G Θ (d + 1) 260 87 [some (.ref 124), some (.int x1), some (.int x2), some (.int x3), some (.int x4), none] [] σ Q := by
  refine r_iload_n ok260 42 rfl rfl rfl ?_
  refine r_if_ne ok260 43 rfl rfl (fun c1 => ?_) (fun c1 => ?_)
  · have h1 := h.1 c1
    exact h1
  · have h1 := h.2 c1
    refine r_aload_n ok260 44 rfl rfl rfl ?_
    refine r_getI ok260 45 rfl rfl rfl rfl ?_
    refine r_bipush (v := 40) ok260 46 rfl rfl rfl ?_
    refine r_icmp_ne ok260 47 rfl rfl (fun c2 => ?_) (fun c2 => ?_)
    · have h2 := h1.1 c2
      exact h2
    · have h2 := h1.2 c2
      exact h2

set_option maxRecDepth 100000 in
set_option maxHeartbeats 4000000 in
theorem B260_134 {Θ : Th} {d : Nat} {σ : Mem} {Q : Po} {x1 : Int32} {x2 : Int32} {x3 : Int32} {x4 : Int32} 
    (h : (((σ.1 124 2) ≤ 0 → ((x2 = 0 → ((¬ ((sI σ 124 71 ((σ.1 124 71) + 1)).1 124 6) = 40 → ((x4 = 0 → ((0 ≤ x3 → ((x4 = 0 → Cv Θ d 251 [.ref 124, .int x3, .int ((sI σ 124 71 ((σ.1 124 71) + 1)).1 124 8)] (sI σ 124 71 ((σ.1 124 71) + 1)) (fun σ7 => Cv Θ d 175 [.ref 124] σ7 (fun σ8 => Q (some (.int 2)) σ8))) ∧ (¬ x4 = 0 → Ci Θ d 259 [.ref 124] (sI σ 124 71 ((σ.1 124 71) + 1)) (fun v9 σ9 => Cv Θ d 251 [.ref 124, .int x3, .int v9] σ9 (fun σ10 => Cv Θ d 175 [.ref 124] σ10 (fun σ11 => Q (some (.int 2)) σ11)))))) ∧ (¬ 0 ≤ x3 → ((x4 = 0 → Cv Θ d 251 [.ref 124, .int 0, .int ((sI σ 124 71 ((σ.1 124 71) + 1)).1 124 8)] (sI σ 124 71 ((σ.1 124 71) + 1)) (fun σ13 => Cv Θ d 175 [.ref 124] σ13 (fun σ14 => Q (some (.int 2)) σ14))) ∧ (¬ x4 = 0 → Ci Θ d 259 [.ref 124] (sI σ 124 71 ((σ.1 124 71) + 1)) (fun v15 σ15 => Cv Θ d 251 [.ref 124, .int 0, .int v15] σ15 (fun σ16 => Cv Θ d 175 [.ref 124] σ16 (fun σ17 => Q (some (.int 2)) σ17)))))))) ∧ (¬ x4 = 0 → ((x4 = 0 → Cv Θ d 251 [.ref 124, .int 1, .int ((sI σ 124 71 ((σ.1 124 71) + 1)).1 124 8)] (sI σ 124 71 ((σ.1 124 71) + 1)) (fun σ19 => Cv Θ d 175 [.ref 124] σ19 (fun σ20 => Q (some (.int 2)) σ20))) ∧ (¬ x4 = 0 → Ci Θ d 259 [.ref 124] (sI σ 124 71 ((σ.1 124 71) + 1)) (fun v21 σ21 => Cv Θ d 251 [.ref 124, .int 1, .int v21] σ21 (fun σ22 => Cv Θ d 175 [.ref 124] σ22 (fun σ23 => Q (some (.int 2)) σ23)))))))) ∧ (((sI σ 124 71 ((σ.1 124 71) + 1)).1 124 6) = 40 → Cv Θ d 253 [.ref 124, .int 30] (sI σ 124 71 ((σ.1 124 71) + 1)) (fun σ24 => Cv Θ d 175 [.ref 124] σ24 (fun σ25 => Q (some (.int 0)) σ25))))) ∧ (¬ x2 = 0 → Cv Θ d 253 [.ref 124, .int 22] σ (fun σ26 => Cv Θ d 175 [.ref 124] σ26 (fun σ27 => Q (some (.int 0)) σ27))))) ∧ (¬ (σ.1 124 2) ≤ 0 → Q (some (.int x1)) σ))) :
    G Θ (d + 1) 260 134 [some (.ref 124), some (.int x1), some (.int x2), some (.int x3), some (.int x4), none] [] σ Q := by
  refine r_aload_n ok260 64 rfl rfl rfl ?_
  refine r_getI ok260 65 rfl rfl rfl rfl ?_
  refine r_if_le ok260 66 rfl rfl (fun c1 => ?_) (fun c1 => ?_)
  · have h1 := h.1 c1
    refine r_iload_n ok260 69 rfl rfl rfl ?_
    refine r_if_eq ok260 70 rfl rfl (fun c2 => ?_) (fun c2 => ?_)
    · have h2 := h1.1 c2
      refine r_aload_n ok260 78 rfl rfl rfl ?_
      refine r_dup ok260 79 rfl rfl rfl ?_
      refine r_getI ok260 80 rfl rfl rfl rfl ?_
      refine r_iconst (v := 1) ok260 81 rfl rfl rfl ?_
      refine r_iadd ok260 82 rfl rfl ?_
      refine r_putI ok260 83 rfl rfl rfl rfl ?_
      refine r_aload_n ok260 84 rfl rfl rfl ?_
      refine r_getI ok260 85 rfl rfl rfl rfl ?_
      refine r_bipush (v := 40) ok260 86 rfl rfl rfl ?_
      refine r_icmp_ne ok260 87 rfl rfl (fun c3 => ?_) (fun c3 => ?_)
      · have h3 := h2.1 c3
        refine r_aload_n ok260 95 rfl rfl rfl ?_
        refine r_iload ok260 96 rfl rfl rfl ?_
        refine r_if_eq ok260 97 rfl rfl (fun c4 => ?_) (fun c4 => ?_)
        · have h4 := h3.1 c4
          refine r_iload_n ok260 100 rfl rfl rfl ?_
          refine r_if_ge ok260 101 rfl rfl (fun c5 => ?_) (fun c5 => ?_)
          · have h5 := h4.1 c5
            refine r_iload_n ok260 104 rfl rfl rfl ?_
            refine r_iload ok260 105 rfl rfl rfl ?_
            refine r_if_eq ok260 106 rfl rfl (fun c6 => ?_) (fun c6 => ?_)
            · have h6 := h5.1 c6
              refine r_aload_n ok260 110 rfl rfl rfl ?_
              refine r_getI ok260 111 rfl rfl rfl rfl ?_
              refine r_invVv (as := [.int x3, .int ((sI σ 124 71 ((σ.1 124 71) + 1)).1 124 8)]) (S := []) ok260 112 rfl rfl mf251 rfl rfl (Nat.le_of_ble_eq_true rfl) rfl h6 (fun σ7 h7 => ?_)
              refine r_aload_n ok260 113 rfl rfl rfl ?_
              refine r_invVv (as := []) (S := []) ok260 114 rfl rfl mf175 rfl rfl (Nat.le_of_ble_eq_true rfl) rfl h7 (fun σ8 h8 => ?_)
              refine r_iconst (v := 2) ok260 115 rfl rfl rfl ?_
              exact r_iret ok260 116 rfl rfl rfl h8
            · have h6 := h5.2 c6
              refine r_aload_n ok260 107 rfl rfl rfl ?_
              refine r_invVi (as := []) (S := [.int x3, .ref 124]) ok260 108 rfl rfl mf259 rfl rfl (Nat.le_of_ble_eq_true rfl) rfl h6 (fun v9 σ9 h9 => ?_)
              refine r_goto ok260 109 rfl rfl ?_
              refine r_invVv (as := [.int x3, .int v9]) (S := []) ok260 112 rfl rfl mf251 rfl rfl (Nat.le_of_ble_eq_true rfl) rfl h9 (fun σ10 h10 => ?_)
              refine r_aload_n ok260 113 rfl rfl rfl ?_
              refine r_invVv (as := []) (S := []) ok260 114 rfl rfl mf175 rfl rfl (Nat.le_of_ble_eq_true rfl) rfl h10 (fun σ11 h11 => ?_)
              refine r_iconst (v := 2) ok260 115 rfl rfl rfl ?_
              exact r_iret ok260 116 rfl rfl rfl h11
          · have h5 := h4.2 c5
            refine r_iconst (v := 0) ok260 102 rfl rfl rfl ?_
            refine r_goto ok260 103 rfl rfl ?_
            refine r_iload ok260 105 rfl rfl rfl ?_
            refine r_if_eq ok260 106 rfl rfl (fun c12 => ?_) (fun c12 => ?_)
            · have h12 := h5.1 c12
              refine r_aload_n ok260 110 rfl rfl rfl ?_
              refine r_getI ok260 111 rfl rfl rfl rfl ?_
              refine r_invVv (as := [.int 0, .int ((sI σ 124 71 ((σ.1 124 71) + 1)).1 124 8)]) (S := []) ok260 112 rfl rfl mf251 rfl rfl (Nat.le_of_ble_eq_true rfl) rfl h12 (fun σ13 h13 => ?_)
              refine r_aload_n ok260 113 rfl rfl rfl ?_
              refine r_invVv (as := []) (S := []) ok260 114 rfl rfl mf175 rfl rfl (Nat.le_of_ble_eq_true rfl) rfl h13 (fun σ14 h14 => ?_)
              refine r_iconst (v := 2) ok260 115 rfl rfl rfl ?_
              exact r_iret ok260 116 rfl rfl rfl h14
            · have h12 := h5.2 c12
              refine r_aload_n ok260 107 rfl rfl rfl ?_
              refine r_invVi (as := []) (S := [.int 0, .ref 124]) ok260 108 rfl rfl mf259 rfl rfl (Nat.le_of_ble_eq_true rfl) rfl h12 (fun v15 σ15 h15 => ?_)
              refine r_goto ok260 109 rfl rfl ?_
              refine r_invVv (as := [.int 0, .int v15]) (S := []) ok260 112 rfl rfl mf251 rfl rfl (Nat.le_of_ble_eq_true rfl) rfl h15 (fun σ16 h16 => ?_)
              refine r_aload_n ok260 113 rfl rfl rfl ?_
              refine r_invVv (as := []) (S := []) ok260 114 rfl rfl mf175 rfl rfl (Nat.le_of_ble_eq_true rfl) rfl h16 (fun σ17 h17 => ?_)
              refine r_iconst (v := 2) ok260 115 rfl rfl rfl ?_
              exact r_iret ok260 116 rfl rfl rfl h17
        · have h4 := h3.2 c4
          refine r_iconst (v := 1) ok260 98 rfl rfl rfl ?_
          refine r_goto ok260 99 rfl rfl ?_
          refine r_iload ok260 105 rfl rfl rfl ?_
          refine r_if_eq ok260 106 rfl rfl (fun c18 => ?_) (fun c18 => ?_)
          · have h18 := h4.1 c18
            refine r_aload_n ok260 110 rfl rfl rfl ?_
            refine r_getI ok260 111 rfl rfl rfl rfl ?_
            refine r_invVv (as := [.int 1, .int ((sI σ 124 71 ((σ.1 124 71) + 1)).1 124 8)]) (S := []) ok260 112 rfl rfl mf251 rfl rfl (Nat.le_of_ble_eq_true rfl) rfl h18 (fun σ19 h19 => ?_)
            refine r_aload_n ok260 113 rfl rfl rfl ?_
            refine r_invVv (as := []) (S := []) ok260 114 rfl rfl mf175 rfl rfl (Nat.le_of_ble_eq_true rfl) rfl h19 (fun σ20 h20 => ?_)
            refine r_iconst (v := 2) ok260 115 rfl rfl rfl ?_
            exact r_iret ok260 116 rfl rfl rfl h20
          · have h18 := h4.2 c18
            refine r_aload_n ok260 107 rfl rfl rfl ?_
            refine r_invVi (as := []) (S := [.int 1, .ref 124]) ok260 108 rfl rfl mf259 rfl rfl (Nat.le_of_ble_eq_true rfl) rfl h18 (fun v21 σ21 h21 => ?_)
            refine r_goto ok260 109 rfl rfl ?_
            refine r_invVv (as := [.int 1, .int v21]) (S := []) ok260 112 rfl rfl mf251 rfl rfl (Nat.le_of_ble_eq_true rfl) rfl h21 (fun σ22 h22 => ?_)
            refine r_aload_n ok260 113 rfl rfl rfl ?_
            refine r_invVv (as := []) (S := []) ok260 114 rfl rfl mf175 rfl rfl (Nat.le_of_ble_eq_true rfl) rfl h22 (fun σ23 h23 => ?_)
            refine r_iconst (v := 2) ok260 115 rfl rfl rfl ?_
            exact r_iret ok260 116 rfl rfl rfl h23
      · have h3 := h2.2 c3
        refine r_aload_n ok260 88 rfl rfl rfl ?_
        refine r_bipush (v := 30) ok260 89 rfl rfl rfl ?_
        refine r_invVv (as := [.int 30]) (S := []) ok260 90 rfl rfl mf253 rfl rfl (Nat.le_of_ble_eq_true rfl) rfl h3 (fun σ24 h24 => ?_)
        refine r_aload_n ok260 91 rfl rfl rfl ?_
        refine r_invVv (as := []) (S := []) ok260 92 rfl rfl mf175 rfl rfl (Nat.le_of_ble_eq_true rfl) rfl h24 (fun σ25 h25 => ?_)
        refine r_iconst (v := 0) ok260 93 rfl rfl rfl ?_
        exact r_iret ok260 94 rfl rfl rfl h25
    · have h2 := h1.2 c2
      refine r_aload_n ok260 71 rfl rfl rfl ?_
      refine r_bipush (v := 22) ok260 72 rfl rfl rfl ?_
      refine r_invVv (as := [.int 22]) (S := []) ok260 73 rfl rfl mf253 rfl rfl (Nat.le_of_ble_eq_true rfl) rfl h2 (fun σ26 h26 => ?_)
      refine r_aload_n ok260 74 rfl rfl rfl ?_
      refine r_invVv (as := []) (S := []) ok260 75 rfl rfl mf175 rfl rfl (Nat.le_of_ble_eq_true rfl) rfl h26 (fun σ27 h27 => ?_)
      refine r_iconst (v := 0) ok260 76 rfl rfl rfl ?_
      exact r_iret ok260 77 rfl rfl rfl h27
  · have h1 := h.2 c1
    refine r_iload_n ok260 67 rfl rfl rfl ?_
    exact r_iret ok260 68 rfl rfl rfl h1

set_option maxRecDepth 100000 in
set_option maxHeartbeats 4000000 in
theorem B260_100 {Θ : Th} {d : Nat} {σ : Mem} {Q : Po} {x1 : Int32} {x2 : Int32} {x3 : Int32} {x4 : Int32} 
    (h : (((σ.1 124 73) < 7 → G Θ (d + 1) 260 117 [some (.ref 124), some (.int x1), some (.int x2), some (.int x3), some (.int x4), none] [] σ Q) ∧ (¬ (σ.1 124 73) < 7 → G Θ (d + 1) 260 109 [some (.ref 124), some (.int x1), some (.int x2), some (.int x3), some (.int x4), none] [] σ Q))) :
    G Θ (d + 1) 260 100 [some (.ref 124), some (.int x1), some (.int x2), some (.int x3), some (.int x4), none] [] σ Q := by
  refine r_aload_n ok260 48 rfl rfl rfl ?_
  refine r_getI ok260 49 rfl rfl rfl rfl ?_
  refine r_bipush (v := 7) ok260 50 rfl rfl rfl ?_
  refine r_icmp_lt ok260 51 rfl rfl (fun c1 => ?_) (fun c1 => ?_)
  · have h1 := h.1 c1
    exact h1
  · have h1 := h.2 c1
    exact h1

set_option maxRecDepth 100000 in
set_option maxHeartbeats 4000000 in
theorem B260_117 {Θ : Th} {d : Nat} {σ : Mem} {Q : Po} {x1 : Int32} {x2 : Int32} {x3 : Int32} {x4 : Int32} 
    (h : ((x4 = 0 → G Θ (d + 1) 260 134 [some (.ref 124), some (.int x1), some (.int x2), some (.int x3), some (.int x4), none] [] σ Q) ∧ (¬ x4 = 0 → Ci Θ d 259 [.ref 124] σ (fun v2 σ2 => ((0 ≤ v2 → G Θ (d + 1) 260 134 [some (.ref 124), some (.int x1), some (.int x2), some (.int x3), some (.int x4), none] [] σ2 Q) ∧ (¬ 0 ≤ v2 → Cv Θ d 176 [.ref 124, .int 5] σ2 (fun σ4 => G Θ (d + 1) 260 134 [some (.ref 124), some (.int x1), some (.int x2), some (.int x3), some (.int x4), none] [] σ4 Q))))))) :
    G Θ (d + 1) 260 117 [some (.ref 124), some (.int x1), some (.int x2), some (.int x3), some (.int x4), none] [] σ Q := by
  refine r_iload ok260 56 rfl rfl rfl ?_
  refine r_if_eq ok260 57 rfl rfl (fun c1 => ?_) (fun c1 => ?_)
  · have h1 := h.1 c1
    exact h1
  · have h1 := h.2 c1
    refine r_aload_n ok260 58 rfl rfl rfl ?_
    refine r_invVi (as := []) (S := []) ok260 59 rfl rfl mf259 rfl rfl (Nat.le_of_ble_eq_true rfl) rfl h1 (fun v2 σ2 h2 => ?_)
    refine r_if_ge ok260 60 rfl rfl (fun c3 => ?_) (fun c3 => ?_)
    · have h3 := h2.1 c3
      exact h3
    · have h3 := h2.2 c3
      refine r_aload_n ok260 61 rfl rfl rfl ?_
      refine r_iconst (v := 5) ok260 62 rfl rfl rfl ?_
      refine r_invVv (as := [.int 5]) (S := []) ok260 63 rfl rfl mf176 rfl rfl (Nat.le_of_ble_eq_true rfl) rfl h3 (fun σ4 h4 => ?_)
      exact h4

theorem K260 {Θ : Th} {d : Nat} {σ : Mem} {Q : Po} {x1 : Int32} (h : G Θ (d + 1) 260 0 [some (.ref 124), some (.int x1), none, none, none, none] [] σ Q) : Cm Θ (d + 1) 260 [.ref 124, .int x1] σ Q :=
  C_of_G okM260 (Nat.le_of_ble_eq_true rfl) rfl h

-- 261: LikeYearsModel.sign()I
set_option maxRecDepth 100000 in
set_option maxHeartbeats 4000000 in
theorem B261_0 {Θ : Th} {d : Nat} {σ : Mem} {Q : Po} 
    (h : ((¬ (σ.1 124 6) = 43 → ((¬ (σ.1 124 6) = 45 → ((¬ (σ.1 124 6) = 42 → ((¬ (σ.1 124 6) = 61 → ((¬ (σ.1 124 6) = 60 → ((¬ (σ.1 124 6) = 62 → Ci Θ d 177 [.ref 124, .long 6385252] σ (fun v7 σ7 => ((v7 = 0 → Ci Θ d 177 [.ref 124, .long 28530] σ7 (fun v9 σ9 => ((v9 = 0 → ((¬ (σ9.1 124 6) = 41 → G Θ (d + 1) 261 163 [some (.ref 124), some (.int (-1))] [] σ9 Q) ∧ ((σ9.1 124 6) = 41 → Ci Θ d 256 [.ref 124] σ9 (fun v12 σ12 => ((v12 = 0 → G Θ (d + 1) 261 163 [some (.ref 124), some (.int (-1))] [] σ12 Q) ∧ (¬ v12 = 0 → Cv Θ d 255 [.ref 124, .int 0] σ12 (fun σ14 => Cv Θ d 175 [.ref 124] (sI (sI σ14 124 72 ((σ14.1 124 72) - 1)) 124 73 (((sI σ14 124 72 ((σ14.1 124 72) - 1)).1 124 73) - 1)) (fun σ15 => Q (some (.int 2)) σ15)))))))) ∧ (¬ v9 = 0 → ((¬ (σ9.1 124 6) = 41 → G Θ (d + 1) 261 163 [some (.ref 124), some (.int 20)] [] σ9 Q) ∧ ((σ9.1 124 6) = 41 → Ci Θ d 256 [.ref 124] σ9 (fun v17 σ17 => ((v17 = 0 → G Θ (d + 1) 261 163 [some (.ref 124), some (.int 20)] [] σ17 Q) ∧ (¬ v17 = 0 → Cv Θ d 255 [.ref 124, .int 0] σ17 (fun σ19 => Cv Θ d 175 [.ref 124] (sI (sI σ19 124 72 ((σ19.1 124 72) - 1)) 124 73 (((sI σ19 124 72 ((σ19.1 124 72) - 1)).1 124 73) - 1)) (fun σ20 => Q (some (.int 2)) σ20))))))))))) ∧ (¬ v7 = 0 → ((¬ (σ7.1 124 6) = 41 → G Θ (d + 1) 261 163 [some (.ref 124), some (.int 21)] [] σ7 Q) ∧ ((σ7.1 124 6) = 41 → Ci Θ d 256 [.ref 124] σ7 (fun v22 σ22 => ((v22 = 0 → G Θ (d + 1) 261 163 [some (.ref 124), some (.int 21)] [] σ22 Q) ∧ (¬ v22 = 0 → Cv Θ d 255 [.ref 124, .int 0] σ22 (fun σ24 => Cv Θ d 175 [.ref 124] (sI (sI σ24 124 72 ((σ24.1 124 72) - 1)) 124 73 (((sI σ24 124 72 ((σ24.1 124 72) - 1)).1 124 73) - 1)) (fun σ25 => Q (some (.int 2)) σ25))))))))))) ∧ ((σ.1 124 6) = 62 → ((¬ (σ.1 124 6) = 41 → G Θ (d + 1) 261 163 [some (.ref 124), some (.int 25)] [] σ Q) ∧ ((σ.1 124 6) = 41 → Ci Θ d 256 [.ref 124] σ (fun v27 σ27 => ((v27 = 0 → G Θ (d + 1) 261 163 [some (.ref 124), some (.int 25)] [] σ27 Q) ∧ (¬ v27 = 0 → Cv Θ d 255 [.ref 124, .int 0] σ27 (fun σ29 => Cv Θ d 175 [.ref 124] (sI (sI σ29 124 72 ((σ29.1 124 72) - 1)) 124 73 (((sI σ29 124 72 ((σ29.1 124 72) - 1)).1 124 73) - 1)) (fun σ30 => Q (some (.int 2)) σ30)))))))))) ∧ ((σ.1 124 6) = 60 → ((¬ (σ.1 124 6) = 41 → G Θ (d + 1) 261 163 [some (.ref 124), some (.int 24)] [] σ Q) ∧ ((σ.1 124 6) = 41 → Ci Θ d 256 [.ref 124] σ (fun v32 σ32 => ((v32 = 0 → G Θ (d + 1) 261 163 [some (.ref 124), some (.int 24)] [] σ32 Q) ∧ (¬ v32 = 0 → Cv Θ d 255 [.ref 124, .int 0] σ32 (fun σ34 => Cv Θ d 175 [.ref 124] (sI (sI σ34 124 72 ((σ34.1 124 72) - 1)) 124 73 (((sI σ34 124 72 ((σ34.1 124 72) - 1)).1 124 73) - 1)) (fun σ35 => Q (some (.int 2)) σ35)))))))))) ∧ ((σ.1 124 6) = 61 → ((¬ (σ.1 124 6) = 41 → G Θ (d + 1) 261 163 [some (.ref 124), some (.int 23)] [] σ Q) ∧ ((σ.1 124 6) = 41 → Ci Θ d 256 [.ref 124] σ (fun v37 σ37 => ((v37 = 0 → G Θ (d + 1) 261 163 [some (.ref 124), some (.int 23)] [] σ37 Q) ∧ (¬ v37 = 0 → Cv Θ d 255 [.ref 124, .int 0] σ37 (fun σ39 => Cv Θ d 175 [.ref 124] (sI (sI σ39 124 72 ((σ39.1 124 72) - 1)) 124 73 (((sI σ39 124 72 ((σ39.1 124 72) - 1)).1 124 73) - 1)) (fun σ40 => Q (some (.int 2)) σ40)))))))))) ∧ ((σ.1 124 6) = 42 → ((¬ (σ.1 124 6) = 41 → G Θ (d + 1) 261 163 [some (.ref 124), some (.int 28)] [] σ Q) ∧ ((σ.1 124 6) = 41 → Ci Θ d 256 [.ref 124] σ (fun v42 σ42 => ((v42 = 0 → G Θ (d + 1) 261 163 [some (.ref 124), some (.int 28)] [] σ42 Q) ∧ (¬ v42 = 0 → Cv Θ d 255 [.ref 124, .int 0] σ42 (fun σ44 => Cv Θ d 175 [.ref 124] (sI (sI σ44 124 72 ((σ44.1 124 72) - 1)) 124 73 (((sI σ44 124 72 ((σ44.1 124 72) - 1)).1 124 73) - 1)) (fun σ45 => Q (some (.int 2)) σ45)))))))))) ∧ ((σ.1 124 6) = 45 → ((¬ (σ.1 124 6) = 41 → G Θ (d + 1) 261 163 [some (.ref 124), some (.int 27)] [] σ Q) ∧ ((σ.1 124 6) = 41 → Ci Θ d 256 [.ref 124] σ (fun v47 σ47 => ((v47 = 0 → G Θ (d + 1) 261 163 [some (.ref 124), some (.int 27)] [] σ47 Q) ∧ (¬ v47 = 0 → Cv Θ d 255 [.ref 124, .int 0] σ47 (fun σ49 => Cv Θ d 175 [.ref 124] (sI (sI σ49 124 72 ((σ49.1 124 72) - 1)) 124 73 (((sI σ49 124 72 ((σ49.1 124 72) - 1)).1 124 73) - 1)) (fun σ50 => Q (some (.int 2)) σ50)))))))))) ∧ ((σ.1 124 6) = 43 → ((¬ (σ.1 124 6) = 41 → G Θ (d + 1) 261 163 [some (.ref 124), some (.int 26)] [] σ Q) ∧ ((σ.1 124 6) = 41 → Ci Θ d 256 [.ref 124] σ (fun v52 σ52 => ((v52 = 0 → G Θ (d + 1) 261 163 [some (.ref 124), some (.int 26)] [] σ52 Q) ∧ (¬ v52 = 0 → Cv Θ d 255 [.ref 124, .int 0] σ52 (fun σ54 => Cv Θ d 175 [.ref 124] (sI (sI σ54 124 72 ((σ54.1 124 72) - 1)) 124 73 (((sI σ54 124 72 ((σ54.1 124 72) - 1)).1 124 73) - 1)) (fun σ55 => Q (some (.int 2)) σ55)))))))))) :
    G Θ (d + 1) 261 0 [some (.ref 124), none] [] σ Q := by
  refine r_aload_n ok261 0 rfl rfl rfl ?_
  refine r_getI ok261 1 rfl rfl rfl rfl ?_
  refine r_bipush (v := 43) ok261 2 rfl rfl rfl ?_
  refine r_icmp_ne ok261 3 rfl rfl (fun c1 => ?_) (fun c1 => ?_)
  · have h1 := h.1 c1
    refine r_aload_n ok261 6 rfl rfl rfl ?_
    refine r_getI ok261 7 rfl rfl rfl rfl ?_
    refine r_bipush (v := 45) ok261 8 rfl rfl rfl ?_
    refine r_icmp_ne ok261 9 rfl rfl (fun c2 => ?_) (fun c2 => ?_)
    · have h2 := h1.1 c2
      refine r_aload_n ok261 12 rfl rfl rfl ?_
      refine r_getI ok261 13 rfl rfl rfl rfl ?_
      refine r_bipush (v := 42) ok261 14 rfl rfl rfl ?_
      refine r_icmp_ne ok261 15 rfl rfl (fun c3 => ?_) (fun c3 => ?_)
      · have h3 := h2.1 c3
        refine r_aload_n ok261 18 rfl rfl rfl ?_
        refine r_getI ok261 19 rfl rfl rfl rfl ?_
        refine r_bipush (v := 61) ok261 20 rfl rfl rfl ?_
        refine r_icmp_ne ok261 21 rfl rfl (fun c4 => ?_) (fun c4 => ?_)
        · have h4 := h3.1 c4
          refine r_aload_n ok261 24 rfl rfl rfl ?_
          refine r_getI ok261 25 rfl rfl rfl rfl ?_
          refine r_bipush (v := 60) ok261 26 rfl rfl rfl ?_
          refine r_icmp_ne ok261 27 rfl rfl (fun c5 => ?_) (fun c5 => ?_)
          · have h5 := h4.1 c5
            refine r_aload_n ok261 30 rfl rfl rfl ?_
            refine r_getI ok261 31 rfl rfl rfl rfl ?_
            refine r_bipush (v := 62) ok261 32 rfl rfl rfl ?_
            refine r_icmp_ne ok261 33 rfl rfl (fun c6 => ?_) (fun c6 => ?_)
            · have h6 := h5.1 c6
              refine r_aload_n ok261 36 rfl rfl rfl ?_
              refine r_ldc2_w (v := 6385252) ok261 37 rfl rfl rfl ?_
              refine r_invVi (as := [.long 6385252]) (S := []) ok261 38 rfl rfl mf177 rfl rfl (Nat.le_of_ble_eq_true rfl) rfl h6 (fun v7 σ7 h7 => ?_)
              refine r_if_eq ok261 39 rfl rfl (fun c8 => ?_) (fun c8 => ?_)
              · have h8 := h7.1 c8
                refine r_aload_n ok261 42 rfl rfl rfl ?_
                refine r_ldc2_w (v := 28530) ok261 43 rfl rfl rfl ?_
                refine r_invVi (as := [.long 28530]) (S := []) ok261 44 rfl rfl mf177 rfl rfl (Nat.le_of_ble_eq_true rfl) rfl h8 (fun v9 σ9 h9 => ?_)
                refine r_if_eq ok261 45 rfl rfl (fun c10 => ?_) (fun c10 => ?_)
                · have h10 := h9.1 c10
                  refine r_iconst (v := (-1)) ok261 48 rfl rfl rfl ?_
                  refine r_istore_n ok261 49 rfl rfl ?_
                  refine r_aload_n ok261 50 rfl rfl rfl ?_
                  refine r_getI ok261 51 rfl rfl rfl rfl ?_
                  refine r_bipush (v := 41) ok261 52 rfl rfl rfl ?_
                  refine r_icmp_ne ok261 53 rfl rfl (fun c11 => ?_) (fun c11 => ?_)
                  · have h11 := h10.1 c11
                    exact h11
                  · have h11 := h10.2 c11
                    refine r_aload_n ok261 54 rfl rfl rfl ?_
                    refine r_invVi (as := []) (S := []) ok261 55 rfl rfl mf256 rfl rfl (Nat.le_of_ble_eq_true rfl) rfl h11 (fun v12 σ12 h12 => ?_)
                    refine r_if_eq ok261 56 rfl rfl (fun c13 => ?_) (fun c13 => ?_)
                    · have h13 := h12.1 c13
                      exact h13
                    · have h13 := h12.2 c13
                      refine r_aload_n ok261 57 rfl rfl rfl ?_
                      refine r_iconst (v := 0) ok261 58 rfl rfl rfl ?_
                      refine r_invVv (as := [.int 0]) (S := []) ok261 59 rfl rfl mf255 rfl rfl (Nat.le_of_ble_eq_true rfl) rfl h13 (fun σ14 h14 => ?_)
                      refine r_aload_n ok261 60 rfl rfl rfl ?_
                      refine r_dup ok261 61 rfl rfl rfl ?_
                      refine r_getI ok261 62 rfl rfl rfl rfl ?_
                      refine r_iconst (v := 1) ok261 63 rfl rfl rfl ?_
                      refine r_isub ok261 64 rfl rfl ?_
                      refine r_putI ok261 65 rfl rfl rfl rfl ?_
                      refine r_aload_n ok261 66 rfl rfl rfl ?_
                      refine r_dup ok261 67 rfl rfl rfl ?_
                      refine r_getI ok261 68 rfl rfl rfl rfl ?_
                      refine r_iconst (v := 1) ok261 69 rfl rfl rfl ?_
                      refine r_isub ok261 70 rfl rfl ?_
                      refine r_putI ok261 71 rfl rfl rfl rfl ?_
                      refine r_aload_n ok261 72 rfl rfl rfl ?_
                      refine r_invVv (as := []) (S := []) ok261 73 rfl rfl mf175 rfl rfl (Nat.le_of_ble_eq_true rfl) rfl h14 (fun σ15 h15 => ?_)
                      refine r_iconst (v := 2) ok261 74 rfl rfl rfl ?_
                      exact r_iret ok261 75 rfl rfl rfl h15
                · have h10 := h9.2 c10
                  refine r_bipush (v := 20) ok261 46 rfl rfl rfl ?_
                  refine r_goto ok261 47 rfl rfl ?_
                  refine r_istore_n ok261 49 rfl rfl ?_
                  refine r_aload_n ok261 50 rfl rfl rfl ?_
                  refine r_getI ok261 51 rfl rfl rfl rfl ?_
                  refine r_bipush (v := 41) ok261 52 rfl rfl rfl ?_
                  refine r_icmp_ne ok261 53 rfl rfl (fun c16 => ?_) (fun c16 => ?_)
                  · have h16 := h10.1 c16
                    exact h16
                  · have h16 := h10.2 c16
                    refine r_aload_n ok261 54 rfl rfl rfl ?_
                    refine r_invVi (as := []) (S := []) ok261 55 rfl rfl mf256 rfl rfl (Nat.le_of_ble_eq_true rfl) rfl h16 (fun v17 σ17 h17 => ?_)
                    refine r_if_eq ok261 56 rfl rfl (fun c18 => ?_) (fun c18 => ?_)
                    · have h18 := h17.1 c18
                      exact h18
                    · have h18 := h17.2 c18
                      refine r_aload_n ok261 57 rfl rfl rfl ?_
                      refine r_iconst (v := 0) ok261 58 rfl rfl rfl ?_
                      refine r_invVv (as := [.int 0]) (S := []) ok261 59 rfl rfl mf255 rfl rfl (Nat.le_of_ble_eq_true rfl) rfl h18 (fun σ19 h19 => ?_)
                      refine r_aload_n ok261 60 rfl rfl rfl ?_
                      refine r_dup ok261 61 rfl rfl rfl ?_
                      refine r_getI ok261 62 rfl rfl rfl rfl ?_
                      refine r_iconst (v := 1) ok261 63 rfl rfl rfl ?_
                      refine r_isub ok261 64 rfl rfl ?_
                      refine r_putI ok261 65 rfl rfl rfl rfl ?_
                      refine r_aload_n ok261 66 rfl rfl rfl ?_
                      refine r_dup ok261 67 rfl rfl rfl ?_
                      refine r_getI ok261 68 rfl rfl rfl rfl ?_
                      refine r_iconst (v := 1) ok261 69 rfl rfl rfl ?_
                      refine r_isub ok261 70 rfl rfl ?_
                      refine r_putI ok261 71 rfl rfl rfl rfl ?_
                      refine r_aload_n ok261 72 rfl rfl rfl ?_
                      refine r_invVv (as := []) (S := []) ok261 73 rfl rfl mf175 rfl rfl (Nat.le_of_ble_eq_true rfl) rfl h19 (fun σ20 h20 => ?_)
                      refine r_iconst (v := 2) ok261 74 rfl rfl rfl ?_
                      exact r_iret ok261 75 rfl rfl rfl h20
              · have h8 := h7.2 c8
                refine r_bipush (v := 21) ok261 40 rfl rfl rfl ?_
                refine r_goto ok261 41 rfl rfl ?_
                refine r_istore_n ok261 49 rfl rfl ?_
                refine r_aload_n ok261 50 rfl rfl rfl ?_
                refine r_getI ok261 51 rfl rfl rfl rfl ?_
                refine r_bipush (v := 41) ok261 52 rfl rfl rfl ?_
                refine r_icmp_ne ok261 53 rfl rfl (fun c21 => ?_) (fun c21 => ?_)
                · have h21 := h8.1 c21
                  exact h21
                · have h21 := h8.2 c21
                  refine r_aload_n ok261 54 rfl rfl rfl ?_
                  refine r_invVi (as := []) (S := []) ok261 55 rfl rfl mf256 rfl rfl (Nat.le_of_ble_eq_true rfl) rfl h21 (fun v22 σ22 h22 => ?_)
                  refine r_if_eq ok261 56 rfl rfl (fun c23 => ?_) (fun c23 => ?_)
                  · have h23 := h22.1 c23
                    exact h23
                  · have h23 := h22.2 c23
                    refine r_aload_n ok261 57 rfl rfl rfl ?_
                    refine r_iconst (v := 0) ok261 58 rfl rfl rfl ?_
                    refine r_invVv (as := [.int 0]) (S := []) ok261 59 rfl rfl mf255 rfl rfl (Nat.le_of_ble_eq_true rfl) rfl h23 (fun σ24 h24 => ?_)
                    refine r_aload_n ok261 60 rfl rfl rfl ?_
                    refine r_dup ok261 61 rfl rfl rfl ?_
                    refine r_getI ok261 62 rfl rfl rfl rfl ?_
                    refine r_iconst (v := 1) ok261 63 rfl rfl rfl ?_
                    refine r_isub ok261 64 rfl rfl ?_
                    refine r_putI ok261 65 rfl rfl rfl rfl ?_
                    refine r_aload_n ok261 66 rfl rfl rfl ?_
                    refine r_dup ok261 67 rfl rfl rfl ?_
                    refine r_getI ok261 68 rfl rfl rfl rfl ?_
                    refine r_iconst (v := 1) ok261 69 rfl rfl rfl ?_
                    refine r_isub ok261 70 rfl rfl ?_
                    refine r_putI ok261 71 rfl rfl rfl rfl ?_
                    refine r_aload_n ok261 72 rfl rfl rfl ?_
                    refine r_invVv (as := []) (S := []) ok261 73 rfl rfl mf175 rfl rfl (Nat.le_of_ble_eq_true rfl) rfl h24 (fun σ25 h25 => ?_)
                    refine r_iconst (v := 2) ok261 74 rfl rfl rfl ?_
                    exact r_iret ok261 75 rfl rfl rfl h25
            · have h6 := h5.2 c6
              refine r_bipush (v := 25) ok261 34 rfl rfl rfl ?_
              refine r_goto ok261 35 rfl rfl ?_
              refine r_istore_n ok261 49 rfl rfl ?_
              refine r_aload_n ok261 50 rfl rfl rfl ?_
              refine r_getI ok261 51 rfl rfl rfl rfl ?_
              refine r_bipush (v := 41) ok261 52 rfl rfl rfl ?_
              refine r_icmp_ne ok261 53 rfl rfl (fun c26 => ?_) (fun c26 => ?_)
              · have h26 := h6.1 c26
                exact h26
              · have h26 := h6.2 c26
                refine r_aload_n ok261 54 rfl rfl rfl ?_
                refine r_invVi (as := []) (S := []) ok261 55 rfl rfl mf256 rfl rfl (Nat.le_of_ble_eq_true rfl) rfl h26 (fun v27 σ27 h27 => ?_)
                refine r_if_eq ok261 56 rfl rfl (fun c28 => ?_) (fun c28 => ?_)
                · have h28 := h27.1 c28
                  exact h28
                · have h28 := h27.2 c28
                  refine r_aload_n ok261 57 rfl rfl rfl ?_
                  refine r_iconst (v := 0) ok261 58 rfl rfl rfl ?_
                  refine r_invVv (as := [.int 0]) (S := []) ok261 59 rfl rfl mf255 rfl rfl (Nat.le_of_ble_eq_true rfl) rfl h28 (fun σ29 h29 => ?_)
                  refine r_aload_n ok261 60 rfl rfl rfl ?_
                  refine r_dup ok261 61 rfl rfl rfl ?_
                  refine r_getI ok261 62 rfl rfl rfl rfl ?_
                  refine r_iconst (v := 1) ok261 63 rfl rfl rfl ?_
                  refine r_isub ok261 64 rfl rfl ?_
                  refine r_putI ok261 65 rfl rfl rfl rfl ?_
                  refine r_aload_n ok261 66 rfl rfl rfl ?_
                  refine r_dup ok261 67 rfl rfl rfl ?_
                  refine r_getI ok261 68 rfl rfl rfl rfl ?_
                  refine r_iconst (v := 1) ok261 69 rfl rfl rfl ?_
                  refine r_isub ok261 70 rfl rfl ?_
                  refine r_putI ok261 71 rfl rfl rfl rfl ?_
                  refine r_aload_n ok261 72 rfl rfl rfl ?_
                  refine r_invVv (as := []) (S := []) ok261 73 rfl rfl mf175 rfl rfl (Nat.le_of_ble_eq_true rfl) rfl h29 (fun σ30 h30 => ?_)
                  refine r_iconst (v := 2) ok261 74 rfl rfl rfl ?_
                  exact r_iret ok261 75 rfl rfl rfl h30
          · have h5 := h4.2 c5
            refine r_bipush (v := 24) ok261 28 rfl rfl rfl ?_
            refine r_goto ok261 29 rfl rfl ?_
            refine r_istore_n ok261 49 rfl rfl ?_
            refine r_aload_n ok261 50 rfl rfl rfl ?_
            refine r_getI ok261 51 rfl rfl rfl rfl ?_
            refine r_bipush (v := 41) ok261 52 rfl rfl rfl ?_
            refine r_icmp_ne ok261 53 rfl rfl (fun c31 => ?_) (fun c31 => ?_)
            · have h31 := h5.1 c31
              exact h31
            · have h31 := h5.2 c31
              refine r_aload_n ok261 54 rfl rfl rfl ?_
              refine r_invVi (as := []) (S := []) ok261 55 rfl rfl mf256 rfl rfl (Nat.le_of_ble_eq_true rfl) rfl h31 (fun v32 σ32 h32 => ?_)
              refine r_if_eq ok261 56 rfl rfl (fun c33 => ?_) (fun c33 => ?_)
              · have h33 := h32.1 c33
                exact h33
              · have h33 := h32.2 c33
                refine r_aload_n ok261 57 rfl rfl rfl ?_
                refine r_iconst (v := 0) ok261 58 rfl rfl rfl ?_
                refine r_invVv (as := [.int 0]) (S := []) ok261 59 rfl rfl mf255 rfl rfl (Nat.le_of_ble_eq_true rfl) rfl h33 (fun σ34 h34 => ?_)
                refine r_aload_n ok261 60 rfl rfl rfl ?_
                refine r_dup ok261 61 rfl rfl rfl ?_
                refine r_getI ok261 62 rfl rfl rfl rfl ?_
                refine r_iconst (v := 1) ok261 63 rfl rfl rfl ?_
                refine r_isub ok261 64 rfl rfl ?_
                refine r_putI ok261 65 rfl rfl rfl rfl ?_
                refine r_aload_n ok261 66 rfl rfl rfl ?_
                refine r_dup ok261 67 rfl rfl rfl ?_
                refine r_getI ok261 68 rfl rfl rfl rfl ?_
                refine r_iconst (v := 1) ok261 69 rfl rfl rfl ?_
                refine r_isub ok261 70 rfl rfl ?_
                refine r_putI ok261 71 rfl rfl rfl rfl ?_
                refine r_aload_n ok261 72 rfl rfl rfl ?_
                refine r_invVv (as := []) (S := []) ok261 73 rfl rfl mf175 rfl rfl (Nat.le_of_ble_eq_true rfl) rfl h34 (fun σ35 h35 => ?_)
                refine r_iconst (v := 2) ok261 74 rfl rfl rfl ?_
                exact r_iret ok261 75 rfl rfl rfl h35
        · have h4 := h3.2 c4
          refine r_bipush (v := 23) ok261 22 rfl rfl rfl ?_
          refine r_goto ok261 23 rfl rfl ?_
          refine r_istore_n ok261 49 rfl rfl ?_
          refine r_aload_n ok261 50 rfl rfl rfl ?_
          refine r_getI ok261 51 rfl rfl rfl rfl ?_
          refine r_bipush (v := 41) ok261 52 rfl rfl rfl ?_
          refine r_icmp_ne ok261 53 rfl rfl (fun c36 => ?_) (fun c36 => ?_)
          · have h36 := h4.1 c36
            exact h36
          · have h36 := h4.2 c36
            refine r_aload_n ok261 54 rfl rfl rfl ?_
            refine r_invVi (as := []) (S := []) ok261 55 rfl rfl mf256 rfl rfl (Nat.le_of_ble_eq_true rfl) rfl h36 (fun v37 σ37 h37 => ?_)
            refine r_if_eq ok261 56 rfl rfl (fun c38 => ?_) (fun c38 => ?_)
            · have h38 := h37.1 c38
              exact h38
            · have h38 := h37.2 c38
              refine r_aload_n ok261 57 rfl rfl rfl ?_
              refine r_iconst (v := 0) ok261 58 rfl rfl rfl ?_
              refine r_invVv (as := [.int 0]) (S := []) ok261 59 rfl rfl mf255 rfl rfl (Nat.le_of_ble_eq_true rfl) rfl h38 (fun σ39 h39 => ?_)
              refine r_aload_n ok261 60 rfl rfl rfl ?_
              refine r_dup ok261 61 rfl rfl rfl ?_
              refine r_getI ok261 62 rfl rfl rfl rfl ?_
              refine r_iconst (v := 1) ok261 63 rfl rfl rfl ?_
              refine r_isub ok261 64 rfl rfl ?_
              refine r_putI ok261 65 rfl rfl rfl rfl ?_
              refine r_aload_n ok261 66 rfl rfl rfl ?_
              refine r_dup ok261 67 rfl rfl rfl ?_
              refine r_getI ok261 68 rfl rfl rfl rfl ?_
              refine r_iconst (v := 1) ok261 69 rfl rfl rfl ?_
              refine r_isub ok261 70 rfl rfl ?_
              refine r_putI ok261 71 rfl rfl rfl rfl ?_
              refine r_aload_n ok261 72 rfl rfl rfl ?_
              refine r_invVv (as := []) (S := []) ok261 73 rfl rfl mf175 rfl rfl (Nat.le_of_ble_eq_true rfl) rfl h39 (fun σ40 h40 => ?_)
              refine r_iconst (v := 2) ok261 74 rfl rfl rfl ?_
              exact r_iret ok261 75 rfl rfl rfl h40
      · have h3 := h2.2 c3
        refine r_bipush (v := 28) ok261 16 rfl rfl rfl ?_
        refine r_goto ok261 17 rfl rfl ?_
        refine r_istore_n ok261 49 rfl rfl ?_
        refine r_aload_n ok261 50 rfl rfl rfl ?_
        refine r_getI ok261 51 rfl rfl rfl rfl ?_
        refine r_bipush (v := 41) ok261 52 rfl rfl rfl ?_
        refine r_icmp_ne ok261 53 rfl rfl (fun c41 => ?_) (fun c41 => ?_)
        · have h41 := h3.1 c41
          exact h41
        · have h41 := h3.2 c41
          refine r_aload_n ok261 54 rfl rfl rfl ?_
          refine r_invVi (as := []) (S := []) ok261 55 rfl rfl mf256 rfl rfl (Nat.le_of_ble_eq_true rfl) rfl h41 (fun v42 σ42 h42 => ?_)
          refine r_if_eq ok261 56 rfl rfl (fun c43 => ?_) (fun c43 => ?_)
          · have h43 := h42.1 c43
            exact h43
          · have h43 := h42.2 c43
            refine r_aload_n ok261 57 rfl rfl rfl ?_
            refine r_iconst (v := 0) ok261 58 rfl rfl rfl ?_
            refine r_invVv (as := [.int 0]) (S := []) ok261 59 rfl rfl mf255 rfl rfl (Nat.le_of_ble_eq_true rfl) rfl h43 (fun σ44 h44 => ?_)
            refine r_aload_n ok261 60 rfl rfl rfl ?_
            refine r_dup ok261 61 rfl rfl rfl ?_
            refine r_getI ok261 62 rfl rfl rfl rfl ?_
            refine r_iconst (v := 1) ok261 63 rfl rfl rfl ?_
            refine r_isub ok261 64 rfl rfl ?_
            refine r_putI ok261 65 rfl rfl rfl rfl ?_
            refine r_aload_n ok261 66 rfl rfl rfl ?_
            refine r_dup ok261 67 rfl rfl rfl ?_
            refine r_getI ok261 68 rfl rfl rfl rfl ?_
            refine r_iconst (v := 1) ok261 69 rfl rfl rfl ?_
            refine r_isub ok261 70 rfl rfl ?_
            refine r_putI ok261 71 rfl rfl rfl rfl ?_
            refine r_aload_n ok261 72 rfl rfl rfl ?_
            refine r_invVv (as := []) (S := []) ok261 73 rfl rfl mf175 rfl rfl (Nat.le_of_ble_eq_true rfl) rfl h44 (fun σ45 h45 => ?_)
            refine r_iconst (v := 2) ok261 74 rfl rfl rfl ?_
            exact r_iret ok261 75 rfl rfl rfl h45
    · have h2 := h1.2 c2
      refine r_bipush (v := 27) ok261 10 rfl rfl rfl ?_
      refine r_goto ok261 11 rfl rfl ?_
      refine r_istore_n ok261 49 rfl rfl ?_
      refine r_aload_n ok261 50 rfl rfl rfl ?_
      refine r_getI ok261 51 rfl rfl rfl rfl ?_
      refine r_bipush (v := 41) ok261 52 rfl rfl rfl ?_
      refine r_icmp_ne ok261 53 rfl rfl (fun c46 => ?_) (fun c46 => ?_)
      · have h46 := h2.1 c46
        exact h46
      · have h46 := h2.2 c46
        refine r_aload_n ok261 54 rfl rfl rfl ?_
        refine r_invVi (as := []) (S := []) ok261 55 rfl rfl mf256 rfl rfl (Nat.le_of_ble_eq_true rfl) rfl h46 (fun v47 σ47 h47 => ?_)
        refine r_if_eq ok261 56 rfl rfl (fun c48 => ?_) (fun c48 => ?_)
        · have h48 := h47.1 c48
          exact h48
        · have h48 := h47.2 c48
          refine r_aload_n ok261 57 rfl rfl rfl ?_
          refine r_iconst (v := 0) ok261 58 rfl rfl rfl ?_
          refine r_invVv (as := [.int 0]) (S := []) ok261 59 rfl rfl mf255 rfl rfl (Nat.le_of_ble_eq_true rfl) rfl h48 (fun σ49 h49 => ?_)
          refine r_aload_n ok261 60 rfl rfl rfl ?_
          refine r_dup ok261 61 rfl rfl rfl ?_
          refine r_getI ok261 62 rfl rfl rfl rfl ?_
          refine r_iconst (v := 1) ok261 63 rfl rfl rfl ?_
          refine r_isub ok261 64 rfl rfl ?_
          refine r_putI ok261 65 rfl rfl rfl rfl ?_
          refine r_aload_n ok261 66 rfl rfl rfl ?_
          refine r_dup ok261 67 rfl rfl rfl ?_
          refine r_getI ok261 68 rfl rfl rfl rfl ?_
          refine r_iconst (v := 1) ok261 69 rfl rfl rfl ?_
          refine r_isub ok261 70 rfl rfl ?_
          refine r_putI ok261 71 rfl rfl rfl rfl ?_
          refine r_aload_n ok261 72 rfl rfl rfl ?_
          refine r_invVv (as := []) (S := []) ok261 73 rfl rfl mf175 rfl rfl (Nat.le_of_ble_eq_true rfl) rfl h49 (fun σ50 h50 => ?_)
          refine r_iconst (v := 2) ok261 74 rfl rfl rfl ?_
          exact r_iret ok261 75 rfl rfl rfl h50
  · have h1 := h.2 c1
    refine r_bipush (v := 26) ok261 4 rfl rfl rfl ?_
    refine r_goto ok261 5 rfl rfl ?_
    refine r_istore_n ok261 49 rfl rfl ?_
    refine r_aload_n ok261 50 rfl rfl rfl ?_
    refine r_getI ok261 51 rfl rfl rfl rfl ?_
    refine r_bipush (v := 41) ok261 52 rfl rfl rfl ?_
    refine r_icmp_ne ok261 53 rfl rfl (fun c51 => ?_) (fun c51 => ?_)
    · have h51 := h1.1 c51
      exact h51
    · have h51 := h1.2 c51
      refine r_aload_n ok261 54 rfl rfl rfl ?_
      refine r_invVi (as := []) (S := []) ok261 55 rfl rfl mf256 rfl rfl (Nat.le_of_ble_eq_true rfl) rfl h51 (fun v52 σ52 h52 => ?_)
      refine r_if_eq ok261 56 rfl rfl (fun c53 => ?_) (fun c53 => ?_)
      · have h53 := h52.1 c53
        exact h53
      · have h53 := h52.2 c53
        refine r_aload_n ok261 57 rfl rfl rfl ?_
        refine r_iconst (v := 0) ok261 58 rfl rfl rfl ?_
        refine r_invVv (as := [.int 0]) (S := []) ok261 59 rfl rfl mf255 rfl rfl (Nat.le_of_ble_eq_true rfl) rfl h53 (fun σ54 h54 => ?_)
        refine r_aload_n ok261 60 rfl rfl rfl ?_
        refine r_dup ok261 61 rfl rfl rfl ?_
        refine r_getI ok261 62 rfl rfl rfl rfl ?_
        refine r_iconst (v := 1) ok261 63 rfl rfl rfl ?_
        refine r_isub ok261 64 rfl rfl ?_
        refine r_putI ok261 65 rfl rfl rfl rfl ?_
        refine r_aload_n ok261 66 rfl rfl rfl ?_
        refine r_dup ok261 67 rfl rfl rfl ?_
        refine r_getI ok261 68 rfl rfl rfl rfl ?_
        refine r_iconst (v := 1) ok261 69 rfl rfl rfl ?_
        refine r_isub ok261 70 rfl rfl ?_
        refine r_putI ok261 71 rfl rfl rfl rfl ?_
        refine r_aload_n ok261 72 rfl rfl rfl ?_
        refine r_invVv (as := []) (S := []) ok261 73 rfl rfl mf175 rfl rfl (Nat.le_of_ble_eq_true rfl) rfl h54 (fun σ55 h55 => ?_)
        refine r_iconst (v := 2) ok261 74 rfl rfl rfl ?_
        exact r_iret ok261 75 rfl rfl rfl h55

set_option maxRecDepth 100000 in
set_option maxHeartbeats 4000000 in
theorem B261_163 {Θ : Th} {d : Nat} {σ : Mem} {Q : Po} {x1 : Int32} 
    (h : ((0 ≤ x1 → Ci Θ d 257 [.int x1] σ (fun v2 σ2 => ((¬ v2 = 23 → Ci Θ d 257 [.int x1] σ2 (fun v4 σ4 => Cv Θ d 255 [.ref 124, .int v4] σ4 (fun σ5 => G Θ (d + 1) 261 217 [some (.ref 124), some (.int x1)] [] σ5 Q))) ∧ (v2 = 23 → Cv Θ d 255 [.ref 124, .int 26] σ2 (fun σ6 => Ci Θ d 252 [.ref 124] σ6 (fun v7 σ7 => Ci Θ d 257 [.int v7] σ7 (fun v8 σ8 => ((¬ v8 = 23 → G Θ (d + 1) 261 217 [some (.ref 124), some (.int x1)] [] σ8 Q) ∧ (v8 = 23 → Cv Θ d 176 [.ref 124, .int 2] σ8 (fun σ10 => G Θ (d + 1) 261 217 [some (.ref 124), some (.int x1)] [] σ10 Q)))))))))) ∧ (¬ 0 ≤ x1 → Cv Θ d 176 [.ref 124, .int 2] σ (fun σ11 => Q (some (.int 2)) σ11)))) :
    G Θ (d + 1) 261 163 [some (.ref 124), some (.int x1)] [] σ Q := by
  refine r_iload_n ok261 76 rfl rfl rfl ?_
  refine r_if_ge ok261 77 rfl rfl (fun c1 => ?_) (fun c1 => ?_)
  · have h1 := h.1 c1
    refine r_iload_n ok261 83 rfl rfl rfl ?_
    refine r_invSi (as := [.int x1]) (S := []) ok261 84 rfl rfl mf257 rfl (Nat.le_of_ble_eq_true rfl) rfl h1 (fun v2 σ2 h2 => ?_)
    refine r_bipush (v := 23) ok261 85 rfl rfl rfl ?_
    refine r_icmp_ne ok261 86 rfl rfl (fun c3 => ?_) (fun c3 => ?_)
    · have h3 := h2.1 c3
      refine r_aload_n ok261 99 rfl rfl rfl ?_
      refine r_iload_n ok261 100 rfl rfl rfl ?_
      refine r_invSi (as := [.int x1]) (S := [.ref 124]) ok261 101 rfl rfl mf257 rfl (Nat.le_of_ble_eq_true rfl) rfl h3 (fun v4 σ4 h4 => ?_)
      refine r_invVv (as := [.int v4]) (S := []) ok261 102 rfl rfl mf255 rfl rfl (Nat.le_of_ble_eq_true rfl) rfl h4 (fun σ5 h5 => ?_)
      exact h5
    · have h3 := h2.2 c3
      refine r_aload_n ok261 87 rfl rfl rfl ?_
      refine r_bipush (v := 26) ok261 88 rfl rfl rfl ?_
      refine r_invVv (as := [.int 26]) (S := []) ok261 89 rfl rfl mf255 rfl rfl (Nat.le_of_ble_eq_true rfl) rfl h3 (fun σ6 h6 => ?_)
      refine r_aload_n ok261 90 rfl rfl rfl ?_
      refine r_invVi (as := []) (S := []) ok261 91 rfl rfl mf252 rfl rfl (Nat.le_of_ble_eq_true rfl) rfl h6 (fun v7 σ7 h7 => ?_)
      refine r_invSi (as := [.int v7]) (S := []) ok261 92 rfl rfl mf257 rfl (Nat.le_of_ble_eq_true rfl) rfl h7 (fun v8 σ8 h8 => ?_)
      refine r_bipush (v := 23) ok261 93 rfl rfl rfl ?_
      refine r_icmp_ne ok261 94 rfl rfl (fun c9 => ?_) (fun c9 => ?_)
      · have h9 := h8.1 c9
        exact h9
      · have h9 := h8.2 c9
        refine r_aload_n ok261 95 rfl rfl rfl ?_
        refine r_iconst (v := 2) ok261 96 rfl rfl rfl ?_
        refine r_invVv (as := [.int 2]) (S := []) ok261 97 rfl rfl mf176 rfl rfl (Nat.le_of_ble_eq_true rfl) rfl h9 (fun σ10 h10 => ?_)
        refine r_goto ok261 98 rfl rfl ?_
        exact h10
  · have h1 := h.2 c1
    refine r_aload_n ok261 78 rfl rfl rfl ?_
    refine r_iconst (v := 2) ok261 79 rfl rfl rfl ?_
    refine r_invVv (as := [.int 2]) (S := []) ok261 80 rfl rfl mf176 rfl rfl (Nat.le_of_ble_eq_true rfl) rfl h1 (fun σ11 h11 => ?_)
    refine r_iconst (v := 2) ok261 81 rfl rfl rfl ?_
    exact r_iret ok261 82 rfl rfl rfl h11

set_option maxRecDepth 100000 in
set_option maxHeartbeats 4000000 in
theorem B261_217 {Θ : Th} {d : Nat} {σ : Mem} {Q : Po} {x1 : Int32} 
    (h : (((σ.1 124 2) ≤ 0 → Cv Θ d 253 [.ref 124, .int x1] σ (fun σ2 => Cv Θ d 175 [.ref 124] σ2 (fun σ3 => ((x1 = 21 → G Θ (d + 1) 261 247 [none, none] [] σ3 Q) ∧ (¬ x1 = 21 → ((¬ x1 = 20 → Q (some (.int 1)) σ3) ∧ (x1 = 20 → G Θ (d + 1) 261 247 [none, none] [] σ3 Q))))))) ∧ (¬ (σ.1 124 2) ≤ 0 → Q (some (.int 2)) σ))) :
    G Θ (d + 1) 261 217 [some (.ref 124), some (.int x1)] [] σ Q := by
  refine r_aload_n ok261 103 rfl rfl rfl ?_
  refine r_getI ok261 104 rfl rfl rfl rfl ?_
  refine r_if_le ok261 105 rfl rfl (fun c1 => ?_) (fun c1 => ?_)
  · have h1 := h.1 c1
    refine r_aload_n ok261 108 rfl rfl rfl ?_
    refine r_iload_n ok261 109 rfl rfl rfl ?_
    refine r_invVv (as := [.int x1]) (S := []) ok261 110 rfl rfl mf253 rfl rfl (Nat.le_of_ble_eq_true rfl) rfl h1 (fun σ2 h2 => ?_)
    refine r_aload_n ok261 111 rfl rfl rfl ?_
    refine r_invVv (as := []) (S := []) ok261 112 rfl rfl mf175 rfl rfl (Nat.le_of_ble_eq_true rfl) rfl h2 (fun σ3 h3 => ?_)
    refine r_iload_n ok261 113 rfl rfl rfl ?_
    refine r_bipush (v := 21) ok261 114 rfl rfl rfl ?_
    refine r_icmp_eq ok261 115 rfl rfl (fun c4 => ?_) (fun c4 => ?_)
    · have h4 := h3.1 c4
      exact G.weak (L' := [none, none]) trivial h4
    · have h4 := h3.2 c4
      refine r_iload_n ok261 116 rfl rfl rfl ?_
      refine r_bipush (v := 20) ok261 117 rfl rfl rfl ?_
      refine r_icmp_ne ok261 118 rfl rfl (fun c5 => ?_) (fun c5 => ?_)
      · have h5 := h4.1 c5
        refine r_iconst (v := 1) ok261 121 rfl rfl rfl ?_
        exact r_iret ok261 122 rfl rfl rfl h5
      · have h5 := h4.2 c5
        exact G.weak (L' := [none, none]) trivial h5
  · have h1 := h.2 c1
    refine r_iconst (v := 2) ok261 106 rfl rfl rfl ?_
    exact r_iret ok261 107 rfl rfl rfl h1

set_option maxRecDepth 100000 in
set_option maxHeartbeats 4000000 in
theorem B261_247 {Θ : Th} {d : Nat} {σ : Mem} {Q : Po} 
    (h : Q (some (.int 0)) σ) :
    G Θ (d + 1) 261 247 [none, none] [] σ Q := by
  refine r_iconst (v := 0) ok261 119 rfl rfl rfl ?_
  refine r_goto ok261 120 rfl rfl ?_
  exact r_iret ok261 122 rfl rfl rfl h

theorem K261 {Θ : Th} {d : Nat} {σ : Mem} {Q : Po} (h : G Θ (d + 1) 261 0 [some (.ref 124), none] [] σ Q) : Cm Θ (d + 1) 261 [.ref 124] σ Q :=
  C_of_G okM261 (Nat.le_of_ble_eq_true rfl) rfl h

-- 262: LikeYearsModel.readLaw()V
set_option maxRecDepth 100000 in
set_option maxHeartbeats 4000000 in
theorem B262_0 {Θ : Th} {d : Nat} {σ : Mem} {Q : Po} 
    (h : ((¬ (σ.1 124 69) = 8 → G Θ (d + 1) 262 14 [some (.ref 124), none] [] σ Q) ∧ ((σ.1 124 69) = 8 → Cv Θ d 176 [.ref 124, .int 2] σ (fun σ2 => G Θ (d + 1) 262 14 [some (.ref 124), none] [] σ2 Q)))) :
    G Θ (d + 1) 262 0 [some (.ref 124), none] [] σ Q := by
  refine r_aload_n ok262 0 rfl rfl rfl ?_
  refine r_getI ok262 1 rfl rfl rfl rfl ?_
  refine r_bipush (v := 8) ok262 2 rfl rfl rfl ?_
  refine r_icmp_ne ok262 3 rfl rfl (fun c1 => ?_) (fun c1 => ?_)
  · have h1 := h.1 c1
    exact h1
  · have h1 := h.2 c1
    refine r_aload_n ok262 4 rfl rfl rfl ?_
    refine r_iconst (v := 2) ok262 5 rfl rfl rfl ?_
    refine r_invVv (as := [.int 2]) (S := []) ok262 6 rfl rfl mf176 rfl rfl (Nat.le_of_ble_eq_true rfl) rfl h1 (fun σ2 h2 => ?_)
    exact h2

set_option maxRecDepth 100000 in
set_option maxHeartbeats 4000000 in
theorem B262_14 {Θ : Th} {d : Nat} {σ : Mem} {Q : Po} 
    (h : Cv Θ d 180 [.ref 124, .long 2003330414] σ (fun σ1 => (((σ1.1 124 2) ≤ 0 → (vp_in (σ1.1 124 69) 9 ∧ G Θ (d + 1) 262 54 [some (.ref 124), some (.int 0)] [] (sI (sI (sI σ1 163 ((σ1.1 124 69).toNatClampNeg) (σ1.1 124 68)) 124 72 0) 124 73 0) Q)) ∧ (¬ (σ1.1 124 2) ≤ 0 → Q none σ1)))) :
    G Θ (d + 1) 262 14 [some (.ref 124), none] [] σ Q := by
  refine r_aload_n ok262 7 rfl rfl rfl ?_
  refine r_ldc2_w (v := 2003330414) ok262 8 rfl rfl rfl ?_
  refine r_invVv (as := [.long 2003330414]) (S := []) ok262 9 rfl rfl mf180 rfl rfl (Nat.le_of_ble_eq_true rfl) rfl h (fun σ1 h1 => ?_)
  refine r_aload_n ok262 10 rfl rfl rfl ?_
  refine r_getI ok262 11 rfl rfl rfl rfl ?_
  refine r_if_le ok262 12 rfl rfl (fun c2 => ?_) (fun c2 => ?_)
  · have h2 := h1.1 c2
    refine r_aload_n ok262 14 rfl rfl rfl ?_
    refine r_getF ok262 15 rfl rfl rfl rfl ?_
    refine r_aload_n ok262 16 rfl rfl rfl ?_
    refine r_getI ok262 17 rfl rfl rfl rfl ?_
    refine r_aload_n ok262 18 rfl rfl rfl ?_
    refine r_getI ok262 19 rfl rfl rfl rfl ?_
    obtain ⟨c3, h3⟩ := h2
    refine r_iast ok262 20 rfl rfl rfl c3 ?_
    refine r_aload_n ok262 21 rfl rfl rfl ?_
    refine r_iconst (v := 0) ok262 22 rfl rfl rfl ?_
    refine r_putI ok262 23 rfl rfl rfl rfl ?_
    refine r_aload_n ok262 24 rfl rfl rfl ?_
    refine r_iconst (v := 0) ok262 25 rfl rfl rfl ?_
    refine r_putI ok262 26 rfl rfl rfl rfl ?_
    refine r_iconst (v := 0) ok262 27 rfl rfl rfl ?_
    refine r_istore_n ok262 28 rfl rfl ?_
    exact h3
  · have h2 := h1.2 c2
    exact r_ret ok262 13 rfl rfl rfl h2

set_option maxRecDepth 100000 in
set_option maxHeartbeats 4000000 in
theorem B262_54 {Θ : Th} {d : Nat} {σ : Mem} {Q : Po} {x1 : Int32} 
    (h : ((¬ (σ.1 124 2) = 0 → G Θ (d + 1) 262 104 [some (.ref 124), none] [] σ Q) ∧ ((σ.1 124 2) = 0 → ((¬ x1 = 2 → G Θ (d + 1) 262 83 [some (.ref 124), some (.int x1)] [] σ Q) ∧ (x1 = 2 → Ci Θ d 177 [.ref 124, .long 465557353332] σ (fun v3 σ3 => ((v3 = 0 → G Θ (d + 1) 262 83 [some (.ref 124), some (.int x1)] [] σ3 Q) ∧ (¬ v3 = 0 → Ci Θ d 256 [.ref 124] σ3 (fun v5 σ5 => ((v5 = 0 → G Θ (d + 1) 262 104 [some (.ref 124), none] [] σ5 Q) ∧ (¬ v5 = 0 → G Θ (d + 1) 262 83 [some (.ref 124), some (.int x1)] [] σ5 Q))))))))))) :
    G Θ (d + 1) 262 54 [some (.ref 124), some (.int x1)] [] σ Q := by
  refine r_aload_n ok262 29 rfl rfl rfl ?_
  refine r_getI ok262 30 rfl rfl rfl rfl ?_
  refine r_if_ne ok262 31 rfl rfl (fun c1 => ?_) (fun c1 => ?_)
  · have h1 := h.1 c1
    exact G.weak (L' := [some (.ref 124), none]) ⟨rfl, trivial⟩ h1
  · have h1 := h.2 c1
    refine r_iload_n ok262 32 rfl rfl rfl ?_
    refine r_iconst (v := 2) ok262 33 rfl rfl rfl ?_
    refine r_icmp_ne ok262 34 rfl rfl (fun c2 => ?_) (fun c2 => ?_)
    · have h2 := h1.1 c2
      exact h2
    · have h2 := h1.2 c2
      refine r_aload_n ok262 35 rfl rfl rfl ?_
      refine r_ldc2_w (v := 465557353332) ok262 36 rfl rfl rfl ?_
      refine r_invVi (as := [.long 465557353332]) (S := []) ok262 37 rfl rfl mf177 rfl rfl (Nat.le_of_ble_eq_true rfl) rfl h2 (fun v3 σ3 h3 => ?_)
      refine r_if_eq ok262 38 rfl rfl (fun c4 => ?_) (fun c4 => ?_)
      · have h4 := h3.1 c4
        exact h4
      · have h4 := h3.2 c4
        refine r_aload_n ok262 39 rfl rfl rfl ?_
        refine r_invVi (as := []) (S := []) ok262 40 rfl rfl mf256 rfl rfl (Nat.le_of_ble_eq_true rfl) rfl h4 (fun v5 σ5 h5 => ?_)
        refine r_if_eq ok262 41 rfl rfl (fun c6 => ?_) (fun c6 => ?_)
        · have h6 := h5.1 c6
          exact G.weak (L' := [some (.ref 124), none]) ⟨rfl, trivial⟩ h6
        · have h6 := h5.2 c6
          exact h6

set_option maxRecDepth 100000 in
set_option maxHeartbeats 4000000 in
theorem B262_104 {Θ : Th} {d : Nat} {σ : Mem} {Q : Po} 
    (h : (((σ.1 124 2) ≤ 0 → Cv Θ d 255 [.ref 124, .int 0] σ (fun σ2 => Cv Θ d 175 [.ref 124] σ2 (fun σ3 => Ci Θ d 181 [.ref 124, .int 0, .int 240] σ3 (fun v4 σ4 => (vp_in (σ3.1 124 69) 8 ∧ Cv Θ d 180 [.ref 124, .long 1836020596] (sI σ4 164 ((σ3.1 124 69).toNatClampNeg) v4) (fun σ6 => (vp_in (σ6.1 124 69) 8 ∧ Ci Θ d 181 [.ref 124, .int (σ6.1 164 (σ6.1 124 69).toNatClampNeg), .int 240] σ6 (fun v8 σ8 => (vp_in (σ6.1 124 69) 8 ∧ ((¬ ((sI σ8 165 ((σ6.1 124 69).toNatClampNeg) v8).1 124 2) = 0 → G Θ (d + 1) 262 191 [some (.ref 124), none] [] (sI σ8 165 ((σ6.1 124 69).toNatClampNeg) v8) Q) ∧ (((sI σ8 165 ((σ6.1 124 69).toNatClampNeg) v8).1 124 2) = 0 → ((((sI σ8 165 ((σ6.1 124 69).toNatClampNeg) v8).1 124 6) = 59 → G Θ (d + 1) 262 191 [some (.ref 124), none] [] (sI σ8 165 ((σ6.1 124 69).toNatClampNeg) v8) Q) ∧ (¬ ((sI σ8 165 ((σ6.1 124 69).toNatClampNeg) v8).1 124 6) = 59 → Cv Θ d 176 [.ref 124, .int 2] (sI σ8 165 ((σ6.1 124 69).toNatClampNeg) v8) (fun σ12 => G Θ (d + 1) 262 191 [some (.ref 124), none] [] σ12 Q)))))))))))))) ∧ (¬ (σ.1 124 2) ≤ 0 → Q none σ))) :
    G Θ (d + 1) 262 104 [some (.ref 124), none] [] σ Q := by
  refine r_aload_n ok262 53 rfl rfl rfl ?_
  refine r_getI ok262 54 rfl rfl rfl rfl ?_
  refine r_if_le ok262 55 rfl rfl (fun c1 => ?_) (fun c1 => ?_)
  · have h1 := h.1 c1
    refine r_aload_n ok262 57 rfl rfl rfl ?_
    refine r_iconst (v := 0) ok262 58 rfl rfl rfl ?_
    refine r_invVv (as := [.int 0]) (S := []) ok262 59 rfl rfl mf255 rfl rfl (Nat.le_of_ble_eq_true rfl) rfl h1 (fun σ2 h2 => ?_)
    refine r_aload_n ok262 60 rfl rfl rfl ?_
    refine r_invVv (as := []) (S := []) ok262 61 rfl rfl mf175 rfl rfl (Nat.le_of_ble_eq_true rfl) rfl h2 (fun σ3 h3 => ?_)
    refine r_aload_n ok262 62 rfl rfl rfl ?_
    refine r_getF ok262 63 rfl rfl rfl rfl ?_
    refine r_aload_n ok262 64 rfl rfl rfl ?_
    refine r_getI ok262 65 rfl rfl rfl rfl ?_
    refine r_aload_n ok262 66 rfl rfl rfl ?_
    refine r_iconst (v := 0) ok262 67 rfl rfl rfl ?_
    refine r_sipush (v := 240) ok262 68 rfl rfl rfl ?_
    refine r_invVi (as := [.int 0, .int 240]) (S := [.int (σ3.1 124 69), .ref 164]) ok262 69 rfl rfl mf181 rfl rfl (Nat.le_of_ble_eq_true rfl) rfl h3 (fun v4 σ4 h4 => ?_)
    obtain ⟨c5, h5⟩ := h4
    refine r_iast ok262 70 rfl rfl rfl c5 ?_
    refine r_aload_n ok262 71 rfl rfl rfl ?_
    refine r_ldc2_w (v := 1836020596) ok262 72 rfl rfl rfl ?_
    refine r_invVv (as := [.long 1836020596]) (S := []) ok262 73 rfl rfl mf180 rfl rfl (Nat.le_of_ble_eq_true rfl) rfl h5 (fun σ6 h6 => ?_)
    refine r_aload_n ok262 74 rfl rfl rfl ?_
    refine r_getF ok262 75 rfl rfl rfl rfl ?_
    refine r_aload_n ok262 76 rfl rfl rfl ?_
    refine r_getI ok262 77 rfl rfl rfl rfl ?_
    refine r_aload_n ok262 78 rfl rfl rfl ?_
    refine r_aload_n ok262 79 rfl rfl rfl ?_
    refine r_getF ok262 80 rfl rfl rfl rfl ?_
    refine r_aload_n ok262 81 rfl rfl rfl ?_
    refine r_getI ok262 82 rfl rfl rfl rfl ?_
    obtain ⟨c7, h7⟩ := h6
    refine r_iald ok262 83 rfl rfl rfl c7 ?_
    refine r_sipush (v := 240) ok262 84 rfl rfl rfl ?_
    refine r_invVi (as := [.int (σ6.1 164 (σ6.1 124 69).toNatClampNeg), .int 240]) (S := [.int (σ6.1 124 69), .ref 165]) ok262 85 rfl rfl mf181 rfl rfl (Nat.le_of_ble_eq_true rfl) rfl h7 (fun v8 σ8 h8 => ?_)
    obtain ⟨c9, h9⟩ := h8
    refine r_iast ok262 86 rfl rfl rfl c9 ?_
    refine r_aload_n ok262 87 rfl rfl rfl ?_
    refine r_getI ok262 88 rfl rfl rfl rfl ?_
    refine r_if_ne ok262 89 rfl rfl (fun c10 => ?_) (fun c10 => ?_)
    · have h10 := h9.1 c10
      exact h10
    · have h10 := h9.2 c10
      refine r_aload_n ok262 90 rfl rfl rfl ?_
      refine r_getI ok262 91 rfl rfl rfl rfl ?_
      refine r_bipush (v := 59) ok262 92 rfl rfl rfl ?_
      refine r_icmp_eq ok262 93 rfl rfl (fun c11 => ?_) (fun c11 => ?_)
      · have h11 := h10.1 c11
        exact h11
      · have h11 := h10.2 c11
        refine r_aload_n ok262 94 rfl rfl rfl ?_
        refine r_iconst (v := 2) ok262 95 rfl rfl rfl ?_
        refine r_invVv (as := [.int 2]) (S := []) ok262 96 rfl rfl mf176 rfl rfl (Nat.le_of_ble_eq_true rfl) rfl h11 (fun σ12 h12 => ?_)
        exact h12
  · have h1 := h.2 c1
    exact r_ret ok262 56 rfl rfl rfl h1

set_option maxRecDepth 100000 in
set_option maxHeartbeats 4000000 in
theorem B262_83 {Θ : Th} {d : Nat} {σ : Mem} {Q : Po} {x1 : Int32} 
    (h : ((¬ x1 = 2 → Ci Θ d 260 [.ref 124, .int x1] σ (fun v2 σ2 => G Θ (d + 1) 262 54 [some (.ref 124), some (.int v2)] [] σ2 Q)) ∧ (x1 = 2 → Ci Θ d 261 [.ref 124] σ (fun v3 σ3 => G Θ (d + 1) 262 54 [some (.ref 124), some (.int v3)] [] σ3 Q)))) :
    G Θ (d + 1) 262 83 [some (.ref 124), some (.int x1)] [] σ Q := by
  refine r_iload_n ok262 42 rfl rfl rfl ?_
  refine r_iconst (v := 2) ok262 43 rfl rfl rfl ?_
  refine r_icmp_ne ok262 44 rfl rfl (fun c1 => ?_) (fun c1 => ?_)
  · have h1 := h.1 c1
    refine r_aload_n ok262 48 rfl rfl rfl ?_
    refine r_iload_n ok262 49 rfl rfl rfl ?_
    refine r_invVi (as := [.int x1]) (S := []) ok262 50 rfl rfl mf260 rfl rfl (Nat.le_of_ble_eq_true rfl) rfl h1 (fun v2 σ2 h2 => ?_)
    refine r_istore_n ok262 51 rfl rfl ?_
    refine r_goto ok262 52 rfl rfl ?_
    exact h2
  · have h1 := h.2 c1
    refine r_aload_n ok262 45 rfl rfl rfl ?_
    refine r_invVi (as := []) (S := []) ok262 46 rfl rfl mf261 rfl rfl (Nat.le_of_ble_eq_true rfl) rfl h1 (fun v3 σ3 h3 => ?_)
    refine r_goto ok262 47 rfl rfl ?_
    refine r_istore_n ok262 51 rfl rfl ?_
    refine r_goto ok262 52 rfl rfl ?_
    exact h3

set_option maxRecDepth 100000 in
set_option maxHeartbeats 4000000 in
theorem B262_191 {Θ : Th} {d : Nat} {σ : Mem} {Q : Po} 
    (h : (((σ.1 124 2) ≤ 0 → Cv Θ d 175 [.ref 124] σ (fun σ2 => (vp_in ((sI σ2 124 69 ((σ2.1 124 69) + 1)).1 124 69) 9 ∧ Q none (sI (sI σ2 124 69 ((σ2.1 124 69) + 1)) 163 (((sI σ2 124 69 ((σ2.1 124 69) + 1)).1 124 69).toNatClampNeg) ((sI σ2 124 69 ((σ2.1 124 69) + 1)).1 124 68))))) ∧ (¬ (σ.1 124 2) ≤ 0 → Q none σ))) :
    G Θ (d + 1) 262 191 [some (.ref 124), none] [] σ Q := by
  refine r_aload_n ok262 97 rfl rfl rfl ?_
  refine r_getI ok262 98 rfl rfl rfl rfl ?_
  refine r_if_le ok262 99 rfl rfl (fun c1 => ?_) (fun c1 => ?_)
  · have h1 := h.1 c1
    refine r_aload_n ok262 101 rfl rfl rfl ?_
    refine r_invVv (as := []) (S := []) ok262 102 rfl rfl mf175 rfl rfl (Nat.le_of_ble_eq_true rfl) rfl h1 (fun σ2 h2 => ?_)
    refine r_aload_n ok262 103 rfl rfl rfl ?_
    refine r_dup ok262 104 rfl rfl rfl ?_
    refine r_getI ok262 105 rfl rfl rfl rfl ?_
    refine r_iconst (v := 1) ok262 106 rfl rfl rfl ?_
    refine r_iadd ok262 107 rfl rfl ?_
    refine r_putI ok262 108 rfl rfl rfl rfl ?_
    refine r_aload_n ok262 109 rfl rfl rfl ?_
    refine r_getF ok262 110 rfl rfl rfl rfl ?_
    refine r_aload_n ok262 111 rfl rfl rfl ?_
    refine r_getI ok262 112 rfl rfl rfl rfl ?_
    refine r_aload_n ok262 113 rfl rfl rfl ?_
    refine r_getI ok262 114 rfl rfl rfl rfl ?_
    obtain ⟨c3, h3⟩ := h2
    refine r_iast ok262 115 rfl rfl rfl c3 ?_
    exact r_ret ok262 116 rfl rfl rfl h3
  · have h1 := h.2 c1
    exact r_ret ok262 100 rfl rfl rfl h1

theorem K262 {Θ : Th} {d : Nat} {σ : Mem} {Q : Po} (h : G Θ (d + 1) 262 0 [some (.ref 124), none] [] σ Q) : Cm Θ (d + 1) 262 [.ref 124] σ Q :=
  C_of_G okM262 (Nat.le_of_ble_eq_true rfl) rfl h

-- 263: LikeYearsModel.laws()I
set_option maxRecDepth 100000 in
set_option maxHeartbeats 4000000 in
theorem B263_0 {Θ : Th} {d : Nat} {σ : Mem} {Q : Po} 
    (h : (((σ.1 124 1) ≤ 500 → Cv Θ d 175 [.ref 124] (sI (sI (sI (sI (sI (sI (sI (sI (sI σ 124 10 1) 124 5 ((sI σ 124 10 1).1 124 1)) 124 1 0) 124 4 0) 124 2 0) 124 3 (-1)) 124 68 0) 124 69 0) 124 71 0) (fun σ2 => G Θ (d + 1) 263 65 [some (.ref 124), none] [] σ2 Q)) ∧ (¬ (σ.1 124 1) ≤ 500 → Q (some (.int (-2))) σ))) :
    G Θ (d + 1) 263 0 [some (.ref 124), none] [] σ Q := by
  refine r_aload_n ok263 0 rfl rfl rfl ?_
  refine r_getI ok263 1 rfl rfl rfl rfl ?_
  refine r_sipush (v := 500) ok263 2 rfl rfl rfl ?_
  refine r_icmp_le ok263 3 rfl rfl (fun c1 => ?_) (fun c1 => ?_)
  · have h1 := h.1 c1
    refine r_aload_n ok263 6 rfl rfl rfl ?_
    refine r_iconst (v := 1) ok263 7 rfl rfl rfl ?_
    refine r_putZ ok263 8 rfl rfl rfl rfl (Or.inr rfl) ?_
    refine r_aload_n ok263 9 rfl rfl rfl ?_
    refine r_aload_n ok263 10 rfl rfl rfl ?_
    refine r_getI ok263 11 rfl rfl rfl rfl ?_
    refine r_putI ok263 12 rfl rfl rfl rfl ?_
    refine r_aload_n ok263 13 rfl rfl rfl ?_
    refine r_iconst (v := 0) ok263 14 rfl rfl rfl ?_
    refine r_putI ok263 15 rfl rfl rfl rfl ?_
    refine r_aload_n ok263 16 rfl rfl rfl ?_
    refine r_iconst (v := 0) ok263 17 rfl rfl rfl ?_
    refine r_putI ok263 18 rfl rfl rfl rfl ?_
    refine r_aload_n ok263 19 rfl rfl rfl ?_
    refine r_iconst (v := 0) ok263 20 rfl rfl rfl ?_
    refine r_putI ok263 21 rfl rfl rfl rfl ?_
    refine r_aload_n ok263 22 rfl rfl rfl ?_
    refine r_iconst (v := (-1)) ok263 23 rfl rfl rfl ?_
    refine r_putI ok263 24 rfl rfl rfl rfl ?_
    refine r_aload_n ok263 25 rfl rfl rfl ?_
    refine r_iconst (v := 0) ok263 26 rfl rfl rfl ?_
    refine r_putI ok263 27 rfl rfl rfl rfl ?_
    refine r_aload_n ok263 28 rfl rfl rfl ?_
    refine r_iconst (v := 0) ok263 29 rfl rfl rfl ?_
    refine r_putI ok263 30 rfl rfl rfl rfl ?_
    refine r_aload_n ok263 31 rfl rfl rfl ?_
    refine r_iconst (v := 0) ok263 32 rfl rfl rfl ?_
    refine r_putI ok263 33 rfl rfl rfl rfl ?_
    refine r_aload_n ok263 34 rfl rfl rfl ?_
    refine r_invVv (as := []) (S := []) ok263 35 rfl rfl mf175 rfl rfl (Nat.le_of_ble_eq_true rfl) rfl h1 (fun σ2 h2 => ?_)
    exact h2
  · have h1 := h.2 c1
    refine r_bipush (v := (-2)) ok263 4 rfl rfl rfl ?_
    exact r_iret ok263 5 rfl rfl rfl h1

set_option maxRecDepth 100000 in
set_option maxHeartbeats 4000000 in
theorem B263_65 {Θ : Th} {d : Nat} {σ : Mem} {Q : Po} 
    (h : ((¬ (σ.1 124 2) = 0 → (((σ.1 124 2) ≤ 0 → G Θ (d + 1) 263 97 [some (.ref 124), some (.int 0)] [] σ Q) ∧ (¬ (σ.1 124 2) ≤ 0 → Q (some (.int (-1))) σ))) ∧ ((σ.1 124 2) = 0 → (((σ.1 124 6) = 0 → (((σ.1 124 2) ≤ 0 → G Θ (d + 1) 263 97 [some (.ref 124), some (.int 0)] [] σ Q) ∧ (¬ (σ.1 124 2) ≤ 0 → Q (some (.int (-1))) σ))) ∧ (¬ (σ.1 124 6) = 0 → Cv Θ d 262 [.ref 124] σ (fun σ5 => G Θ (d + 1) 263 65 [some (.ref 124), none] [] σ5 Q)))))) :
    G Θ (d + 1) 263 65 [some (.ref 124), none] [] σ Q := by
  refine r_aload_n ok263 36 rfl rfl rfl ?_
  refine r_getI ok263 37 rfl rfl rfl rfl ?_
  refine r_if_ne ok263 38 rfl rfl (fun c1 => ?_) (fun c1 => ?_)
  · have h1 := h.1 c1
    refine r_aload_n ok263 45 rfl rfl rfl ?_
    refine r_getI ok263 46 rfl rfl rfl rfl ?_
    refine r_if_le ok263 47 rfl rfl (fun c2 => ?_) (fun c2 => ?_)
    · have h2 := h1.1 c2
      refine r_iconst (v := 0) ok263 50 rfl rfl rfl ?_
      refine r_istore_n ok263 51 rfl rfl ?_
      exact h2
    · have h2 := h1.2 c2
      refine r_iconst (v := (-1)) ok263 48 rfl rfl rfl ?_
      exact r_iret ok263 49 rfl rfl rfl h2
  · have h1 := h.2 c1
    refine r_aload_n ok263 39 rfl rfl rfl ?_
    refine r_getI ok263 40 rfl rfl rfl rfl ?_
    refine r_if_eq ok263 41 rfl rfl (fun c3 => ?_) (fun c3 => ?_)
    · have h3 := h1.1 c3
      refine r_aload_n ok263 45 rfl rfl rfl ?_
      refine r_getI ok263 46 rfl rfl rfl rfl ?_
      refine r_if_le ok263 47 rfl rfl (fun c4 => ?_) (fun c4 => ?_)
      · have h4 := h3.1 c4
        refine r_iconst (v := 0) ok263 50 rfl rfl rfl ?_
        refine r_istore_n ok263 51 rfl rfl ?_
        exact h4
      · have h4 := h3.2 c4
        refine r_iconst (v := (-1)) ok263 48 rfl rfl rfl ?_
        exact r_iret ok263 49 rfl rfl rfl h4
    · have h3 := h1.2 c3
      refine r_aload_n ok263 42 rfl rfl rfl ?_
      refine r_invVv (as := []) (S := []) ok263 43 rfl rfl mf262 rfl rfl (Nat.le_of_ble_eq_true rfl) rfl h3 (fun σ5 h5 => ?_)
      refine r_goto ok263 44 rfl rfl ?_
      exact h5

set_option maxRecDepth 100000 in
set_option maxHeartbeats 4000000 in
theorem B263_97 {Θ : Th} {d : Nat} {σ : Mem} {Q : Po} {x1 : Int32} 
    (h : (((σ.1 124 68) ≤ x1 → G Θ (d + 1) 263 137 [some (.ref 124), some (.int 0)] [] σ Q) ∧ (¬ (σ.1 124 68) ≤ x1 → (vp_in x1 600 ∧ (vp_in x1 600 ∧ (vp_in x1 600 ∧ (vp_in x1 600 ∧ G Θ (d + 1) 263 97 [some (.ref 124), some (.int (x1 + 1))] [] (sI (sI σ 166 (x1.toNatClampNeg) (σ.1 161 x1.toNatClampNeg)) 167 (x1.toNatClampNeg) ((sI σ 166 (x1.toNatClampNeg) (σ.1 161 x1.toNatClampNeg)).1 162 x1.toNatClampNeg)) Q))))))) :
    G Θ (d + 1) 263 97 [some (.ref 124), some (.int x1)] [] σ Q := by
  refine r_iload_n ok263 52 rfl rfl rfl ?_
  refine r_aload_n ok263 53 rfl rfl rfl ?_
  refine r_getI ok263 54 rfl rfl rfl rfl ?_
  refine r_icmp_ge ok263 55 rfl rfl (fun c1 => ?_) (fun c1 => ?_)
  · have h1 := h.1 c1
    refine r_iconst (v := 0) ok263 74 rfl rfl rfl ?_
    refine r_istore_n ok263 75 rfl rfl ?_
    exact h1
  · have h1 := h.2 c1
    refine r_aload_n ok263 56 rfl rfl rfl ?_
    refine r_getF ok263 57 rfl rfl rfl rfl ?_
    refine r_iload_n ok263 58 rfl rfl rfl ?_
    refine r_aload_n ok263 59 rfl rfl rfl ?_
    refine r_getF ok263 60 rfl rfl rfl rfl ?_
    refine r_iload_n ok263 61 rfl rfl rfl ?_
    obtain ⟨c2, h2⟩ := h1
    refine r_iald ok263 62 rfl rfl rfl c2 ?_
    obtain ⟨c3, h3⟩ := h2
    refine r_iast ok263 63 rfl rfl rfl c3 ?_
    refine r_aload_n ok263 64 rfl rfl rfl ?_
    refine r_getF ok263 65 rfl rfl rfl rfl ?_
    refine r_iload_n ok263 66 rfl rfl rfl ?_
    refine r_aload_n ok263 67 rfl rfl rfl ?_
    refine r_getF ok263 68 rfl rfl rfl rfl ?_
    refine r_iload_n ok263 69 rfl rfl rfl ?_
    obtain ⟨c4, h4⟩ := h3
    refine r_iald ok263 70 rfl rfl rfl c4 ?_
    obtain ⟨c5, h5⟩ := h4
    refine r_iast ok263 71 rfl rfl rfl c5 ?_
    refine r_iinc (v := x1 + 1) ok263 72 rfl rfl rfl rfl ?_
    refine r_goto ok263 73 rfl rfl ?_
    exact h5

set_option maxRecDepth 100000 in
set_option maxHeartbeats 4000000 in
theorem B263_137 {Θ : Th} {d : Nat} {σ : Mem} {Q : Po} {x1 : Int32} 
    (h : (((σ.1 124 69) ≤ x1 → Q (some (.int ((sI σ 124 70 (σ.1 124 69)).1 124 70))) (sI σ 124 70 (σ.1 124 69))) ∧ (¬ (σ.1 124 69) ≤ x1 → (vp_in x1 9 ∧ (vp_in x1 9 ∧ (vp_in (x1 + 1) 9 ∧ (vp_in (x1 + 1) 9 ∧ (vp_in x1 8 ∧ (vp_in x1 8 ∧ (vp_in x1 8 ∧ (vp_in x1 8 ∧ G Θ (d + 1) 263 137 [some (.ref 124), some (.int (x1 + 1))] [] (sI (sI (sI (sI σ 168 (x1.toNatClampNeg) (σ.1 163 x1.toNatClampNeg)) 168 ((x1 + 1).toNatClampNeg) ((sI σ 168 (x1.toNatClampNeg) (σ.1 163 x1.toNatClampNeg)).1 163 (x1 + 1).toNatClampNeg)) 169 (x1.toNatClampNeg) ((sI (sI σ 168 (x1.toNatClampNeg) (σ.1 163 x1.toNatClampNeg)) 168 ((x1 + 1).toNatClampNeg) ((sI σ 168 (x1.toNatClampNeg) (σ.1 163 x1.toNatClampNeg)).1 163 (x1 + 1).toNatClampNeg)).1 164 x1.toNatClampNeg)) 170 (x1.toNatClampNeg) ((sI (sI (sI σ 168 (x1.toNatClampNeg) (σ.1 163 x1.toNatClampNeg)) 168 ((x1 + 1).toNatClampNeg) ((sI σ 168 (x1.toNatClampNeg) (σ.1 163 x1.toNatClampNeg)).1 163 (x1 + 1).toNatClampNeg)) 169 (x1.toNatClampNeg) ((sI (sI σ 168 (x1.toNatClampNeg) (σ.1 163 x1.toNatClampNeg)) 168 ((x1 + 1).toNatClampNeg) ((sI σ 168 (x1.toNatClampNeg) (σ.1 163 x1.toNatClampNeg)).1 163 (x1 + 1).toNatClampNeg)).1 164 x1.toNatClampNeg)).1 165 x1.toNatClampNeg)) Q))))))))))) :
    G Θ (d + 1) 263 137 [some (.ref 124), some (.int x1)] [] σ Q := by
  refine r_iload_n ok263 76 rfl rfl rfl ?_
  refine r_aload_n ok263 77 rfl rfl rfl ?_
  refine r_getI ok263 78 rfl rfl rfl rfl ?_
  refine r_icmp_ge ok263 79 rfl rfl (fun c1 => ?_) (fun c1 => ?_)
  · have h1 := h.1 c1
    refine r_aload_n ok263 118 rfl rfl rfl ?_
    refine r_aload_n ok263 119 rfl rfl rfl ?_
    refine r_getI ok263 120 rfl rfl rfl rfl ?_
    refine r_putI ok263 121 rfl rfl rfl rfl ?_
    refine r_aload_n ok263 122 rfl rfl rfl ?_
    refine r_getI ok263 123 rfl rfl rfl rfl ?_
    exact r_iret ok263 124 rfl rfl rfl h1
  · have h1 := h.2 c1
    refine r_aload_n ok263 80 rfl rfl rfl ?_
    refine r_getF ok263 81 rfl rfl rfl rfl ?_
    refine r_iload_n ok263 82 rfl rfl rfl ?_
    refine r_aload_n ok263 83 rfl rfl rfl ?_
    refine r_getF ok263 84 rfl rfl rfl rfl ?_
    refine r_iload_n ok263 85 rfl rfl rfl ?_
    obtain ⟨c2, h2⟩ := h1
    refine r_iald ok263 86 rfl rfl rfl c2 ?_
    obtain ⟨c3, h3⟩ := h2
    refine r_iast ok263 87 rfl rfl rfl c3 ?_
    refine r_aload_n ok263 88 rfl rfl rfl ?_
    refine r_getF ok263 89 rfl rfl rfl rfl ?_
    refine r_iload_n ok263 90 rfl rfl rfl ?_
    refine r_iconst (v := 1) ok263 91 rfl rfl rfl ?_
    refine r_iadd ok263 92 rfl rfl ?_
    refine r_aload_n ok263 93 rfl rfl rfl ?_
    refine r_getF ok263 94 rfl rfl rfl rfl ?_
    refine r_iload_n ok263 95 rfl rfl rfl ?_
    refine r_iconst (v := 1) ok263 96 rfl rfl rfl ?_
    refine r_iadd ok263 97 rfl rfl ?_
    obtain ⟨c4, h4⟩ := h3
    refine r_iald ok263 98 rfl rfl rfl c4 ?_
    obtain ⟨c5, h5⟩ := h4
    refine r_iast ok263 99 rfl rfl rfl c5 ?_
    refine r_aload_n ok263 100 rfl rfl rfl ?_
    refine r_getF ok263 101 rfl rfl rfl rfl ?_
    refine r_iload_n ok263 102 rfl rfl rfl ?_
    refine r_aload_n ok263 103 rfl rfl rfl ?_
    refine r_getF ok263 104 rfl rfl rfl rfl ?_
    refine r_iload_n ok263 105 rfl rfl rfl ?_
    obtain ⟨c6, h6⟩ := h5
    refine r_iald ok263 106 rfl rfl rfl c6 ?_
    obtain ⟨c7, h7⟩ := h6
    refine r_iast ok263 107 rfl rfl rfl c7 ?_
    refine r_aload_n ok263 108 rfl rfl rfl ?_
    refine r_getF ok263 109 rfl rfl rfl rfl ?_
    refine r_iload_n ok263 110 rfl rfl rfl ?_
    refine r_aload_n ok263 111 rfl rfl rfl ?_
    refine r_getF ok263 112 rfl rfl rfl rfl ?_
    refine r_iload_n ok263 113 rfl rfl rfl ?_
    obtain ⟨c8, h8⟩ := h7
    refine r_iald ok263 114 rfl rfl rfl c8 ?_
    obtain ⟨c9, h9⟩ := h8
    refine r_iast ok263 115 rfl rfl rfl c9 ?_
    refine r_iinc (v := x1 + 1) ok263 116 rfl rfl rfl rfl ?_
    refine r_goto ok263 117 rfl rfl ?_
    exact h9

theorem K263 {Θ : Th} {d : Nat} {σ : Mem} {Q : Po} (h : G Θ (d + 1) 263 0 [some (.ref 124), none] [] σ Q) : Cm Θ (d + 1) 263 [.ref 124] σ Q :=
  C_of_G okM263 (Nat.le_of_ble_eq_true rfl) rfl h

-- 264: LikeYearsModel.worked(III)I
set_option maxRecDepth 100000 in
set_option maxHeartbeats 4000000 in
theorem B264_0 {Θ : Th} {d : Nat} {σ : Mem} {Q : Po} {x0 : Int32} {x1 : Int32} {x2 : Int32} 
    (h : (((x0.toInt < 20 ∨ 27 < x0.toInt) → Q (some (.int (x1 * x2))) σ) ∧ (x0.toInt = 20 → ((¬ x1 = 0 → Q (some (.int 1)) σ) ∧ (x1 = 0 → ((x2 = 0 → Q (some (.int 0)) σ) ∧ (¬ x2 = 0 → Q (some (.int 1)) σ))))) ∧ (x0.toInt = 21 → ((x1 = 0 → Q (some (.int 0)) σ) ∧ (¬ x1 = 0 → ((x2 = 0 → Q (some (.int 0)) σ) ∧ (¬ x2 = 0 → Q (some (.int 1)) σ))))) ∧ (x0.toInt = 22 → Q (some (.int (x1 * x2))) σ) ∧ (x0.toInt = 23 → ((¬ x1 = x2 → Q (some (.int 0)) σ) ∧ (x1 = x2 → Q (some (.int 1)) σ))) ∧ (x0.toInt = 24 → ((x2 ≤ x1 → Q (some (.int 0)) σ) ∧ (¬ x2 ≤ x1 → Q (some (.int 1)) σ))) ∧ (x0.toInt = 25 → ((x1 ≤ x2 → Q (some (.int 0)) σ) ∧ (¬ x1 ≤ x2 → Q (some (.int 1)) σ))) ∧ (x0.toInt = 26 → Q (some (.int (x1 + x2))) σ) ∧ (x0.toInt = 27 → Q (some (.int (x1 - x2))) σ))) :
    G Θ d 264 0 [some (.int x0), some (.int x1), some (.int x2)] [] σ Q := by
  refine r_iload_n ok264 0 rfl rfl rfl ?_
  refine r_tsw (tl := [48, 62, 117, 76, 87, 98, 109, 113]) ok264 1 rfl rfl rfl rfl (fun c1 => ?_) ?_
  · have h1 := h.1 c1
    refine r_iload_n ok264 47 rfl rfl rfl ?_
    refine r_iload_n ok264 48 rfl rfl rfl ?_
    refine r_imul ok264 49 rfl rfl ?_
    exact r_iret ok264 50 rfl rfl rfl h1
  · refine And.intro (fun c1 => ?_) ?_
    · have h1 := h.2.1 c1
      refine r_iload_n ok264 2 rfl rfl rfl ?_
      refine r_if_ne ok264 3 rfl rfl (fun c2 => ?_) (fun c2 => ?_)
      · have h2 := h1.1 c2
        refine r_iconst (v := 1) ok264 6 rfl rfl rfl ?_
        refine r_goto ok264 7 rfl rfl ?_
        exact r_iret ok264 9 rfl rfl rfl h2
      · have h2 := h1.2 c2
        refine r_iload_n ok264 4 rfl rfl rfl ?_
        refine r_if_eq ok264 5 rfl rfl (fun c3 => ?_) (fun c3 => ?_)
        · have h3 := h2.1 c3
          refine r_iconst (v := 0) ok264 8 rfl rfl rfl ?_
          exact r_iret ok264 9 rfl rfl rfl h3
        · have h3 := h2.2 c3
          refine r_iconst (v := 1) ok264 6 rfl rfl rfl ?_
          refine r_goto ok264 7 rfl rfl ?_
          exact r_iret ok264 9 rfl rfl rfl h3
    · refine And.intro (fun c1 => ?_) ?_
      · have h1 := h.2.2.1 c1
        refine r_iload_n ok264 10 rfl rfl rfl ?_
        refine r_if_eq ok264 11 rfl rfl (fun c4 => ?_) (fun c4 => ?_)
        · have h4 := h1.1 c4
          refine r_iconst (v := 0) ok264 16 rfl rfl rfl ?_
          exact r_iret ok264 17 rfl rfl rfl h4
        · have h4 := h1.2 c4
          refine r_iload_n ok264 12 rfl rfl rfl ?_
          refine r_if_eq ok264 13 rfl rfl (fun c5 => ?_) (fun c5 => ?_)
          · have h5 := h4.1 c5
            refine r_iconst (v := 0) ok264 16 rfl rfl rfl ?_
            exact r_iret ok264 17 rfl rfl rfl h5
          · have h5 := h4.2 c5
            refine r_iconst (v := 1) ok264 14 rfl rfl rfl ?_
            refine r_goto ok264 15 rfl rfl ?_
            exact r_iret ok264 17 rfl rfl rfl h5
      · refine And.intro (fun c1 => ?_) ?_
        · have h1 := h.2.2.2.1 c1
          refine r_iload_n ok264 47 rfl rfl rfl ?_
          refine r_iload_n ok264 48 rfl rfl rfl ?_
          refine r_imul ok264 49 rfl rfl ?_
          exact r_iret ok264 50 rfl rfl rfl h1
        · refine And.intro (fun c1 => ?_) ?_
          · have h1 := h.2.2.2.2.1 c1
            refine r_iload_n ok264 18 rfl rfl rfl ?_
            refine r_iload_n ok264 19 rfl rfl rfl ?_
            refine r_icmp_ne ok264 20 rfl rfl (fun c6 => ?_) (fun c6 => ?_)
            · have h6 := h1.1 c6
              refine r_iconst (v := 0) ok264 23 rfl rfl rfl ?_
              exact r_iret ok264 24 rfl rfl rfl h6
            · have h6 := h1.2 c6
              refine r_iconst (v := 1) ok264 21 rfl rfl rfl ?_
              refine r_goto ok264 22 rfl rfl ?_
              exact r_iret ok264 24 rfl rfl rfl h6
          · refine And.intro (fun c1 => ?_) ?_
            · have h1 := h.2.2.2.2.2.1 c1
              refine r_iload_n ok264 25 rfl rfl rfl ?_
              refine r_iload_n ok264 26 rfl rfl rfl ?_
              refine r_icmp_ge ok264 27 rfl rfl (fun c7 => ?_) (fun c7 => ?_)
              · have h7 := h1.1 c7
                refine r_iconst (v := 0) ok264 30 rfl rfl rfl ?_
                exact r_iret ok264 31 rfl rfl rfl h7
              · have h7 := h1.2 c7
                refine r_iconst (v := 1) ok264 28 rfl rfl rfl ?_
                refine r_goto ok264 29 rfl rfl ?_
                exact r_iret ok264 31 rfl rfl rfl h7
            · refine And.intro (fun c1 => ?_) ?_
              · have h1 := h.2.2.2.2.2.2.1 c1
                refine r_iload_n ok264 32 rfl rfl rfl ?_
                refine r_iload_n ok264 33 rfl rfl rfl ?_
                refine r_icmp_le ok264 34 rfl rfl (fun c8 => ?_) (fun c8 => ?_)
                · have h8 := h1.1 c8
                  refine r_iconst (v := 0) ok264 37 rfl rfl rfl ?_
                  exact r_iret ok264 38 rfl rfl rfl h8
                · have h8 := h1.2 c8
                  refine r_iconst (v := 1) ok264 35 rfl rfl rfl ?_
                  refine r_goto ok264 36 rfl rfl ?_
                  exact r_iret ok264 38 rfl rfl rfl h8
              · refine And.intro (fun c1 => ?_) ?_
                · have h1 := h.2.2.2.2.2.2.2.1 c1
                  refine r_iload_n ok264 39 rfl rfl rfl ?_
                  refine r_iload_n ok264 40 rfl rfl rfl ?_
                  refine r_iadd ok264 41 rfl rfl ?_
                  exact r_iret ok264 42 rfl rfl rfl h1
                · intro c1
                  have h1 := h.2.2.2.2.2.2.2.2 c1
                  refine r_iload_n ok264 43 rfl rfl rfl ?_
                  refine r_iload_n ok264 44 rfl rfl rfl ?_
                  refine r_isub ok264 45 rfl rfl ?_
                  exact r_iret ok264 46 rfl rfl rfl h1

theorem K264 {Θ : Th} {d : Nat} {σ : Mem} {Q : Po} {x0 : Int32} {x1 : Int32} {x2 : Int32} (h : G Θ d 264 0 [some (.int x0), some (.int x1), some (.int x2)] [] σ Q) : Cm Θ d 264 [.int x0, .int x1, .int x2] σ Q :=
  C_of_G okM264 (Nat.le_of_ble_eq_true rfl) rfl h

-- 265: LikeYearsModel.askedOf(II)I
set_option maxRecDepth 100000 in
set_option maxHeartbeats 4000000 in
theorem B265_0 {Θ : Th} {d : Nat} {σ : Mem} {Q : Po} {x1 : Int32} {x2 : Int32} 
    (h : (vp_in x2 600 ∧ ((((σ.1 166 x2.toNatClampNeg).toInt < 0 ∨ 4 < (σ.1 166 x2.toNatClampNeg).toInt) → (vp_in x1 16 ∧ Q (some (.int (σ.1 144 x1.toNatClampNeg))) σ)) ∧ ((σ.1 166 x2.toNatClampNeg).toInt = 0 → (vp_in x2 600 ∧ Q (some (.int (σ.1 167 x2.toNatClampNeg))) σ)) ∧ ((σ.1 166 x2.toNatClampNeg).toInt = 1 → (vp_in x2 600 ∧ (vp_in ((6 * x1) + (σ.1 167 x2.toNatClampNeg)) 96 ∧ Q (some (.int (σ.1 140 ((6 * x1) + (σ.1 167 x2.toNatClampNeg)).toNatClampNeg))) σ))) ∧ ((σ.1 166 x2.toNatClampNeg).toInt = 2 → (vp_in x1 16 ∧ Q (some (.int (σ.1 141 x1.toNatClampNeg))) σ)) ∧ ((σ.1 166 x2.toNatClampNeg).toInt = 3 → (vp_in x1 16 ∧ Q (some (.int (σ.1 142 x1.toNatClampNeg))) σ)) ∧ ((σ.1 166 x2.toNatClampNeg).toInt = 4 → (vp_in x1 16 ∧ Q (some (.int (σ.1 143 x1.toNatClampNeg))) σ))))) :
    G Θ d 265 0 [some (.ref 124), some (.int x1), some (.int x2)] [] σ Q := by
  refine r_aload_n ok265 0 rfl rfl rfl ?_
  refine r_getF ok265 1 rfl rfl rfl rfl ?_
  refine r_iload_n ok265 2 rfl rfl rfl ?_
  obtain ⟨c1, h1⟩ := h
  refine r_iald ok265 3 rfl rfl rfl c1 ?_
  refine r_tsw (tl := [40, 47, 64, 71, 78]) ok265 4 rfl rfl rfl rfl (fun c2 => ?_) ?_
  · have h2 := h1.1 c2
    refine r_aload_n ok265 37 rfl rfl rfl ?_
    refine r_getF ok265 38 rfl rfl rfl rfl ?_
    refine r_iload_n ok265 39 rfl rfl rfl ?_
    obtain ⟨c3, h3⟩ := h2
    refine r_iald ok265 40 rfl rfl rfl c3 ?_
    exact r_iret ok265 41 rfl rfl rfl h3
  · refine And.intro (fun c2 => ?_) ?_
    · have h2 := h1.2.1 c2
      refine r_aload_n ok265 5 rfl rfl rfl ?_
      refine r_getF ok265 6 rfl rfl rfl rfl ?_
      refine r_iload_n ok265 7 rfl rfl rfl ?_
      obtain ⟨c4, h4⟩ := h2
      refine r_iald ok265 8 rfl rfl rfl c4 ?_
      exact r_iret ok265 9 rfl rfl rfl h4
    · refine And.intro (fun c2 => ?_) ?_
      · have h2 := h1.2.2.1 c2
        refine r_aload_n ok265 10 rfl rfl rfl ?_
        refine r_getF ok265 11 rfl rfl rfl rfl ?_
        refine r_bipush (v := 6) ok265 12 rfl rfl rfl ?_
        refine r_iload_n ok265 13 rfl rfl rfl ?_
        refine r_imul ok265 14 rfl rfl ?_
        refine r_aload_n ok265 15 rfl rfl rfl ?_
        refine r_getF ok265 16 rfl rfl rfl rfl ?_
        refine r_iload_n ok265 17 rfl rfl rfl ?_
        obtain ⟨c5, h5⟩ := h2
        refine r_iald ok265 18 rfl rfl rfl c5 ?_
        refine r_iadd ok265 19 rfl rfl ?_
        obtain ⟨c6, h6⟩ := h5
        refine r_iald ok265 20 rfl rfl rfl c6 ?_
        exact r_iret ok265 21 rfl rfl rfl h6
      · refine And.intro (fun c2 => ?_) ?_
        · have h2 := h1.2.2.2.1 c2
          refine r_aload_n ok265 22 rfl rfl rfl ?_
          refine r_getF ok265 23 rfl rfl rfl rfl ?_
          refine r_iload_n ok265 24 rfl rfl rfl ?_
          obtain ⟨c7, h7⟩ := h2
          refine r_iald ok265 25 rfl rfl rfl c7 ?_
          exact r_iret ok265 26 rfl rfl rfl h7
        · refine And.intro (fun c2 => ?_) ?_
          · have h2 := h1.2.2.2.2.1 c2
            refine r_aload_n ok265 27 rfl rfl rfl ?_
            refine r_getF ok265 28 rfl rfl rfl rfl ?_
            refine r_iload_n ok265 29 rfl rfl rfl ?_
            obtain ⟨c8, h8⟩ := h2
            refine r_iald ok265 30 rfl rfl rfl c8 ?_
            exact r_iret ok265 31 rfl rfl rfl h8
          · intro c2
            have h2 := h1.2.2.2.2.2 c2
            refine r_aload_n ok265 32 rfl rfl rfl ?_
            refine r_getF ok265 33 rfl rfl rfl rfl ?_
            refine r_iload_n ok265 34 rfl rfl rfl ?_
            obtain ⟨c9, h9⟩ := h2
            refine r_iald ok265 35 rfl rfl rfl c9 ?_
            exact r_iret ok265 36 rfl rfl rfl h9

theorem K265 {Θ : Th} {d : Nat} {σ : Mem} {Q : Po} {x1 : Int32} {x2 : Int32} (h : G Θ d 265 0 [some (.ref 124), some (.int x1), some (.int x2)] [] σ Q) : Cm Θ d 265 [.ref 124, .int x1, .int x2] σ Q :=
  C_of_G okM265 (Nat.le_of_ble_eq_true rfl) rfl h

-- 266: LikeYearsModel.holds(II)Z
set_option maxRecDepth 100000 in
set_option maxHeartbeats 4000000 in
theorem B266_0 {Θ : Th} {d : Nat} {σ : Mem} {Q : Po} {x1 : Int32} {x2 : Int32} 
    (h : (vp_in x1 9 ∧ G Θ (d + 1) 266 10 [some (.ref 124), some (.int x1), some (.int x2), some (.int 0), some (.int (σ.1 168 x1.toNatClampNeg))] [] σ Q)) :
    G Θ (d + 1) 266 0 [some (.ref 124), some (.int x1), some (.int x2), none, none] [] σ Q := by
  refine r_iconst (v := 0) ok266 0 rfl rfl rfl ?_
  refine r_istore_n ok266 1 rfl rfl ?_
  refine r_aload_n ok266 2 rfl rfl rfl ?_
  refine r_getF ok266 3 rfl rfl rfl rfl ?_
  refine r_iload_n ok266 4 rfl rfl rfl ?_
  obtain ⟨c1, h1⟩ := h
  refine r_iald ok266 5 rfl rfl rfl c1 ?_
  refine r_istore ok266 6 rfl rfl ?_
  exact h1

set_option maxRecDepth 100000 in
set_option maxHeartbeats 4000000 in
theorem B266_10 {Θ : Th} {d : Nat} {σ : Mem} {Q : Po} {x1 : Int32} {x2 : Int32} {x3 : Int32} {x4 : Int32} 
    (h : (vp_in (x1 + 1) 9 ∧ (((σ.1 168 (x1 + 1).toNatClampNeg) ≤ x4 → (((σ.1 172 (0 : Int32).toNatClampNeg) = 0 → Q (some (.int 0)) σ) ∧ (¬ (σ.1 172 (0 : Int32).toNatClampNeg) = 0 → Q (some (.int 1)) σ))) ∧ (¬ (σ.1 168 (x1 + 1).toNatClampNeg) ≤ x4 → (vp_in x4 600 ∧ ((20 ≤ (σ.1 166 x4.toNatClampNeg) → (vp_in x4 600 ∧ ((¬ (σ.1 166 x4.toNatClampNeg) = 22 → (vp_in x4 600 ∧ (vp_in ((x3 + (-1)) - 1) 60 ∧ (vp_in (x3 + (-1)) 60 ∧ Ci Θ d 264 [.int (σ.1 166 x4.toNatClampNeg), .int (σ.1 172 ((x3 + (-1)) - 1).toNatClampNeg), .int (σ.1 172 (x3 + (-1)).toNatClampNeg)] σ (fun v12 σ12 => (vp_in ((x3 + (-1)) - 1) 60 ∧ G Θ (d + 1) 266 10 [some (.ref 124), some (.int x1), some (.int x2), some (.int (x3 + (-1))), some (.int (x4 + 1))] [] (sI σ12 172 (((x3 + (-1)) - 1).toNatClampNeg) v12) Q)))))) ∧ ((σ.1 166 x4.toNatClampNeg) = 22 → (vp_in (x3 - 1) 60 ∧ ((¬ (σ.1 172 (x3 - 1).toNatClampNeg) = 0 → (vp_in (x3 - 1) 60 ∧ G Θ (d + 1) 266 10 [some (.ref 124), some (.int x1), some (.int x2), some (.int x3), some (.int (x4 + 1))] [] (sI σ 172 ((x3 - 1).toNatClampNeg) 0) Q)) ∧ ((σ.1 172 (x3 - 1).toNatClampNeg) = 0 → (vp_in (x3 - 1) 60 ∧ G Θ (d + 1) 266 10 [some (.ref 124), some (.int x1), some (.int x2), some (.int x3), some (.int (x4 + 1))] [] (sI σ 172 ((x3 - 1).toNatClampNeg) 1) Q)))))))) ∧ (¬ 20 ≤ (σ.1 166 x4.toNatClampNeg) → Ci Θ d 265 [.ref 124, .int x2, .int x4] σ (fun v18 σ18 => (vp_in x3 60 ∧ G Θ (d + 1) 266 10 [some (.ref 124), some (.int x1), some (.int x2), some (.int (x3 + 1)), some (.int (x4 + 1))] [] (sI σ18 172 (x3.toNatClampNeg) v18) Q))))))))) :
    G Θ (d + 1) 266 10 [some (.ref 124), some (.int x1), some (.int x2), some (.int x3), some (.int x4)] [] σ Q := by
  refine r_iload ok266 7 rfl rfl rfl ?_
  refine r_aload_n ok266 8 rfl rfl rfl ?_
  refine r_getF ok266 9 rfl rfl rfl rfl ?_
  refine r_iload_n ok266 10 rfl rfl rfl ?_
  refine r_iconst (v := 1) ok266 11 rfl rfl rfl ?_
  refine r_iadd ok266 12 rfl rfl ?_
  obtain ⟨c1, h1⟩ := h
  refine r_iald ok266 13 rfl rfl rfl c1 ?_
  refine r_icmp_ge ok266 14 rfl rfl (fun c2 => ?_) (fun c2 => ?_)
  · have h2 := h1.1 c2
    refine r_aload_n ok266 78 rfl rfl rfl ?_
    refine r_getF ok266 79 rfl rfl rfl rfl ?_
    refine r_iconst (v := 0) ok266 80 rfl rfl rfl ?_
    refine r_iald ok266 81 rfl rfl rfl (by unfold vp_in; decide) ?_
    refine r_if_eq ok266 82 rfl rfl (fun c4 => ?_) (fun c4 => ?_)
    · have h4 := h2.1 c4
      refine r_iconst (v := 0) ok266 85 rfl rfl rfl ?_
      exact r_zret ok266 86 rfl rfl rfl (Or.inl rfl) h4
    · have h4 := h2.2 c4
      refine r_iconst (v := 1) ok266 83 rfl rfl rfl ?_
      refine r_goto ok266 84 rfl rfl ?_
      exact r_zret ok266 86 rfl rfl rfl (Or.inr rfl) h4
  · have h2 := h1.2 c2
    refine r_aload_n ok266 15 rfl rfl rfl ?_
    refine r_getF ok266 16 rfl rfl rfl rfl ?_
    refine r_iload ok266 17 rfl rfl rfl ?_
    obtain ⟨c5, h5⟩ := h2
    refine r_iald ok266 18 rfl rfl rfl c5 ?_
    refine r_bipush (v := 20) ok266 19 rfl rfl rfl ?_
    refine r_icmp_ge ok266 20 rfl rfl (fun c6 => ?_) (fun c6 => ?_)
    · have h6 := h5.1 c6
      refine r_aload_n ok266 31 rfl rfl rfl ?_
      refine r_getF ok266 32 rfl rfl rfl rfl ?_
      refine r_iload ok266 33 rfl rfl rfl ?_
      obtain ⟨c7, h7⟩ := h6
      refine r_iald ok266 34 rfl rfl rfl c7 ?_
      refine r_bipush (v := 22) ok266 35 rfl rfl rfl ?_
      refine r_icmp_ne ok266 36 rfl rfl (fun c8 => ?_) (fun c8 => ?_)
      · have h8 := h7.1 c8
        refine r_iinc (v := x3 + (-1)) ok266 54 rfl rfl rfl rfl ?_
        refine r_aload_n ok266 55 rfl rfl rfl ?_
        refine r_getF ok266 56 rfl rfl rfl rfl ?_
        refine r_iload_n ok266 57 rfl rfl rfl ?_
        refine r_iconst (v := 1) ok266 58 rfl rfl rfl ?_
        refine r_isub ok266 59 rfl rfl ?_
        refine r_aload_n ok266 60 rfl rfl rfl ?_
        refine r_getF ok266 61 rfl rfl rfl rfl ?_
        refine r_iload ok266 62 rfl rfl rfl ?_
        obtain ⟨c9, h9⟩ := h8
        refine r_iald ok266 63 rfl rfl rfl c9 ?_
        refine r_aload_n ok266 64 rfl rfl rfl ?_
        refine r_getF ok266 65 rfl rfl rfl rfl ?_
        refine r_iload_n ok266 66 rfl rfl rfl ?_
        refine r_iconst (v := 1) ok266 67 rfl rfl rfl ?_
        refine r_isub ok266 68 rfl rfl ?_
        obtain ⟨c10, h10⟩ := h9
        refine r_iald ok266 69 rfl rfl rfl c10 ?_
        refine r_aload_n ok266 70 rfl rfl rfl ?_
        refine r_getF ok266 71 rfl rfl rfl rfl ?_
        refine r_iload_n ok266 72 rfl rfl rfl ?_
        obtain ⟨c11, h11⟩ := h10
        refine r_iald ok266 73 rfl rfl rfl c11 ?_
        refine r_invSi (as := [.int (σ.1 166 x4.toNatClampNeg), .int (σ.1 172 ((x3 + (-1)) - 1).toNatClampNeg), .int (σ.1 172 (x3 + (-1)).toNatClampNeg)]) (S := [.int ((x3 + (-1)) - 1), .ref 172]) ok266 74 rfl rfl mf264 rfl (Nat.le_of_ble_eq_true rfl) rfl h11 (fun v12 σ12 h12 => ?_)
        obtain ⟨c13, h13⟩ := h12
        refine r_iast ok266 75 rfl rfl rfl c13 ?_
        refine r_iinc (v := x4 + 1) ok266 76 rfl rfl rfl rfl ?_
        refine r_goto ok266 77 rfl rfl ?_
        exact h13
      · have h8 := h7.2 c8
        refine r_aload_n ok266 37 rfl rfl rfl ?_
        refine r_getF ok266 38 rfl rfl rfl rfl ?_
        refine r_iload_n ok266 39 rfl rfl rfl ?_
        refine r_iconst (v := 1) ok266 40 rfl rfl rfl ?_
        refine r_isub ok266 41 rfl rfl ?_
        refine r_aload_n ok266 42 rfl rfl rfl ?_
        refine r_getF ok266 43 rfl rfl rfl rfl ?_
        refine r_iload_n ok266 44 rfl rfl rfl ?_
        refine r_iconst (v := 1) ok266 45 rfl rfl rfl ?_
        refine r_isub ok266 46 rfl rfl ?_
        obtain ⟨c14, h14⟩ := h8
        refine r_iald ok266 47 rfl rfl rfl c14 ?_
        refine r_if_ne ok266 48 rfl rfl (fun c15 => ?_) (fun c15 => ?_)
        · have h15 := h14.1 c15
          refine r_iconst (v := 0) ok266 51 rfl rfl rfl ?_
          obtain ⟨c16, h16⟩ := h15
          refine r_iast ok266 52 rfl rfl rfl c16 ?_
          refine r_goto ok266 53 rfl rfl ?_
          refine r_iinc (v := x4 + 1) ok266 76 rfl rfl rfl rfl ?_
          refine r_goto ok266 77 rfl rfl ?_
          exact h16
        · have h15 := h14.2 c15
          refine r_iconst (v := 1) ok266 49 rfl rfl rfl ?_
          refine r_goto ok266 50 rfl rfl ?_
          obtain ⟨c17, h17⟩ := h15
          refine r_iast ok266 52 rfl rfl rfl c17 ?_
          refine r_goto ok266 53 rfl rfl ?_
          refine r_iinc (v := x4 + 1) ok266 76 rfl rfl rfl rfl ?_
          refine r_goto ok266 77 rfl rfl ?_
          exact h17
    · have h6 := h5.2 c6
      refine r_aload_n ok266 21 rfl rfl rfl ?_
      refine r_getF ok266 22 rfl rfl rfl rfl ?_
      refine r_iload_n ok266 23 rfl rfl rfl ?_
      refine r_aload_n ok266 24 rfl rfl rfl ?_
      refine r_iload_n ok266 25 rfl rfl rfl ?_
      refine r_iload ok266 26 rfl rfl rfl ?_
      refine r_invVi (as := [.int x2, .int x4]) (S := [.int x3, .ref 172]) ok266 27 rfl rfl mf265 rfl rfl (Nat.le_of_ble_eq_true rfl) rfl h6 (fun v18 σ18 h18 => ?_)
      obtain ⟨c19, h19⟩ := h18
      refine r_iast ok266 28 rfl rfl rfl c19 ?_
      refine r_iinc (v := x3 + 1) ok266 29 rfl rfl rfl rfl ?_
      refine r_goto ok266 30 rfl rfl ?_
      refine r_iinc (v := x4 + 1) ok266 76 rfl rfl rfl rfl ?_
      refine r_goto ok266 77 rfl rfl ?_
      exact h19

theorem K266 {Θ : Th} {d : Nat} {σ : Mem} {Q : Po} {x1 : Int32} {x2 : Int32} (h : G Θ (d + 1) 266 0 [some (.ref 124), some (.int x1), some (.int x2), none, none] [] σ Q) : Cm Θ (d + 1) 266 [.ref 124, .int x1, .int x2] σ Q :=
  C_of_G okM266 (Nat.le_of_ble_eq_true rfl) rfl h

-- 267: LikeYearsModel.lineOf(I)I
set_option maxRecDepth 100000 in
set_option maxHeartbeats 4000000 in
theorem B267_0 {Θ : Th} {d : Nat} {σ : Mem} {Q : Po} {x1 : Int32} 
    (h : G Θ (d + 1) 267 2 [some (.ref 124), some (.int x1), some (.int 0)] [] σ Q) :
    G Θ (d + 1) 267 0 [some (.ref 124), some (.int x1), none] [] σ Q := by
  refine r_iconst (v := 0) ok267 0 rfl rfl rfl ?_
  refine r_istore_n ok267 1 rfl rfl ?_
  exact h

set_option maxRecDepth 100000 in
set_option maxHeartbeats 4000000 in
theorem B267_2 {Θ : Th} {d : Nat} {σ : Mem} {Q : Po} {x1 : Int32} {x2 : Int32} 
    (h : (((σ.1 124 70) ≤ x2 → Q (some (.int (-1))) σ) ∧ (¬ (σ.1 124 70) ≤ x2 → Ci Θ d 266 [.ref 124, .int x2, .int x1] σ (fun v2 σ2 => ((v2 = 0 → G Θ (d + 1) 267 2 [some (.ref 124), some (.int x1), some (.int (x2 + 1))] [] σ2 Q) ∧ (¬ v2 = 0 → Q (some (.int x2)) σ2)))))) :
    G Θ (d + 1) 267 2 [some (.ref 124), some (.int x1), some (.int x2)] [] σ Q := by
  refine r_iload_n ok267 2 rfl rfl rfl ?_
  refine r_aload_n ok267 3 rfl rfl rfl ?_
  refine r_getI ok267 4 rfl rfl rfl rfl ?_
  refine r_icmp_ge ok267 5 rfl rfl (fun c1 => ?_) (fun c1 => ?_)
  · have h1 := h.1 c1
    refine r_iconst (v := (-1)) ok267 15 rfl rfl rfl ?_
    exact r_iret ok267 16 rfl rfl rfl h1
  · have h1 := h.2 c1
    refine r_aload_n ok267 6 rfl rfl rfl ?_
    refine r_iload_n ok267 7 rfl rfl rfl ?_
    refine r_iload_n ok267 8 rfl rfl rfl ?_
    refine r_invVi (as := [.int x2, .int x1]) (S := []) ok267 9 rfl rfl mf266 rfl rfl (Nat.le_of_ble_eq_true rfl) rfl h1 (fun v2 σ2 h2 => ?_)
    refine r_if_eq ok267 10 rfl rfl (fun c3 => ?_) (fun c3 => ?_)
    · have h3 := h2.1 c3
      refine r_iinc (v := x2 + 1) ok267 13 rfl rfl rfl rfl ?_
      refine r_goto ok267 14 rfl rfl ?_
      exact h3
    · have h3 := h2.2 c3
      refine r_iload_n ok267 11 rfl rfl rfl ?_
      exact r_iret ok267 12 rfl rfl rfl h3

theorem K267 {Θ : Th} {d : Nat} {σ : Mem} {Q : Po} {x1 : Int32} (h : G Θ (d + 1) 267 0 [some (.ref 124), some (.int x1), none] [] σ Q) : Cm Θ (d + 1) 267 [.ref 124, .int x1] σ Q :=
  C_of_G okM267 (Nat.le_of_ble_eq_true rfl) rfl h

-- 268: LikeYearsModel.lawOf(I)I
set_option maxRecDepth 100000 in
set_option maxHeartbeats 4000000 in
theorem B268_0 {Θ : Th} {d : Nat} {σ : Mem} {Q : Po} {x1 : Int32} 
    (h : Ci Θ d 200 [.ref 124, .int x1] σ (fun v1 σ1 => ((v1 = 0 → Q (some (.int (-1))) σ1) ∧ (¬ v1 = 0 → Ci Θ d 267 [.ref 124, .int x1] σ1 (fun v3 σ3 => Q (some (.int v3)) σ3))))) :
    G Θ (d + 1) 268 0 [some (.ref 124), some (.int x1)] [] σ Q := by
  refine r_aload_n ok268 0 rfl rfl rfl ?_
  refine r_iload_n ok268 1 rfl rfl rfl ?_
  refine r_invVi (as := [.int x1]) (S := []) ok268 2 rfl rfl mf200 rfl rfl (Nat.le_of_ble_eq_true rfl) rfl h (fun v1 σ1 h1 => ?_)
  refine r_if_eq ok268 3 rfl rfl (fun c2 => ?_) (fun c2 => ?_)
  · have h2 := h1.1 c2
    refine r_iconst (v := (-1)) ok268 8 rfl rfl rfl ?_
    exact r_iret ok268 9 rfl rfl rfl h2
  · have h2 := h1.2 c2
    refine r_aload_n ok268 4 rfl rfl rfl ?_
    refine r_iload_n ok268 5 rfl rfl rfl ?_
    refine r_invVi (as := [.int x1]) (S := []) ok268 6 rfl rfl mf267 rfl rfl (Nat.le_of_ble_eq_true rfl) rfl h2 (fun v3 σ3 h3 => ?_)
    refine r_goto ok268 7 rfl rfl ?_
    exact r_iret ok268 9 rfl rfl rfl h3

theorem K268 {Θ : Th} {d : Nat} {σ : Mem} {Q : Po} {x1 : Int32} (h : G Θ (d + 1) 268 0 [some (.ref 124), some (.int x1)] [] σ Q) : Cm Θ (d + 1) 268 [.ref 124, .int x1] σ Q :=
  C_of_G okM268 (Nat.le_of_ble_eq_true rfl) rfl h

-- 269: LikeYearsModel.movedBy(I)I
set_option maxRecDepth 100000 in
set_option maxHeartbeats 4000000 in
theorem B269_0 {Θ : Th} {d : Nat} {σ : Mem} {Q : Po} {x1 : Int32} 
    (h : Ci Θ d 267 [.ref 124, .int x1] σ (fun v1 σ1 => ((0 ≤ v1 → (vp_in x1 16 ∧ (vp_in v1 8 ∧ (((σ1.1 169 v1.toNatClampNeg) ≤ (σ1.1 143 x1.toNatClampNeg) → (vp_in x1 16 ∧ (vp_in v1 8 ∧ (((σ1.1 143 x1.toNatClampNeg) ≤ (σ1.1 170 v1.toNatClampNeg) → Q (some (.int 0)) σ1) ∧ (¬ (σ1.1 143 x1.toNatClampNeg) ≤ (σ1.1 170 v1.toNatClampNeg) → (vp_in x1 16 ∧ (vp_in v1 8 ∧ Q (some (.int ((σ1.1 143 x1.toNatClampNeg) - (σ1.1 170 v1.toNatClampNeg)))) σ1))))))) ∧ (¬ (σ1.1 169 v1.toNatClampNeg) ≤ (σ1.1 143 x1.toNatClampNeg) → (vp_in v1 8 ∧ (vp_in x1 16 ∧ Q (some (.int ((σ1.1 169 v1.toNatClampNeg) - (σ1.1 143 x1.toNatClampNeg)))) σ1))))))) ∧ (¬ 0 ≤ v1 → Q (some (.int 0)) σ1)))) :
    G Θ (d + 1) 269 0 [some (.ref 124), some (.int x1), none] [] σ Q := by
  refine r_aload_n ok269 0 rfl rfl rfl ?_
  refine r_iload_n ok269 1 rfl rfl rfl ?_
  refine r_invVi (as := [.int x1]) (S := []) ok269 2 rfl rfl mf267 rfl rfl (Nat.le_of_ble_eq_true rfl) rfl h (fun v1 σ1 h1 => ?_)
  refine r_istore_n ok269 3 rfl rfl ?_
  refine r_iload_n ok269 4 rfl rfl rfl ?_
  refine r_if_ge ok269 5 rfl rfl (fun c2 => ?_) (fun c2 => ?_)
  · have h2 := h1.1 c2
    refine r_aload_n ok269 8 rfl rfl rfl ?_
    refine r_getF ok269 9 rfl rfl rfl rfl ?_
    refine r_iload_n ok269 10 rfl rfl rfl ?_
    obtain ⟨c3, h3⟩ := h2
    refine r_iald ok269 11 rfl rfl rfl c3 ?_
    refine r_aload_n ok269 12 rfl rfl rfl ?_
    refine r_getF ok269 13 rfl rfl rfl rfl ?_
    refine r_iload_n ok269 14 rfl rfl rfl ?_
    obtain ⟨c4, h4⟩ := h3
    refine r_iald ok269 15 rfl rfl rfl c4 ?_
    refine r_icmp_ge ok269 16 rfl rfl (fun c5 => ?_) (fun c5 => ?_)
    · have h5 := h4.1 c5
      refine r_aload_n ok269 27 rfl rfl rfl ?_
      refine r_getF ok269 28 rfl rfl rfl rfl ?_
      refine r_iload_n ok269 29 rfl rfl rfl ?_
      obtain ⟨c6, h6⟩ := h5
      refine r_iald ok269 30 rfl rfl rfl c6 ?_
      refine r_aload_n ok269 31 rfl rfl rfl ?_
      refine r_getF ok269 32 rfl rfl rfl rfl ?_
      refine r_iload_n ok269 33 rfl rfl rfl ?_
      obtain ⟨c7, h7⟩ := h6
      refine r_iald ok269 34 rfl rfl rfl c7 ?_
      refine r_icmp_le ok269 35 rfl rfl (fun c8 => ?_) (fun c8 => ?_)
      · have h8 := h7.1 c8
        refine r_iconst (v := 0) ok269 46 rfl rfl rfl ?_
        exact r_iret ok269 47 rfl rfl rfl h8
      · have h8 := h7.2 c8
        refine r_aload_n ok269 36 rfl rfl rfl ?_
        refine r_getF ok269 37 rfl rfl rfl rfl ?_
        refine r_iload_n ok269 38 rfl rfl rfl ?_
        obtain ⟨c9, h9⟩ := h8
        refine r_iald ok269 39 rfl rfl rfl c9 ?_
        refine r_aload_n ok269 40 rfl rfl rfl ?_
        refine r_getF ok269 41 rfl rfl rfl rfl ?_
        refine r_iload_n ok269 42 rfl rfl rfl ?_
        obtain ⟨c10, h10⟩ := h9
        refine r_iald ok269 43 rfl rfl rfl c10 ?_
        refine r_isub ok269 44 rfl rfl ?_
        refine r_goto ok269 45 rfl rfl ?_
        exact r_iret ok269 47 rfl rfl rfl h10
    · have h5 := h4.2 c5
      refine r_aload_n ok269 17 rfl rfl rfl ?_
      refine r_getF ok269 18 rfl rfl rfl rfl ?_
      refine r_iload_n ok269 19 rfl rfl rfl ?_
      obtain ⟨c11, h11⟩ := h5
      refine r_iald ok269 20 rfl rfl rfl c11 ?_
      refine r_aload_n ok269 21 rfl rfl rfl ?_
      refine r_getF ok269 22 rfl rfl rfl rfl ?_
      refine r_iload_n ok269 23 rfl rfl rfl ?_
      obtain ⟨c12, h12⟩ := h11
      refine r_iald ok269 24 rfl rfl rfl c12 ?_
      refine r_isub ok269 25 rfl rfl ?_
      refine r_goto ok269 26 rfl rfl ?_
      exact r_iret ok269 47 rfl rfl rfl h12
  · have h2 := h1.2 c2
    refine r_iconst (v := 0) ok269 6 rfl rfl rfl ?_
    refine r_goto ok269 7 rfl rfl ?_
    exact r_iret ok269 47 rfl rfl rfl h2

theorem K269 {Θ : Th} {d : Nat} {σ : Mem} {Q : Po} {x1 : Int32} (h : G Θ (d + 1) 269 0 [some (.ref 124), some (.int x1), none] [] σ Q) : Cm Θ (d + 1) 269 [.ref 124, .int x1] σ Q :=
  C_of_G okM269 (Nat.le_of_ble_eq_true rfl) rfl h

-- 270: LikeYearsModel.moved(I)I
set_option maxRecDepth 100000 in
set_option maxHeartbeats 4000000 in
theorem B270_0 {Θ : Th} {d : Nat} {σ : Mem} {Q : Po} {x1 : Int32} 
    (h : G Θ (d + 1) 270 13 [some (.ref 124), some (.int x1), some (.int 0), some (.int 0), some (.int (-1)), some (.int 0), some (.int 0), none] [] σ Q) :
    G Θ (d + 1) 270 0 [some (.ref 124), some (.int x1), none, none, none, none, none, none] [] σ Q := by
  refine r_iconst (v := 0) ok270 0 rfl rfl rfl ?_
  refine r_istore_n ok270 1 rfl rfl ?_
  refine r_iconst (v := 0) ok270 2 rfl rfl rfl ?_
  refine r_istore_n ok270 3 rfl rfl ?_
  refine r_iconst (v := (-1)) ok270 4 rfl rfl rfl ?_
  refine r_istore ok270 5 rfl rfl ?_
  refine r_iconst (v := 0) ok270 6 rfl rfl rfl ?_
  refine r_istore ok270 7 rfl rfl ?_
  refine r_iconst (v := 0) ok270 8 rfl rfl rfl ?_
  refine r_istore ok270 9 rfl rfl ?_
  exact h

set_option maxRecDepth 100000 in
set_option maxHeartbeats 4000000 in
theorem B270_13 {Θ : Th} {d : Nat} {σ : Mem} {Q : Po} {x1 : Int32} {x2 : Int32} {x3 : Int32} {x4 : Int32} {x5 : Int32} {x6 : Int32} 
    (h : (((σ.1 124 38) ≤ x6 → ((¬ x1 = 0 → ((¬ x1 = 1 → ((¬ x1 = 2 → Q (some (.int (-1))) σ) ∧ (x1 = 2 → Q (some (.int x4)) σ))) ∧ (x1 = 1 → Q (some (.int x3)) σ))) ∧ (x1 = 0 → Q (some (.int x2)) σ))) ∧ (¬ (σ.1 124 38) ≤ x6 → Ci Θ d 269 [.ref 124, .int x6] σ (fun v5 σ5 => ((v5 ≤ 0 → ((x5 < v5 → G Θ (d + 1) 270 13 [some (.ref 124), some (.int x1), some (.int (x2 + 0)), some (.int (x3 + v5)), some (.int x6), some (.int v5), some (.int (x6 + 1)), none] [] σ5 Q) ∧ (¬ x5 < v5 → G Θ (d + 1) 270 13 [some (.ref 124), some (.int x1), some (.int (x2 + 0)), some (.int (x3 + v5)), some (.int x4), some (.int x5), some (.int (x6 + 1)), none] [] σ5 Q))) ∧ (¬ v5 ≤ 0 → ((x5 < v5 → G Θ (d + 1) 270 13 [some (.ref 124), some (.int x1), some (.int (x2 + 1)), some (.int (x3 + v5)), some (.int x6), some (.int v5), some (.int (x6 + 1)), none] [] σ5 Q) ∧ (¬ x5 < v5 → G Θ (d + 1) 270 13 [some (.ref 124), some (.int x1), some (.int (x2 + 1)), some (.int (x3 + v5)), some (.int x4), some (.int x5), some (.int (x6 + 1)), none] [] σ5 Q)))))))) :
    G Θ (d + 1) 270 13 [some (.ref 124), some (.int x1), some (.int x2), some (.int x3), some (.int x4), some (.int x5), some (.int x6), none] [] σ Q := by
  refine r_iload ok270 10 rfl rfl rfl ?_
  refine r_aload_n ok270 11 rfl rfl rfl ?_
  refine r_getI ok270 12 rfl rfl rfl rfl ?_
  refine r_icmp_ge ok270 13 rfl rfl (fun c1 => ?_) (fun c1 => ?_)
  · have h1 := h.1 c1
    refine r_iload_n ok270 40 rfl rfl rfl ?_
    refine r_if_ne ok270 41 rfl rfl (fun c2 => ?_) (fun c2 => ?_)
    · have h2 := h1.1 c2
      refine r_iload_n ok270 44 rfl rfl rfl ?_
      refine r_iconst (v := 1) ok270 45 rfl rfl rfl ?_
      refine r_icmp_ne ok270 46 rfl rfl (fun c3 => ?_) (fun c3 => ?_)
      · have h3 := h2.1 c3
        refine r_iload_n ok270 49 rfl rfl rfl ?_
        refine r_iconst (v := 2) ok270 50 rfl rfl rfl ?_
        refine r_icmp_ne ok270 51 rfl rfl (fun c4 => ?_) (fun c4 => ?_)
        · have h4 := h3.1 c4
          refine r_iconst (v := (-1)) ok270 54 rfl rfl rfl ?_
          exact r_iret ok270 55 rfl rfl rfl h4
        · have h4 := h3.2 c4
          refine r_iload ok270 52 rfl rfl rfl ?_
          refine r_goto ok270 53 rfl rfl ?_
          exact r_iret ok270 55 rfl rfl rfl h4
      · have h3 := h2.2 c3
        refine r_iload_n ok270 47 rfl rfl rfl ?_
        refine r_goto ok270 48 rfl rfl ?_
        exact r_iret ok270 55 rfl rfl rfl h3
    · have h2 := h1.2 c2
      refine r_iload_n ok270 42 rfl rfl rfl ?_
      refine r_goto ok270 43 rfl rfl ?_
      exact r_iret ok270 55 rfl rfl rfl h2
  · have h1 := h.2 c1
    refine r_aload_n ok270 14 rfl rfl rfl ?_
    refine r_iload ok270 15 rfl rfl rfl ?_
    refine r_invVi (as := [.int x6]) (S := []) ok270 16 rfl rfl mf269 rfl rfl (Nat.le_of_ble_eq_true rfl) rfl h1 (fun v5 σ5 h5 => ?_)
    refine r_istore ok270 17 rfl rfl ?_
    refine r_iload_n ok270 18 rfl rfl rfl ?_
    refine r_iload ok270 19 rfl rfl rfl ?_
    refine r_if_le ok270 20 rfl rfl (fun c6 => ?_) (fun c6 => ?_)
    · have h6 := h5.1 c6
      refine r_iconst (v := 0) ok270 23 rfl rfl rfl ?_
      refine r_iadd ok270 24 rfl rfl ?_
      refine r_istore_n ok270 25 rfl rfl ?_
      refine r_iload_n ok270 26 rfl rfl rfl ?_
      refine r_iload ok270 27 rfl rfl rfl ?_
      refine r_iadd ok270 28 rfl rfl ?_
      refine r_istore_n ok270 29 rfl rfl ?_
      refine r_iload ok270 30 rfl rfl rfl ?_
      refine r_iload ok270 31 rfl rfl rfl ?_
      refine r_icmp_gt ok270 32 rfl rfl (fun c7 => ?_) (fun c7 => ?_)
      · have h7 := h6.1 c7
        refine r_iload ok270 34 rfl rfl rfl ?_
        refine r_istore ok270 35 rfl rfl ?_
        refine r_iload ok270 36 rfl rfl rfl ?_
        refine r_istore ok270 37 rfl rfl ?_
        refine r_iinc (v := x6 + 1) ok270 38 rfl rfl rfl rfl ?_
        refine r_goto ok270 39 rfl rfl ?_
        exact G.weak (L' := [some (.ref 124), some (.int x1), some (.int (x2 + 0)), some (.int (x3 + v5)), some (.int x6), some (.int v5), some (.int (x6 + 1)), none]) ⟨rfl, ⟨rfl, ⟨rfl, ⟨rfl, ⟨rfl, ⟨rfl, ⟨rfl, trivial⟩⟩⟩⟩⟩⟩⟩ h7
      · have h7 := h6.2 c7
        refine r_goto ok270 33 rfl rfl ?_
        refine r_iinc (v := x6 + 1) ok270 38 rfl rfl rfl rfl ?_
        refine r_goto ok270 39 rfl rfl ?_
        exact G.weak (L' := [some (.ref 124), some (.int x1), some (.int (x2 + 0)), some (.int (x3 + v5)), some (.int x4), some (.int x5), some (.int (x6 + 1)), none]) ⟨rfl, ⟨rfl, ⟨rfl, ⟨rfl, ⟨rfl, ⟨rfl, ⟨rfl, trivial⟩⟩⟩⟩⟩⟩⟩ h7
    · have h6 := h5.2 c6
      refine r_iconst (v := 1) ok270 21 rfl rfl rfl ?_
      refine r_goto ok270 22 rfl rfl ?_
      refine r_iadd ok270 24 rfl rfl ?_
      refine r_istore_n ok270 25 rfl rfl ?_
      refine r_iload_n ok270 26 rfl rfl rfl ?_
      refine r_iload ok270 27 rfl rfl rfl ?_
      refine r_iadd ok270 28 rfl rfl ?_
      refine r_istore_n ok270 29 rfl rfl ?_
      refine r_iload ok270 30 rfl rfl rfl ?_
      refine r_iload ok270 31 rfl rfl rfl ?_
      refine r_icmp_gt ok270 32 rfl rfl (fun c8 => ?_) (fun c8 => ?_)
      · have h8 := h6.1 c8
        refine r_iload ok270 34 rfl rfl rfl ?_
        refine r_istore ok270 35 rfl rfl ?_
        refine r_iload ok270 36 rfl rfl rfl ?_
        refine r_istore ok270 37 rfl rfl ?_
        refine r_iinc (v := x6 + 1) ok270 38 rfl rfl rfl rfl ?_
        refine r_goto ok270 39 rfl rfl ?_
        exact G.weak (L' := [some (.ref 124), some (.int x1), some (.int (x2 + 1)), some (.int (x3 + v5)), some (.int x6), some (.int v5), some (.int (x6 + 1)), none]) ⟨rfl, ⟨rfl, ⟨rfl, ⟨rfl, ⟨rfl, ⟨rfl, ⟨rfl, trivial⟩⟩⟩⟩⟩⟩⟩ h8
      · have h8 := h6.2 c8
        refine r_goto ok270 33 rfl rfl ?_
        refine r_iinc (v := x6 + 1) ok270 38 rfl rfl rfl rfl ?_
        refine r_goto ok270 39 rfl rfl ?_
        exact G.weak (L' := [some (.ref 124), some (.int x1), some (.int (x2 + 1)), some (.int (x3 + v5)), some (.int x4), some (.int x5), some (.int (x6 + 1)), none]) ⟨rfl, ⟨rfl, ⟨rfl, ⟨rfl, ⟨rfl, ⟨rfl, ⟨rfl, trivial⟩⟩⟩⟩⟩⟩⟩ h8

theorem K270 {Θ : Th} {d : Nat} {σ : Mem} {Q : Po} {x1 : Int32} (h : G Θ (d + 1) 270 0 [some (.ref 124), some (.int x1), none, none, none, none, none, none] [] σ Q) : Cm Θ (d + 1) 270 [.ref 124, .int x1] σ Q :=
  C_of_G okM270 (Nat.le_of_ble_eq_true rfl) rfl h

-- 271: LikeYearsModel.step(II)Z
set_option maxRecDepth 100000 in
set_option maxHeartbeats 4000000 in
theorem B271_0 {Θ : Th} {d : Nat} {σ : Mem} {Q : Po} {x1 : Int32} {x2 : Int32} 
    (h : Ci Θ d 201 [.ref 124, .int x1] σ (fun v1 σ1 => ((v1 = 0 → Q (some (.int 0)) σ1) ∧ (¬ v1 = 0 → ((x2 < 0 → Q (some (.int 0)) σ1) ∧ (¬ x2 < 0 → (vp_in x1 6 ∧ ((x2 ≤ (σ1.1 139 x1.toNatClampNeg) → (vp_in x1 6 ∧ Q (some (.int 1)) (sI σ1 173 (x1.toNatClampNeg) x2))) ∧ (¬ x2 ≤ (σ1.1 139 x1.toNatClampNeg) → Q (some (.int 0)) σ1))))))))) :
    G Θ (d + 1) 271 0 [some (.ref 124), some (.int x1), some (.int x2)] [] σ Q := by
  refine r_aload_n ok271 0 rfl rfl rfl ?_
  refine r_iload_n ok271 1 rfl rfl rfl ?_
  refine r_invVi (as := [.int x1]) (S := []) ok271 2 rfl rfl mf201 rfl rfl (Nat.le_of_ble_eq_true rfl) rfl h (fun v1 σ1 h1 => ?_)
  refine r_if_eq ok271 3 rfl rfl (fun c2 => ?_) (fun c2 => ?_)
  · have h2 := h1.1 c2
    refine r_iconst (v := 0) ok271 12 rfl rfl rfl ?_
    exact r_zret ok271 13 rfl rfl rfl (Or.inl rfl) h2
  · have h2 := h1.2 c2
    refine r_iload_n ok271 4 rfl rfl rfl ?_
    refine r_if_lt ok271 5 rfl rfl (fun c3 => ?_) (fun c3 => ?_)
    · have h3 := h2.1 c3
      refine r_iconst (v := 0) ok271 12 rfl rfl rfl ?_
      exact r_zret ok271 13 rfl rfl rfl (Or.inl rfl) h3
    · have h3 := h2.2 c3
      refine r_iload_n ok271 6 rfl rfl rfl ?_
      refine r_aload_n ok271 7 rfl rfl rfl ?_
      refine r_getF ok271 8 rfl rfl rfl rfl ?_
      refine r_iload_n ok271 9 rfl rfl rfl ?_
      obtain ⟨c4, h4⟩ := h3
      refine r_iald ok271 10 rfl rfl rfl c4 ?_
      refine r_icmp_le ok271 11 rfl rfl (fun c5 => ?_) (fun c5 => ?_)
      · have h5 := h4.1 c5
        refine r_aload_n ok271 14 rfl rfl rfl ?_
        refine r_getF ok271 15 rfl rfl rfl rfl ?_
        refine r_iload_n ok271 16 rfl rfl rfl ?_
        refine r_iload_n ok271 17 rfl rfl rfl ?_
        obtain ⟨c6, h6⟩ := h5
        refine r_iast ok271 18 rfl rfl rfl c6 ?_
        refine r_iconst (v := 1) ok271 19 rfl rfl rfl ?_
        exact r_zret ok271 20 rfl rfl rfl (Or.inr rfl) h6
      · have h5 := h4.2 c5
        refine r_iconst (v := 0) ok271 12 rfl rfl rfl ?_
        exact r_zret ok271 13 rfl rfl rfl (Or.inl rfl) h5

theorem K271 {Θ : Th} {d : Nat} {σ : Mem} {Q : Po} {x1 : Int32} {x2 : Int32} (h : G Θ (d + 1) 271 0 [some (.ref 124), some (.int x1), some (.int x2)] [] σ Q) : Cm Θ (d + 1) 271 [.ref 124, .int x1, .int x2] σ Q :=
  C_of_G okM271 (Nat.le_of_ble_eq_true rfl) rfl h

-- 272: LikeYearsModel.aroundNew(Z)I
set_option maxRecDepth 100000 in
set_option maxHeartbeats 4000000 in
theorem B272_0 {Θ : Th} {d : Nat} {σ : Mem} {Q : Po} {x1 : Int32} 
    (h : G Θ d 272 4 [some (.ref 124), some (.int x1), some (.int 0), some (.int 0), none, none] [] σ Q) :
    G Θ d 272 0 [some (.ref 124), some (.int x1), none, none, none, none] [] σ Q := by
  refine r_iconst (v := 0) ok272 0 rfl rfl rfl ?_
  refine r_istore_n ok272 1 rfl rfl ?_
  refine r_iconst (v := 0) ok272 2 rfl rfl rfl ?_
  refine r_istore_n ok272 3 rfl rfl ?_
  exact h

set_option maxRecDepth 100000 in
set_option maxHeartbeats 4000000 in
theorem B272_4 {Θ : Th} {d : Nat} {σ : Mem} {Q : Po} {x1 : Int32} {x2 : Int32} {x3 : Int32} 
    (h : (((σ.1 124 38) ≤ x3 → Q (some (.int x2)) σ) ∧ (¬ (σ.1 124 38) ≤ x3 → G Θ d 272 18 [some (.ref 124), some (.int x1), some (.int x2), some (.int x3), some (.int 1), some (.int 0)] [] σ Q))) :
    G Θ d 272 4 [some (.ref 124), some (.int x1), some (.int x2), some (.int x3), none, none] [] σ Q := by
  refine r_iload_n ok272 4 rfl rfl rfl ?_
  refine r_aload_n ok272 5 rfl rfl rfl ?_
  refine r_getI ok272 6 rfl rfl rfl rfl ?_
  refine r_icmp_ge ok272 7 rfl rfl (fun c1 => ?_) (fun c1 => ?_)
  · have h1 := h.1 c1
    refine r_iload_n ok272 76 rfl rfl rfl ?_
    exact r_iret ok272 77 rfl rfl rfl h1
  · have h1 := h.2 c1
    refine r_iconst (v := 1) ok272 8 rfl rfl rfl ?_
    refine r_istore ok272 9 rfl rfl ?_
    refine r_iconst (v := 0) ok272 10 rfl rfl rfl ?_
    refine r_istore ok272 11 rfl rfl ?_
    exact h1

set_option maxRecDepth 100000 in
set_option maxHeartbeats 4000000 in
theorem B272_18 {Θ : Th} {d : Nat} {σ : Mem} {Q : Po} {x1 : Int32} {x2 : Int32} {x3 : Int32} {x4 : Int32} {x5 : Int32} 
    (h : (((σ.1 124 37) ≤ x5 → ((x4 = 0 → G Θ d 272 4 [some (.ref 124), some (.int x1), some (.int x2), some (.int (x3 + 1)), none, none] [] σ Q) ∧ (¬ x4 = 0 → ((x1 = 0 → (vp_in x3 16 ∧ G Θ d 272 4 [some (.ref 124), some (.int x1), some (.int (x2 ||| (σ.1 149 x3.toNatClampNeg))), some (.int (x3 + 1)), none, none] [] σ Q)) ∧ (¬ x1 = 0 → (vp_in x3 16 ∧ G Θ d 272 4 [some (.ref 124), some (.int x1), some (.int (x2 ||| (σ.1 150 x3.toNatClampNeg))), some (.int (x3 + 1)), none, none] [] σ Q)))))) ∧ (¬ (σ.1 124 37) ≤ x5 → ((x4 = 0 → G Θ d 272 18 [some (.ref 124), some (.int x1), some (.int x2), some (.int x3), some (.int 0), some (.int (x5 + 1))] [] σ Q) ∧ (¬ x4 = 0 → (vp_in x5 6 ∧ (((σ.1 147 x5.toNatClampNeg) = 0 → G Θ d 272 18 [some (.ref 124), some (.int x1), some (.int x2), some (.int x3), some (.int 1), some (.int (x5 + 1))] [] σ Q) ∧ (¬ (σ.1 147 x5.toNatClampNeg) = 0 → ((x1 = 0 → (vp_in x5 6 ∧ (vp_in ((6 * x3) + x5) 96 ∧ (((σ.1 173 x5.toNatClampNeg) < (σ.1 140 ((6 * x3) + x5).toNatClampNeg) → G Θ d 272 18 [some (.ref 124), some (.int x1), some (.int x2), some (.int x3), some (.int 0), some (.int (x5 + 1))] [] σ Q) ∧ (¬ (σ.1 173 x5.toNatClampNeg) < (σ.1 140 ((6 * x3) + x5).toNatClampNeg) → G Θ d 272 18 [some (.ref 124), some (.int x1), some (.int x2), some (.int x3), some (.int 1), some (.int (x5 + 1))] [] σ Q))))) ∧ (¬ x1 = 0 → (vp_in ((6 * x3) + x5) 96 ∧ (vp_in x5 6 ∧ (((σ.1 140 ((6 * x3) + x5).toNatClampNeg) < (σ.1 173 x5.toNatClampNeg) → G Θ d 272 18 [some (.ref 124), some (.int x1), some (.int x2), some (.int x3), some (.int 0), some (.int (x5 + 1))] [] σ Q) ∧ (¬ (σ.1 140 ((6 * x3) + x5).toNatClampNeg) < (σ.1 173 x5.toNatClampNeg) → G Θ d 272 18 [some (.ref 124), some (.int x1), some (.int x2), some (.int x3), some (.int 1), some (.int (x5 + 1))] [] σ Q)))))))))))))) :
    G Θ d 272 18 [some (.ref 124), some (.int x1), some (.int x2), some (.int x3), some (.int x4), some (.int x5)] [] σ Q := by
  refine r_iload ok272 12 rfl rfl rfl ?_
  refine r_aload_n ok272 13 rfl rfl rfl ?_
  refine r_getI ok272 14 rfl rfl rfl rfl ?_
  refine r_icmp_ge ok272 15 rfl rfl (fun c1 => ?_) (fun c1 => ?_)
  · have h1 := h.1 c1
    refine r_iload ok272 58 rfl rfl rfl ?_
    refine r_if_eq ok272 59 rfl rfl (fun c2 => ?_) (fun c2 => ?_)
    · have h2 := h1.1 c2
      refine r_iinc (v := x3 + 1) ok272 74 rfl rfl rfl rfl ?_
      refine r_goto ok272 75 rfl rfl ?_
      exact G.weak (L' := [some (.ref 124), some (.int x1), some (.int x2), some (.int (x3 + 1)), none, none]) ⟨rfl, ⟨rfl, ⟨rfl, ⟨rfl, trivial⟩⟩⟩⟩ h2
    · have h2 := h1.2 c2
      refine r_iload_n ok272 60 rfl rfl rfl ?_
      refine r_iload_n ok272 61 rfl rfl rfl ?_
      refine r_if_eq ok272 62 rfl rfl (fun c3 => ?_) (fun c3 => ?_)
      · have h3 := h2.1 c3
        refine r_aload_n ok272 68 rfl rfl rfl ?_
        refine r_getF ok272 69 rfl rfl rfl rfl ?_
        refine r_iload_n ok272 70 rfl rfl rfl ?_
        obtain ⟨c4, h4⟩ := h3
        refine r_iald ok272 71 rfl rfl rfl c4 ?_
        refine r_ior ok272 72 rfl rfl ?_
        refine r_istore_n ok272 73 rfl rfl ?_
        refine r_iinc (v := x3 + 1) ok272 74 rfl rfl rfl rfl ?_
        refine r_goto ok272 75 rfl rfl ?_
        exact G.weak (L' := [some (.ref 124), some (.int x1), some (.int (x2 ||| (σ.1 149 x3.toNatClampNeg))), some (.int (x3 + 1)), none, none]) ⟨rfl, ⟨rfl, ⟨rfl, ⟨rfl, trivial⟩⟩⟩⟩ h4
      · have h3 := h2.2 c3
        refine r_aload_n ok272 63 rfl rfl rfl ?_
        refine r_getF ok272 64 rfl rfl rfl rfl ?_
        refine r_iload_n ok272 65 rfl rfl rfl ?_
        obtain ⟨c5, h5⟩ := h3
        refine r_iald ok272 66 rfl rfl rfl c5 ?_
        refine r_goto ok272 67 rfl rfl ?_
        refine r_ior ok272 72 rfl rfl ?_
        refine r_istore_n ok272 73 rfl rfl ?_
        refine r_iinc (v := x3 + 1) ok272 74 rfl rfl rfl rfl ?_
        refine r_goto ok272 75 rfl rfl ?_
        exact G.weak (L' := [some (.ref 124), some (.int x1), some (.int (x2 ||| (σ.1 150 x3.toNatClampNeg))), some (.int (x3 + 1)), none, none]) ⟨rfl, ⟨rfl, ⟨rfl, ⟨rfl, trivial⟩⟩⟩⟩ h5
  · have h1 := h.2 c1
    refine r_iload ok272 16 rfl rfl rfl ?_
    refine r_if_eq ok272 17 rfl rfl (fun c6 => ?_) (fun c6 => ?_)
    · have h6 := h1.1 c6
      refine r_iconst (v := 0) ok272 54 rfl rfl rfl ?_
      refine r_istore ok272 55 rfl rfl ?_
      refine r_iinc (v := x5 + 1) ok272 56 rfl rfl rfl rfl ?_
      refine r_goto ok272 57 rfl rfl ?_
      exact h6
    · have h6 := h1.2 c6
      refine r_aload_n ok272 18 rfl rfl rfl ?_
      refine r_getF ok272 19 rfl rfl rfl rfl ?_
      refine r_iload ok272 20 rfl rfl rfl ?_
      obtain ⟨c7, h7⟩ := h6
      refine r_zald ok272 21 rfl rfl rfl c7 ?_
      refine r_if_eq ok272 22 rfl rfl (fun c8 => ?_) (fun c8 => ?_)
      · have h8 := h7.1 c8
        refine r_iconst (v := 1) ok272 52 rfl rfl rfl ?_
        refine r_goto ok272 53 rfl rfl ?_
        refine r_istore ok272 55 rfl rfl ?_
        refine r_iinc (v := x5 + 1) ok272 56 rfl rfl rfl rfl ?_
        refine r_goto ok272 57 rfl rfl ?_
        exact h8
      · have h8 := h7.2 c8
        refine r_iload_n ok272 23 rfl rfl rfl ?_
        refine r_if_eq ok272 24 rfl rfl (fun c9 => ?_) (fun c9 => ?_)
        · have h9 := h8.1 c9
          refine r_aload_n ok272 39 rfl rfl rfl ?_
          refine r_getF ok272 40 rfl rfl rfl rfl ?_
          refine r_iload ok272 41 rfl rfl rfl ?_
          obtain ⟨c10, h10⟩ := h9
          refine r_iald ok272 42 rfl rfl rfl c10 ?_
          refine r_aload_n ok272 43 rfl rfl rfl ?_
          refine r_getF ok272 44 rfl rfl rfl rfl ?_
          refine r_bipush (v := 6) ok272 45 rfl rfl rfl ?_
          refine r_iload_n ok272 46 rfl rfl rfl ?_
          refine r_imul ok272 47 rfl rfl ?_
          refine r_iload ok272 48 rfl rfl rfl ?_
          refine r_iadd ok272 49 rfl rfl ?_
          obtain ⟨c11, h11⟩ := h10
          refine r_iald ok272 50 rfl rfl rfl c11 ?_
          refine r_icmp_lt ok272 51 rfl rfl (fun c12 => ?_) (fun c12 => ?_)
          · have h12 := h11.1 c12
            refine r_iconst (v := 0) ok272 54 rfl rfl rfl ?_
            refine r_istore ok272 55 rfl rfl ?_
            refine r_iinc (v := x5 + 1) ok272 56 rfl rfl rfl rfl ?_
            refine r_goto ok272 57 rfl rfl ?_
            exact h12
          · have h12 := h11.2 c12
            refine r_iconst (v := 1) ok272 52 rfl rfl rfl ?_
            refine r_goto ok272 53 rfl rfl ?_
            refine r_istore ok272 55 rfl rfl ?_
            refine r_iinc (v := x5 + 1) ok272 56 rfl rfl rfl rfl ?_
            refine r_goto ok272 57 rfl rfl ?_
            exact h12
        · have h9 := h8.2 c9
          refine r_aload_n ok272 25 rfl rfl rfl ?_
          refine r_getF ok272 26 rfl rfl rfl rfl ?_
          refine r_bipush (v := 6) ok272 27 rfl rfl rfl ?_
          refine r_iload_n ok272 28 rfl rfl rfl ?_
          refine r_imul ok272 29 rfl rfl ?_
          refine r_iload ok272 30 rfl rfl rfl ?_
          refine r_iadd ok272 31 rfl rfl ?_
          obtain ⟨c13, h13⟩ := h9
          refine r_iald ok272 32 rfl rfl rfl c13 ?_
          refine r_aload_n ok272 33 rfl rfl rfl ?_
          refine r_getF ok272 34 rfl rfl rfl rfl ?_
          refine r_iload ok272 35 rfl rfl rfl ?_
          obtain ⟨c14, h14⟩ := h13
          refine r_iald ok272 36 rfl rfl rfl c14 ?_
          refine r_icmp_lt ok272 37 rfl rfl (fun c15 => ?_) (fun c15 => ?_)
          · have h15 := h14.1 c15
            refine r_iconst (v := 0) ok272 54 rfl rfl rfl ?_
            refine r_istore ok272 55 rfl rfl ?_
            refine r_iinc (v := x5 + 1) ok272 56 rfl rfl rfl rfl ?_
            refine r_goto ok272 57 rfl rfl ?_
            exact h15
          · have h15 := h14.2 c15
            refine r_goto ok272 38 rfl rfl ?_
            refine r_iconst (v := 1) ok272 52 rfl rfl rfl ?_
            refine r_goto ok272 53 rfl rfl ?_
            refine r_istore ok272 55 rfl rfl ?_
            refine r_iinc (v := x5 + 1) ok272 56 rfl rfl rfl rfl ?_
            refine r_goto ok272 57 rfl rfl ?_
            exact h15

theorem K272 {Θ : Th} {d : Nat} {σ : Mem} {Q : Po} {x1 : Int32} (h : G Θ d 272 0 [some (.ref 124), some (.int x1), none, none, none, none] [] σ Q) : Cm Θ d 272 [.ref 124, .int x1] σ Q :=
  C_of_G okM272 (Nat.le_of_ble_eq_true rfl) rfl h

-- 273: LikeYearsModel.ends(ZI)J
set_option maxRecDepth 100000 in
set_option maxHeartbeats 4000000 in
theorem B273_0 {Θ : Th} {d : Nat} {σ : Mem} {Q : Po} {x1 : Int32} {x2 : Int32} 
    (h : Ci Θ d 213 [.int x2] σ (fun v1 σ1 => ((¬ v1 = 0 → Cv Θ d 198 [.ref 124] σ1 (fun σ3 => Ci Θ d 219 [.ref 124] σ3 (fun v4 σ4 => Cv Θ d 217 [.ref 124, .int v4] σ4 (fun σ5 => Ci Θ d 272 [.ref 124, .int x1] σ5 (fun v6 σ6 => G Θ (d + 1) 273 35 [some (.ref 124), some (.int x1), some (.int x2), some (.int v6), some (.int (-1)), some (.int 0), none, none, none, none] [] σ6 Q))))) ∧ (v1 = 0 → Q (some (.long (-1))) σ1)))) :
    G Θ (d + 1) 273 0 [some (.ref 124), some (.int x1), some (.int x2), none, none, none, none, none, none, none] [] σ Q := by
  refine r_iload_n ok273 0 rfl rfl rfl ?_
  refine r_invSi (as := [.int x2]) (S := []) ok273 1 rfl rfl mf213 rfl (Nat.le_of_ble_eq_true rfl) rfl h (fun v1 σ1 h1 => ?_)
  refine r_if_ne ok273 2 rfl rfl (fun c2 => ?_) (fun c2 => ?_)
  · have h2 := h1.1 c2
    refine r_aload_n ok273 5 rfl rfl rfl ?_
    refine r_invVv (as := []) (S := []) ok273 6 rfl rfl mf198 rfl rfl (Nat.le_of_ble_eq_true rfl) rfl h2 (fun σ3 h3 => ?_)
    refine r_aload_n ok273 7 rfl rfl rfl ?_
    refine r_aload_n ok273 8 rfl rfl rfl ?_
    refine r_invVi (as := []) (S := [.ref 124]) ok273 9 rfl rfl mf219 rfl rfl (Nat.le_of_ble_eq_true rfl) rfl h3 (fun v4 σ4 h4 => ?_)
    refine r_invVv (as := [.int v4]) (S := []) ok273 10 rfl rfl mf217 rfl rfl (Nat.le_of_ble_eq_true rfl) rfl h4 (fun σ5 h5 => ?_)
    refine r_aload_n ok273 11 rfl rfl rfl ?_
    refine r_iload_n ok273 12 rfl rfl rfl ?_
    refine r_invVi (as := [.int x1]) (S := []) ok273 13 rfl rfl mf272 rfl rfl (Nat.le_of_ble_eq_true rfl) rfl h5 (fun v6 σ6 h6 => ?_)
    refine r_istore_n ok273 14 rfl rfl ?_
    refine r_iconst (v := (-1)) ok273 15 rfl rfl rfl ?_
    refine r_istore ok273 16 rfl rfl ?_
    refine r_iconst (v := 0) ok273 17 rfl rfl rfl ?_
    refine r_istore ok273 18 rfl rfl ?_
    exact h6
  · have h2 := h1.2 c2
    refine r_ldc2_w (v := (-1)) ok273 3 rfl rfl rfl ?_
    exact r_lret ok273 4 rfl rfl rfl h2

set_option maxRecDepth 100000 in
set_option maxHeartbeats 4000000 in
theorem B273_35 {Θ : Th} {d : Nat} {σ : Mem} {Q : Po} {x1 : Int32} {x2 : Int32} {x3 : Int32} {x4 : Int32} {x5 : Int32} 
    (h : (((σ.1 124 38) ≤ x5 → ((0 ≤ x4 → ((¬ x2 = 0 → (vp_in x4 16 ∧ Q (some (.long (σ.2.1 155 x4.toNatClampNeg))) σ)) ∧ (x2 = 0 → (vp_in x4 16 ∧ Q (some (.long (σ.2.1 154 x4.toNatClampNeg))) σ)))) ∧ (¬ 0 ≤ x4 → Q (some (.long (-1))) σ))) ∧ (¬ (σ.1 124 38) ≤ x5 → ((¬ ((x3 >>> (x5 &&& 31)) &&& 1) = 0 → ((0 ≤ x4 → (vp_in x5 16 ∧ (vp_in x4 16 ∧ ((0 ≤ x4 → (vp_in x4 16 ∧ (vp_in x5 16 ∧ ((x4 < 0 → G Θ (d + 1) 273 136 [some (.ref 124), some (.int x1), some (.int x2), some (.int x3), none, some (.int x5), none, none, none, none] [] σ Q) ∧ (¬ x4 < 0 → ((x1 = 0 → (((lg_cmp ((σ.2.1 154 x5.toNatClampNeg) * (σ.2.1 155 x4.toNatClampNeg)) ((σ.2.1 154 x4.toNatClampNeg) * (σ.2.1 155 x5.toNatClampNeg))) ≤ 0 → G Θ (d + 1) 273 140 [some (.ref 124), some (.int x1), some (.int x2), some (.int x3), some (.int x4), some (.int x5), none, none, none, none] [] σ Q) ∧ (¬ (lg_cmp ((σ.2.1 154 x5.toNatClampNeg) * (σ.2.1 155 x4.toNatClampNeg)) ((σ.2.1 154 x4.toNatClampNeg) * (σ.2.1 155 x5.toNatClampNeg))) ≤ 0 → G Θ (d + 1) 273 136 [some (.ref 124), some (.int x1), some (.int x2), some (.int x3), none, some (.int x5), none, none, none, none] [] σ Q))) ∧ (¬ x1 = 0 → ((0 ≤ (lg_cmp ((σ.2.1 154 x5.toNatClampNeg) * (σ.2.1 155 x4.toNatClampNeg)) ((σ.2.1 154 x4.toNatClampNeg) * (σ.2.1 155 x5.toNatClampNeg))) → G Θ (d + 1) 273 140 [some (.ref 124), some (.int x1), some (.int x2), some (.int x3), some (.int x4), some (.int x5), none, none, none, none] [] σ Q) ∧ (¬ 0 ≤ (lg_cmp ((σ.2.1 154 x5.toNatClampNeg) * (σ.2.1 155 x4.toNatClampNeg)) ((σ.2.1 154 x4.toNatClampNeg) * (σ.2.1 155 x5.toNatClampNeg))) → G Θ (d + 1) 273 136 [some (.ref 124), some (.int x1), some (.int x2), some (.int x3), none, some (.int x5), none, none, none, none] [] σ Q))))))))) ∧ (¬ 0 ≤ x4 → ((x4 < 0 → G Θ (d + 1) 273 136 [some (.ref 124), some (.int x1), some (.int x2), some (.int x3), none, some (.int x5), none, none, none, none] [] σ Q) ∧ (¬ x4 < 0 → ((x1 = 0 → (((lg_cmp ((σ.2.1 154 x5.toNatClampNeg) * (σ.2.1 155 x4.toNatClampNeg)) 0) ≤ 0 → G Θ (d + 1) 273 140 [some (.ref 124), some (.int x1), some (.int x2), some (.int x3), some (.int x4), some (.int x5), none, none, none, none] [] σ Q) ∧ (¬ (lg_cmp ((σ.2.1 154 x5.toNatClampNeg) * (σ.2.1 155 x4.toNatClampNeg)) 0) ≤ 0 → G Θ (d + 1) 273 136 [some (.ref 124), some (.int x1), some (.int x2), some (.int x3), none, some (.int x5), none, none, none, none] [] σ Q))) ∧ (¬ x1 = 0 → ((0 ≤ (lg_cmp ((σ.2.1 154 x5.toNatClampNeg) * (σ.2.1 155 x4.toNatClampNeg)) 0) → G Θ (d + 1) 273 140 [some (.ref 124), some (.int x1), some (.int x2), some (.int x3), some (.int x4), some (.int x5), none, none, none, none] [] σ Q) ∧ (¬ 0 ≤ (lg_cmp ((σ.2.1 154 x5.toNatClampNeg) * (σ.2.1 155 x4.toNatClampNeg)) 0) → G Θ (d + 1) 273 136 [some (.ref 124), some (.int x1), some (.int x2), some (.int x3), none, some (.int x5), none, none, none, none] [] σ Q))))))))))) ∧ (¬ 0 ≤ x4 → ((0 ≤ x4 → (vp_in x4 16 ∧ (vp_in x5 16 ∧ ((x4 < 0 → G Θ (d + 1) 273 136 [some (.ref 124), some (.int x1), some (.int x2), some (.int x3), none, some (.int x5), none, none, none, none] [] σ Q) ∧ (¬ x4 < 0 → ((x1 = 0 → (((lg_cmp 0 ((σ.2.1 154 x4.toNatClampNeg) * (σ.2.1 155 x5.toNatClampNeg))) ≤ 0 → G Θ (d + 1) 273 140 [some (.ref 124), some (.int x1), some (.int x2), some (.int x3), some (.int x4), some (.int x5), none, none, none, none] [] σ Q) ∧ (¬ (lg_cmp 0 ((σ.2.1 154 x4.toNatClampNeg) * (σ.2.1 155 x5.toNatClampNeg))) ≤ 0 → G Θ (d + 1) 273 136 [some (.ref 124), some (.int x1), some (.int x2), some (.int x3), none, some (.int x5), none, none, none, none] [] σ Q))) ∧ (¬ x1 = 0 → ((0 ≤ (lg_cmp 0 ((σ.2.1 154 x4.toNatClampNeg) * (σ.2.1 155 x5.toNatClampNeg))) → G Θ (d + 1) 273 140 [some (.ref 124), some (.int x1), some (.int x2), some (.int x3), some (.int x4), some (.int x5), none, none, none, none] [] σ Q) ∧ (¬ 0 ≤ (lg_cmp 0 ((σ.2.1 154 x4.toNatClampNeg) * (σ.2.1 155 x5.toNatClampNeg))) → G Θ (d + 1) 273 136 [some (.ref 124), some (.int x1), some (.int x2), some (.int x3), none, some (.int x5), none, none, none, none] [] σ Q))))))))) ∧ (¬ 0 ≤ x4 → ((x4 < 0 → G Θ (d + 1) 273 136 [some (.ref 124), some (.int x1), some (.int x2), some (.int x3), none, some (.int x5), none, none, none, none] [] σ Q) ∧ (¬ x4 < 0 → ((x1 = 0 → (((lg_cmp 0 0) ≤ 0 → G Θ (d + 1) 273 140 [some (.ref 124), some (.int x1), some (.int x2), some (.int x3), some (.int x4), some (.int x5), none, none, none, none] [] σ Q) ∧ (¬ (lg_cmp 0 0) ≤ 0 → G Θ (d + 1) 273 136 [some (.ref 124), some (.int x1), some (.int x2), some (.int x3), none, some (.int x5), none, none, none, none] [] σ Q))) ∧ (¬ x1 = 0 → ((0 ≤ (lg_cmp 0 0) → G Θ (d + 1) 273 140 [some (.ref 124), some (.int x1), some (.int x2), some (.int x3), some (.int x4), some (.int x5), none, none, none, none] [] σ Q) ∧ (¬ 0 ≤ (lg_cmp 0 0) → G Θ (d + 1) 273 136 [some (.ref 124), some (.int x1), some (.int x2), some (.int x3), none, some (.int x5), none, none, none, none] [] σ Q))))))))))) ∧ (((x3 >>> (x5 &&& 31)) &&& 1) = 0 → G Θ (d + 1) 273 140 [some (.ref 124), some (.int x1), some (.int x2), some (.int x3), some (.int x4), some (.int x5), none, none, none, none] [] σ Q))))) :
    G Θ (d + 1) 273 35 [some (.ref 124), some (.int x1), some (.int x2), some (.int x3), some (.int x4), some (.int x5), none, none, none, none] [] σ Q := by
  refine r_iload ok273 19 rfl rfl rfl ?_
  refine r_aload_n ok273 20 rfl rfl rfl ?_
  refine r_getI ok273 21 rfl rfl rfl rfl ?_
  refine r_icmp_ge ok273 22 rfl rfl (fun c1 => ?_) (fun c1 => ?_)
  · have h1 := h.1 c1
    refine r_iload ok273 75 rfl rfl rfl ?_
    refine r_if_ge ok273 76 rfl rfl (fun c2 => ?_) (fun c2 => ?_)
    · have h2 := h1.1 c2
      refine r_iload_n ok273 79 rfl rfl rfl ?_
      refine r_if_ne ok273 80 rfl rfl (fun c3 => ?_) (fun c3 => ?_)
      · have h3 := h2.1 c3
        refine r_aload_n ok273 86 rfl rfl rfl ?_
        refine r_getF ok273 87 rfl rfl rfl rfl ?_
        refine r_iload ok273 88 rfl rfl rfl ?_
        obtain ⟨c4, h4⟩ := h3
        refine r_lald ok273 89 rfl rfl rfl c4 ?_
        exact r_lret ok273 90 rfl rfl rfl h4
      · have h3 := h2.2 c3
        refine r_aload_n ok273 81 rfl rfl rfl ?_
        refine r_getF ok273 82 rfl rfl rfl rfl ?_
        refine r_iload ok273 83 rfl rfl rfl ?_
        obtain ⟨c5, h5⟩ := h3
        refine r_lald ok273 84 rfl rfl rfl c5 ?_
        refine r_goto ok273 85 rfl rfl ?_
        exact r_lret ok273 90 rfl rfl rfl h5
    · have h2 := h1.2 c2
      refine r_ldc2_w (v := (-1)) ok273 77 rfl rfl rfl ?_
      refine r_goto ok273 78 rfl rfl ?_
      exact r_lret ok273 90 rfl rfl rfl h2
  · have h1 := h.2 c1
    refine r_iload_n ok273 23 rfl rfl rfl ?_
    refine r_iload ok273 24 rfl rfl rfl ?_
    refine r_ishr ok273 25 rfl rfl ?_
    refine r_iconst (v := 1) ok273 26 rfl rfl rfl ?_
    refine r_iand ok273 27 rfl rfl ?_
    refine r_if_ne ok273 28 rfl rfl (fun c6 => ?_) (fun c6 => ?_)
    · have h6 := h1.1 c6
      refine r_iload ok273 30 rfl rfl rfl ?_
      refine r_if_ge ok273 31 rfl rfl (fun c7 => ?_) (fun c7 => ?_)
      · have h7 := h6.1 c7
        refine r_aload_n ok273 34 rfl rfl rfl ?_
        refine r_getF ok273 35 rfl rfl rfl rfl ?_
        refine r_iload ok273 36 rfl rfl rfl ?_
        obtain ⟨c8, h8⟩ := h7
        refine r_lald ok273 37 rfl rfl rfl c8 ?_
        refine r_aload_n ok273 38 rfl rfl rfl ?_
        refine r_getF ok273 39 rfl rfl rfl rfl ?_
        refine r_iload ok273 40 rfl rfl rfl ?_
        obtain ⟨c9, h9⟩ := h8
        refine r_lald ok273 41 rfl rfl rfl c9 ?_
        refine r_lmul ok273 42 rfl rfl ?_
        refine r_lstore ok273 43 rfl rfl ?_
        refine r_iload ok273 44 rfl rfl rfl ?_
        refine r_if_ge ok273 45 rfl rfl (fun c10 => ?_) (fun c10 => ?_)
        · have h10 := h9.1 c10
          refine r_aload_n ok273 48 rfl rfl rfl ?_
          refine r_getF ok273 49 rfl rfl rfl rfl ?_
          refine r_iload ok273 50 rfl rfl rfl ?_
          obtain ⟨c11, h11⟩ := h10
          refine r_lald ok273 51 rfl rfl rfl c11 ?_
          refine r_aload_n ok273 52 rfl rfl rfl ?_
          refine r_getF ok273 53 rfl rfl rfl rfl ?_
          refine r_iload ok273 54 rfl rfl rfl ?_
          obtain ⟨c12, h12⟩ := h11
          refine r_lald ok273 55 rfl rfl rfl c12 ?_
          refine r_lmul ok273 56 rfl rfl ?_
          refine r_lstore ok273 57 rfl rfl ?_
          refine r_iload ok273 58 rfl rfl rfl ?_
          refine r_if_lt ok273 59 rfl rfl (fun c13 => ?_) (fun c13 => ?_)
          · have h13 := h12.1 c13
            exact G.weak (L' := [some (.ref 124), some (.int x1), some (.int x2), some (.int x3), none, some (.int x5), none, none, none, none]) ⟨rfl, ⟨rfl, ⟨rfl, ⟨rfl, ⟨rfl, trivial⟩⟩⟩⟩⟩ h13
          · have h13 := h12.2 c13
            refine r_iload_n ok273 60 rfl rfl rfl ?_
            refine r_if_eq ok273 61 rfl rfl (fun c14 => ?_) (fun c14 => ?_)
            · have h14 := h13.1 c14
              refine r_lload ok273 67 rfl rfl rfl ?_
              refine r_lload ok273 68 rfl rfl rfl ?_
              refine r_lcmp ok273 69 rfl rfl ?_
              refine r_if_le ok273 70 rfl rfl (fun c15 => ?_) (fun c15 => ?_)
              · have h15 := h14.1 c15
                exact G.weak (L' := [some (.ref 124), some (.int x1), some (.int x2), some (.int x3), some (.int x4), some (.int x5), none, none, none, none]) ⟨rfl, ⟨rfl, ⟨rfl, ⟨rfl, ⟨rfl, ⟨rfl, trivial⟩⟩⟩⟩⟩⟩ h15
              · have h15 := h14.2 c15
                exact G.weak (L' := [some (.ref 124), some (.int x1), some (.int x2), some (.int x3), none, some (.int x5), none, none, none, none]) ⟨rfl, ⟨rfl, ⟨rfl, ⟨rfl, ⟨rfl, trivial⟩⟩⟩⟩⟩ h15
            · have h14 := h13.2 c14
              refine r_lload ok273 62 rfl rfl rfl ?_
              refine r_lload ok273 63 rfl rfl rfl ?_
              refine r_lcmp ok273 64 rfl rfl ?_
              refine r_if_ge ok273 65 rfl rfl (fun c16 => ?_) (fun c16 => ?_)
              · have h16 := h14.1 c16
                exact G.weak (L' := [some (.ref 124), some (.int x1), some (.int x2), some (.int x3), some (.int x4), some (.int x5), none, none, none, none]) ⟨rfl, ⟨rfl, ⟨rfl, ⟨rfl, ⟨rfl, ⟨rfl, trivial⟩⟩⟩⟩⟩⟩ h16
              · have h16 := h14.2 c16
                refine r_goto ok273 66 rfl rfl ?_
                exact G.weak (L' := [some (.ref 124), some (.int x1), some (.int x2), some (.int x3), none, some (.int x5), none, none, none, none]) ⟨rfl, ⟨rfl, ⟨rfl, ⟨rfl, ⟨rfl, trivial⟩⟩⟩⟩⟩ h16
        · have h10 := h9.2 c10
          refine r_lconst (v := 0) ok273 46 rfl rfl rfl ?_
          refine r_goto ok273 47 rfl rfl ?_
          refine r_lstore ok273 57 rfl rfl ?_
          refine r_iload ok273 58 rfl rfl rfl ?_
          refine r_if_lt ok273 59 rfl rfl (fun c17 => ?_) (fun c17 => ?_)
          · have h17 := h10.1 c17
            exact G.weak (L' := [some (.ref 124), some (.int x1), some (.int x2), some (.int x3), none, some (.int x5), none, none, none, none]) ⟨rfl, ⟨rfl, ⟨rfl, ⟨rfl, ⟨rfl, trivial⟩⟩⟩⟩⟩ h17
          · have h17 := h10.2 c17
            refine r_iload_n ok273 60 rfl rfl rfl ?_
            refine r_if_eq ok273 61 rfl rfl (fun c18 => ?_) (fun c18 => ?_)
            · have h18 := h17.1 c18
              refine r_lload ok273 67 rfl rfl rfl ?_
              refine r_lload ok273 68 rfl rfl rfl ?_
              refine r_lcmp ok273 69 rfl rfl ?_
              refine r_if_le ok273 70 rfl rfl (fun c19 => ?_) (fun c19 => ?_)
              · have h19 := h18.1 c19
                exact G.weak (L' := [some (.ref 124), some (.int x1), some (.int x2), some (.int x3), some (.int x4), some (.int x5), none, none, none, none]) ⟨rfl, ⟨rfl, ⟨rfl, ⟨rfl, ⟨rfl, ⟨rfl, trivial⟩⟩⟩⟩⟩⟩ h19
              · have h19 := h18.2 c19
                exact G.weak (L' := [some (.ref 124), some (.int x1), some (.int x2), some (.int x3), none, some (.int x5), none, none, none, none]) ⟨rfl, ⟨rfl, ⟨rfl, ⟨rfl, ⟨rfl, trivial⟩⟩⟩⟩⟩ h19
            · have h18 := h17.2 c18
              refine r_lload ok273 62 rfl rfl rfl ?_
              refine r_lload ok273 63 rfl rfl rfl ?_
              refine r_lcmp ok273 64 rfl rfl ?_
              refine r_if_ge ok273 65 rfl rfl (fun c20 => ?_) (fun c20 => ?_)
              · have h20 := h18.1 c20
                exact G.weak (L' := [some (.ref 124), some (.int x1), some (.int x2), some (.int x3), some (.int x4), some (.int x5), none, none, none, none]) ⟨rfl, ⟨rfl, ⟨rfl, ⟨rfl, ⟨rfl, ⟨rfl, trivial⟩⟩⟩⟩⟩⟩ h20
              · have h20 := h18.2 c20
                refine r_goto ok273 66 rfl rfl ?_
                exact G.weak (L' := [some (.ref 124), some (.int x1), some (.int x2), some (.int x3), none, some (.int x5), none, none, none, none]) ⟨rfl, ⟨rfl, ⟨rfl, ⟨rfl, ⟨rfl, trivial⟩⟩⟩⟩⟩ h20
      · have h7 := h6.2 c7
        refine r_lconst (v := 0) ok273 32 rfl rfl rfl ?_
        refine r_goto ok273 33 rfl rfl ?_
        refine r_lstore ok273 43 rfl rfl ?_
        refine r_iload ok273 44 rfl rfl rfl ?_
        refine r_if_ge ok273 45 rfl rfl (fun c21 => ?_) (fun c21 => ?_)
        · have h21 := h7.1 c21
          refine r_aload_n ok273 48 rfl rfl rfl ?_
          refine r_getF ok273 49 rfl rfl rfl rfl ?_
          refine r_iload ok273 50 rfl rfl rfl ?_
          obtain ⟨c22, h22⟩ := h21
          refine r_lald ok273 51 rfl rfl rfl c22 ?_
          refine r_aload_n ok273 52 rfl rfl rfl ?_
          refine r_getF ok273 53 rfl rfl rfl rfl ?_
          refine r_iload ok273 54 rfl rfl rfl ?_
          obtain ⟨c23, h23⟩ := h22
          refine r_lald ok273 55 rfl rfl rfl c23 ?_
          refine r_lmul ok273 56 rfl rfl ?_
          refine r_lstore ok273 57 rfl rfl ?_
          refine r_iload ok273 58 rfl rfl rfl ?_
          refine r_if_lt ok273 59 rfl rfl (fun c24 => ?_) (fun c24 => ?_)
          · have h24 := h23.1 c24
            exact G.weak (L' := [some (.ref 124), some (.int x1), some (.int x2), some (.int x3), none, some (.int x5), none, none, none, none]) ⟨rfl, ⟨rfl, ⟨rfl, ⟨rfl, ⟨rfl, trivial⟩⟩⟩⟩⟩ h24
          · have h24 := h23.2 c24
            refine r_iload_n ok273 60 rfl rfl rfl ?_
            refine r_if_eq ok273 61 rfl rfl (fun c25 => ?_) (fun c25 => ?_)
            · have h25 := h24.1 c25
              refine r_lload ok273 67 rfl rfl rfl ?_
              refine r_lload ok273 68 rfl rfl rfl ?_
              refine r_lcmp ok273 69 rfl rfl ?_
              refine r_if_le ok273 70 rfl rfl (fun c26 => ?_) (fun c26 => ?_)
              · have h26 := h25.1 c26
                exact G.weak (L' := [some (.ref 124), some (.int x1), some (.int x2), some (.int x3), some (.int x4), some (.int x5), none, none, none, none]) ⟨rfl, ⟨rfl, ⟨rfl, ⟨rfl, ⟨rfl, ⟨rfl, trivial⟩⟩⟩⟩⟩⟩ h26
              · have h26 := h25.2 c26
                exact G.weak (L' := [some (.ref 124), some (.int x1), some (.int x2), some (.int x3), none, some (.int x5), none, none, none, none]) ⟨rfl, ⟨rfl, ⟨rfl, ⟨rfl, ⟨rfl, trivial⟩⟩⟩⟩⟩ h26
            · have h25 := h24.2 c25
              refine r_lload ok273 62 rfl rfl rfl ?_
              refine r_lload ok273 63 rfl rfl rfl ?_
              refine r_lcmp ok273 64 rfl rfl ?_
              refine r_if_ge ok273 65 rfl rfl (fun c27 => ?_) (fun c27 => ?_)
              · have h27 := h25.1 c27
                exact G.weak (L' := [some (.ref 124), some (.int x1), some (.int x2), some (.int x3), some (.int x4), some (.int x5), none, none, none, none]) ⟨rfl, ⟨rfl, ⟨rfl, ⟨rfl, ⟨rfl, ⟨rfl, trivial⟩⟩⟩⟩⟩⟩ h27
              · have h27 := h25.2 c27
                refine r_goto ok273 66 rfl rfl ?_
                exact G.weak (L' := [some (.ref 124), some (.int x1), some (.int x2), some (.int x3), none, some (.int x5), none, none, none, none]) ⟨rfl, ⟨rfl, ⟨rfl, ⟨rfl, ⟨rfl, trivial⟩⟩⟩⟩⟩ h27
        · have h21 := h7.2 c21
          refine r_lconst (v := 0) ok273 46 rfl rfl rfl ?_
          refine r_goto ok273 47 rfl rfl ?_
          refine r_lstore ok273 57 rfl rfl ?_
          refine r_iload ok273 58 rfl rfl rfl ?_
          refine r_if_lt ok273 59 rfl rfl (fun c28 => ?_) (fun c28 => ?_)
          · have h28 := h21.1 c28
            exact G.weak (L' := [some (.ref 124), some (.int x1), some (.int x2), some (.int x3), none, some (.int x5), none, none, none, none]) ⟨rfl, ⟨rfl, ⟨rfl, ⟨rfl, ⟨rfl, trivial⟩⟩⟩⟩⟩ h28
          · have h28 := h21.2 c28
            refine r_iload_n ok273 60 rfl rfl rfl ?_
            refine r_if_eq ok273 61 rfl rfl (fun c29 => ?_) (fun c29 => ?_)
            · have h29 := h28.1 c29
              refine r_lload ok273 67 rfl rfl rfl ?_
              refine r_lload ok273 68 rfl rfl rfl ?_
              refine r_lcmp ok273 69 rfl rfl ?_
              refine r_if_le ok273 70 rfl rfl (fun c30 => ?_) (fun c30 => ?_)
              · have h30 := h29.1 c30
                exact G.weak (L' := [some (.ref 124), some (.int x1), some (.int x2), some (.int x3), some (.int x4), some (.int x5), none, none, none, none]) ⟨rfl, ⟨rfl, ⟨rfl, ⟨rfl, ⟨rfl, ⟨rfl, trivial⟩⟩⟩⟩⟩⟩ h30
              · have h30 := h29.2 c30
                exact G.weak (L' := [some (.ref 124), some (.int x1), some (.int x2), some (.int x3), none, some (.int x5), none, none, none, none]) ⟨rfl, ⟨rfl, ⟨rfl, ⟨rfl, ⟨rfl, trivial⟩⟩⟩⟩⟩ h30
            · have h29 := h28.2 c29
              refine r_lload ok273 62 rfl rfl rfl ?_
              refine r_lload ok273 63 rfl rfl rfl ?_
              refine r_lcmp ok273 64 rfl rfl ?_
              refine r_if_ge ok273 65 rfl rfl (fun c31 => ?_) (fun c31 => ?_)
              · have h31 := h29.1 c31
                exact G.weak (L' := [some (.ref 124), some (.int x1), some (.int x2), some (.int x3), some (.int x4), some (.int x5), none, none, none, none]) ⟨rfl, ⟨rfl, ⟨rfl, ⟨rfl, ⟨rfl, ⟨rfl, trivial⟩⟩⟩⟩⟩⟩ h31
              · have h31 := h29.2 c31
                refine r_goto ok273 66 rfl rfl ?_
                exact G.weak (L' := [some (.ref 124), some (.int x1), some (.int x2), some (.int x3), none, some (.int x5), none, none, none, none]) ⟨rfl, ⟨rfl, ⟨rfl, ⟨rfl, ⟨rfl, trivial⟩⟩⟩⟩⟩ h31
    · have h6 := h1.2 c6
      refine r_goto ok273 29 rfl rfl ?_
      exact h6

set_option maxRecDepth 100000 in
set_option maxHeartbeats 4000000 in
theorem B273_136 {Θ : Th} {d : Nat} {σ : Mem} {Q : Po} {x1 : Int32} {x2 : Int32} {x3 : Int32} {x5 : Int32} 
    (h : G Θ (d + 1) 273 140 [some (.ref 124), some (.int x1), some (.int x2), some (.int x3), some (.int x5), some (.int x5), none, none, none, none] [] σ Q) :
    G Θ (d + 1) 273 136 [some (.ref 124), some (.int x1), some (.int x2), some (.int x3), none, some (.int x5), none, none, none, none] [] σ Q := by
  refine r_iload ok273 71 rfl rfl rfl ?_
  refine r_istore ok273 72 rfl rfl ?_
  exact h

set_option maxRecDepth 100000 in
set_option maxHeartbeats 4000000 in
theorem B273_140 {Θ : Th} {d : Nat} {σ : Mem} {Q : Po} {x1 : Int32} {x2 : Int32} {x3 : Int32} {x4 : Int32} {x5 : Int32} 
    (h : G Θ (d + 1) 273 35 [some (.ref 124), some (.int x1), some (.int x2), some (.int x3), some (.int x4), some (.int (x5 + 1)), none, none, none, none] [] σ Q) :
    G Θ (d + 1) 273 140 [some (.ref 124), some (.int x1), some (.int x2), some (.int x3), some (.int x4), some (.int x5), none, none, none, none] [] σ Q := by
  refine r_iinc (v := x5 + 1) ok273 73 rfl rfl rfl rfl ?_
  refine r_goto ok273 74 rfl rfl ?_
  exact h

theorem K273 {Θ : Th} {d : Nat} {σ : Mem} {Q : Po} {x1 : Int32} {x2 : Int32} (h : G Θ (d + 1) 273 0 [some (.ref 124), some (.int x1), some (.int x2), none, none, none, none, none, none, none] [] σ Q) : Cm Θ (d + 1) 273 [.ref 124, .int x1, .int x2] σ Q :=
  C_of_G okM273 (Nat.le_of_ble_eq_true rfl) rfl h

-- 274: LikeYearsModel.first(I)I
set_option maxRecDepth 100000 in
set_option maxHeartbeats 4000000 in
theorem B274_0 {Θ : Th} {d : Nat} {σ : Mem} {Q : Po} {x1 : Int32} 
    (h : Ci Θ d 248 [.int x1] σ (fun v1 σ1 => ((¬ v1 = 0 → Cv Θ d 198 [.ref 124] σ1 (fun σ3 => Ci Θ d 272 [.ref 124, .int 0] σ3 (fun v4 σ4 => Ci Θ d 272 [.ref 124, .int 1] σ4 (fun v5 σ5 => G Θ (d + 1) 274 28 [some (.ref 124), some (.int x1), some (.int v4), some (.int v5), some (.int 0)] [] σ5 Q)))) ∧ (v1 = 0 → Q (some (.int (-1))) σ1)))) :
    G Θ (d + 1) 274 0 [some (.ref 124), some (.int x1), none, none, none] [] σ Q := by
  refine r_iload_n ok274 0 rfl rfl rfl ?_
  refine r_invSi (as := [.int x1]) (S := []) ok274 1 rfl rfl mf248 rfl (Nat.le_of_ble_eq_true rfl) rfl h (fun v1 σ1 h1 => ?_)
  refine r_if_ne ok274 2 rfl rfl (fun c2 => ?_) (fun c2 => ?_)
  · have h2 := h1.1 c2
    refine r_aload_n ok274 5 rfl rfl rfl ?_
    refine r_invVv (as := []) (S := []) ok274 6 rfl rfl mf198 rfl rfl (Nat.le_of_ble_eq_true rfl) rfl h2 (fun σ3 h3 => ?_)
    refine r_aload_n ok274 7 rfl rfl rfl ?_
    refine r_iconst (v := 0) ok274 8 rfl rfl rfl ?_
    refine r_invVi (as := [.int 0]) (S := []) ok274 9 rfl rfl mf272 rfl rfl (Nat.le_of_ble_eq_true rfl) rfl h3 (fun v4 σ4 h4 => ?_)
    refine r_istore_n ok274 10 rfl rfl ?_
    refine r_aload_n ok274 11 rfl rfl rfl ?_
    refine r_iconst (v := 1) ok274 12 rfl rfl rfl ?_
    refine r_invVi (as := [.int 1]) (S := []) ok274 13 rfl rfl mf272 rfl rfl (Nat.le_of_ble_eq_true rfl) rfl h4 (fun v5 σ5 h5 => ?_)
    refine r_istore_n ok274 14 rfl rfl ?_
    refine r_iconst (v := 0) ok274 15 rfl rfl rfl ?_
    refine r_istore ok274 16 rfl rfl ?_
    exact h5
  · have h2 := h1.2 c2
    refine r_iconst (v := (-1)) ok274 3 rfl rfl rfl ?_
    exact r_iret ok274 4 rfl rfl rfl h2

set_option maxRecDepth 100000 in
set_option maxHeartbeats 4000000 in
theorem B274_28 {Θ : Th} {d : Nat} {σ : Mem} {Q : Po} {x1 : Int32} {x2 : Int32} {x3 : Int32} {x4 : Int32} 
    (h : (((σ.1 124 38) ≤ x4 → Q (some (.int (-1))) σ) ∧ (¬ (σ.1 124 38) ≤ x4 → ((¬ ((x2 >>> (x4 &&& 31)) &&& 1) = 1 → ((¬ ((x3 >>> (x4 &&& 31)) &&& 1) = 1 → G Θ (d + 1) 274 28 [some (.ref 124), some (.int x1), some (.int x2), some (.int x3), some (.int (x4 + 1))] [] σ Q) ∧ (((x3 >>> (x4 &&& 31)) &&& 1) = 1 → (vp_in x4 16 ∧ ((x1 ≤ (σ.1 143 x4.toNatClampNeg) → G Θ (d + 1) 274 28 [some (.ref 124), some (.int x1), some (.int x2), some (.int x3), some (.int (x4 + 1))] [] σ Q) ∧ (¬ x1 ≤ (σ.1 143 x4.toNatClampNeg) → Q (some (.int x4)) σ)))))) ∧ (((x2 >>> (x4 &&& 31)) &&& 1) = 1 → (vp_in x4 16 ∧ ((x1 < (σ.1 143 x4.toNatClampNeg) → Q (some (.int x4)) σ) ∧ (¬ x1 < (σ.1 143 x4.toNatClampNeg) → ((¬ ((x3 >>> (x4 &&& 31)) &&& 1) = 1 → G Θ (d + 1) 274 28 [some (.ref 124), some (.int x1), some (.int x2), some (.int x3), some (.int (x4 + 1))] [] σ Q) ∧ (((x3 >>> (x4 &&& 31)) &&& 1) = 1 → (vp_in x4 16 ∧ ((x1 ≤ (σ.1 143 x4.toNatClampNeg) → G Θ (d + 1) 274 28 [some (.ref 124), some (.int x1), some (.int x2), some (.int x3), some (.int (x4 + 1))] [] σ Q) ∧ (¬ x1 ≤ (σ.1 143 x4.toNatClampNeg) → Q (some (.int x4)) σ))))))))))))) :
    G Θ (d + 1) 274 28 [some (.ref 124), some (.int x1), some (.int x2), some (.int x3), some (.int x4)] [] σ Q := by
  refine r_iload ok274 17 rfl rfl rfl ?_
  refine r_aload_n ok274 18 rfl rfl rfl ?_
  refine r_getI ok274 19 rfl rfl rfl rfl ?_
  refine r_icmp_ge ok274 20 rfl rfl (fun c1 => ?_) (fun c1 => ?_)
  · have h1 := h.1 c1
    refine r_iconst (v := (-1)) ok274 51 rfl rfl rfl ?_
    exact r_iret ok274 52 rfl rfl rfl h1
  · have h1 := h.2 c1
    refine r_iload_n ok274 21 rfl rfl rfl ?_
    refine r_iload ok274 22 rfl rfl rfl ?_
    refine r_ishr ok274 23 rfl rfl ?_
    refine r_iconst (v := 1) ok274 24 rfl rfl rfl ?_
    refine r_iand ok274 25 rfl rfl ?_
    refine r_iconst (v := 1) ok274 26 rfl rfl rfl ?_
    refine r_icmp_ne ok274 27 rfl rfl (fun c2 => ?_) (fun c2 => ?_)
    · have h2 := h1.1 c2
      refine r_iload_n ok274 34 rfl rfl rfl ?_
      refine r_iload ok274 35 rfl rfl rfl ?_
      refine r_ishr ok274 36 rfl rfl ?_
      refine r_iconst (v := 1) ok274 37 rfl rfl rfl ?_
      refine r_iand ok274 38 rfl rfl ?_
      refine r_iconst (v := 1) ok274 39 rfl rfl rfl ?_
      refine r_icmp_ne ok274 40 rfl rfl (fun c3 => ?_) (fun c3 => ?_)
      · have h3 := h2.1 c3
        refine r_iinc (v := x4 + 1) ok274 49 rfl rfl rfl rfl ?_
        refine r_goto ok274 50 rfl rfl ?_
        exact h3
      · have h3 := h2.2 c3
        refine r_aload_n ok274 41 rfl rfl rfl ?_
        refine r_getF ok274 42 rfl rfl rfl rfl ?_
        refine r_iload ok274 43 rfl rfl rfl ?_
        obtain ⟨c4, h4⟩ := h3
        refine r_iald ok274 44 rfl rfl rfl c4 ?_
        refine r_iload_n ok274 45 rfl rfl rfl ?_
        refine r_icmp_ge ok274 46 rfl rfl (fun c5 => ?_) (fun c5 => ?_)
        · have h5 := h4.1 c5
          refine r_iinc (v := x4 + 1) ok274 49 rfl rfl rfl rfl ?_
          refine r_goto ok274 50 rfl rfl ?_
          exact h5
        · have h5 := h4.2 c5
          refine r_iload ok274 47 rfl rfl rfl ?_
          exact r_iret ok274 48 rfl rfl rfl h5
    · have h2 := h1.2 c2
      refine r_iload_n ok274 28 rfl rfl rfl ?_
      refine r_aload_n ok274 29 rfl rfl rfl ?_
      refine r_getF ok274 30 rfl rfl rfl rfl ?_
      refine r_iload ok274 31 rfl rfl rfl ?_
      obtain ⟨c6, h6⟩ := h2
      refine r_iald ok274 32 rfl rfl rfl c6 ?_
      refine r_icmp_lt ok274 33 rfl rfl (fun c7 => ?_) (fun c7 => ?_)
      · have h7 := h6.1 c7
        refine r_iload ok274 47 rfl rfl rfl ?_
        exact r_iret ok274 48 rfl rfl rfl h7
      · have h7 := h6.2 c7
        refine r_iload_n ok274 34 rfl rfl rfl ?_
        refine r_iload ok274 35 rfl rfl rfl ?_
        refine r_ishr ok274 36 rfl rfl ?_
        refine r_iconst (v := 1) ok274 37 rfl rfl rfl ?_
        refine r_iand ok274 38 rfl rfl ?_
        refine r_iconst (v := 1) ok274 39 rfl rfl rfl ?_
        refine r_icmp_ne ok274 40 rfl rfl (fun c8 => ?_) (fun c8 => ?_)
        · have h8 := h7.1 c8
          refine r_iinc (v := x4 + 1) ok274 49 rfl rfl rfl rfl ?_
          refine r_goto ok274 50 rfl rfl ?_
          exact h8
        · have h8 := h7.2 c8
          refine r_aload_n ok274 41 rfl rfl rfl ?_
          refine r_getF ok274 42 rfl rfl rfl rfl ?_
          refine r_iload ok274 43 rfl rfl rfl ?_
          obtain ⟨c9, h9⟩ := h8
          refine r_iald ok274 44 rfl rfl rfl c9 ?_
          refine r_iload_n ok274 45 rfl rfl rfl ?_
          refine r_icmp_ge ok274 46 rfl rfl (fun c10 => ?_) (fun c10 => ?_)
          · have h10 := h9.1 c10
            refine r_iinc (v := x4 + 1) ok274 49 rfl rfl rfl rfl ?_
            refine r_goto ok274 50 rfl rfl ?_
            exact h10
          · have h10 := h9.2 c10
            refine r_iload ok274 47 rfl rfl rfl ?_
            exact r_iret ok274 48 rfl rfl rfl h10

theorem K274 {Θ : Th} {d : Nat} {σ : Mem} {Q : Po} {x1 : Int32} (h : G Θ (d + 1) 274 0 [some (.ref 124), some (.int x1), none, none, none] [] σ Q) : Cm Θ (d + 1) 274 [.ref 124, .int x1] σ Q :=
  C_of_G okM274 (Nat.le_of_ble_eq_true rfl) rfl h
