-- 226: LikeYearsModel.block(I)I
set_option maxRecDepth 100000 in
set_option maxHeartbeats 4000000 in
theorem B226_0 {Θ : Th} {d : Nat} {σ : Mem} {Q : Po} {x1 : Int32} 
    (h : Ci Θ d 200 [.ref 124, .int x1] σ (fun v1 σ1 => ((¬ v1 = 0 → Cv Θ d 198 [.ref 124] σ1 (fun σ3 => Cv Θ d 216 [.ref 124] σ3 (fun σ4 => Cv Θ d 221 [.ref 124] σ4 (fun σ5 => Ci Θ d 219 [.ref 124] σ5 (fun v6 σ6 => Ci Θ d 225 [.ref 124, .int v6] σ6 (fun v7 σ7 => G Θ (d + 1) 226 33 [some (.ref 124), some (.int x1), some (.int v6), some (.int v7)] [] σ7 Q)))))) ∧ (v1 = 0 → Q (some (.int (-1))) σ1)))) :
    G Θ (d + 1) 226 0 [some (.ref 124), some (.int x1), none, none] [] σ Q := by
  refine r_aload_n ok226 0 rfl rfl rfl ?_
  refine r_iload_n ok226 1 rfl rfl rfl ?_
  refine r_invVi (as := [.int x1]) (S := []) ok226 2 rfl rfl mf200 rfl rfl (Nat.le_of_ble_eq_true rfl) rfl h (fun v1 σ1 h1 => ?_)
  refine r_if_ne ok226 3 rfl rfl (fun c2 => ?_) (fun c2 => ?_)
  · have h2 := h1.1 c2
    refine r_aload_n ok226 6 rfl rfl rfl ?_
    refine r_invVv (as := []) (S := []) ok226 7 rfl rfl mf198 rfl rfl (Nat.le_of_ble_eq_true rfl) rfl h2 (fun σ3 h3 => ?_)
    refine r_aload_n ok226 8 rfl rfl rfl ?_
    refine r_invVv (as := []) (S := []) ok226 9 rfl rfl mf216 rfl rfl (Nat.le_of_ble_eq_true rfl) rfl h3 (fun σ4 h4 => ?_)
    refine r_aload_n ok226 10 rfl rfl rfl ?_
    refine r_invVv (as := []) (S := []) ok226 11 rfl rfl mf221 rfl rfl (Nat.le_of_ble_eq_true rfl) rfl h4 (fun σ5 h5 => ?_)
    refine r_aload_n ok226 12 rfl rfl rfl ?_
    refine r_invVi (as := []) (S := []) ok226 13 rfl rfl mf219 rfl rfl (Nat.le_of_ble_eq_true rfl) rfl h5 (fun v6 σ6 h6 => ?_)
    refine r_istore_n ok226 14 rfl rfl ?_
    refine r_aload_n ok226 15 rfl rfl rfl ?_
    refine r_iload_n ok226 16 rfl rfl rfl ?_
    refine r_invVi (as := [.int v6]) (S := []) ok226 17 rfl rfl mf225 rfl rfl (Nat.le_of_ble_eq_true rfl) rfl h6 (fun v7 σ7 h7 => ?_)
    refine r_istore_n ok226 18 rfl rfl ?_
    exact h7
  · have h2 := h1.2 c2
    refine r_iconst (v := (-1)) ok226 4 rfl rfl rfl ?_
    exact r_iret ok226 5 rfl rfl rfl h2

set_option maxRecDepth 100000 in
set_option maxHeartbeats 4000000 in
theorem B226_33 {Θ : Th} {d : Nat} {σ : Mem} {Q : Po} {x1 : Int32} {x2 : Int32} {x3 : Int32} 
    (h : ((x3 = 0 → Q (some (.int x2)) σ) ∧ (¬ x3 = 0 → ((¬ ((x3 >>> (x1 &&& 31)) &&& 1) = 1 → Ci Θ d 225 [.ref 124, .int (x2 &&& (x3 ^^^ (-1)))] σ (fun v3 σ3 => G Θ (d + 1) 226 33 [some (.ref 124), some (.int x1), some (.int (x2 &&& (x3 ^^^ (-1)))), some (.int v3)] [] σ3 Q)) ∧ (((x3 >>> (x1 &&& 31)) &&& 1) = 1 → Ci Θ d 225 [.ref 124, .int x3] σ (fun v4 σ4 => G Θ (d + 1) 226 33 [some (.ref 124), some (.int x1), some (.int x3), some (.int v4)] [] σ4 Q)))))) :
    G Θ (d + 1) 226 33 [some (.ref 124), some (.int x1), some (.int x2), some (.int x3)] [] σ Q := by
  refine r_iload_n ok226 19 rfl rfl rfl ?_
  refine r_if_eq ok226 20 rfl rfl (fun c1 => ?_) (fun c1 => ?_)
  · have h1 := h.1 c1
    refine r_iload_n ok226 41 rfl rfl rfl ?_
    exact r_iret ok226 42 rfl rfl rfl h1
  · have h1 := h.2 c1
    refine r_iload_n ok226 21 rfl rfl rfl ?_
    refine r_iload_n ok226 22 rfl rfl rfl ?_
    refine r_ishr ok226 23 rfl rfl ?_
    refine r_iconst (v := 1) ok226 24 rfl rfl rfl ?_
    refine r_iand ok226 25 rfl rfl ?_
    refine r_iconst (v := 1) ok226 26 rfl rfl rfl ?_
    refine r_icmp_ne ok226 27 rfl rfl (fun c2 => ?_) (fun c2 => ?_)
    · have h2 := h1.1 c2
      refine r_iload_n ok226 30 rfl rfl rfl ?_
      refine r_iload_n ok226 31 rfl rfl rfl ?_
      refine r_iconst (v := (-1)) ok226 32 rfl rfl rfl ?_
      refine r_ixor ok226 33 rfl rfl ?_
      refine r_iand ok226 34 rfl rfl ?_
      refine r_istore_n ok226 35 rfl rfl ?_
      refine r_aload_n ok226 36 rfl rfl rfl ?_
      refine r_iload_n ok226 37 rfl rfl rfl ?_
      refine r_invVi (as := [.int (x2 &&& (x3 ^^^ (-1)))]) (S := []) ok226 38 rfl rfl mf225 rfl rfl (Nat.le_of_ble_eq_true rfl) rfl h2 (fun v3 σ3 h3 => ?_)
      refine r_istore_n ok226 39 rfl rfl ?_
      refine r_goto ok226 40 rfl rfl ?_
      exact h3
    · have h2 := h1.2 c2
      refine r_iload_n ok226 28 rfl rfl rfl ?_
      refine r_goto ok226 29 rfl rfl ?_
      refine r_istore_n ok226 35 rfl rfl ?_
      refine r_aload_n ok226 36 rfl rfl rfl ?_
      refine r_iload_n ok226 37 rfl rfl rfl ?_
      refine r_invVi (as := [.int x3]) (S := []) ok226 38 rfl rfl mf225 rfl rfl (Nat.le_of_ble_eq_true rfl) rfl h2 (fun v4 σ4 h4 => ?_)
      refine r_istore_n ok226 39 rfl rfl ?_
      refine r_goto ok226 40 rfl rfl ?_
      exact h4

theorem K226 {Θ : Th} {d : Nat} {σ : Mem} {Q : Po} {x1 : Int32} (h : G Θ (d + 1) 226 0 [some (.ref 124), some (.int x1), none, none] [] σ Q) : Cm Θ (d + 1) 226 [.ref 124, .int x1] σ Q :=
  C_of_G okM226 (Nat.le_of_ble_eq_true rfl) rfl h

-- 227: LikeYearsModel.between(I)I
set_option maxRecDepth 100000 in
set_option maxHeartbeats 4000000 in
theorem B227_0 {Θ : Th} {d : Nat} {σ : Mem} {Q : Po} {x1 : Int32} 
    (h : (vp_in x1 16 ∧ (vp_in x1 16 ∧ G Θ (d + 1) 227 17 [some (.ref 124), some (.int x1), some (.int (σ.1 143 x1.toNatClampNeg)), some (.int (σ.1 143 x1.toNatClampNeg)), some (.int 0)] [] σ Q))) :
    G Θ (d + 1) 227 0 [some (.ref 124), some (.int x1), none, none, none] [] σ Q := by
  refine r_aload_n ok227 0 rfl rfl rfl ?_
  refine r_getF ok227 1 rfl rfl rfl rfl ?_
  refine r_iload_n ok227 2 rfl rfl rfl ?_
  obtain ⟨c1, h1⟩ := h
  refine r_iald ok227 3 rfl rfl rfl c1 ?_
  refine r_istore_n ok227 4 rfl rfl ?_
  refine r_aload_n ok227 5 rfl rfl rfl ?_
  refine r_getF ok227 6 rfl rfl rfl rfl ?_
  refine r_iload_n ok227 7 rfl rfl rfl ?_
  obtain ⟨c2, h2⟩ := h1
  refine r_iald ok227 8 rfl rfl rfl c2 ?_
  refine r_istore_n ok227 9 rfl rfl ?_
  refine r_iconst (v := 0) ok227 10 rfl rfl rfl ?_
  refine r_istore ok227 11 rfl rfl ?_
  exact h2

set_option maxRecDepth 100000 in
set_option maxHeartbeats 4000000 in
theorem B227_17 {Θ : Th} {d : Nat} {σ : Mem} {Q : Po} {x1 : Int32} {x2 : Int32} {x3 : Int32} {x4 : Int32} 
    (h : (((σ.1 124 38) ≤ x4 → Q (some (.int (x2 + x3))) σ) ∧ (¬ (σ.1 124 38) ≤ x4 → Ci Θ d 202 [.ref 124, .int x1, .int x4] σ (fun v2 σ2 => ((v2 = 0 → Ci Θ d 202 [.ref 124, .int x4, .int x1] σ2 (fun v4 σ4 => ((v4 = 0 → G Θ (d + 1) 227 17 [some (.ref 124), some (.int x1), some (.int x2), some (.int x3), some (.int (x4 + 1))] [] σ4 Q) ∧ (¬ v4 = 0 → (vp_in x4 16 ∧ ((x3 ≤ (σ4.1 143 x4.toNatClampNeg) → G Θ (d + 1) 227 17 [some (.ref 124), some (.int x1), some (.int x2), some (.int x3), some (.int (x4 + 1))] [] σ4 Q) ∧ (¬ x3 ≤ (σ4.1 143 x4.toNatClampNeg) → (vp_in x4 16 ∧ G Θ (d + 1) 227 17 [some (.ref 124), some (.int x1), some (.int x2), some (.int (σ4.1 143 x4.toNatClampNeg)), some (.int (x4 + 1))] [] σ4 Q)))))))) ∧ (¬ v2 = 0 → (vp_in x4 16 ∧ (((σ2.1 143 x4.toNatClampNeg) ≤ x2 → Ci Θ d 202 [.ref 124, .int x4, .int x1] σ2 (fun v11 σ11 => ((v11 = 0 → G Θ (d + 1) 227 17 [some (.ref 124), some (.int x1), some (.int x2), some (.int x3), some (.int (x4 + 1))] [] σ11 Q) ∧ (¬ v11 = 0 → (vp_in x4 16 ∧ ((x3 ≤ (σ11.1 143 x4.toNatClampNeg) → G Θ (d + 1) 227 17 [some (.ref 124), some (.int x1), some (.int x2), some (.int x3), some (.int (x4 + 1))] [] σ11 Q) ∧ (¬ x3 ≤ (σ11.1 143 x4.toNatClampNeg) → (vp_in x4 16 ∧ G Θ (d + 1) 227 17 [some (.ref 124), some (.int x1), some (.int x2), some (.int (σ11.1 143 x4.toNatClampNeg)), some (.int (x4 + 1))] [] σ11 Q)))))))) ∧ (¬ (σ2.1 143 x4.toNatClampNeg) ≤ x2 → (vp_in x4 16 ∧ Ci Θ d 202 [.ref 124, .int x4, .int x1] σ2 (fun v17 σ17 => ((v17 = 0 → G Θ (d + 1) 227 17 [some (.ref 124), some (.int x1), some (.int (σ2.1 143 x4.toNatClampNeg)), some (.int x3), some (.int (x4 + 1))] [] σ17 Q) ∧ (¬ v17 = 0 → (vp_in x4 16 ∧ ((x3 ≤ (σ17.1 143 x4.toNatClampNeg) → G Θ (d + 1) 227 17 [some (.ref 124), some (.int x1), some (.int (σ2.1 143 x4.toNatClampNeg)), some (.int x3), some (.int (x4 + 1))] [] σ17 Q) ∧ (¬ x3 ≤ (σ17.1 143 x4.toNatClampNeg) → (vp_in x4 16 ∧ G Θ (d + 1) 227 17 [some (.ref 124), some (.int x1), some (.int (σ2.1 143 x4.toNatClampNeg)), some (.int (σ17.1 143 x4.toNatClampNeg)), some (.int (x4 + 1))] [] σ17 Q))))))))))))))))) :
    G Θ (d + 1) 227 17 [some (.ref 124), some (.int x1), some (.int x2), some (.int x3), some (.int x4)] [] σ Q := by
  refine r_iload ok227 12 rfl rfl rfl ?_
  refine r_aload_n ok227 13 rfl rfl rfl ?_
  refine r_getI ok227 14 rfl rfl rfl rfl ?_
  refine r_icmp_ge ok227 15 rfl rfl (fun c1 => ?_) (fun c1 => ?_)
  · have h1 := h.1 c1
    refine r_iload_n ok227 50 rfl rfl rfl ?_
    refine r_iload_n ok227 51 rfl rfl rfl ?_
    refine r_iadd ok227 52 rfl rfl ?_
    exact r_iret ok227 53 rfl rfl rfl h1
  · have h1 := h.2 c1
    refine r_aload_n ok227 16 rfl rfl rfl ?_
    refine r_iload_n ok227 17 rfl rfl rfl ?_
    refine r_iload ok227 18 rfl rfl rfl ?_
    refine r_invVi (as := [.int x1, .int x4]) (S := []) ok227 19 rfl rfl mf202 rfl rfl (Nat.le_of_ble_eq_true rfl) rfl h1 (fun v2 σ2 h2 => ?_)
    refine r_if_eq ok227 20 rfl rfl (fun c3 => ?_) (fun c3 => ?_)
    · have h3 := h2.1 c3
      refine r_aload_n ok227 32 rfl rfl rfl ?_
      refine r_iload ok227 33 rfl rfl rfl ?_
      refine r_iload_n ok227 34 rfl rfl rfl ?_
      refine r_invVi (as := [.int x4, .int x1]) (S := []) ok227 35 rfl rfl mf202 rfl rfl (Nat.le_of_ble_eq_true rfl) rfl h3 (fun v4 σ4 h4 => ?_)
      refine r_if_eq ok227 36 rfl rfl (fun c5 => ?_) (fun c5 => ?_)
      · have h5 := h4.1 c5
        refine r_iinc (v := x4 + 1) ok227 48 rfl rfl rfl rfl ?_
        refine r_goto ok227 49 rfl rfl ?_
        exact h5
      · have h5 := h4.2 c5
        refine r_aload_n ok227 37 rfl rfl rfl ?_
        refine r_getF ok227 38 rfl rfl rfl rfl ?_
        refine r_iload ok227 39 rfl rfl rfl ?_
        obtain ⟨c6, h6⟩ := h5
        refine r_iald ok227 40 rfl rfl rfl c6 ?_
        refine r_iload_n ok227 41 rfl rfl rfl ?_
        refine r_icmp_ge ok227 42 rfl rfl (fun c7 => ?_) (fun c7 => ?_)
        · have h7 := h6.1 c7
          refine r_iinc (v := x4 + 1) ok227 48 rfl rfl rfl rfl ?_
          refine r_goto ok227 49 rfl rfl ?_
          exact h7
        · have h7 := h6.2 c7
          refine r_aload_n ok227 43 rfl rfl rfl ?_
          refine r_getF ok227 44 rfl rfl rfl rfl ?_
          refine r_iload ok227 45 rfl rfl rfl ?_
          obtain ⟨c8, h8⟩ := h7
          refine r_iald ok227 46 rfl rfl rfl c8 ?_
          refine r_istore_n ok227 47 rfl rfl ?_
          refine r_iinc (v := x4 + 1) ok227 48 rfl rfl rfl rfl ?_
          refine r_goto ok227 49 rfl rfl ?_
          exact h8
    · have h3 := h2.2 c3
      refine r_aload_n ok227 21 rfl rfl rfl ?_
      refine r_getF ok227 22 rfl rfl rfl rfl ?_
      refine r_iload ok227 23 rfl rfl rfl ?_
      obtain ⟨c9, h9⟩ := h3
      refine r_iald ok227 24 rfl rfl rfl c9 ?_
      refine r_iload_n ok227 25 rfl rfl rfl ?_
      refine r_icmp_le ok227 26 rfl rfl (fun c10 => ?_) (fun c10 => ?_)
      · have h10 := h9.1 c10
        refine r_aload_n ok227 32 rfl rfl rfl ?_
        refine r_iload ok227 33 rfl rfl rfl ?_
        refine r_iload_n ok227 34 rfl rfl rfl ?_
        refine r_invVi (as := [.int x4, .int x1]) (S := []) ok227 35 rfl rfl mf202 rfl rfl (Nat.le_of_ble_eq_true rfl) rfl h10 (fun v11 σ11 h11 => ?_)
        refine r_if_eq ok227 36 rfl rfl (fun c12 => ?_) (fun c12 => ?_)
        · have h12 := h11.1 c12
          refine r_iinc (v := x4 + 1) ok227 48 rfl rfl rfl rfl ?_
          refine r_goto ok227 49 rfl rfl ?_
          exact h12
        · have h12 := h11.2 c12
          refine r_aload_n ok227 37 rfl rfl rfl ?_
          refine r_getF ok227 38 rfl rfl rfl rfl ?_
          refine r_iload ok227 39 rfl rfl rfl ?_
          obtain ⟨c13, h13⟩ := h12
          refine r_iald ok227 40 rfl rfl rfl c13 ?_
          refine r_iload_n ok227 41 rfl rfl rfl ?_
          refine r_icmp_ge ok227 42 rfl rfl (fun c14 => ?_) (fun c14 => ?_)
          · have h14 := h13.1 c14
            refine r_iinc (v := x4 + 1) ok227 48 rfl rfl rfl rfl ?_
            refine r_goto ok227 49 rfl rfl ?_
            exact h14
          · have h14 := h13.2 c14
            refine r_aload_n ok227 43 rfl rfl rfl ?_
            refine r_getF ok227 44 rfl rfl rfl rfl ?_
            refine r_iload ok227 45 rfl rfl rfl ?_
            obtain ⟨c15, h15⟩ := h14
            refine r_iald ok227 46 rfl rfl rfl c15 ?_
            refine r_istore_n ok227 47 rfl rfl ?_
            refine r_iinc (v := x4 + 1) ok227 48 rfl rfl rfl rfl ?_
            refine r_goto ok227 49 rfl rfl ?_
            exact h15
      · have h10 := h9.2 c10
        refine r_aload_n ok227 27 rfl rfl rfl ?_
        refine r_getF ok227 28 rfl rfl rfl rfl ?_
        refine r_iload ok227 29 rfl rfl rfl ?_
        obtain ⟨c16, h16⟩ := h10
        refine r_iald ok227 30 rfl rfl rfl c16 ?_
        refine r_istore_n ok227 31 rfl rfl ?_
        refine r_aload_n ok227 32 rfl rfl rfl ?_
        refine r_iload ok227 33 rfl rfl rfl ?_
        refine r_iload_n ok227 34 rfl rfl rfl ?_
        refine r_invVi (as := [.int x4, .int x1]) (S := []) ok227 35 rfl rfl mf202 rfl rfl (Nat.le_of_ble_eq_true rfl) rfl h16 (fun v17 σ17 h17 => ?_)
        refine r_if_eq ok227 36 rfl rfl (fun c18 => ?_) (fun c18 => ?_)
        · have h18 := h17.1 c18
          refine r_iinc (v := x4 + 1) ok227 48 rfl rfl rfl rfl ?_
          refine r_goto ok227 49 rfl rfl ?_
          exact h18
        · have h18 := h17.2 c18
          refine r_aload_n ok227 37 rfl rfl rfl ?_
          refine r_getF ok227 38 rfl rfl rfl rfl ?_
          refine r_iload ok227 39 rfl rfl rfl ?_
          obtain ⟨c19, h19⟩ := h18
          refine r_iald ok227 40 rfl rfl rfl c19 ?_
          refine r_iload_n ok227 41 rfl rfl rfl ?_
          refine r_icmp_ge ok227 42 rfl rfl (fun c20 => ?_) (fun c20 => ?_)
          · have h20 := h19.1 c20
            refine r_iinc (v := x4 + 1) ok227 48 rfl rfl rfl rfl ?_
            refine r_goto ok227 49 rfl rfl ?_
            exact h20
          · have h20 := h19.2 c20
            refine r_aload_n ok227 43 rfl rfl rfl ?_
            refine r_getF ok227 44 rfl rfl rfl rfl ?_
            refine r_iload ok227 45 rfl rfl rfl ?_
            obtain ⟨c21, h21⟩ := h20
            refine r_iald ok227 46 rfl rfl rfl c21 ?_
            refine r_istore_n ok227 47 rfl rfl ?_
            refine r_iinc (v := x4 + 1) ok227 48 rfl rfl rfl rfl ?_
            refine r_goto ok227 49 rfl rfl ?_
            exact h21

theorem K227 {Θ : Th} {d : Nat} {σ : Mem} {Q : Po} {x1 : Int32} (h : G Θ (d + 1) 227 0 [some (.ref 124), some (.int x1), none, none, none] [] σ Q) : Cm Θ (d + 1) 227 [.ref 124, .int x1] σ Q :=
  C_of_G okM227 (Nat.le_of_ble_eq_true rfl) rfl h

-- 228: LikeYearsModel.kept(III)J
set_option maxRecDepth 100000 in
set_option maxHeartbeats 4000000 in
theorem B228_0 {Θ : Th} {d : Nat} {σ : Mem} {Q : Po} {x1 : Int32} {x2 : Int32} {x3 : Int32} 
    (h : ((x1 < 0 → Q (some (.long (-1))) σ) ∧ (¬ x1 < 0 → ((2 < x1 → Q (some (.long (-1))) σ) ∧ (¬ 2 < x1 → Ci Θ d 200 [.ref 124, .int x2] σ (fun v3 σ3 => ((v3 = 0 → Q (some (.long (-1))) σ3) ∧ (¬ v3 = 0 → Ci Θ d 213 [.int x3] σ3 (fun v5 σ5 => ((¬ v5 = 0 → Cv Θ d 198 [.ref 124] σ5 (fun σ7 => ((¬ x1 = 0 → ((¬ x1 = 1 → Ci Θ d 227 [.ref 124, .int x2] σ7 (fun v10 σ10 => Cv Θ d 211 [.ref 124, .long v10.toInt64, .long 2] σ10 (fun σ11 => Cl Θ d 214 [.ref 124, .int x3] σ11 (fun v12 σ12 => Q (some (.long v12)) σ12)))) ∧ (x1 = 1 → Cv Θ d 222 [.ref 124] σ7 (fun σ13 => (vp_in x2 16 ∧ Cv Θ d 211 [.ref 124, .long ((σ13.1 157 x2.toNatClampNeg).toInt64), .long 1] σ13 (fun σ15 => Cl Θ d 214 [.ref 124, .int x3] σ15 (fun v16 σ16 => Q (some (.long v16)) σ16))))))) ∧ (x1 = 0 → Ci Θ d 219 [.ref 124] σ7 (fun v17 σ17 => Cv Θ d 217 [.ref 124, .int v17] σ17 (fun σ18 => ((¬ x3 = 0 → (vp_in x2 16 ∧ Q (some (.long (σ18.2.1 155 x2.toNatClampNeg))) σ18)) ∧ (x3 = 0 → (vp_in x2 16 ∧ Q (some (.long (σ18.2.1 154 x2.toNatClampNeg))) σ18))))))))) ∧ (v5 = 0 → Q (some (.long (-1))) σ5))))))))))) :
    G Θ (d + 1) 228 0 [some (.ref 124), some (.int x1), some (.int x2), some (.int x3)] [] σ Q := by
  refine r_iload_n ok228 0 rfl rfl rfl ?_
  refine r_if_lt ok228 1 rfl rfl (fun c1 => ?_) (fun c1 => ?_)
  · have h1 := h.1 c1
    refine r_ldc2_w (v := (-1)) ok228 12 rfl rfl rfl ?_
    exact r_lret ok228 13 rfl rfl rfl h1
  · have h1 := h.2 c1
    refine r_iload_n ok228 2 rfl rfl rfl ?_
    refine r_iconst (v := 2) ok228 3 rfl rfl rfl ?_
    refine r_icmp_gt ok228 4 rfl rfl (fun c2 => ?_) (fun c2 => ?_)
    · have h2 := h1.1 c2
      refine r_ldc2_w (v := (-1)) ok228 12 rfl rfl rfl ?_
      exact r_lret ok228 13 rfl rfl rfl h2
    · have h2 := h1.2 c2
      refine r_aload_n ok228 5 rfl rfl rfl ?_
      refine r_iload_n ok228 6 rfl rfl rfl ?_
      refine r_invVi (as := [.int x2]) (S := []) ok228 7 rfl rfl mf200 rfl rfl (Nat.le_of_ble_eq_true rfl) rfl h2 (fun v3 σ3 h3 => ?_)
      refine r_if_eq ok228 8 rfl rfl (fun c4 => ?_) (fun c4 => ?_)
      · have h4 := h3.1 c4
        refine r_ldc2_w (v := (-1)) ok228 12 rfl rfl rfl ?_
        exact r_lret ok228 13 rfl rfl rfl h4
      · have h4 := h3.2 c4
        refine r_iload_n ok228 9 rfl rfl rfl ?_
        refine r_invSi (as := [.int x3]) (S := []) ok228 10 rfl rfl mf213 rfl (Nat.le_of_ble_eq_true rfl) rfl h4 (fun v5 σ5 h5 => ?_)
        refine r_if_ne ok228 11 rfl rfl (fun c6 => ?_) (fun c6 => ?_)
        · have h6 := h5.1 c6
          refine r_aload_n ok228 14 rfl rfl rfl ?_
          refine r_invVv (as := []) (S := []) ok228 15 rfl rfl mf198 rfl rfl (Nat.le_of_ble_eq_true rfl) rfl h6 (fun σ7 h7 => ?_)
          refine r_iload_n ok228 16 rfl rfl rfl ?_
          refine r_if_ne ok228 17 rfl rfl (fun c8 => ?_) (fun c8 => ?_)
          · have h8 := h7.1 c8
            refine r_iload_n ok228 34 rfl rfl rfl ?_
            refine r_iconst (v := 1) ok228 35 rfl rfl rfl ?_
            refine r_icmp_ne ok228 36 rfl rfl (fun c9 => ?_) (fun c9 => ?_)
            · have h9 := h8.1 c9
              refine r_aload_n ok228 48 rfl rfl rfl ?_
              refine r_aload_n ok228 49 rfl rfl rfl ?_
              refine r_iload_n ok228 50 rfl rfl rfl ?_
              refine r_invVi (as := [.int x2]) (S := [.ref 124]) ok228 51 rfl rfl mf227 rfl rfl (Nat.le_of_ble_eq_true rfl) rfl h9 (fun v10 σ10 h10 => ?_)
              refine r_i2l ok228 52 rfl rfl ?_
              refine r_ldc2_w (v := 2) ok228 53 rfl rfl rfl ?_
              refine r_invVv (as := [.long v10.toInt64, .long 2]) (S := []) ok228 54 rfl rfl mf211 rfl rfl (Nat.le_of_ble_eq_true rfl) rfl h10 (fun σ11 h11 => ?_)
              refine r_aload_n ok228 55 rfl rfl rfl ?_
              refine r_iload_n ok228 56 rfl rfl rfl ?_
              refine r_invVl (as := [.int x3]) (S := []) ok228 57 rfl rfl mf214 rfl rfl (Nat.le_of_ble_eq_true rfl) rfl h11 (fun v12 σ12 h12 => ?_)
              exact r_lret ok228 58 rfl rfl rfl h12
            · have h9 := h8.2 c9
              refine r_aload_n ok228 37 rfl rfl rfl ?_
              refine r_invVv (as := []) (S := []) ok228 38 rfl rfl mf222 rfl rfl (Nat.le_of_ble_eq_true rfl) rfl h9 (fun σ13 h13 => ?_)
              refine r_aload_n ok228 39 rfl rfl rfl ?_
              refine r_aload_n ok228 40 rfl rfl rfl ?_
              refine r_getF ok228 41 rfl rfl rfl rfl ?_
              refine r_iload_n ok228 42 rfl rfl rfl ?_
              obtain ⟨c14, h14⟩ := h13
              refine r_iald ok228 43 rfl rfl rfl c14 ?_
              refine r_i2l ok228 44 rfl rfl ?_
              refine r_lconst (v := 1) ok228 45 rfl rfl rfl ?_
              refine r_invVv (as := [.long ((σ13.1 157 x2.toNatClampNeg).toInt64), .long 1]) (S := []) ok228 46 rfl rfl mf211 rfl rfl (Nat.le_of_ble_eq_true rfl) rfl h14 (fun σ15 h15 => ?_)
              refine r_goto ok228 47 rfl rfl ?_
              refine r_aload_n ok228 55 rfl rfl rfl ?_
              refine r_iload_n ok228 56 rfl rfl rfl ?_
              refine r_invVl (as := [.int x3]) (S := []) ok228 57 rfl rfl mf214 rfl rfl (Nat.le_of_ble_eq_true rfl) rfl h15 (fun v16 σ16 h16 => ?_)
              exact r_lret ok228 58 rfl rfl rfl h16
          · have h8 := h7.2 c8
            refine r_aload_n ok228 18 rfl rfl rfl ?_
            refine r_aload_n ok228 19 rfl rfl rfl ?_
            refine r_invVi (as := []) (S := [.ref 124]) ok228 20 rfl rfl mf219 rfl rfl (Nat.le_of_ble_eq_true rfl) rfl h8 (fun v17 σ17 h17 => ?_)
            refine r_invVv (as := [.int v17]) (S := []) ok228 21 rfl rfl mf217 rfl rfl (Nat.le_of_ble_eq_true rfl) rfl h17 (fun σ18 h18 => ?_)
            refine r_iload_n ok228 22 rfl rfl rfl ?_
            refine r_if_ne ok228 23 rfl rfl (fun c19 => ?_) (fun c19 => ?_)
            · have h19 := h18.1 c19
              refine r_aload_n ok228 29 rfl rfl rfl ?_
              refine r_getF ok228 30 rfl rfl rfl rfl ?_
              refine r_iload_n ok228 31 rfl rfl rfl ?_
              obtain ⟨c20, h20⟩ := h19
              refine r_lald ok228 32 rfl rfl rfl c20 ?_
              exact r_lret ok228 33 rfl rfl rfl h20
            · have h19 := h18.2 c19
              refine r_aload_n ok228 24 rfl rfl rfl ?_
              refine r_getF ok228 25 rfl rfl rfl rfl ?_
              refine r_iload_n ok228 26 rfl rfl rfl ?_
              obtain ⟨c21, h21⟩ := h19
              refine r_lald ok228 27 rfl rfl rfl c21 ?_
              refine r_goto ok228 28 rfl rfl ?_
              exact r_lret ok228 33 rfl rfl rfl h21
        · have h6 := h5.2 c6
          refine r_ldc2_w (v := (-1)) ok228 12 rfl rfl rfl ?_
          exact r_lret ok228 13 rfl rfl rfl h6

theorem K228 {Θ : Th} {d : Nat} {σ : Mem} {Q : Po} {x1 : Int32} {x2 : Int32} {x3 : Int32} (h : G Θ (d + 1) 228 0 [some (.ref 124), some (.int x1), some (.int x2), some (.int x3)] [] σ Q) : Cm Θ (d + 1) 228 [.ref 124, .int x1, .int x2, .int x3] σ Q :=
  C_of_G okM228 (Nat.le_of_ble_eq_true rfl) rfl h

-- 229: LikeYearsModel.cost(II)J
set_option maxRecDepth 100000 in
set_option maxHeartbeats 4000000 in
theorem B229_0 {Θ : Th} {d : Nat} {σ : Mem} {Q : Po} {x1 : Int32} {x2 : Int32} 
    (h : ((x1 < 0 → Q (some (.long (-1))) σ) ∧ (¬ x1 < 0 → ((2 < x1 → Q (some (.long (-1))) σ) ∧ (¬ 2 < x1 → Ci Θ d 213 [.int x2] σ (fun v3 σ3 => ((¬ v3 = 0 → Cv Θ d 198 [.ref 124] σ3 (fun σ5 => ((¬ x1 = 0 → ((¬ x1 = 1 → G Θ (d + 1) 229 89 [some (.ref 124), none, some (.int x2), some (.int 0), some (.int 0), none] [] σ5 Q) ∧ (x1 = 1 → Cv Θ d 222 [.ref 124] σ5 (fun σ8 => Cv Θ d 211 [.ref 124, .long 0, .long 1] σ8 (fun σ9 => G Θ (d + 1) 229 56 [some (.ref 124), none, some (.int x2), some (.int 0), none, none] [] σ9 Q))))) ∧ (x1 = 0 → Ci Θ d 219 [.ref 124] σ5 (fun v10 σ10 => Cv Θ d 217 [.ref 124, .int v10] σ10 (fun σ11 => Cl Θ d 214 [.ref 124, .int x2] σ11 (fun v12 σ12 => Q (some (.long v12)) σ12))))))) ∧ (v3 = 0 → Q (some (.long (-1))) σ3)))))))) :
    G Θ (d + 1) 229 0 [some (.ref 124), some (.int x1), some (.int x2), none, none, none] [] σ Q := by
  refine r_iload_n ok229 0 rfl rfl rfl ?_
  refine r_if_lt ok229 1 rfl rfl (fun c1 => ?_) (fun c1 => ?_)
  · have h1 := h.1 c1
    refine r_ldc2_w (v := (-1)) ok229 8 rfl rfl rfl ?_
    exact r_lret ok229 9 rfl rfl rfl h1
  · have h1 := h.2 c1
    refine r_iload_n ok229 2 rfl rfl rfl ?_
    refine r_iconst (v := 2) ok229 3 rfl rfl rfl ?_
    refine r_icmp_gt ok229 4 rfl rfl (fun c2 => ?_) (fun c2 => ?_)
    · have h2 := h1.1 c2
      refine r_ldc2_w (v := (-1)) ok229 8 rfl rfl rfl ?_
      exact r_lret ok229 9 rfl rfl rfl h2
    · have h2 := h1.2 c2
      refine r_iload_n ok229 5 rfl rfl rfl ?_
      refine r_invSi (as := [.int x2]) (S := []) ok229 6 rfl rfl mf213 rfl (Nat.le_of_ble_eq_true rfl) rfl h2 (fun v3 σ3 h3 => ?_)
      refine r_if_ne ok229 7 rfl rfl (fun c4 => ?_) (fun c4 => ?_)
      · have h4 := h3.1 c4
        refine r_aload_n ok229 10 rfl rfl rfl ?_
        refine r_invVv (as := []) (S := []) ok229 11 rfl rfl mf198 rfl rfl (Nat.le_of_ble_eq_true rfl) rfl h4 (fun σ5 h5 => ?_)
        refine r_iload_n ok229 12 rfl rfl rfl ?_
        refine r_if_ne ok229 13 rfl rfl (fun c6 => ?_) (fun c6 => ?_)
        · have h6 := h5.1 c6
          refine r_iload_n ok229 19 rfl rfl rfl ?_
          refine r_iconst (v := 1) ok229 20 rfl rfl rfl ?_
          refine r_icmp_ne ok229 21 rfl rfl (fun c7 => ?_) (fun c7 => ?_)
          · have h7 := h6.1 c7
            refine r_iconst (v := 0) ok229 44 rfl rfl rfl ?_
            refine r_istore_n ok229 45 rfl rfl ?_
            refine r_iconst (v := 0) ok229 46 rfl rfl rfl ?_
            refine r_istore ok229 47 rfl rfl ?_
            exact G.weak (L' := [some (.ref 124), none, some (.int x2), some (.int 0), some (.int 0), none]) ⟨rfl, ⟨rfl, ⟨rfl, ⟨rfl, trivial⟩⟩⟩⟩ h7
          · have h7 := h6.2 c7
            refine r_aload_n ok229 22 rfl rfl rfl ?_
            refine r_invVv (as := []) (S := []) ok229 23 rfl rfl mf222 rfl rfl (Nat.le_of_ble_eq_true rfl) rfl h7 (fun σ8 h8 => ?_)
            refine r_aload_n ok229 24 rfl rfl rfl ?_
            refine r_lconst (v := 0) ok229 25 rfl rfl rfl ?_
            refine r_lconst (v := 1) ok229 26 rfl rfl rfl ?_
            refine r_invVv (as := [.long 0, .long 1]) (S := []) ok229 27 rfl rfl mf211 rfl rfl (Nat.le_of_ble_eq_true rfl) rfl h8 (fun σ9 h9 => ?_)
            refine r_iconst (v := 0) ok229 28 rfl rfl rfl ?_
            refine r_istore_n ok229 29 rfl rfl ?_
            exact G.weak (L' := [some (.ref 124), none, some (.int x2), some (.int 0), none, none]) ⟨rfl, ⟨rfl, ⟨rfl, trivial⟩⟩⟩ h9
        · have h6 := h5.2 c6
          refine r_aload_n ok229 14 rfl rfl rfl ?_
          refine r_aload_n ok229 15 rfl rfl rfl ?_
          refine r_invVi (as := []) (S := [.ref 124]) ok229 16 rfl rfl mf219 rfl rfl (Nat.le_of_ble_eq_true rfl) rfl h6 (fun v10 σ10 h10 => ?_)
          refine r_invVv (as := [.int v10]) (S := []) ok229 17 rfl rfl mf217 rfl rfl (Nat.le_of_ble_eq_true rfl) rfl h10 (fun σ11 h11 => ?_)
          refine r_goto ok229 18 rfl rfl ?_
          refine r_aload_n ok229 84 rfl rfl rfl ?_
          refine r_iload_n ok229 85 rfl rfl rfl ?_
          refine r_invVl (as := [.int x2]) (S := []) ok229 86 rfl rfl mf214 rfl rfl (Nat.le_of_ble_eq_true rfl) rfl h11 (fun v12 σ12 h12 => ?_)
          exact r_lret ok229 87 rfl rfl rfl h12
      · have h4 := h3.2 c4
        refine r_ldc2_w (v := (-1)) ok229 8 rfl rfl rfl ?_
        exact r_lret ok229 9 rfl rfl rfl h4

set_option maxRecDepth 100000 in
set_option maxHeartbeats 4000000 in
theorem B229_89 {Θ : Th} {d : Nat} {σ : Mem} {Q : Po} {x2 : Int32} {x3 : Int32} {x4 : Int32} 
    (h : (((σ.1 124 38) ≤ x4 → Cv Θ d 211 [.ref 124, .long x3.toInt64, .long 2] σ (fun σ2 => Cl Θ d 214 [.ref 124, .int x2] σ2 (fun v3 σ3 => Q (some (.long v3)) σ3))) ∧ (¬ (σ.1 124 38) ≤ x4 → (vp_in x4 16 ∧ Ci Θ d 227 [.ref 124, .int x4] σ (fun v5 σ5 => ((0 ≤ ((2 * (σ.1 143 x4.toNatClampNeg)) - v5) → ((((2 * (σ.1 143 x4.toNatClampNeg)) - v5) ≤ x3 → G Θ (d + 1) 229 89 [some (.ref 124), none, some (.int x2), some (.int x3), some (.int (x4 + 1)), none] [] σ5 Q) ∧ (¬ ((2 * (σ.1 143 x4.toNatClampNeg)) - v5) ≤ x3 → G Θ (d + 1) 229 89 [some (.ref 124), none, some (.int x2), some (.int ((2 * (σ.1 143 x4.toNatClampNeg)) - v5)), some (.int (x4 + 1)), none] [] σ5 Q))) ∧ (¬ 0 ≤ ((2 * (σ.1 143 x4.toNatClampNeg)) - v5) → (((-((2 * (σ.1 143 x4.toNatClampNeg)) - v5)) ≤ x3 → G Θ (d + 1) 229 89 [some (.ref 124), none, some (.int x2), some (.int x3), some (.int (x4 + 1)), none] [] σ5 Q) ∧ (¬ (-((2 * (σ.1 143 x4.toNatClampNeg)) - v5)) ≤ x3 → G Θ (d + 1) 229 89 [some (.ref 124), none, some (.int x2), some (.int (-((2 * (σ.1 143 x4.toNatClampNeg)) - v5))), some (.int (x4 + 1)), none] [] σ5 Q))))))))) :
    G Θ (d + 1) 229 89 [some (.ref 124), none, some (.int x2), some (.int x3), some (.int x4), none] [] σ Q := by
  refine r_iload ok229 48 rfl rfl rfl ?_
  refine r_aload_n ok229 49 rfl rfl rfl ?_
  refine r_getI ok229 50 rfl rfl rfl rfl ?_
  refine r_icmp_ge ok229 51 rfl rfl (fun c1 => ?_) (fun c1 => ?_)
  · have h1 := h.1 c1
    refine r_aload_n ok229 79 rfl rfl rfl ?_
    refine r_iload_n ok229 80 rfl rfl rfl ?_
    refine r_i2l ok229 81 rfl rfl ?_
    refine r_ldc2_w (v := 2) ok229 82 rfl rfl rfl ?_
    refine r_invVv (as := [.long x3.toInt64, .long 2]) (S := []) ok229 83 rfl rfl mf211 rfl rfl (Nat.le_of_ble_eq_true rfl) rfl h1 (fun σ2 h2 => ?_)
    refine r_aload_n ok229 84 rfl rfl rfl ?_
    refine r_iload_n ok229 85 rfl rfl rfl ?_
    refine r_invVl (as := [.int x2]) (S := []) ok229 86 rfl rfl mf214 rfl rfl (Nat.le_of_ble_eq_true rfl) rfl h2 (fun v3 σ3 h3 => ?_)
    exact r_lret ok229 87 rfl rfl rfl h3
  · have h1 := h.2 c1
    refine r_iconst (v := 2) ok229 52 rfl rfl rfl ?_
    refine r_aload_n ok229 53 rfl rfl rfl ?_
    refine r_getF ok229 54 rfl rfl rfl rfl ?_
    refine r_iload ok229 55 rfl rfl rfl ?_
    obtain ⟨c4, h4⟩ := h1
    refine r_iald ok229 56 rfl rfl rfl c4 ?_
    refine r_imul ok229 57 rfl rfl ?_
    refine r_aload_n ok229 58 rfl rfl rfl ?_
    refine r_iload ok229 59 rfl rfl rfl ?_
    refine r_invVi (as := [.int x4]) (S := [.int (2 * (σ.1 143 x4.toNatClampNeg))]) ok229 60 rfl rfl mf227 rfl rfl (Nat.le_of_ble_eq_true rfl) rfl h4 (fun v5 σ5 h5 => ?_)
    refine r_isub ok229 61 rfl rfl ?_
    refine r_istore ok229 62 rfl rfl ?_
    refine r_iload ok229 63 rfl rfl rfl ?_
    refine r_if_ge ok229 64 rfl rfl (fun c6 => ?_) (fun c6 => ?_)
    · have h6 := h5.1 c6
      refine r_iload ok229 68 rfl rfl rfl ?_
      refine r_istore ok229 69 rfl rfl ?_
      refine r_iload ok229 70 rfl rfl rfl ?_
      refine r_iload_n ok229 71 rfl rfl rfl ?_
      refine r_icmp_le ok229 72 rfl rfl (fun c7 => ?_) (fun c7 => ?_)
      · have h7 := h6.1 c7
        refine r_iload_n ok229 75 rfl rfl rfl ?_
        refine r_istore_n ok229 76 rfl rfl ?_
        refine r_iinc (v := x4 + 1) ok229 77 rfl rfl rfl rfl ?_
        refine r_goto ok229 78 rfl rfl ?_
        exact G.weak (L' := [some (.ref 124), none, some (.int x2), some (.int x3), some (.int (x4 + 1)), none]) ⟨rfl, ⟨rfl, ⟨rfl, ⟨rfl, trivial⟩⟩⟩⟩ h7
      · have h7 := h6.2 c7
        refine r_iload ok229 73 rfl rfl rfl ?_
        refine r_goto ok229 74 rfl rfl ?_
        refine r_istore_n ok229 76 rfl rfl ?_
        refine r_iinc (v := x4 + 1) ok229 77 rfl rfl rfl rfl ?_
        refine r_goto ok229 78 rfl rfl ?_
        exact G.weak (L' := [some (.ref 124), none, some (.int x2), some (.int ((2 * (σ.1 143 x4.toNatClampNeg)) - v5)), some (.int (x4 + 1)), none]) ⟨rfl, ⟨rfl, ⟨rfl, ⟨rfl, trivial⟩⟩⟩⟩ h7
    · have h6 := h5.2 c6
      refine r_iload ok229 65 rfl rfl rfl ?_
      refine r_ineg ok229 66 rfl rfl ?_
      refine r_goto ok229 67 rfl rfl ?_
      refine r_istore ok229 69 rfl rfl ?_
      refine r_iload ok229 70 rfl rfl rfl ?_
      refine r_iload_n ok229 71 rfl rfl rfl ?_
      refine r_icmp_le ok229 72 rfl rfl (fun c8 => ?_) (fun c8 => ?_)
      · have h8 := h6.1 c8
        refine r_iload_n ok229 75 rfl rfl rfl ?_
        refine r_istore_n ok229 76 rfl rfl ?_
        refine r_iinc (v := x4 + 1) ok229 77 rfl rfl rfl rfl ?_
        refine r_goto ok229 78 rfl rfl ?_
        exact G.weak (L' := [some (.ref 124), none, some (.int x2), some (.int x3), some (.int (x4 + 1)), none]) ⟨rfl, ⟨rfl, ⟨rfl, ⟨rfl, trivial⟩⟩⟩⟩ h8
      · have h8 := h6.2 c8
        refine r_iload ok229 73 rfl rfl rfl ?_
        refine r_goto ok229 74 rfl rfl ?_
        refine r_istore_n ok229 76 rfl rfl ?_
        refine r_iinc (v := x4 + 1) ok229 77 rfl rfl rfl rfl ?_
        refine r_goto ok229 78 rfl rfl ?_
        exact G.weak (L' := [some (.ref 124), none, some (.int x2), some (.int (-((2 * (σ.1 143 x4.toNatClampNeg)) - v5))), some (.int (x4 + 1)), none]) ⟨rfl, ⟨rfl, ⟨rfl, ⟨rfl, trivial⟩⟩⟩⟩ h8

set_option maxRecDepth 100000 in
set_option maxHeartbeats 4000000 in
theorem B229_56 {Θ : Th} {d : Nat} {σ : Mem} {Q : Po} {x2 : Int32} {x3 : Int32} 
    (h : (((σ.1 124 38) ≤ x3 → Cl Θ d 214 [.ref 124, .int x2] σ (fun v2 σ2 => Q (some (.long v2)) σ2)) ∧ (¬ (σ.1 124 38) ≤ x3 → Ci Θ d 224 [.ref 124, .int x3] σ (fun v3 σ3 => Cv Θ d 212 [.ref 124, .long v3.toInt64, .long 1] σ3 (fun σ4 => G Θ (d + 1) 229 56 [some (.ref 124), none, some (.int x2), some (.int (x3 + 1)), none, none] [] σ4 Q))))) :
    G Θ (d + 1) 229 56 [some (.ref 124), none, some (.int x2), some (.int x3), none, none] [] σ Q := by
  refine r_iload_n ok229 30 rfl rfl rfl ?_
  refine r_aload_n ok229 31 rfl rfl rfl ?_
  refine r_getI ok229 32 rfl rfl rfl rfl ?_
  refine r_icmp_ge ok229 33 rfl rfl (fun c1 => ?_) (fun c1 => ?_)
  · have h1 := h.1 c1
    refine r_goto ok229 43 rfl rfl ?_
    refine r_aload_n ok229 84 rfl rfl rfl ?_
    refine r_iload_n ok229 85 rfl rfl rfl ?_
    refine r_invVl (as := [.int x2]) (S := []) ok229 86 rfl rfl mf214 rfl rfl (Nat.le_of_ble_eq_true rfl) rfl h1 (fun v2 σ2 h2 => ?_)
    exact r_lret ok229 87 rfl rfl rfl h2
  · have h1 := h.2 c1
    refine r_aload_n ok229 34 rfl rfl rfl ?_
    refine r_aload_n ok229 35 rfl rfl rfl ?_
    refine r_iload_n ok229 36 rfl rfl rfl ?_
    refine r_invVi (as := [.int x3]) (S := [.ref 124]) ok229 37 rfl rfl mf224 rfl rfl (Nat.le_of_ble_eq_true rfl) rfl h1 (fun v3 σ3 h3 => ?_)
    refine r_i2l ok229 38 rfl rfl ?_
    refine r_lconst (v := 1) ok229 39 rfl rfl rfl ?_
    refine r_invVv (as := [.long v3.toInt64, .long 1]) (S := []) ok229 40 rfl rfl mf212 rfl rfl (Nat.le_of_ble_eq_true rfl) rfl h3 (fun σ4 h4 => ?_)
    refine r_iinc (v := x3 + 1) ok229 41 rfl rfl rfl rfl ?_
    refine r_goto ok229 42 rfl rfl ?_
    exact h4

theorem K229 {Θ : Th} {d : Nat} {σ : Mem} {Q : Po} {x1 : Int32} {x2 : Int32} (h : G Θ (d + 1) 229 0 [some (.ref 124), some (.int x1), some (.int x2), none, none, none] [] σ Q) : Cm Θ (d + 1) 229 [.ref 124, .int x1, .int x2] σ Q :=
  C_of_G okM229 (Nat.le_of_ble_eq_true rfl) rfl h

-- 230: LikeYearsModel.bitsOf(I)I
set_option maxRecDepth 100000 in
set_option maxHeartbeats 4000000 in
theorem B230_0 {Θ : Th} {d : Nat} {σ : Mem} {Q : Po} {x0 : Int32} 
    (h : G Θ d 230 4 [some (.int x0), some (.int 0), some (.int 0)] [] σ Q) :
    G Θ d 230 0 [some (.int x0), none, none] [] σ Q := by
  refine r_iconst (v := 0) ok230 0 rfl rfl rfl ?_
  refine r_istore_n ok230 1 rfl rfl ?_
  refine r_iconst (v := 0) ok230 2 rfl rfl rfl ?_
  refine r_istore_n ok230 3 rfl rfl ?_
  exact h

set_option maxRecDepth 100000 in
set_option maxHeartbeats 4000000 in
theorem B230_4 {Θ : Th} {d : Nat} {σ : Mem} {Q : Po} {x0 : Int32} {x1 : Int32} {x2 : Int32} 
    (h : ((16 ≤ x2 → Q (some (.int x1)) σ) ∧ (¬ 16 ≤ x2 → G Θ d 230 4 [some (.int x0), some (.int (x1 + ((x0 >>> (x2 &&& 31)) &&& 1))), some (.int (x2 + 1))] [] σ Q))) :
    G Θ d 230 4 [some (.int x0), some (.int x1), some (.int x2)] [] σ Q := by
  refine r_iload_n ok230 4 rfl rfl rfl ?_
  refine r_bipush (v := 16) ok230 5 rfl rfl rfl ?_
  refine r_icmp_ge ok230 6 rfl rfl (fun c1 => ?_) (fun c1 => ?_)
  · have h1 := h.1 c1
    refine r_iload_n ok230 17 rfl rfl rfl ?_
    exact r_iret ok230 18 rfl rfl rfl h1
  · have h1 := h.2 c1
    refine r_iload_n ok230 7 rfl rfl rfl ?_
    refine r_iload_n ok230 8 rfl rfl rfl ?_
    refine r_iload_n ok230 9 rfl rfl rfl ?_
    refine r_ishr ok230 10 rfl rfl ?_
    refine r_iconst (v := 1) ok230 11 rfl rfl rfl ?_
    refine r_iand ok230 12 rfl rfl ?_
    refine r_iadd ok230 13 rfl rfl ?_
    refine r_istore_n ok230 14 rfl rfl ?_
    refine r_iinc (v := x2 + 1) ok230 15 rfl rfl rfl rfl ?_
    refine r_goto ok230 16 rfl rfl ?_
    exact h1

theorem K230 {Θ : Th} {d : Nat} {σ : Mem} {Q : Po} {x0 : Int32} (h : G Θ d 230 0 [some (.int x0), none, none] [] σ Q) : Cm Θ d 230 [.int x0] σ Q :=
  C_of_G okM230 (Nat.le_of_ble_eq_true rfl) rfl h

-- 231: LikeYearsModel.again(I)I
set_option maxRecDepth 100000 in
set_option maxHeartbeats 4000000 in
theorem B231_0 {Θ : Th} {d : Nat} {σ : Mem} {Q : Po} {x1 : Int32} 
    (h : ((x1 < 0 → G Θ (d + 1) 231 9 [none, none, none, none, none, none, none, none] [] σ Q) ∧ (¬ x1 < 0 → ((x1 ≤ 2 → Cv Θ d 198 [.ref 124] σ (fun σ3 => Ci Θ d 219 [.ref 124] σ3 (fun v4 σ4 => G Θ (d + 1) 231 25 [some (.ref 124), some (.int x1), some (.int v4), some (.int 1), some (.int 0), none, none, none] [] σ4 Q))) ∧ (¬ x1 ≤ 2 → G Θ (d + 1) 231 9 [none, none, none, none, none, none, none, none] [] σ Q))))) :
    G Θ (d + 1) 231 0 [some (.ref 124), some (.int x1), none, none, none, none, none, none] [] σ Q := by
  refine r_iload_n ok231 0 rfl rfl rfl ?_
  refine r_if_lt ok231 1 rfl rfl (fun c1 => ?_) (fun c1 => ?_)
  · have h1 := h.1 c1
    exact G.weak (L' := [none, none, none, none, none, none, none, none]) trivial h1
  · have h1 := h.2 c1
    refine r_iload_n ok231 2 rfl rfl rfl ?_
    refine r_iconst (v := 2) ok231 3 rfl rfl rfl ?_
    refine r_icmp_le ok231 4 rfl rfl (fun c2 => ?_) (fun c2 => ?_)
    · have h2 := h1.1 c2
      refine r_aload_n ok231 7 rfl rfl rfl ?_
      refine r_invVv (as := []) (S := []) ok231 8 rfl rfl mf198 rfl rfl (Nat.le_of_ble_eq_true rfl) rfl h2 (fun σ3 h3 => ?_)
      refine r_aload_n ok231 9 rfl rfl rfl ?_
      refine r_invVi (as := []) (S := []) ok231 10 rfl rfl mf219 rfl rfl (Nat.le_of_ble_eq_true rfl) rfl h3 (fun v4 σ4 h4 => ?_)
      refine r_istore_n ok231 11 rfl rfl ?_
      refine r_iconst (v := 1) ok231 12 rfl rfl rfl ?_
      refine r_istore_n ok231 13 rfl rfl ?_
      refine r_iconst (v := 0) ok231 14 rfl rfl rfl ?_
      refine r_istore ok231 15 rfl rfl ?_
      exact h4
    · have h2 := h1.2 c2
      exact G.weak (L' := [none, none, none, none, none, none, none, none]) trivial h2

set_option maxRecDepth 100000 in
set_option maxHeartbeats 4000000 in
theorem B231_9 {Θ : Th} {d : Nat} {σ : Mem} {Q : Po} 
    (h : Q (some (.int (-1))) σ) :
    G Θ (d + 1) 231 9 [none, none, none, none, none, none, none, none] [] σ Q := by
  refine r_iconst (v := (-1)) ok231 5 rfl rfl rfl ?_
  exact r_iret ok231 6 rfl rfl rfl h

set_option maxRecDepth 100000 in
set_option maxHeartbeats 4000000 in
theorem B231_25 {Θ : Th} {d : Nat} {σ : Mem} {Q : Po} {x1 : Int32} {x2 : Int32} {x3 : Int32} {x4 : Int32} 
    (h : ((((1 : Int32) <<< ((σ.1 124 38) &&& 31)) ≤ x4 → ((¬ x1 = 0 → ((¬ x1 = 1 → Q (some (.int x3)) σ) ∧ (x1 = 1 → Q (some (.int x2)) σ))) ∧ (x1 = 0 → Ci Θ d 230 [.int x2] σ (fun v4 σ4 => Q (some (.int v4)) σ4)))) ∧ (¬ ((1 : Int32) <<< ((σ.1 124 38) &&& 31)) ≤ x4 → Ci Θ d 230 [.int x4] σ (fun v5 σ5 => Ci Θ d 230 [.int x2] σ5 (fun v6 σ6 => ((v5 ≤ v6 → G Θ (d + 1) 231 57 [some (.ref 124), some (.int x1), some (.int x2), some (.int x3), some (.int x4), some (.int 1), some (.int 0), none] [] σ6 Q) ∧ (¬ v5 ≤ v6 → G Θ (d + 1) 231 193 [some (.ref 124), some (.int x1), some (.int x2), some (.int x3), some (.int x4), none, none, none] [] σ6 Q))))))) :
    G Θ (d + 1) 231 25 [some (.ref 124), some (.int x1), some (.int x2), some (.int x3), some (.int x4), none, none, none] [] σ Q := by
  refine r_iload ok231 16 rfl rfl rfl ?_
  refine r_iconst (v := 1) ok231 17 rfl rfl rfl ?_
  refine r_aload_n ok231 18 rfl rfl rfl ?_
  refine r_getI ok231 19 rfl rfl rfl rfl ?_
  refine r_ishl ok231 20 rfl rfl ?_
  refine r_icmp_ge ok231 21 rfl rfl (fun c1 => ?_) (fun c1 => ?_)
  · have h1 := h.1 c1
    refine r_iload_n ok231 101 rfl rfl rfl ?_
    refine r_if_ne ok231 102 rfl rfl (fun c2 => ?_) (fun c2 => ?_)
    · have h2 := h1.1 c2
      refine r_iload_n ok231 106 rfl rfl rfl ?_
      refine r_iconst (v := 1) ok231 107 rfl rfl rfl ?_
      refine r_icmp_ne ok231 108 rfl rfl (fun c3 => ?_) (fun c3 => ?_)
      · have h3 := h2.1 c3
        refine r_iload_n ok231 111 rfl rfl rfl ?_
        exact r_iret ok231 112 rfl rfl rfl h3
      · have h3 := h2.2 c3
        refine r_iload_n ok231 109 rfl rfl rfl ?_
        refine r_goto ok231 110 rfl rfl ?_
        exact r_iret ok231 112 rfl rfl rfl h3
    · have h2 := h1.2 c2
      refine r_iload_n ok231 103 rfl rfl rfl ?_
      refine r_invSi (as := [.int x2]) (S := []) ok231 104 rfl rfl mf230 rfl (Nat.le_of_ble_eq_true rfl) rfl h2 (fun v4 σ4 h4 => ?_)
      refine r_goto ok231 105 rfl rfl ?_
      exact r_iret ok231 112 rfl rfl rfl h4
  · have h1 := h.2 c1
    refine r_iload ok231 22 rfl rfl rfl ?_
    refine r_invSi (as := [.int x4]) (S := []) ok231 23 rfl rfl mf230 rfl (Nat.le_of_ble_eq_true rfl) rfl h1 (fun v5 σ5 h5 => ?_)
    refine r_iload_n ok231 24 rfl rfl rfl ?_
    refine r_invSi (as := [.int x2]) (S := [.int v5]) ok231 25 rfl rfl mf230 rfl (Nat.le_of_ble_eq_true rfl) rfl h5 (fun v6 σ6 h6 => ?_)
    refine r_icmp_le ok231 26 rfl rfl (fun c7 => ?_) (fun c7 => ?_)
    · have h7 := h6.1 c7
      refine r_iconst (v := 1) ok231 28 rfl rfl rfl ?_
      refine r_istore ok231 29 rfl rfl ?_
      refine r_iconst (v := 0) ok231 30 rfl rfl rfl ?_
      refine r_istore ok231 31 rfl rfl ?_
      exact h7
    · have h7 := h6.2 c7
      refine r_goto ok231 27 rfl rfl ?_
      exact h7

set_option maxRecDepth 100000 in
set_option maxHeartbeats 4000000 in
theorem B231_57 {Θ : Th} {d : Nat} {σ : Mem} {Q : Po} {x1 : Int32} {x2 : Int32} {x3 : Int32} {x4 : Int32} {x5 : Int32} {x6 : Int32} 
    (h : (((σ.1 124 38) ≤ x6 → G Θ (d + 1) 231 140 [some (.ref 124), some (.int x1), some (.int x2), some (.int x3), some (.int x4), some (.int x5), none, none] [] σ Q) ∧ (¬ (σ.1 124 38) ≤ x6 → ((x5 = 0 → G Θ (d + 1) 231 140 [some (.ref 124), some (.int x1), some (.int x2), some (.int x3), some (.int x4), some (.int x5), none, none] [] σ Q) ∧ (¬ x5 = 0 → G Θ (d + 1) 231 74 [some (.ref 124), some (.int x1), some (.int x2), some (.int x3), some (.int x4), some (.int x5), some (.int x6), some (.int 0)] [] σ Q))))) :
    G Θ (d + 1) 231 57 [some (.ref 124), some (.int x1), some (.int x2), some (.int x3), some (.int x4), some (.int x5), some (.int x6), none] [] σ Q := by
  refine r_iload ok231 32 rfl rfl rfl ?_
  refine r_aload_n ok231 33 rfl rfl rfl ?_
  refine r_getI ok231 34 rfl rfl rfl rfl ?_
  refine r_icmp_ge ok231 35 rfl rfl (fun c1 => ?_) (fun c1 => ?_)
  · have h1 := h.1 c1
    exact G.weak (L' := [some (.ref 124), some (.int x1), some (.int x2), some (.int x3), some (.int x4), some (.int x5), none, none]) ⟨rfl, ⟨rfl, ⟨rfl, ⟨rfl, ⟨rfl, ⟨rfl, trivial⟩⟩⟩⟩⟩⟩ h1
  · have h1 := h.2 c1
    refine r_iload ok231 36 rfl rfl rfl ?_
    refine r_if_eq ok231 37 rfl rfl (fun c2 => ?_) (fun c2 => ?_)
    · have h2 := h1.1 c2
      exact G.weak (L' := [some (.ref 124), some (.int x1), some (.int x2), some (.int x3), some (.int x4), some (.int x5), none, none]) ⟨rfl, ⟨rfl, ⟨rfl, ⟨rfl, ⟨rfl, ⟨rfl, trivial⟩⟩⟩⟩⟩⟩ h2
    · have h2 := h1.2 c2
      refine r_iconst (v := 0) ok231 38 rfl rfl rfl ?_
      refine r_istore ok231 39 rfl rfl ?_
      exact h2

set_option maxRecDepth 100000 in
set_option maxHeartbeats 4000000 in
theorem B231_193 {Θ : Th} {d : Nat} {σ : Mem} {Q : Po} {x1 : Int32} {x2 : Int32} {x3 : Int32} {x4 : Int32} 
    (h : G Θ (d + 1) 231 25 [some (.ref 124), some (.int x1), some (.int x2), some (.int x3), some (.int (x4 + 1)), none, none, none] [] σ Q) :
    G Θ (d + 1) 231 193 [some (.ref 124), some (.int x1), some (.int x2), some (.int x3), some (.int x4), none, none, none] [] σ Q := by
  refine r_iinc (v := x4 + 1) ok231 99 rfl rfl rfl rfl ?_
  refine r_goto ok231 100 rfl rfl ?_
  exact h

set_option maxRecDepth 100000 in
set_option maxHeartbeats 4000000 in
theorem B231_140 {Θ : Th} {d : Nat} {σ : Mem} {Q : Po} {x1 : Int32} {x2 : Int32} {x3 : Int32} {x4 : Int32} {x5 : Int32} 
    (h : ((¬ x5 = 0 → Ci Θ d 230 [.int x4] σ (fun v2 σ2 => Ci Θ d 230 [.int x2] σ2 (fun v3 σ3 => ((v2 < v3 → G Θ (d + 1) 231 166 [some (.ref 124), some (.int x1), some (.int x2), none, some (.int x4), none, none, none] [] σ3 Q) ∧ (¬ v2 < v3 → ((¬ x4 = x2 → Ci Θ d 230 [.int x4] σ3 (fun v6 σ6 => Ci Θ d 230 [.int x2] σ6 (fun v7 σ7 => ((v7 ≤ v6 → G Θ (d + 1) 231 193 [some (.ref 124), some (.int x1), some (.int x2), some (.int (x3 + 1)), some (.int x4), none, none, none] [] σ7 Q) ∧ (¬ v7 ≤ v6 → G Θ (d + 1) 231 193 [some (.ref 124), some (.int x1), some (.int x4), some (.int (x3 + 1)), some (.int x4), none, none, none] [] σ7 Q))))) ∧ (x4 = x2 → G Θ (d + 1) 231 166 [some (.ref 124), some (.int x1), some (.int x2), none, some (.int x4), none, none, none] [] σ3 Q))))))) ∧ (x5 = 0 → G Θ (d + 1) 231 193 [some (.ref 124), some (.int x1), some (.int x2), some (.int x3), some (.int x4), none, none, none] [] σ Q))) :
    G Θ (d + 1) 231 140 [some (.ref 124), some (.int x1), some (.int x2), some (.int x3), some (.int x4), some (.int x5), none, none] [] σ Q := by
  refine r_iload ok231 73 rfl rfl rfl ?_
  refine r_if_ne ok231 74 rfl rfl (fun c1 => ?_) (fun c1 => ?_)
  · have h1 := h.1 c1
    refine r_iload ok231 76 rfl rfl rfl ?_
    refine r_invSi (as := [.int x4]) (S := []) ok231 77 rfl rfl mf230 rfl (Nat.le_of_ble_eq_true rfl) rfl h1 (fun v2 σ2 h2 => ?_)
    refine r_iload_n ok231 78 rfl rfl rfl ?_
    refine r_invSi (as := [.int x2]) (S := [.int v2]) ok231 79 rfl rfl mf230 rfl (Nat.le_of_ble_eq_true rfl) rfl h2 (fun v3 σ3 h3 => ?_)
    refine r_icmp_lt ok231 80 rfl rfl (fun c4 => ?_) (fun c4 => ?_)
    · have h4 := h3.1 c4
      exact G.weak (L' := [some (.ref 124), some (.int x1), some (.int x2), none, some (.int x4), none, none, none]) ⟨rfl, ⟨rfl, ⟨rfl, ⟨rfl, trivial⟩⟩⟩⟩ h4
    · have h4 := h3.2 c4
      refine r_iload ok231 81 rfl rfl rfl ?_
      refine r_iload_n ok231 82 rfl rfl rfl ?_
      refine r_icmp_ne ok231 83 rfl rfl (fun c5 => ?_) (fun c5 => ?_)
      · have h5 := h4.1 c5
        refine r_iload_n ok231 86 rfl rfl rfl ?_
        refine r_iconst (v := 1) ok231 87 rfl rfl rfl ?_
        refine r_iadd ok231 88 rfl rfl ?_
        refine r_istore_n ok231 89 rfl rfl ?_
        refine r_iload ok231 90 rfl rfl rfl ?_
        refine r_invSi (as := [.int x4]) (S := []) ok231 91 rfl rfl mf230 rfl (Nat.le_of_ble_eq_true rfl) rfl h5 (fun v6 σ6 h6 => ?_)
        refine r_iload_n ok231 92 rfl rfl rfl ?_
        refine r_invSi (as := [.int x2]) (S := [.int v6]) ok231 93 rfl rfl mf230 rfl (Nat.le_of_ble_eq_true rfl) rfl h6 (fun v7 σ7 h7 => ?_)
        refine r_icmp_ge ok231 94 rfl rfl (fun c8 => ?_) (fun c8 => ?_)
        · have h8 := h7.1 c8
          refine r_iload_n ok231 97 rfl rfl rfl ?_
          refine r_istore_n ok231 98 rfl rfl ?_
          exact G.weak (L' := [some (.ref 124), some (.int x1), some (.int x2), some (.int (x3 + 1)), some (.int x4), none, none, none]) ⟨rfl, ⟨rfl, ⟨rfl, ⟨rfl, ⟨rfl, trivial⟩⟩⟩⟩⟩ h8
        · have h8 := h7.2 c8
          refine r_iload ok231 95 rfl rfl rfl ?_
          refine r_goto ok231 96 rfl rfl ?_
          refine r_istore_n ok231 98 rfl rfl ?_
          exact G.weak (L' := [some (.ref 124), some (.int x1), some (.int x4), some (.int (x3 + 1)), some (.int x4), none, none, none]) ⟨rfl, ⟨rfl, ⟨rfl, ⟨rfl, ⟨rfl, trivial⟩⟩⟩⟩⟩ h8
      · have h5 := h4.2 c5
        exact G.weak (L' := [some (.ref 124), some (.int x1), some (.int x2), none, some (.int x4), none, none, none]) ⟨rfl, ⟨rfl, ⟨rfl, ⟨rfl, trivial⟩⟩⟩⟩ h5
  · have h1 := h.2 c1
    refine r_goto ok231 75 rfl rfl ?_
    exact G.weak (L' := [some (.ref 124), some (.int x1), some (.int x2), some (.int x3), some (.int x4), none, none, none]) ⟨rfl, ⟨rfl, ⟨rfl, ⟨rfl, ⟨rfl, trivial⟩⟩⟩⟩⟩ h1

set_option maxRecDepth 100000 in
set_option maxHeartbeats 4000000 in
theorem B231_74 {Θ : Th} {d : Nat} {σ : Mem} {Q : Po} {x1 : Int32} {x2 : Int32} {x3 : Int32} {x4 : Int32} {x5 : Int32} {x6 : Int32} {x7 : Int32} 
    (h : (((σ.1 124 38) ≤ x7 → G Θ (d + 1) 231 134 [some (.ref 124), some (.int x1), some (.int x2), some (.int x3), some (.int x4), some (.int x5), some (.int x6), none] [] σ Q) ∧ (¬ (σ.1 124 38) ≤ x7 → ((x5 = 0 → G Θ (d + 1) 231 134 [some (.ref 124), some (.int x1), some (.int x2), some (.int x3), some (.int x4), some (.int x5), some (.int x6), none] [] σ Q) ∧ (¬ x5 = 0 → ((((x4 >>> (x6 &&& 31)) &&& 1) = 1 → G Θ (d + 1) 231 121 [some (.ref 124), some (.int x1), some (.int x2), some (.int x3), some (.int x4), none, some (.int x6), some (.int x7)] [] σ Q) ∧ (¬ ((x4 >>> (x6 &&& 31)) &&& 1) = 1 → ((((x4 >>> (x7 &&& 31)) &&& 1) = 1 → G Θ (d + 1) 231 121 [some (.ref 124), some (.int x1), some (.int x2), some (.int x3), some (.int x4), none, some (.int x6), some (.int x7)] [] σ Q) ∧ (¬ ((x4 >>> (x7 &&& 31)) &&& 1) = 1 → Ci Θ d 204 [.ref 124, .int x6, .int x7] σ (fun v5 σ5 => ((¬ v5 = 0 → G Θ (d + 1) 231 74 [some (.ref 124), some (.int x1), some (.int x2), some (.int x3), some (.int x4), some (.int 0), some (.int x6), some (.int (x7 + 1))] [] σ5 Q) ∧ (v5 = 0 → G Θ (d + 1) 231 121 [some (.ref 124), some (.int x1), some (.int x2), some (.int x3), some (.int x4), none, some (.int x6), some (.int x7)] [] σ5 Q)))))))))))) :
    G Θ (d + 1) 231 74 [some (.ref 124), some (.int x1), some (.int x2), some (.int x3), some (.int x4), some (.int x5), some (.int x6), some (.int x7)] [] σ Q := by
  refine r_iload ok231 40 rfl rfl rfl ?_
  refine r_aload_n ok231 41 rfl rfl rfl ?_
  refine r_getI ok231 42 rfl rfl rfl rfl ?_
  refine r_icmp_ge ok231 43 rfl rfl (fun c1 => ?_) (fun c1 => ?_)
  · have h1 := h.1 c1
    exact G.weak (L' := [some (.ref 124), some (.int x1), some (.int x2), some (.int x3), some (.int x4), some (.int x5), some (.int x6), none]) ⟨rfl, ⟨rfl, ⟨rfl, ⟨rfl, ⟨rfl, ⟨rfl, ⟨rfl, trivial⟩⟩⟩⟩⟩⟩⟩ h1
  · have h1 := h.2 c1
    refine r_iload ok231 44 rfl rfl rfl ?_
    refine r_if_eq ok231 45 rfl rfl (fun c2 => ?_) (fun c2 => ?_)
    · have h2 := h1.1 c2
      exact G.weak (L' := [some (.ref 124), some (.int x1), some (.int x2), some (.int x3), some (.int x4), some (.int x5), some (.int x6), none]) ⟨rfl, ⟨rfl, ⟨rfl, ⟨rfl, ⟨rfl, ⟨rfl, ⟨rfl, trivial⟩⟩⟩⟩⟩⟩⟩ h2
    · have h2 := h1.2 c2
      refine r_iload ok231 46 rfl rfl rfl ?_
      refine r_iload ok231 47 rfl rfl rfl ?_
      refine r_ishr ok231 48 rfl rfl ?_
      refine r_iconst (v := 1) ok231 49 rfl rfl rfl ?_
      refine r_iand ok231 50 rfl rfl ?_
      refine r_iconst (v := 1) ok231 51 rfl rfl rfl ?_
      refine r_icmp_eq ok231 52 rfl rfl (fun c3 => ?_) (fun c3 => ?_)
      · have h3 := h2.1 c3
        exact G.weak (L' := [some (.ref 124), some (.int x1), some (.int x2), some (.int x3), some (.int x4), none, some (.int x6), some (.int x7)]) ⟨rfl, ⟨rfl, ⟨rfl, ⟨rfl, ⟨rfl, ⟨rfl, ⟨rfl, trivial⟩⟩⟩⟩⟩⟩⟩ h3
      · have h3 := h2.2 c3
        refine r_iload ok231 53 rfl rfl rfl ?_
        refine r_iload ok231 54 rfl rfl rfl ?_
        refine r_ishr ok231 55 rfl rfl ?_
        refine r_iconst (v := 1) ok231 56 rfl rfl rfl ?_
        refine r_iand ok231 57 rfl rfl ?_
        refine r_iconst (v := 1) ok231 58 rfl rfl rfl ?_
        refine r_icmp_eq ok231 59 rfl rfl (fun c4 => ?_) (fun c4 => ?_)
        · have h4 := h3.1 c4
          exact G.weak (L' := [some (.ref 124), some (.int x1), some (.int x2), some (.int x3), some (.int x4), none, some (.int x6), some (.int x7)]) ⟨rfl, ⟨rfl, ⟨rfl, ⟨rfl, ⟨rfl, ⟨rfl, ⟨rfl, trivial⟩⟩⟩⟩⟩⟩⟩ h4
        · have h4 := h3.2 c4
          refine r_aload_n ok231 60 rfl rfl rfl ?_
          refine r_iload ok231 61 rfl rfl rfl ?_
          refine r_iload ok231 62 rfl rfl rfl ?_
          refine r_invVi (as := [.int x6, .int x7]) (S := []) ok231 63 rfl rfl mf204 rfl rfl (Nat.le_of_ble_eq_true rfl) rfl h4 (fun v5 σ5 h5 => ?_)
          refine r_if_ne ok231 64 rfl rfl (fun c6 => ?_) (fun c6 => ?_)
          · have h6 := h5.1 c6
            refine r_iconst (v := 0) ok231 67 rfl rfl rfl ?_
            refine r_istore ok231 68 rfl rfl ?_
            refine r_iinc (v := x7 + 1) ok231 69 rfl rfl rfl rfl ?_
            refine r_goto ok231 70 rfl rfl ?_
            exact h6
          · have h6 := h5.2 c6
            exact G.weak (L' := [some (.ref 124), some (.int x1), some (.int x2), some (.int x3), some (.int x4), none, some (.int x6), some (.int x7)]) ⟨rfl, ⟨rfl, ⟨rfl, ⟨rfl, ⟨rfl, ⟨rfl, ⟨rfl, trivial⟩⟩⟩⟩⟩⟩⟩ h6

set_option maxRecDepth 100000 in
set_option maxHeartbeats 4000000 in
theorem B231_166 {Θ : Th} {d : Nat} {σ : Mem} {Q : Po} {x1 : Int32} {x2 : Int32} {x4 : Int32} 
    (h : Ci Θ d 230 [.int x4] σ (fun v1 σ1 => Ci Θ d 230 [.int x2] σ1 (fun v2 σ2 => ((v2 ≤ v1 → G Θ (d + 1) 231 193 [some (.ref 124), some (.int x1), some (.int x2), some (.int 1), some (.int x4), none, none, none] [] σ2 Q) ∧ (¬ v2 ≤ v1 → G Θ (d + 1) 231 193 [some (.ref 124), some (.int x1), some (.int x4), some (.int 1), some (.int x4), none, none, none] [] σ2 Q))))) :
    G Θ (d + 1) 231 166 [some (.ref 124), some (.int x1), some (.int x2), none, some (.int x4), none, none, none] [] σ Q := by
  refine r_iconst (v := 1) ok231 84 rfl rfl rfl ?_
  refine r_goto ok231 85 rfl rfl ?_
  refine r_istore_n ok231 89 rfl rfl ?_
  refine r_iload ok231 90 rfl rfl rfl ?_
  refine r_invSi (as := [.int x4]) (S := []) ok231 91 rfl rfl mf230 rfl (Nat.le_of_ble_eq_true rfl) rfl h (fun v1 σ1 h1 => ?_)
  refine r_iload_n ok231 92 rfl rfl rfl ?_
  refine r_invSi (as := [.int x2]) (S := [.int v1]) ok231 93 rfl rfl mf230 rfl (Nat.le_of_ble_eq_true rfl) rfl h1 (fun v2 σ2 h2 => ?_)
  refine r_icmp_ge ok231 94 rfl rfl (fun c3 => ?_) (fun c3 => ?_)
  · have h3 := h2.1 c3
    refine r_iload_n ok231 97 rfl rfl rfl ?_
    refine r_istore_n ok231 98 rfl rfl ?_
    exact h3
  · have h3 := h2.2 c3
    refine r_iload ok231 95 rfl rfl rfl ?_
    refine r_goto ok231 96 rfl rfl ?_
    refine r_istore_n ok231 98 rfl rfl ?_
    exact h3

set_option maxRecDepth 100000 in
set_option maxHeartbeats 4000000 in
theorem B231_134 {Θ : Th} {d : Nat} {σ : Mem} {Q : Po} {x1 : Int32} {x2 : Int32} {x3 : Int32} {x4 : Int32} {x5 : Int32} {x6 : Int32} 
    (h : G Θ (d + 1) 231 57 [some (.ref 124), some (.int x1), some (.int x2), some (.int x3), some (.int x4), some (.int x5), some (.int (x6 + 1)), none] [] σ Q) :
    G Θ (d + 1) 231 134 [some (.ref 124), some (.int x1), some (.int x2), some (.int x3), some (.int x4), some (.int x5), some (.int x6), none] [] σ Q := by
  refine r_iinc (v := x6 + 1) ok231 71 rfl rfl rfl rfl ?_
  refine r_goto ok231 72 rfl rfl ?_
  exact h

set_option maxRecDepth 100000 in
set_option maxHeartbeats 4000000 in
theorem B231_121 {Θ : Th} {d : Nat} {σ : Mem} {Q : Po} {x1 : Int32} {x2 : Int32} {x3 : Int32} {x4 : Int32} {x6 : Int32} {x7 : Int32} 
    (h : G Θ (d + 1) 231 74 [some (.ref 124), some (.int x1), some (.int x2), some (.int x3), some (.int x4), some (.int 1), some (.int x6), some (.int (x7 + 1))] [] σ Q) :
    G Θ (d + 1) 231 121 [some (.ref 124), some (.int x1), some (.int x2), some (.int x3), some (.int x4), none, some (.int x6), some (.int x7)] [] σ Q := by
  refine r_iconst (v := 1) ok231 65 rfl rfl rfl ?_
  refine r_goto ok231 66 rfl rfl ?_
  refine r_istore ok231 68 rfl rfl ?_
  refine r_iinc (v := x7 + 1) ok231 69 rfl rfl rfl rfl ?_
  refine r_goto ok231 70 rfl rfl ?_
  exact h

theorem K231 {Θ : Th} {d : Nat} {σ : Mem} {Q : Po} {x1 : Int32} (h : G Θ (d + 1) 231 0 [some (.ref 124), some (.int x1), none, none, none, none, none, none] [] σ Q) : Cm Θ (d + 1) 231 [.ref 124, .int x1] σ Q :=
  C_of_G okM231 (Nat.le_of_ble_eq_true rfl) rfl h

-- 232: LikeYearsModel.isGrid(II)Z
set_option maxRecDepth 100000 in
set_option maxHeartbeats 4000000 in
theorem B232_0 {Θ : Th} {d : Nat} {σ : Mem} {Q : Po} {x1 : Int32} {x2 : Int32} 
    (h : Ci Θ d 201 [.ref 124, .int x1] σ (fun v1 σ1 => ((v1 = 0 → Q (some (.int 0)) σ1) ∧ (¬ v1 = 0 → Ci Θ d 201 [.ref 124, .int x2] σ1 (fun v3 σ3 => ((v3 = 0 → Q (some (.int 0)) σ3) ∧ (¬ v3 = 0 → ((x2 ≤ x1 → Q (some (.int 0)) σ3) ∧ (¬ x2 ≤ x1 → Q (some (.int 1)) σ3))))))))) :
    G Θ (d + 1) 232 0 [some (.ref 124), some (.int x1), some (.int x2)] [] σ Q := by
  refine r_aload_n ok232 0 rfl rfl rfl ?_
  refine r_iload_n ok232 1 rfl rfl rfl ?_
  refine r_invVi (as := [.int x1]) (S := []) ok232 2 rfl rfl mf201 rfl rfl (Nat.le_of_ble_eq_true rfl) rfl h (fun v1 σ1 h1 => ?_)
  refine r_if_eq ok232 3 rfl rfl (fun c2 => ?_) (fun c2 => ?_)
  · have h2 := h1.1 c2
    refine r_iconst (v := 0) ok232 13 rfl rfl rfl ?_
    exact r_zret ok232 14 rfl rfl rfl (Or.inl rfl) h2
  · have h2 := h1.2 c2
    refine r_aload_n ok232 4 rfl rfl rfl ?_
    refine r_iload_n ok232 5 rfl rfl rfl ?_
    refine r_invVi (as := [.int x2]) (S := []) ok232 6 rfl rfl mf201 rfl rfl (Nat.le_of_ble_eq_true rfl) rfl h2 (fun v3 σ3 h3 => ?_)
    refine r_if_eq ok232 7 rfl rfl (fun c4 => ?_) (fun c4 => ?_)
    · have h4 := h3.1 c4
      refine r_iconst (v := 0) ok232 13 rfl rfl rfl ?_
      exact r_zret ok232 14 rfl rfl rfl (Or.inl rfl) h4
    · have h4 := h3.2 c4
      refine r_iload_n ok232 8 rfl rfl rfl ?_
      refine r_iload_n ok232 9 rfl rfl rfl ?_
      refine r_icmp_ge ok232 10 rfl rfl (fun c5 => ?_) (fun c5 => ?_)
      · have h5 := h4.1 c5
        refine r_iconst (v := 0) ok232 13 rfl rfl rfl ?_
        exact r_zret ok232 14 rfl rfl rfl (Or.inl rfl) h5
      · have h5 := h4.2 c5
        refine r_iconst (v := 1) ok232 11 rfl rfl rfl ?_
        refine r_goto ok232 12 rfl rfl ?_
        exact r_zret ok232 14 rfl rfl rfl (Or.inr rfl) h5

theorem K232 {Θ : Th} {d : Nat} {σ : Mem} {Q : Po} {x1 : Int32} {x2 : Int32} (h : G Θ (d + 1) 232 0 [some (.ref 124), some (.int x1), some (.int x2)] [] σ Q) : Cm Θ (d + 1) 232 [.ref 124, .int x1, .int x2] σ Q :=
  C_of_G okM232 (Nat.le_of_ble_eq_true rfl) rfl h

-- 233: LikeYearsModel.grid(III)J
set_option maxRecDepth 100000 in
set_option maxHeartbeats 4000000 in
theorem B233_0 {Θ : Th} {d : Nat} {σ : Mem} {Q : Po} {x1 : Int32} {x2 : Int32} {x3 : Int32} 
    (h : Ci Θ d 232 [.ref 124, .int x1, .int x2] σ (fun v1 σ1 => ((v1 = 0 → Q (some (.long (-1))) σ1) ∧ (¬ v1 = 0 → Ci Θ d 213 [.int x3] σ1 (fun v3 σ3 => ((¬ v3 = 0 → Cv Θ d 197 [.ref 124, .int (((1 : Int32) <<< (x1 &&& 31)) ||| ((1 : Int32) <<< (x2 &&& 31))), .int 0] σ3 (fun σ5 => Ci Θ d 219 [.ref 124] σ5 (fun v6 σ6 => Cv Θ d 217 [.ref 124, .int v6] σ6 (fun σ7 => Cl Θ d 214 [.ref 124, .int x3] σ7 (fun v8 σ8 => Q (some (.long v8)) σ8))))) ∧ (v3 = 0 → Q (some (.long (-1))) σ3))))))) :
    G Θ (d + 1) 233 0 [some (.ref 124), some (.int x1), some (.int x2), some (.int x3)] [] σ Q := by
  refine r_aload_n ok233 0 rfl rfl rfl ?_
  refine r_iload_n ok233 1 rfl rfl rfl ?_
  refine r_iload_n ok233 2 rfl rfl rfl ?_
  refine r_invVi (as := [.int x1, .int x2]) (S := []) ok233 3 rfl rfl mf232 rfl rfl (Nat.le_of_ble_eq_true rfl) rfl h (fun v1 σ1 h1 => ?_)
  refine r_if_eq ok233 4 rfl rfl (fun c2 => ?_) (fun c2 => ?_)
  · have h2 := h1.1 c2
    refine r_ldc2_w (v := (-1)) ok233 8 rfl rfl rfl ?_
    exact r_lret ok233 9 rfl rfl rfl h2
  · have h2 := h1.2 c2
    refine r_iload_n ok233 5 rfl rfl rfl ?_
    refine r_invSi (as := [.int x3]) (S := []) ok233 6 rfl rfl mf213 rfl (Nat.le_of_ble_eq_true rfl) rfl h2 (fun v3 σ3 h3 => ?_)
    refine r_if_ne ok233 7 rfl rfl (fun c4 => ?_) (fun c4 => ?_)
    · have h4 := h3.1 c4
      refine r_aload_n ok233 10 rfl rfl rfl ?_
      refine r_iconst (v := 1) ok233 11 rfl rfl rfl ?_
      refine r_iload_n ok233 12 rfl rfl rfl ?_
      refine r_ishl ok233 13 rfl rfl ?_
      refine r_iconst (v := 1) ok233 14 rfl rfl rfl ?_
      refine r_iload_n ok233 15 rfl rfl rfl ?_
      refine r_ishl ok233 16 rfl rfl ?_
      refine r_ior ok233 17 rfl rfl ?_
      refine r_iconst (v := 0) ok233 18 rfl rfl rfl ?_
      refine r_invVv (as := [.int (((1 : Int32) <<< (x1 &&& 31)) ||| ((1 : Int32) <<< (x2 &&& 31))), .int 0]) (S := []) ok233 19 rfl rfl mf197 rfl rfl (Nat.le_of_ble_eq_true rfl) rfl h4 (fun σ5 h5 => ?_)
      refine r_aload_n ok233 20 rfl rfl rfl ?_
      refine r_aload_n ok233 21 rfl rfl rfl ?_
      refine r_invVi (as := []) (S := [.ref 124]) ok233 22 rfl rfl mf219 rfl rfl (Nat.le_of_ble_eq_true rfl) rfl h5 (fun v6 σ6 h6 => ?_)
      refine r_invVv (as := [.int v6]) (S := []) ok233 23 rfl rfl mf217 rfl rfl (Nat.le_of_ble_eq_true rfl) rfl h6 (fun σ7 h7 => ?_)
      refine r_aload_n ok233 24 rfl rfl rfl ?_
      refine r_iload_n ok233 25 rfl rfl rfl ?_
      refine r_invVl (as := [.int x3]) (S := []) ok233 26 rfl rfl mf214 rfl rfl (Nat.le_of_ble_eq_true rfl) rfl h7 (fun v8 σ8 h8 => ?_)
      exact r_lret ok233 27 rfl rfl rfl h8
    · have h4 := h3.2 c4
      refine r_ldc2_w (v := (-1)) ok233 8 rfl rfl rfl ?_
      exact r_lret ok233 9 rfl rfl rfl h4

theorem K233 {Θ : Th} {d : Nat} {σ : Mem} {Q : Po} {x1 : Int32} {x2 : Int32} {x3 : Int32} (h : G Θ (d + 1) 233 0 [some (.ref 124), some (.int x1), some (.int x2), some (.int x3)] [] σ Q) : Cm Θ (d + 1) 233 [.ref 124, .int x1, .int x2, .int x3] σ Q :=
  C_of_G okM233 (Nat.le_of_ble_eq_true rfl) rfl h

-- 234: LikeYearsModel.loses(III)J
set_option maxRecDepth 100000 in
set_option maxHeartbeats 4000000 in
theorem B234_0 {Θ : Th} {d : Nat} {σ : Mem} {Q : Po} {x1 : Int32} {x2 : Int32} {x3 : Int32} 
    (h : Ci Θ d 232 [.ref 124, .int x1, .int x2] σ (fun v1 σ1 => ((v1 = 0 → Q (some (.long (-1000000000000))) σ1) ∧ (¬ v1 = 0 → Ci Θ d 213 [.int x3] σ1 (fun v3 σ3 => ((¬ v3 = 0 → Cv Θ d 198 [.ref 124] σ3 (fun σ5 => Ci Θ d 219 [.ref 124] σ5 (fun v6 σ6 => Cv Θ d 217 [.ref 124, .int v6] σ6 (fun σ7 => Cv Θ d 197 [.ref 124, .int (((1 : Int32) <<< (x1 &&& 31)) ||| ((1 : Int32) <<< (x2 &&& 31))), .int 0] σ7 (fun σ8 => Ci Θ d 219 [.ref 124] σ8 (fun v9 σ9 => Cv Θ d 217 [.ref 124, .int v9] σ9 (fun σ10 => Cv Θ d 212 [.ref 124, .long (-(σ7.2.1 124 44)), .long (σ7.2.1 124 45)] σ10 (fun σ11 => Cl Θ d 214 [.ref 124, .int x3] σ11 (fun v12 σ12 => Q (some (.long v12)) σ12))))))))) ∧ (v3 = 0 → Q (some (.long (-1000000000000))) σ3))))))) :
    G Θ (d + 1) 234 0 [some (.ref 124), some (.int x1), some (.int x2), some (.int x3), none, none, none, none] [] σ Q := by
  refine r_aload_n ok234 0 rfl rfl rfl ?_
  refine r_iload_n ok234 1 rfl rfl rfl ?_
  refine r_iload_n ok234 2 rfl rfl rfl ?_
  refine r_invVi (as := [.int x1, .int x2]) (S := []) ok234 3 rfl rfl mf232 rfl rfl (Nat.le_of_ble_eq_true rfl) rfl h (fun v1 σ1 h1 => ?_)
  refine r_if_eq ok234 4 rfl rfl (fun c2 => ?_) (fun c2 => ?_)
  · have h2 := h1.1 c2
    refine r_ldc2_w (v := (-1000000000000)) ok234 8 rfl rfl rfl ?_
    exact r_lret ok234 9 rfl rfl rfl h2
  · have h2 := h1.2 c2
    refine r_iload_n ok234 5 rfl rfl rfl ?_
    refine r_invSi (as := [.int x3]) (S := []) ok234 6 rfl rfl mf213 rfl (Nat.le_of_ble_eq_true rfl) rfl h2 (fun v3 σ3 h3 => ?_)
    refine r_if_ne ok234 7 rfl rfl (fun c4 => ?_) (fun c4 => ?_)
    · have h4 := h3.1 c4
      refine r_aload_n ok234 10 rfl rfl rfl ?_
      refine r_invVv (as := []) (S := []) ok234 11 rfl rfl mf198 rfl rfl (Nat.le_of_ble_eq_true rfl) rfl h4 (fun σ5 h5 => ?_)
      refine r_aload_n ok234 12 rfl rfl rfl ?_
      refine r_aload_n ok234 13 rfl rfl rfl ?_
      refine r_invVi (as := []) (S := [.ref 124]) ok234 14 rfl rfl mf219 rfl rfl (Nat.le_of_ble_eq_true rfl) rfl h5 (fun v6 σ6 h6 => ?_)
      refine r_invVv (as := [.int v6]) (S := []) ok234 15 rfl rfl mf217 rfl rfl (Nat.le_of_ble_eq_true rfl) rfl h6 (fun σ7 h7 => ?_)
      refine r_aload_n ok234 16 rfl rfl rfl ?_
      refine r_getL ok234 17 rfl rfl rfl rfl ?_
      refine r_lstore ok234 18 rfl rfl ?_
      refine r_aload_n ok234 19 rfl rfl rfl ?_
      refine r_getL ok234 20 rfl rfl rfl rfl ?_
      refine r_lstore ok234 21 rfl rfl ?_
      refine r_aload_n ok234 22 rfl rfl rfl ?_
      refine r_iconst (v := 1) ok234 23 rfl rfl rfl ?_
      refine r_iload_n ok234 24 rfl rfl rfl ?_
      refine r_ishl ok234 25 rfl rfl ?_
      refine r_iconst (v := 1) ok234 26 rfl rfl rfl ?_
      refine r_iload_n ok234 27 rfl rfl rfl ?_
      refine r_ishl ok234 28 rfl rfl ?_
      refine r_ior ok234 29 rfl rfl ?_
      refine r_iconst (v := 0) ok234 30 rfl rfl rfl ?_
      refine r_invVv (as := [.int (((1 : Int32) <<< (x1 &&& 31)) ||| ((1 : Int32) <<< (x2 &&& 31))), .int 0]) (S := []) ok234 31 rfl rfl mf197 rfl rfl (Nat.le_of_ble_eq_true rfl) rfl h7 (fun σ8 h8 => ?_)
      refine r_aload_n ok234 32 rfl rfl rfl ?_
      refine r_aload_n ok234 33 rfl rfl rfl ?_
      refine r_invVi (as := []) (S := [.ref 124]) ok234 34 rfl rfl mf219 rfl rfl (Nat.le_of_ble_eq_true rfl) rfl h8 (fun v9 σ9 h9 => ?_)
      refine r_invVv (as := [.int v9]) (S := []) ok234 35 rfl rfl mf217 rfl rfl (Nat.le_of_ble_eq_true rfl) rfl h9 (fun σ10 h10 => ?_)
      refine r_aload_n ok234 36 rfl rfl rfl ?_
      refine r_lload ok234 37 rfl rfl rfl ?_
      refine r_lneg ok234 38 rfl rfl ?_
      refine r_lload ok234 39 rfl rfl rfl ?_
      refine r_invVv (as := [.long (-(σ7.2.1 124 44)), .long (σ7.2.1 124 45)]) (S := []) ok234 40 rfl rfl mf212 rfl rfl (Nat.le_of_ble_eq_true rfl) rfl h10 (fun σ11 h11 => ?_)
      refine r_aload_n ok234 41 rfl rfl rfl ?_
      refine r_iload_n ok234 42 rfl rfl rfl ?_
      refine r_invVl (as := [.int x3]) (S := []) ok234 43 rfl rfl mf214 rfl rfl (Nat.le_of_ble_eq_true rfl) rfl h11 (fun v12 σ12 h12 => ?_)
      exact r_lret ok234 44 rfl rfl rfl h12
    · have h4 := h3.2 c4
      refine r_ldc2_w (v := (-1000000000000)) ok234 8 rfl rfl rfl ?_
      exact r_lret ok234 9 rfl rfl rfl h4

theorem K234 {Θ : Th} {d : Nat} {σ : Mem} {Q : Po} {x1 : Int32} {x2 : Int32} {x3 : Int32} (h : G Θ (d + 1) 234 0 [some (.ref 124), some (.int x1), some (.int x2), some (.int x3), none, none, none, none] [] σ Q) : Cm Θ (d + 1) 234 [.ref 124, .int x1, .int x2, .int x3] σ Q :=
  C_of_G okM234 (Nat.le_of_ble_eq_true rfl) rfl h

-- 235: LikeYearsModel.best()I
set_option maxRecDepth 100000 in
set_option maxHeartbeats 4000000 in
theorem B235_0 {Θ : Th} {d : Nat} {σ : Mem} {Q : Po} 
    (h : G Θ (d + 1) 235 10 [some (.ref 124), some (.int (-1)), some (.long 0), none, some (.long 1), none, some (.int 0), none] [] σ Q) :
    G Θ (d + 1) 235 0 [some (.ref 124), none, none, none, none, none, none, none] [] σ Q := by
  refine r_iconst (v := (-1)) ok235 0 rfl rfl rfl ?_
  refine r_istore_n ok235 1 rfl rfl ?_
  refine r_lconst (v := 0) ok235 2 rfl rfl rfl ?_
  refine r_lstore_n ok235 3 rfl rfl ?_
  refine r_lconst (v := 1) ok235 4 rfl rfl rfl ?_
  refine r_lstore ok235 5 rfl rfl ?_
  refine r_iconst (v := 0) ok235 6 rfl rfl rfl ?_
  refine r_istore ok235 7 rfl rfl ?_
  exact h

set_option maxRecDepth 100000 in
set_option maxHeartbeats 4000000 in
theorem B235_10 {Θ : Th} {d : Nat} {σ : Mem} {Q : Po} {x1 : Int32} {x2 : Int64} {x4 : Int64} {x6 : Int32} 
    (h : (((σ.1 124 37) ≤ x6 → Q (some (.int x1)) σ) ∧ (¬ (σ.1 124 37) ≤ x6 → G Θ (d + 1) 235 25 [some (.ref 124), some (.int x1), some (.long x2), none, some (.long x4), none, some (.int x6), some (.int (x6 + 1))] [] σ Q))) :
    G Θ (d + 1) 235 10 [some (.ref 124), some (.int x1), some (.long x2), none, some (.long x4), none, some (.int x6), none] [] σ Q := by
  refine r_iload ok235 8 rfl rfl rfl ?_
  refine r_aload_n ok235 9 rfl rfl rfl ?_
  refine r_getI ok235 10 rfl rfl rfl rfl ?_
  refine r_icmp_ge ok235 11 rfl rfl (fun c1 => ?_) (fun c1 => ?_)
  · have h1 := h.1 c1
    refine r_iload_n ok235 63 rfl rfl rfl ?_
    exact r_iret ok235 64 rfl rfl rfl h1
  · have h1 := h.2 c1
    refine r_iload ok235 12 rfl rfl rfl ?_
    refine r_iconst (v := 1) ok235 13 rfl rfl rfl ?_
    refine r_iadd ok235 14 rfl rfl ?_
    refine r_istore ok235 15 rfl rfl ?_
    exact h1

set_option maxRecDepth 100000 in
set_option maxHeartbeats 4000000 in
theorem B235_25 {Θ : Th} {d : Nat} {σ : Mem} {Q : Po} {x1 : Int32} {x2 : Int64} {x4 : Int64} {x6 : Int32} {x7 : Int32} 
    (h : (((σ.1 124 37) ≤ x7 → G Θ (d + 1) 235 10 [some (.ref 124), some (.int x1), some (.long x2), none, some (.long x4), none, some (.int (x6 + 1)), none] [] σ Q) ∧ (¬ (σ.1 124 37) ≤ x7 → Cv Θ d 197 [.ref 124, .int (((1 : Int32) <<< (x6 &&& 31)) ||| ((1 : Int32) <<< (x7 &&& 31))), .int 0] σ (fun σ2 => Ci Θ d 219 [.ref 124] σ2 (fun v3 σ3 => Cv Θ d 217 [.ref 124, .int v3] σ3 (fun σ4 => ((x1 < 0 → G Θ (d + 1) 235 25 [some (.ref 124), some (.int ((10 * x6) + x7)), some (.long (σ4.2.1 124 44)), none, some (.long (σ4.2.1 124 45)), none, some (.int x6), some (.int (x7 + 1))] [] σ4 Q) ∧ (¬ x1 < 0 → (((lg_cmp ((σ4.2.1 124 44) * x4) (x2 * (σ4.2.1 124 45))) < 0 → G Θ (d + 1) 235 25 [some (.ref 124), some (.int ((10 * x6) + x7)), some (.long (σ4.2.1 124 44)), none, some (.long (σ4.2.1 124 45)), none, some (.int x6), some (.int (x7 + 1))] [] σ4 Q) ∧ (¬ (lg_cmp ((σ4.2.1 124 44) * x4) (x2 * (σ4.2.1 124 45))) < 0 → G Θ (d + 1) 235 25 [some (.ref 124), some (.int x1), some (.long x2), none, some (.long x4), none, some (.int x6), some (.int (x7 + 1))] [] σ4 Q)))))))))) :
    G Θ (d + 1) 235 25 [some (.ref 124), some (.int x1), some (.long x2), none, some (.long x4), none, some (.int x6), some (.int x7)] [] σ Q := by
  refine r_iload ok235 16 rfl rfl rfl ?_
  refine r_aload_n ok235 17 rfl rfl rfl ?_
  refine r_getI ok235 18 rfl rfl rfl rfl ?_
  refine r_icmp_ge ok235 19 rfl rfl (fun c1 => ?_) (fun c1 => ?_)
  · have h1 := h.1 c1
    refine r_iinc (v := x6 + 1) ok235 61 rfl rfl rfl rfl ?_
    refine r_goto ok235 62 rfl rfl ?_
    exact G.weak (L' := [some (.ref 124), some (.int x1), some (.long x2), none, some (.long x4), none, some (.int (x6 + 1)), none]) ⟨rfl, ⟨rfl, ⟨rfl, ⟨rfl, ⟨rfl, trivial⟩⟩⟩⟩⟩ h1
  · have h1 := h.2 c1
    refine r_aload_n ok235 20 rfl rfl rfl ?_
    refine r_iconst (v := 1) ok235 21 rfl rfl rfl ?_
    refine r_iload ok235 22 rfl rfl rfl ?_
    refine r_ishl ok235 23 rfl rfl ?_
    refine r_iconst (v := 1) ok235 24 rfl rfl rfl ?_
    refine r_iload ok235 25 rfl rfl rfl ?_
    refine r_ishl ok235 26 rfl rfl ?_
    refine r_ior ok235 27 rfl rfl ?_
    refine r_iconst (v := 0) ok235 28 rfl rfl rfl ?_
    refine r_invVv (as := [.int (((1 : Int32) <<< (x6 &&& 31)) ||| ((1 : Int32) <<< (x7 &&& 31))), .int 0]) (S := []) ok235 29 rfl rfl mf197 rfl rfl (Nat.le_of_ble_eq_true rfl) rfl h1 (fun σ2 h2 => ?_)
    refine r_aload_n ok235 30 rfl rfl rfl ?_
    refine r_aload_n ok235 31 rfl rfl rfl ?_
    refine r_invVi (as := []) (S := [.ref 124]) ok235 32 rfl rfl mf219 rfl rfl (Nat.le_of_ble_eq_true rfl) rfl h2 (fun v3 σ3 h3 => ?_)
    refine r_invVv (as := [.int v3]) (S := []) ok235 33 rfl rfl mf217 rfl rfl (Nat.le_of_ble_eq_true rfl) rfl h3 (fun σ4 h4 => ?_)
    refine r_iload_n ok235 34 rfl rfl rfl ?_
    refine r_if_lt ok235 35 rfl rfl (fun c5 => ?_) (fun c5 => ?_)
    · have h5 := h4.1 c5
      refine r_bipush (v := 10) ok235 47 rfl rfl rfl ?_
      refine r_iload ok235 48 rfl rfl rfl ?_
      refine r_imul ok235 49 rfl rfl ?_
      refine r_iload ok235 50 rfl rfl rfl ?_
      refine r_iadd ok235 51 rfl rfl ?_
      refine r_istore_n ok235 52 rfl rfl ?_
      refine r_aload_n ok235 53 rfl rfl rfl ?_
      refine r_getL ok235 54 rfl rfl rfl rfl ?_
      refine r_lstore_n ok235 55 rfl rfl ?_
      refine r_aload_n ok235 56 rfl rfl rfl ?_
      refine r_getL ok235 57 rfl rfl rfl rfl ?_
      refine r_lstore ok235 58 rfl rfl ?_
      refine r_iinc (v := x7 + 1) ok235 59 rfl rfl rfl rfl ?_
      refine r_goto ok235 60 rfl rfl ?_
      exact h5
    · have h5 := h4.2 c5
      refine r_aload_n ok235 36 rfl rfl rfl ?_
      refine r_getL ok235 37 rfl rfl rfl rfl ?_
      refine r_lload ok235 38 rfl rfl rfl ?_
      refine r_lmul ok235 39 rfl rfl ?_
      refine r_lload_n ok235 40 rfl rfl rfl ?_
      refine r_aload_n ok235 41 rfl rfl rfl ?_
      refine r_getL ok235 42 rfl rfl rfl rfl ?_
      refine r_lmul ok235 43 rfl rfl ?_
      refine r_lcmp ok235 44 rfl rfl ?_
      refine r_if_lt ok235 45 rfl rfl (fun c6 => ?_) (fun c6 => ?_)
      · have h6 := h5.1 c6
        refine r_bipush (v := 10) ok235 47 rfl rfl rfl ?_
        refine r_iload ok235 48 rfl rfl rfl ?_
        refine r_imul ok235 49 rfl rfl ?_
        refine r_iload ok235 50 rfl rfl rfl ?_
        refine r_iadd ok235 51 rfl rfl ?_
        refine r_istore_n ok235 52 rfl rfl ?_
        refine r_aload_n ok235 53 rfl rfl rfl ?_
        refine r_getL ok235 54 rfl rfl rfl rfl ?_
        refine r_lstore_n ok235 55 rfl rfl ?_
        refine r_aload_n ok235 56 rfl rfl rfl ?_
        refine r_getL ok235 57 rfl rfl rfl rfl ?_
        refine r_lstore ok235 58 rfl rfl ?_
        refine r_iinc (v := x7 + 1) ok235 59 rfl rfl rfl rfl ?_
        refine r_goto ok235 60 rfl rfl ?_
        exact h6
      · have h6 := h5.2 c6
        refine r_goto ok235 46 rfl rfl ?_
        refine r_iinc (v := x7 + 1) ok235 59 rfl rfl rfl rfl ?_
        refine r_goto ok235 60 rfl rfl ?_
        exact h6

theorem K235 {Θ : Th} {d : Nat} {σ : Mem} {Q : Po} (h : G Θ (d + 1) 235 0 [some (.ref 124), none, none, none, none, none, none, none] [] σ Q) : Cm Θ (d + 1) 235 [.ref 124] σ Q :=
  C_of_G okM235 (Nat.le_of_ble_eq_true rfl) rfl h

-- 236: LikeYearsModel.runCost(II)V
set_option maxRecDepth 100000 in
set_option maxHeartbeats 4000000 in
theorem B236_0 {Θ : Th} {d : Nat} {σ : Mem} {Q : Po} {x1 : Int32} {x2 : Int32} 
    (h : G Θ (d + 1) 236 5 [some (.ref 124), some (.int x1), some (.int x2), some (.int 0), some (.int 0), none] [] σ Q) :
    G Θ (d + 1) 236 0 [some (.ref 124), some (.int x1), some (.int x2), none, none, none] [] σ Q := by
  refine r_iconst (v := 0) ok236 0 rfl rfl rfl ?_
  refine r_istore_n ok236 1 rfl rfl ?_
  refine r_iconst (v := 0) ok236 2 rfl rfl rfl ?_
  refine r_istore ok236 3 rfl rfl ?_
  exact h

set_option maxRecDepth 100000 in
set_option maxHeartbeats 4000000 in
theorem B236_5 {Θ : Th} {d : Nat} {σ : Mem} {Q : Po} {x1 : Int32} {x2 : Int32} {x3 : Int32} {x4 : Int32} 
    (h : (vp_in x1 6 ∧ (((σ.1 139 x1.toNatClampNeg) < x4 → Cv Θ d 211 [.ref 124, .long 0, .long 1] σ (fun σ3 => G Θ (d + 1) 236 342 [some (.ref 124), none, none, some (.int x3), some (.int 0), none] [] σ3 Q)) ∧ (¬ (σ.1 139 x1.toNatClampNeg) < x4 → ((x4 = 0 → G Θ (d + 1) 236 31 [some (.ref 124), some (.int x1), some (.int x2), some (.int x3), some (.int x4), none] [] σ Q) ∧ (¬ x4 = 0 → ((¬ ((x2 >>> (x4 &&& 31)) &&& 1) = 1 → G Θ (d + 1) 236 55 [some (.ref 124), some (.int x1), some (.int x2), some (.int x3), some (.int x4), none] [] σ Q) ∧ (((x2 >>> (x4 &&& 31)) &&& 1) = 1 → G Θ (d + 1) 236 31 [some (.ref 124), some (.int x1), some (.int x2), some (.int x3), some (.int x4), none] [] σ Q)))))))) :
    G Θ (d + 1) 236 5 [some (.ref 124), some (.int x1), some (.int x2), some (.int x3), some (.int x4), none] [] σ Q := by
  refine r_iload ok236 4 rfl rfl rfl ?_
  refine r_aload_n ok236 5 rfl rfl rfl ?_
  refine r_getF ok236 6 rfl rfl rfl rfl ?_
  refine r_iload_n ok236 7 rfl rfl rfl ?_
  obtain ⟨c1, h1⟩ := h
  refine r_iald ok236 8 rfl rfl rfl c1 ?_
  refine r_icmp_gt ok236 9 rfl rfl (fun c2 => ?_) (fun c2 => ?_)
  · have h2 := h1.1 c2
    refine r_aload_n ok236 215 rfl rfl rfl ?_
    refine r_lconst (v := 0) ok236 216 rfl rfl rfl ?_
    refine r_lconst (v := 1) ok236 217 rfl rfl rfl ?_
    refine r_invVv (as := [.long 0, .long 1]) (S := []) ok236 218 rfl rfl mf211 rfl rfl (Nat.le_of_ble_eq_true rfl) rfl h2 (fun σ3 h3 => ?_)
    refine r_iconst (v := 0) ok236 219 rfl rfl rfl ?_
    refine r_istore ok236 220 rfl rfl ?_
    exact G.weak (L' := [some (.ref 124), none, none, some (.int x3), some (.int 0), none]) ⟨rfl, ⟨rfl, ⟨rfl, trivial⟩⟩⟩ h3
  · have h2 := h1.2 c2
    refine r_iload ok236 10 rfl rfl rfl ?_
    refine r_if_eq ok236 11 rfl rfl (fun c4 => ?_) (fun c4 => ?_)
    · have h4 := h2.1 c4
      exact h4
    · have h4 := h2.2 c4
      refine r_iload_n ok236 12 rfl rfl rfl ?_
      refine r_iload ok236 13 rfl rfl rfl ?_
      refine r_ishr ok236 14 rfl rfl ?_
      refine r_iconst (v := 1) ok236 15 rfl rfl rfl ?_
      refine r_iand ok236 16 rfl rfl ?_
      refine r_iconst (v := 1) ok236 17 rfl rfl rfl ?_
      refine r_icmp_ne ok236 18 rfl rfl (fun c5 => ?_) (fun c5 => ?_)
      · have h5 := h4.1 c5
        exact h5
      · have h5 := h4.2 c5
        exact h5

set_option maxRecDepth 100000 in
set_option maxHeartbeats 4000000 in
theorem B236_342 {Θ : Th} {d : Nat} {σ : Mem} {Q : Po} {x3 : Int32} {x4 : Int32} 
    (h : ((x3 ≤ x4 → Q none σ) ∧ (¬ x3 ≤ x4 → (vp_in x4 13 ∧ (vp_in x4 13 ∧ (vp_in x4 13 ∧ (vp_in x4 13 ∧ (vp_in x4 13 ∧ Cv Θ d 212 [.ref 124, .long (((σ.2.1 160 x4.toNatClampNeg) * ((σ.1 158 x4.toNatClampNeg).toInt64)) - (((σ.1 159 x4.toNatClampNeg).toInt64) * ((σ.1 159 x4.toNatClampNeg).toInt64))), .long ((σ.1 158 x4.toNatClampNeg).toInt64)] σ (fun σ7 => G Θ (d + 1) 236 342 [some (.ref 124), none, none, some (.int x3), some (.int (x4 + 1)), none] [] σ7 Q))))))))) :
    G Θ (d + 1) 236 342 [some (.ref 124), none, none, some (.int x3), some (.int x4), none] [] σ Q := by
  refine r_iload ok236 221 rfl rfl rfl ?_
  refine r_iload_n ok236 222 rfl rfl rfl ?_
  refine r_icmp_ge ok236 223 rfl rfl (fun c1 => ?_) (fun c1 => ?_)
  · have h1 := h.1 c1
    exact r_ret ok236 255 rfl rfl rfl h1
  · have h1 := h.2 c1
    refine r_aload_n ok236 224 rfl rfl rfl ?_
    refine r_aload_n ok236 225 rfl rfl rfl ?_
    refine r_getF ok236 226 rfl rfl rfl rfl ?_
    refine r_iload ok236 227 rfl rfl rfl ?_
    obtain ⟨c2, h2⟩ := h1
    refine r_lald ok236 228 rfl rfl rfl c2 ?_
    refine r_aload_n ok236 229 rfl rfl rfl ?_
    refine r_getF ok236 230 rfl rfl rfl rfl ?_
    refine r_iload ok236 231 rfl rfl rfl ?_
    obtain ⟨c3, h3⟩ := h2
    refine r_iald ok236 232 rfl rfl rfl c3 ?_
    refine r_i2l ok236 233 rfl rfl ?_
    refine r_lmul ok236 234 rfl rfl ?_
    refine r_aload_n ok236 235 rfl rfl rfl ?_
    refine r_getF ok236 236 rfl rfl rfl rfl ?_
    refine r_iload ok236 237 rfl rfl rfl ?_
    obtain ⟨c4, h4⟩ := h3
    refine r_iald ok236 238 rfl rfl rfl c4 ?_
    refine r_i2l ok236 239 rfl rfl ?_
    refine r_aload_n ok236 240 rfl rfl rfl ?_
    refine r_getF ok236 241 rfl rfl rfl rfl ?_
    refine r_iload ok236 242 rfl rfl rfl ?_
    obtain ⟨c5, h5⟩ := h4
    refine r_iald ok236 243 rfl rfl rfl c5 ?_
    refine r_i2l ok236 244 rfl rfl ?_
    refine r_lmul ok236 245 rfl rfl ?_
    refine r_lsub ok236 246 rfl rfl ?_
    refine r_aload_n ok236 247 rfl rfl rfl ?_
    refine r_getF ok236 248 rfl rfl rfl rfl ?_
    refine r_iload ok236 249 rfl rfl rfl ?_
    obtain ⟨c6, h6⟩ := h5
    refine r_iald ok236 250 rfl rfl rfl c6 ?_
    refine r_i2l ok236 251 rfl rfl ?_
    refine r_invVv (as := [.long (((σ.2.1 160 x4.toNatClampNeg) * ((σ.1 158 x4.toNatClampNeg).toInt64)) - (((σ.1 159 x4.toNatClampNeg).toInt64) * ((σ.1 159 x4.toNatClampNeg).toInt64))), .long ((σ.1 158 x4.toNatClampNeg).toInt64)]) (S := []) ok236 252 rfl rfl mf212 rfl rfl (Nat.le_of_ble_eq_true rfl) rfl h6 (fun σ7 h7 => ?_)
    refine r_iinc (v := x4 + 1) ok236 253 rfl rfl rfl rfl ?_
    refine r_goto ok236 254 rfl rfl ?_
    exact h7

set_option maxRecDepth 100000 in
set_option maxHeartbeats 4000000 in
theorem B236_31 {Θ : Th} {d : Nat} {σ : Mem} {Q : Po} {x1 : Int32} {x2 : Int32} {x3 : Int32} {x4 : Int32} 
    (h : (vp_in x3 13 ∧ (vp_in x3 13 ∧ (vp_in x3 13 ∧ G Θ (d + 1) 236 55 [some (.ref 124), some (.int x1), some (.int x2), some (.int (x3 + 1)), some (.int x4), none] [] (sL (sI (sI σ 158 (x3.toNatClampNeg) 0) 159 (x3.toNatClampNeg) 0) 160 (x3.toNatClampNeg) 0) Q)))) :
    G Θ (d + 1) 236 31 [some (.ref 124), some (.int x1), some (.int x2), some (.int x3), some (.int x4), none] [] σ Q := by
  refine r_aload_n ok236 19 rfl rfl rfl ?_
  refine r_getF ok236 20 rfl rfl rfl rfl ?_
  refine r_iload_n ok236 21 rfl rfl rfl ?_
  refine r_iconst (v := 0) ok236 22 rfl rfl rfl ?_
  obtain ⟨c1, h1⟩ := h
  refine r_iast ok236 23 rfl rfl rfl c1 ?_
  refine r_aload_n ok236 24 rfl rfl rfl ?_
  refine r_getF ok236 25 rfl rfl rfl rfl ?_
  refine r_iload_n ok236 26 rfl rfl rfl ?_
  refine r_iconst (v := 0) ok236 27 rfl rfl rfl ?_
  obtain ⟨c2, h2⟩ := h1
  refine r_iast ok236 28 rfl rfl rfl c2 ?_
  refine r_aload_n ok236 29 rfl rfl rfl ?_
  refine r_getF ok236 30 rfl rfl rfl rfl ?_
  refine r_iload_n ok236 31 rfl rfl rfl ?_
  refine r_lconst (v := 0) ok236 32 rfl rfl rfl ?_
  obtain ⟨c3, h3⟩ := h2
  refine r_last ok236 33 rfl rfl rfl c3 ?_
  refine r_iinc (v := x3 + 1) ok236 34 rfl rfl rfl rfl ?_
  exact h3

set_option maxRecDepth 100000 in
set_option maxHeartbeats 4000000 in
theorem B236_55 {Θ : Th} {d : Nat} {σ : Mem} {Q : Po} {x1 : Int32} {x2 : Int32} {x3 : Int32} {x4 : Int32} 
    (h : G Θ (d + 1) 236 58 [some (.ref 124), some (.int x1), some (.int x2), some (.int x3), some (.int x4), some (.int 0)] [] σ Q) :
    G Θ (d + 1) 236 55 [some (.ref 124), some (.int x1), some (.int x2), some (.int x3), some (.int x4), none] [] σ Q := by
  refine r_iconst (v := 0) ok236 35 rfl rfl rfl ?_
  refine r_istore ok236 36 rfl rfl ?_
  exact h

set_option maxRecDepth 100000 in
set_option maxHeartbeats 4000000 in
theorem B236_58 {Θ : Th} {d : Nat} {σ : Mem} {Q : Po} {x1 : Int32} {x2 : Int32} {x3 : Int32} {x4 : Int32} {x5 : Int32} 
    (h : (((σ.1 124 38) ≤ x5 → (vp_in x1 6 ∧ ((x4 = (σ.1 139 x1.toNatClampNeg) → G Θ (d + 1) 236 197 [some (.ref 124), some (.int x1), some (.int x2), some (.int x3), some (.int x4), none] [] σ Q) ∧ (¬ x4 = (σ.1 139 x1.toNatClampNeg) → ((¬ ((x2 >>> ((x4 + 1) &&& 31)) &&& 1) = 1 → G Θ (d + 1) 236 223 [some (.ref 124), some (.int x1), some (.int x2), some (.int x3), some (.int x4), some (.int 0)] [] σ Q) ∧ (((x2 >>> ((x4 + 1) &&& 31)) &&& 1) = 1 → G Θ (d + 1) 236 197 [some (.ref 124), some (.int x1), some (.int x2), some (.int x3), some (.int x4), none] [] σ Q)))))) ∧ (¬ (σ.1 124 38) ≤ x5 → (vp_in ((6 * x5) + x1) 96 ∧ (((σ.1 140 ((6 * x5) + x1).toNatClampNeg) = x4 → (vp_in (x3 - 1) 13 ∧ (vp_in x5 16 ∧ (vp_in (x3 - 1) 13 ∧ (vp_in (x3 - 1) 13 ∧ (vp_in x5 16 ∧ (vp_in x5 16 ∧ (vp_in (x3 - 1) 13 ∧ (vp_in (x3 - 1) 13 ∧ (vp_in x5 16 ∧ (vp_in x5 16 ∧ (vp_in x5 16 ∧ (vp_in (x3 - 1) 13 ∧ G Θ (d + 1) 236 168 [some (.ref 124), some (.int x1), some (.int x2), some (.int x3), some (.int x4), some (.int x5)] [] (sL (sI (sI σ 158 ((x3 - 1).toNatClampNeg) ((σ.1 158 (x3 - 1).toNatClampNeg) + (σ.1 144 x5.toNatClampNeg))) 159 ((x3 - 1).toNatClampNeg) (((sI σ 158 ((x3 - 1).toNatClampNeg) ((σ.1 158 (x3 - 1).toNatClampNeg) + (σ.1 144 x5.toNatClampNeg))).1 159 (x3 - 1).toNatClampNeg) + (((sI σ 158 ((x3 - 1).toNatClampNeg) ((σ.1 158 (x3 - 1).toNatClampNeg) + (σ.1 144 x5.toNatClampNeg))).1 144 x5.toNatClampNeg) * ((sI σ 158 ((x3 - 1).toNatClampNeg) ((σ.1 158 (x3 - 1).toNatClampNeg) + (σ.1 144 x5.toNatClampNeg))).1 143 x5.toNatClampNeg)))) 160 ((x3 - 1).toNatClampNeg) (((sI (sI σ 158 ((x3 - 1).toNatClampNeg) ((σ.1 158 (x3 - 1).toNatClampNeg) + (σ.1 144 x5.toNatClampNeg))) 159 ((x3 - 1).toNatClampNeg) (((sI σ 158 ((x3 - 1).toNatClampNeg) ((σ.1 158 (x3 - 1).toNatClampNeg) + (σ.1 144 x5.toNatClampNeg))).1 159 (x3 - 1).toNatClampNeg) + (((sI σ 158 ((x3 - 1).toNatClampNeg) ((σ.1 158 (x3 - 1).toNatClampNeg) + (σ.1 144 x5.toNatClampNeg))).1 144 x5.toNatClampNeg) * ((sI σ 158 ((x3 - 1).toNatClampNeg) ((σ.1 158 (x3 - 1).toNatClampNeg) + (σ.1 144 x5.toNatClampNeg))).1 143 x5.toNatClampNeg)))).2.1 160 (x3 - 1).toNatClampNeg) + (((((sI (sI σ 158 ((x3 - 1).toNatClampNeg) ((σ.1 158 (x3 - 1).toNatClampNeg) + (σ.1 144 x5.toNatClampNeg))) 159 ((x3 - 1).toNatClampNeg) (((sI σ 158 ((x3 - 1).toNatClampNeg) ((σ.1 158 (x3 - 1).toNatClampNeg) + (σ.1 144 x5.toNatClampNeg))).1 159 (x3 - 1).toNatClampNeg) + (((sI σ 158 ((x3 - 1).toNatClampNeg) ((σ.1 158 (x3 - 1).toNatClampNeg) + (σ.1 144 x5.toNatClampNeg))).1 144 x5.toNatClampNeg) * ((sI σ 158 ((x3 - 1).toNatClampNeg) ((σ.1 158 (x3 - 1).toNatClampNeg) + (σ.1 144 x5.toNatClampNeg))).1 143 x5.toNatClampNeg)))).1 144 x5.toNatClampNeg).toInt64) * (((sI (sI σ 158 ((x3 - 1).toNatClampNeg) ((σ.1 158 (x3 - 1).toNatClampNeg) + (σ.1 144 x5.toNatClampNeg))) 159 ((x3 - 1).toNatClampNeg) (((sI σ 158 ((x3 - 1).toNatClampNeg) ((σ.1 158 (x3 - 1).toNatClampNeg) + (σ.1 144 x5.toNatClampNeg))).1 159 (x3 - 1).toNatClampNeg) + (((sI σ 158 ((x3 - 1).toNatClampNeg) ((σ.1 158 (x3 - 1).toNatClampNeg) + (σ.1 144 x5.toNatClampNeg))).1 144 x5.toNatClampNeg) * ((sI σ 158 ((x3 - 1).toNatClampNeg) ((σ.1 158 (x3 - 1).toNatClampNeg) + (σ.1 144 x5.toNatClampNeg))).1 143 x5.toNatClampNeg)))).1 143 x5.toNatClampNeg).toInt64)) * (((sI (sI σ 158 ((x3 - 1).toNatClampNeg) ((σ.1 158 (x3 - 1).toNatClampNeg) + (σ.1 144 x5.toNatClampNeg))) 159 ((x3 - 1).toNatClampNeg) (((sI σ 158 ((x3 - 1).toNatClampNeg) ((σ.1 158 (x3 - 1).toNatClampNeg) + (σ.1 144 x5.toNatClampNeg))).1 159 (x3 - 1).toNatClampNeg) + (((sI σ 158 ((x3 - 1).toNatClampNeg) ((σ.1 158 (x3 - 1).toNatClampNeg) + (σ.1 144 x5.toNatClampNeg))).1 144 x5.toNatClampNeg) * ((sI σ 158 ((x3 - 1).toNatClampNeg) ((σ.1 158 (x3 - 1).toNatClampNeg) + (σ.1 144 x5.toNatClampNeg))).1 143 x5.toNatClampNeg)))).1 143 x5.toNatClampNeg).toInt64)))) Q))))))))))))) ∧ (¬ (σ.1 140 ((6 * x5) + x1).toNatClampNeg) = x4 → G Θ (d + 1) 236 168 [some (.ref 124), some (.int x1), some (.int x2), some (.int x3), some (.int x4), some (.int x5)] [] σ Q)))))) :
    G Θ (d + 1) 236 58 [some (.ref 124), some (.int x1), some (.int x2), some (.int x3), some (.int x4), some (.int x5)] [] σ Q := by
  refine r_iload ok236 37 rfl rfl rfl ?_
  refine r_aload_n ok236 38 rfl rfl rfl ?_
  refine r_getI ok236 39 rfl rfl rfl rfl ?_
  refine r_icmp_ge ok236 40 rfl rfl (fun c1 => ?_) (fun c1 => ?_)
  · have h1 := h.1 c1
    refine r_iload ok236 111 rfl rfl rfl ?_
    refine r_aload_n ok236 112 rfl rfl rfl ?_
    refine r_getF ok236 113 rfl rfl rfl rfl ?_
    refine r_iload_n ok236 114 rfl rfl rfl ?_
    obtain ⟨c2, h2⟩ := h1
    refine r_iald ok236 115 rfl rfl rfl c2 ?_
    refine r_icmp_eq ok236 116 rfl rfl (fun c3 => ?_) (fun c3 => ?_)
    · have h3 := h2.1 c3
      exact G.weak (L' := [some (.ref 124), some (.int x1), some (.int x2), some (.int x3), some (.int x4), none]) ⟨rfl, ⟨rfl, ⟨rfl, ⟨rfl, ⟨rfl, trivial⟩⟩⟩⟩⟩ h3
    · have h3 := h2.2 c3
      refine r_iload_n ok236 117 rfl rfl rfl ?_
      refine r_iload ok236 118 rfl rfl rfl ?_
      refine r_iconst (v := 1) ok236 119 rfl rfl rfl ?_
      refine r_iadd ok236 120 rfl rfl ?_
      refine r_ishr ok236 121 rfl rfl ?_
      refine r_iconst (v := 1) ok236 122 rfl rfl rfl ?_
      refine r_iand ok236 123 rfl rfl ?_
      refine r_iconst (v := 1) ok236 124 rfl rfl rfl ?_
      refine r_icmp_ne ok236 125 rfl rfl (fun c4 => ?_) (fun c4 => ?_)
      · have h4 := h3.1 c4
        refine r_iconst (v := 0) ok236 128 rfl rfl rfl ?_
        refine r_istore ok236 129 rfl rfl ?_
        refine r_iload ok236 130 rfl rfl rfl ?_
        refine r_if_eq ok236 131 rfl rfl (fun _ => ?_) (fun c5 => absurd c5 (by decide))
        exact h4
      · have h4 := h3.2 c4
        exact G.weak (L' := [some (.ref 124), some (.int x1), some (.int x2), some (.int x3), some (.int x4), none]) ⟨rfl, ⟨rfl, ⟨rfl, ⟨rfl, ⟨rfl, trivial⟩⟩⟩⟩⟩ h4
  · have h1 := h.2 c1
    refine r_aload_n ok236 41 rfl rfl rfl ?_
    refine r_getF ok236 42 rfl rfl rfl rfl ?_
    refine r_bipush (v := 6) ok236 43 rfl rfl rfl ?_
    refine r_iload ok236 44 rfl rfl rfl ?_
    refine r_imul ok236 45 rfl rfl ?_
    refine r_iload_n ok236 46 rfl rfl rfl ?_
    refine r_iadd ok236 47 rfl rfl ?_
    obtain ⟨c6, h6⟩ := h1
    refine r_iald ok236 48 rfl rfl rfl c6 ?_
    refine r_iload ok236 49 rfl rfl rfl ?_
    refine r_icmp_eq ok236 50 rfl rfl (fun c7 => ?_) (fun c7 => ?_)
    · have h7 := h6.1 c7
      refine r_aload_n ok236 52 rfl rfl rfl ?_
      refine r_getF ok236 53 rfl rfl rfl rfl ?_
      refine r_iload_n ok236 54 rfl rfl rfl ?_
      refine r_iconst (v := 1) ok236 55 rfl rfl rfl ?_
      refine r_isub ok236 56 rfl rfl ?_
      refine r_dup2a ok236 57 rfl rfl rfl rfl ?_
      obtain ⟨c8, h8⟩ := h7
      refine r_iald ok236 58 rfl rfl rfl c8 ?_
      refine r_aload_n ok236 59 rfl rfl rfl ?_
      refine r_getF ok236 60 rfl rfl rfl rfl ?_
      refine r_iload ok236 61 rfl rfl rfl ?_
      obtain ⟨c9, h9⟩ := h8
      refine r_iald ok236 62 rfl rfl rfl c9 ?_
      refine r_iadd ok236 63 rfl rfl ?_
      obtain ⟨c10, h10⟩ := h9
      refine r_iast ok236 64 rfl rfl rfl c10 ?_
      refine r_aload_n ok236 65 rfl rfl rfl ?_
      refine r_getF ok236 66 rfl rfl rfl rfl ?_
      refine r_iload_n ok236 67 rfl rfl rfl ?_
      refine r_iconst (v := 1) ok236 68 rfl rfl rfl ?_
      refine r_isub ok236 69 rfl rfl ?_
      refine r_dup2a ok236 70 rfl rfl rfl rfl ?_
      obtain ⟨c11, h11⟩ := h10
      refine r_iald ok236 71 rfl rfl rfl c11 ?_
      refine r_aload_n ok236 72 rfl rfl rfl ?_
      refine r_getF ok236 73 rfl rfl rfl rfl ?_
      refine r_iload ok236 74 rfl rfl rfl ?_
      obtain ⟨c12, h12⟩ := h11
      refine r_iald ok236 75 rfl rfl rfl c12 ?_
      refine r_aload_n ok236 76 rfl rfl rfl ?_
      refine r_getF ok236 77 rfl rfl rfl rfl ?_
      refine r_iload ok236 78 rfl rfl rfl ?_
      obtain ⟨c13, h13⟩ := h12
      refine r_iald ok236 79 rfl rfl rfl c13 ?_
      refine r_imul ok236 80 rfl rfl ?_
      refine r_iadd ok236 81 rfl rfl ?_
      obtain ⟨c14, h14⟩ := h13
      refine r_iast ok236 82 rfl rfl rfl c14 ?_
      refine r_aload_n ok236 83 rfl rfl rfl ?_
      refine r_getF ok236 84 rfl rfl rfl rfl ?_
      refine r_iload_n ok236 85 rfl rfl rfl ?_
      refine r_iconst (v := 1) ok236 86 rfl rfl rfl ?_
      refine r_isub ok236 87 rfl rfl ?_
      refine r_dup2a ok236 88 rfl rfl rfl rfl ?_
      obtain ⟨c15, h15⟩ := h14
      refine r_lald ok236 89 rfl rfl rfl c15 ?_
      refine r_aload_n ok236 90 rfl rfl rfl ?_
      refine r_getF ok236 91 rfl rfl rfl rfl ?_
      refine r_iload ok236 92 rfl rfl rfl ?_
      obtain ⟨c16, h16⟩ := h15
      refine r_iald ok236 93 rfl rfl rfl c16 ?_
      refine r_i2l ok236 94 rfl rfl ?_
      refine r_aload_n ok236 95 rfl rfl rfl ?_
      refine r_getF ok236 96 rfl rfl rfl rfl ?_
      refine r_iload ok236 97 rfl rfl rfl ?_
      obtain ⟨c17, h17⟩ := h16
      refine r_iald ok236 98 rfl rfl rfl c17 ?_
      refine r_i2l ok236 99 rfl rfl ?_
      refine r_lmul ok236 100 rfl rfl ?_
      refine r_aload_n ok236 101 rfl rfl rfl ?_
      refine r_getF ok236 102 rfl rfl rfl rfl ?_
      refine r_iload ok236 103 rfl rfl rfl ?_
      obtain ⟨c18, h18⟩ := h17
      refine r_iald ok236 104 rfl rfl rfl c18 ?_
      refine r_i2l ok236 105 rfl rfl ?_
      refine r_lmul ok236 106 rfl rfl ?_
      refine r_ladd ok236 107 rfl rfl ?_
      obtain ⟨c19, h19⟩ := h18
      refine r_last ok236 108 rfl rfl rfl c19 ?_
      exact h19
    · have h7 := h6.2 c7
      refine r_goto ok236 51 rfl rfl ?_
      exact h7

set_option maxRecDepth 100000 in
set_option maxHeartbeats 4000000 in
theorem B236_197 {Θ : Th} {d : Nat} {σ : Mem} {Q : Po} {x1 : Int32} {x2 : Int32} {x3 : Int32} {x4 : Int32} 
    (h : (vp_in (x3 - 1) 13 ∧ ((¬ (σ.1 158 (x3 - 1).toNatClampNeg) = 0 → G Θ (d + 1) 236 223 [some (.ref 124), some (.int x1), some (.int x2), some (.int x3), some (.int x4), some (.int 1)] [] σ Q) ∧ ((σ.1 158 (x3 - 1).toNatClampNeg) = 0 → G Θ (d + 1) 236 223 [some (.ref 124), some (.int x1), some (.int x2), some (.int (x3 + (-1))), some (.int x4), some (.int 1)] [] σ Q)))) :
    G Θ (d + 1) 236 197 [some (.ref 124), some (.int x1), some (.int x2), some (.int x3), some (.int x4), none] [] σ Q := by
  refine r_iconst (v := 1) ok236 126 rfl rfl rfl ?_
  refine r_goto ok236 127 rfl rfl ?_
  refine r_istore ok236 129 rfl rfl ?_
  refine r_iload ok236 130 rfl rfl rfl ?_
  refine r_if_eq ok236 131 rfl rfl (fun c1 => absurd c1 (by decide)) (fun _ => ?_)
  refine r_aload_n ok236 132 rfl rfl rfl ?_
  refine r_getF ok236 133 rfl rfl rfl rfl ?_
  refine r_iload_n ok236 134 rfl rfl rfl ?_
  refine r_iconst (v := 1) ok236 135 rfl rfl rfl ?_
  refine r_isub ok236 136 rfl rfl ?_
  obtain ⟨c2, h2⟩ := h
  refine r_iald ok236 137 rfl rfl rfl c2 ?_
  refine r_if_ne ok236 138 rfl rfl (fun c3 => ?_) (fun c3 => ?_)
  · have h3 := h2.1 c3
    exact h3
  · have h3 := h2.2 c3
    refine r_iinc (v := x3 + (-1)) ok236 139 rfl rfl rfl rfl ?_
    exact h3

set_option maxRecDepth 100000 in
set_option maxHeartbeats 4000000 in
theorem B236_223 {Θ : Th} {d : Nat} {σ : Mem} {Q : Po} {x1 : Int32} {x2 : Int32} {x3 : Int32} {x4 : Int32} {x5 : Int32} 
    (h : ((x5 = 0 → G Θ (d + 1) 236 327 [some (.ref 124), some (.int x1), some (.int x2), some (.int x3), some (.int x4), none] [] σ Q) ∧ (¬ x5 = 0 → ((x3 ≤ 1 → G Θ (d + 1) 236 327 [some (.ref 124), some (.int x1), some (.int x2), some (.int x3), some (.int x4), none] [] σ Q) ∧ (¬ x3 ≤ 1 → (vp_in (x3 - 2) 13 ∧ (vp_in (x3 - 1) 13 ∧ (vp_in (x3 - 1) 13 ∧ (vp_in (x3 - 2) 13 ∧ ((((σ.1 159 (x3 - 2).toNatClampNeg) * (σ.1 158 (x3 - 1).toNatClampNeg)) ≤ ((σ.1 159 (x3 - 1).toNatClampNeg) * (σ.1 158 (x3 - 2).toNatClampNeg)) → G Θ (d + 1) 236 327 [some (.ref 124), some (.int x1), some (.int x2), some (.int x3), some (.int x4), none] [] σ Q) ∧ (¬ ((σ.1 159 (x3 - 2).toNatClampNeg) * (σ.1 158 (x3 - 1).toNatClampNeg)) ≤ ((σ.1 159 (x3 - 1).toNatClampNeg) * (σ.1 158 (x3 - 2).toNatClampNeg)) → (vp_in ((x3 + (-1)) - 1) 13 ∧ (vp_in (x3 + (-1)) 13 ∧ (vp_in ((x3 + (-1)) - 1) 13 ∧ (vp_in ((x3 + (-1)) - 1) 13 ∧ (vp_in (x3 + (-1)) 13 ∧ (vp_in ((x3 + (-1)) - 1) 13 ∧ (vp_in ((x3 + (-1)) - 1) 13 ∧ (vp_in (x3 + (-1)) 13 ∧ (vp_in ((x3 + (-1)) - 1) 13 ∧ G Θ (d + 1) 236 223 [some (.ref 124), some (.int x1), some (.int x2), some (.int (x3 + (-1))), some (.int x4), some (.int x5)] [] (sL (sI (sI σ 158 (((x3 + (-1)) - 1).toNatClampNeg) ((σ.1 158 ((x3 + (-1)) - 1).toNatClampNeg) + (σ.1 158 (x3 + (-1)).toNatClampNeg))) 159 (((x3 + (-1)) - 1).toNatClampNeg) (((sI σ 158 (((x3 + (-1)) - 1).toNatClampNeg) ((σ.1 158 ((x3 + (-1)) - 1).toNatClampNeg) + (σ.1 158 (x3 + (-1)).toNatClampNeg))).1 159 ((x3 + (-1)) - 1).toNatClampNeg) + ((sI σ 158 (((x3 + (-1)) - 1).toNatClampNeg) ((σ.1 158 ((x3 + (-1)) - 1).toNatClampNeg) + (σ.1 158 (x3 + (-1)).toNatClampNeg))).1 159 (x3 + (-1)).toNatClampNeg))) 160 (((x3 + (-1)) - 1).toNatClampNeg) (((sI (sI σ 158 (((x3 + (-1)) - 1).toNatClampNeg) ((σ.1 158 ((x3 + (-1)) - 1).toNatClampNeg) + (σ.1 158 (x3 + (-1)).toNatClampNeg))) 159 (((x3 + (-1)) - 1).toNatClampNeg) (((sI σ 158 (((x3 + (-1)) - 1).toNatClampNeg) ((σ.1 158 ((x3 + (-1)) - 1).toNatClampNeg) + (σ.1 158 (x3 + (-1)).toNatClampNeg))).1 159 ((x3 + (-1)) - 1).toNatClampNeg) + ((sI σ 158 (((x3 + (-1)) - 1).toNatClampNeg) ((σ.1 158 ((x3 + (-1)) - 1).toNatClampNeg) + (σ.1 158 (x3 + (-1)).toNatClampNeg))).1 159 (x3 + (-1)).toNatClampNeg))).2.1 160 ((x3 + (-1)) - 1).toNatClampNeg) + ((sI (sI σ 158 (((x3 + (-1)) - 1).toNatClampNeg) ((σ.1 158 ((x3 + (-1)) - 1).toNatClampNeg) + (σ.1 158 (x3 + (-1)).toNatClampNeg))) 159 (((x3 + (-1)) - 1).toNatClampNeg) (((sI σ 158 (((x3 + (-1)) - 1).toNatClampNeg) ((σ.1 158 ((x3 + (-1)) - 1).toNatClampNeg) + (σ.1 158 (x3 + (-1)).toNatClampNeg))).1 159 ((x3 + (-1)) - 1).toNatClampNeg) + ((sI σ 158 (((x3 + (-1)) - 1).toNatClampNeg) ((σ.1 158 ((x3 + (-1)) - 1).toNatClampNeg) + (σ.1 158 (x3 + (-1)).toNatClampNeg))).1 159 (x3 + (-1)).toNatClampNeg))).2.1 160 (x3 + (-1)).toNatClampNeg))) Q)))))))))))))))))))) :
    G Θ (d + 1) 236 223 [some (.ref 124), some (.int x1), some (.int x2), some (.int x3), some (.int x4), some (.int x5)] [] σ Q := by
  refine r_iload ok236 140 rfl rfl rfl ?_
  refine r_if_eq ok236 141 rfl rfl (fun c1 => ?_) (fun c1 => ?_)
  · have h1 := h.1 c1
    exact G.weak (L' := [some (.ref 124), some (.int x1), some (.int x2), some (.int x3), some (.int x4), none]) ⟨rfl, ⟨rfl, ⟨rfl, ⟨rfl, ⟨rfl, trivial⟩⟩⟩⟩⟩ h1
  · have h1 := h.2 c1
    refine r_iload_n ok236 142 rfl rfl rfl ?_
    refine r_iconst (v := 1) ok236 143 rfl rfl rfl ?_
    refine r_icmp_le ok236 144 rfl rfl (fun c2 => ?_) (fun c2 => ?_)
    · have h2 := h1.1 c2
      exact G.weak (L' := [some (.ref 124), some (.int x1), some (.int x2), some (.int x3), some (.int x4), none]) ⟨rfl, ⟨rfl, ⟨rfl, ⟨rfl, ⟨rfl, trivial⟩⟩⟩⟩⟩ h2
    · have h2 := h1.2 c2
      refine r_aload_n ok236 145 rfl rfl rfl ?_
      refine r_getF ok236 146 rfl rfl rfl rfl ?_
      refine r_iload_n ok236 147 rfl rfl rfl ?_
      refine r_iconst (v := 2) ok236 148 rfl rfl rfl ?_
      refine r_isub ok236 149 rfl rfl ?_
      obtain ⟨c3, h3⟩ := h2
      refine r_iald ok236 150 rfl rfl rfl c3 ?_
      refine r_aload_n ok236 151 rfl rfl rfl ?_
      refine r_getF ok236 152 rfl rfl rfl rfl ?_
      refine r_iload_n ok236 153 rfl rfl rfl ?_
      refine r_iconst (v := 1) ok236 154 rfl rfl rfl ?_
      refine r_isub ok236 155 rfl rfl ?_
      obtain ⟨c4, h4⟩ := h3
      refine r_iald ok236 156 rfl rfl rfl c4 ?_
      refine r_imul ok236 157 rfl rfl ?_
      refine r_aload_n ok236 158 rfl rfl rfl ?_
      refine r_getF ok236 159 rfl rfl rfl rfl ?_
      refine r_iload_n ok236 160 rfl rfl rfl ?_
      refine r_iconst (v := 1) ok236 161 rfl rfl rfl ?_
      refine r_isub ok236 162 rfl rfl ?_
      obtain ⟨c5, h5⟩ := h4
      refine r_iald ok236 163 rfl rfl rfl c5 ?_
      refine r_aload_n ok236 164 rfl rfl rfl ?_
      refine r_getF ok236 165 rfl rfl rfl rfl ?_
      refine r_iload_n ok236 166 rfl rfl rfl ?_
      refine r_iconst (v := 2) ok236 167 rfl rfl rfl ?_
      refine r_isub ok236 168 rfl rfl ?_
      obtain ⟨c6, h6⟩ := h5
      refine r_iald ok236 169 rfl rfl rfl c6 ?_
      refine r_imul ok236 170 rfl rfl ?_
      refine r_icmp_le ok236 171 rfl rfl (fun c7 => ?_) (fun c7 => ?_)
      · have h7 := h6.1 c7
        exact G.weak (L' := [some (.ref 124), some (.int x1), some (.int x2), some (.int x3), some (.int x4), none]) ⟨rfl, ⟨rfl, ⟨rfl, ⟨rfl, ⟨rfl, trivial⟩⟩⟩⟩⟩ h7
      · have h7 := h6.2 c7
        refine r_iinc (v := x3 + (-1)) ok236 172 rfl rfl rfl rfl ?_
        refine r_aload_n ok236 173 rfl rfl rfl ?_
        refine r_getF ok236 174 rfl rfl rfl rfl ?_
        refine r_iload_n ok236 175 rfl rfl rfl ?_
        refine r_iconst (v := 1) ok236 176 rfl rfl rfl ?_
        refine r_isub ok236 177 rfl rfl ?_
        refine r_dup2a ok236 178 rfl rfl rfl rfl ?_
        obtain ⟨c8, h8⟩ := h7
        refine r_iald ok236 179 rfl rfl rfl c8 ?_
        refine r_aload_n ok236 180 rfl rfl rfl ?_
        refine r_getF ok236 181 rfl rfl rfl rfl ?_
        refine r_iload_n ok236 182 rfl rfl rfl ?_
        obtain ⟨c9, h9⟩ := h8
        refine r_iald ok236 183 rfl rfl rfl c9 ?_
        refine r_iadd ok236 184 rfl rfl ?_
        obtain ⟨c10, h10⟩ := h9
        refine r_iast ok236 185 rfl rfl rfl c10 ?_
        refine r_aload_n ok236 186 rfl rfl rfl ?_
        refine r_getF ok236 187 rfl rfl rfl rfl ?_
        refine r_iload_n ok236 188 rfl rfl rfl ?_
        refine r_iconst (v := 1) ok236 189 rfl rfl rfl ?_
        refine r_isub ok236 190 rfl rfl ?_
        refine r_dup2a ok236 191 rfl rfl rfl rfl ?_
        obtain ⟨c11, h11⟩ := h10
        refine r_iald ok236 192 rfl rfl rfl c11 ?_
        refine r_aload_n ok236 193 rfl rfl rfl ?_
        refine r_getF ok236 194 rfl rfl rfl rfl ?_
        refine r_iload_n ok236 195 rfl rfl rfl ?_
        obtain ⟨c12, h12⟩ := h11
        refine r_iald ok236 196 rfl rfl rfl c12 ?_
        refine r_iadd ok236 197 rfl rfl ?_
        obtain ⟨c13, h13⟩ := h12
        refine r_iast ok236 198 rfl rfl rfl c13 ?_
        refine r_aload_n ok236 199 rfl rfl rfl ?_
        refine r_getF ok236 200 rfl rfl rfl rfl ?_
        refine r_iload_n ok236 201 rfl rfl rfl ?_
        refine r_iconst (v := 1) ok236 202 rfl rfl rfl ?_
        refine r_isub ok236 203 rfl rfl ?_
        refine r_dup2a ok236 204 rfl rfl rfl rfl ?_
        obtain ⟨c14, h14⟩ := h13
        refine r_lald ok236 205 rfl rfl rfl c14 ?_
        refine r_aload_n ok236 206 rfl rfl rfl ?_
        refine r_getF ok236 207 rfl rfl rfl rfl ?_
        refine r_iload_n ok236 208 rfl rfl rfl ?_
        obtain ⟨c15, h15⟩ := h14
        refine r_lald ok236 209 rfl rfl rfl c15 ?_
        refine r_ladd ok236 210 rfl rfl ?_
        obtain ⟨c16, h16⟩ := h15
        refine r_last ok236 211 rfl rfl rfl c16 ?_
        refine r_goto ok236 212 rfl rfl ?_
        exact h16

set_option maxRecDepth 100000 in
set_option maxHeartbeats 4000000 in
theorem B236_168 {Θ : Th} {d : Nat} {σ : Mem} {Q : Po} {x1 : Int32} {x2 : Int32} {x3 : Int32} {x4 : Int32} {x5 : Int32} 
    (h : G Θ (d + 1) 236 58 [some (.ref 124), some (.int x1), some (.int x2), some (.int x3), some (.int x4), some (.int (x5 + 1))] [] σ Q) :
    G Θ (d + 1) 236 168 [some (.ref 124), some (.int x1), some (.int x2), some (.int x3), some (.int x4), some (.int x5)] [] σ Q := by
  refine r_iinc (v := x5 + 1) ok236 109 rfl rfl rfl rfl ?_
  refine r_goto ok236 110 rfl rfl ?_
  exact h

set_option maxRecDepth 100000 in
set_option maxHeartbeats 4000000 in
theorem B236_327 {Θ : Th} {d : Nat} {σ : Mem} {Q : Po} {x1 : Int32} {x2 : Int32} {x3 : Int32} {x4 : Int32} 
    (h : G Θ (d + 1) 236 5 [some (.ref 124), some (.int x1), some (.int x2), some (.int x3), some (.int (x4 + 1)), none] [] σ Q) :
    G Θ (d + 1) 236 327 [some (.ref 124), some (.int x1), some (.int x2), some (.int x3), some (.int x4), none] [] σ Q := by
  refine r_iinc (v := x4 + 1) ok236 213 rfl rfl rfl rfl ?_
  refine r_goto ok236 214 rfl rfl ?_
  exact h

theorem K236 {Θ : Th} {d : Nat} {σ : Mem} {Q : Po} {x1 : Int32} {x2 : Int32} (h : G Θ (d + 1) 236 0 [some (.ref 124), some (.int x1), some (.int x2), none, none, none] [] σ Q) : Cm Θ (d + 1) 236 [.ref 124, .int x1, .int x2] σ Q :=
  C_of_G okM236 (Nat.le_of_ble_eq_true rfl) rfl h

-- 237: LikeYearsModel.canRun(II)Z
set_option maxRecDepth 100000 in
set_option maxHeartbeats 4000000 in
theorem B237_0 {Θ : Th} {d : Nat} {σ : Mem} {Q : Po} {x1 : Int32} {x2 : Int32} 
    (h : Ci Θ d 201 [.ref 124, .int x1] σ (fun v1 σ1 => ((v1 = 0 → Q (some (.int 0)) σ1) ∧ (¬ v1 = 0 → ((x2 < 1 → Q (some (.int 0)) σ1) ∧ (¬ x2 < 1 → ((12 < x2 → Q (some (.int 0)) σ1) ∧ (¬ 12 < x2 → Q (some (.int 1)) σ1)))))))) :
    G Θ (d + 1) 237 0 [some (.ref 124), some (.int x1), some (.int x2)] [] σ Q := by
  refine r_aload_n ok237 0 rfl rfl rfl ?_
  refine r_iload_n ok237 1 rfl rfl rfl ?_
  refine r_invVi (as := [.int x1]) (S := []) ok237 2 rfl rfl mf201 rfl rfl (Nat.le_of_ble_eq_true rfl) rfl h (fun v1 σ1 h1 => ?_)
  refine r_if_eq ok237 3 rfl rfl (fun c2 => ?_) (fun c2 => ?_)
  · have h2 := h1.1 c2
    refine r_iconst (v := 0) ok237 12 rfl rfl rfl ?_
    exact r_zret ok237 13 rfl rfl rfl (Or.inl rfl) h2
  · have h2 := h1.2 c2
    refine r_iload_n ok237 4 rfl rfl rfl ?_
    refine r_iconst (v := 1) ok237 5 rfl rfl rfl ?_
    refine r_icmp_lt ok237 6 rfl rfl (fun c3 => ?_) (fun c3 => ?_)
    · have h3 := h2.1 c3
      refine r_iconst (v := 0) ok237 12 rfl rfl rfl ?_
      exact r_zret ok237 13 rfl rfl rfl (Or.inl rfl) h3
    · have h3 := h2.2 c3
      refine r_iload_n ok237 7 rfl rfl rfl ?_
      refine r_bipush (v := 12) ok237 8 rfl rfl rfl ?_
      refine r_icmp_gt ok237 9 rfl rfl (fun c4 => ?_) (fun c4 => ?_)
      · have h4 := h3.1 c4
        refine r_iconst (v := 0) ok237 12 rfl rfl rfl ?_
        exact r_zret ok237 13 rfl rfl rfl (Or.inl rfl) h4
      · have h4 := h3.2 c4
        refine r_iconst (v := 1) ok237 10 rfl rfl rfl ?_
        refine r_goto ok237 11 rfl rfl ?_
        exact r_zret ok237 13 rfl rfl rfl (Or.inr rfl) h4

theorem K237 {Θ : Th} {d : Nat} {σ : Mem} {Q : Po} {x1 : Int32} {x2 : Int32} (h : G Θ (d + 1) 237 0 [some (.ref 124), some (.int x1), some (.int x2)] [] σ Q) : Cm Θ (d + 1) 237 [.ref 124, .int x1, .int x2] σ Q :=
  C_of_G okM237 (Nat.le_of_ble_eq_true rfl) rfl h

-- 238: LikeYearsModel.seekRuns(II)I
set_option maxRecDepth 100000 in
set_option maxHeartbeats 4000000 in
theorem B238_0 {Θ : Th} {d : Nat} {σ : Mem} {Q : Po} {x1 : Int32} {x2 : Int32} 
    (h : G Θ (d + 1) 238 11 [some (.ref 124), some (.int x1), some (.int x2), some (.int (-1)), some (.long 0), none, some (.long 1), none, some (.int 0), none, none] [] σ Q) :
    G Θ (d + 1) 238 0 [some (.ref 124), some (.int x1), some (.int x2), none, none, none, none, none, none, none, none] [] σ Q := by
  refine r_iconst (v := (-1)) ok238 0 rfl rfl rfl ?_
  refine r_istore_n ok238 1 rfl rfl ?_
  refine r_lconst (v := 0) ok238 2 rfl rfl rfl ?_
  refine r_lstore ok238 3 rfl rfl ?_
  refine r_lconst (v := 1) ok238 4 rfl rfl rfl ?_
  refine r_lstore ok238 5 rfl rfl ?_
  refine r_iconst (v := 0) ok238 6 rfl rfl rfl ?_
  refine r_istore ok238 7 rfl rfl ?_
  exact h

set_option maxRecDepth 100000 in
set_option maxHeartbeats 4000000 in
theorem B238_11 {Θ : Th} {d : Nat} {σ : Mem} {Q : Po} {x1 : Int32} {x2 : Int32} {x3 : Int32} {x4 : Int64} {x6 : Int64} {x8 : Int32} 
    (h : (vp_in x1 6 ∧ ((((1 : Int32) <<< (((σ.1 139 x1.toNatClampNeg) + 1) &&& 31)) ≤ x8 → Cv Θ d 211 [.ref 124, .long x4, .long x6] σ (fun σ3 => Q (some (.int x3)) σ3)) ∧ (¬ ((1 : Int32) <<< (((σ.1 139 x1.toNatClampNeg) + 1) &&& 31)) ≤ x8 → Ci Θ d 230 [.int x8] σ (fun v4 σ4 => (((v4 + 1) ≤ x2 → Cv Θ d 236 [.ref 124, .int x1, .int x8] σ4 (fun σ6 => ((x3 < 0 → G Θ (d + 1) 238 69 [some (.ref 124), some (.int x1), some (.int x2), some (.int x3), some (.long x4), none, some (.long x6), none, some (.int x8), none, none] [] σ6 Q) ∧ (¬ x3 < 0 → ((0 ≤ (lg_cmp ((σ6.2.1 124 44) * x6) (x4 * (σ6.2.1 124 45))) → ((x3 < 0 → G Θ (d + 1) 238 114 [some (.ref 124), some (.int x1), some (.int x2), some (.int x3), some (.long x4), none, some (.long x6), none, some (.int x8), some (.int 0), none] [] σ6 Q) ∧ (¬ x3 < 0 → ((¬ (lg_cmp ((σ6.2.1 124 44) * x6) (x4 * (σ6.2.1 124 45))) = 0 → G Θ (d + 1) 238 114 [some (.ref 124), some (.int x1), some (.int x2), some (.int x3), some (.long x4), none, some (.long x6), none, some (.int x8), some (.int 0), none] [] σ6 Q) ∧ ((lg_cmp ((σ6.2.1 124 44) * x6) (x4 * (σ6.2.1 124 45))) = 0 → Ci Θ d 230 [.int x8] σ6 (fun v11 σ11 => Ci Θ d 230 [.int x3] σ11 (fun v12 σ12 => ((v12 ≤ v11 → G Θ (d + 1) 238 114 [some (.ref 124), some (.int x1), some (.int x2), some (.int x3), some (.long x4), none, some (.long x6), none, some (.int x8), some (.int 0), none] [] σ12 Q) ∧ (¬ v12 ≤ v11 → G Θ (d + 1) 238 130 [some (.ref 124), some (.int x1), some (.int x2), none, none, none, none, none, some (.int x8), none, none] [] σ12 Q))))))))) ∧ (¬ 0 ≤ (lg_cmp ((σ6.2.1 124 44) * x6) (x4 * (σ6.2.1 124 45))) → G Θ (d + 1) 238 69 [some (.ref 124), some (.int x1), some (.int x2), some (.int x3), some (.long x4), none, some (.long x6), none, some (.int x8), none, none] [] σ6 Q)))))) ∧ (¬ (v4 + 1) ≤ x2 → G Θ (d + 1) 238 145 [some (.ref 124), some (.int x1), some (.int x2), some (.int x3), some (.long x4), none, some (.long x6), none, some (.int x8), none, none] [] σ4 Q))))))) :
    G Θ (d + 1) 238 11 [some (.ref 124), some (.int x1), some (.int x2), some (.int x3), some (.long x4), none, some (.long x6), none, some (.int x8), none, none] [] σ Q := by
  refine r_iload ok238 8 rfl rfl rfl ?_
  refine r_iconst (v := 1) ok238 9 rfl rfl rfl ?_
  refine r_aload_n ok238 10 rfl rfl rfl ?_
  refine r_getF ok238 11 rfl rfl rfl rfl ?_
  refine r_iload_n ok238 12 rfl rfl rfl ?_
  obtain ⟨c1, h1⟩ := h
  refine r_iald ok238 13 rfl rfl rfl c1 ?_
  refine r_iconst (v := 1) ok238 14 rfl rfl rfl ?_
  refine r_iadd ok238 15 rfl rfl ?_
  refine r_ishl ok238 16 rfl rfl ?_
  refine r_icmp_ge ok238 17 rfl rfl (fun c2 => ?_) (fun c2 => ?_)
  · have h2 := h1.1 c2
    refine r_aload_n ok238 81 rfl rfl rfl ?_
    refine r_lload ok238 82 rfl rfl rfl ?_
    refine r_lload ok238 83 rfl rfl rfl ?_
    refine r_invVv (as := [.long x4, .long x6]) (S := []) ok238 84 rfl rfl mf211 rfl rfl (Nat.le_of_ble_eq_true rfl) rfl h2 (fun σ3 h3 => ?_)
    refine r_iload_n ok238 85 rfl rfl rfl ?_
    exact r_iret ok238 86 rfl rfl rfl h3
  · have h2 := h1.2 c2
    refine r_iload ok238 18 rfl rfl rfl ?_
    refine r_invSi (as := [.int x8]) (S := []) ok238 19 rfl rfl mf230 rfl (Nat.le_of_ble_eq_true rfl) rfl h2 (fun v4 σ4 h4 => ?_)
    refine r_iconst (v := 1) ok238 20 rfl rfl rfl ?_
    refine r_iadd ok238 21 rfl rfl ?_
    refine r_iload_n ok238 22 rfl rfl rfl ?_
    refine r_icmp_le ok238 23 rfl rfl (fun c5 => ?_) (fun c5 => ?_)
    · have h5 := h4.1 c5
      refine r_aload_n ok238 25 rfl rfl rfl ?_
      refine r_iload_n ok238 26 rfl rfl rfl ?_
      refine r_iload ok238 27 rfl rfl rfl ?_
      refine r_invVv (as := [.int x1, .int x8]) (S := []) ok238 28 rfl rfl mf236 rfl rfl (Nat.le_of_ble_eq_true rfl) rfl h5 (fun σ6 h6 => ?_)
      refine r_iload_n ok238 29 rfl rfl rfl ?_
      refine r_if_lt ok238 30 rfl rfl (fun c7 => ?_) (fun c7 => ?_)
      · have h7 := h6.1 c7
        exact h7
      · have h7 := h6.2 c7
        refine r_aload_n ok238 31 rfl rfl rfl ?_
        refine r_getL ok238 32 rfl rfl rfl rfl ?_
        refine r_lload ok238 33 rfl rfl rfl ?_
        refine r_lmul ok238 34 rfl rfl ?_
        refine r_lload ok238 35 rfl rfl rfl ?_
        refine r_aload_n ok238 36 rfl rfl rfl ?_
        refine r_getL ok238 37 rfl rfl rfl rfl ?_
        refine r_lmul ok238 38 rfl rfl ?_
        refine r_lcmp ok238 39 rfl rfl ?_
        refine r_if_ge ok238 40 rfl rfl (fun c8 => ?_) (fun c8 => ?_)
        · have h8 := h7.1 c8
          refine r_iconst (v := 0) ok238 43 rfl rfl rfl ?_
          refine r_istore ok238 44 rfl rfl ?_
          refine r_iload_n ok238 45 rfl rfl rfl ?_
          refine r_if_lt ok238 46 rfl rfl (fun c9 => ?_) (fun c9 => ?_)
          · have h9 := h8.1 c9
            exact h9
          · have h9 := h8.2 c9
            refine r_aload_n ok238 47 rfl rfl rfl ?_
            refine r_getL ok238 48 rfl rfl rfl rfl ?_
            refine r_lload ok238 49 rfl rfl rfl ?_
            refine r_lmul ok238 50 rfl rfl ?_
            refine r_lload ok238 51 rfl rfl rfl ?_
            refine r_aload_n ok238 52 rfl rfl rfl ?_
            refine r_getL ok238 53 rfl rfl rfl rfl ?_
            refine r_lmul ok238 54 rfl rfl ?_
            refine r_lcmp ok238 55 rfl rfl ?_
            refine r_if_ne ok238 56 rfl rfl (fun c10 => ?_) (fun c10 => ?_)
            · have h10 := h9.1 c10
              exact h10
            · have h10 := h9.2 c10
              refine r_iload ok238 57 rfl rfl rfl ?_
              refine r_invSi (as := [.int x8]) (S := []) ok238 58 rfl rfl mf230 rfl (Nat.le_of_ble_eq_true rfl) rfl h10 (fun v11 σ11 h11 => ?_)
              refine r_iload_n ok238 59 rfl rfl rfl ?_
              refine r_invSi (as := [.int x3]) (S := [.int v11]) ok238 60 rfl rfl mf230 rfl (Nat.le_of_ble_eq_true rfl) rfl h11 (fun v12 σ12 h12 => ?_)
              refine r_icmp_ge ok238 61 rfl rfl (fun c13 => ?_) (fun c13 => ?_)
              · have h13 := h12.1 c13
                exact h13
              · have h13 := h12.2 c13
                refine r_iconst (v := 1) ok238 62 rfl rfl rfl ?_
                refine r_goto ok238 63 rfl rfl ?_
                refine r_istore ok238 65 rfl rfl ?_
                refine r_iload ok238 66 rfl rfl rfl ?_
                refine r_if_ne ok238 67 rfl rfl (fun c14 => absurd c14 (by decide)) (fun _ => ?_)
                refine r_iload ok238 68 rfl rfl rfl ?_
                refine r_if_ne ok238 69 rfl rfl (fun _ => ?_) (fun c15 => absurd c15 (by decide))
                exact G.weak (L' := [some (.ref 124), some (.int x1), some (.int x2), none, none, none, none, none, some (.int x8), none, none]) ⟨rfl, ⟨rfl, ⟨rfl, ⟨rfl, trivial⟩⟩⟩⟩ h13
        · have h8 := h7.2 c8
          exact h8
    · have h5 := h4.2 c5
      refine r_goto ok238 24 rfl rfl ?_
      exact h5

set_option maxRecDepth 100000 in
set_option maxHeartbeats 4000000 in
theorem B238_69 {Θ : Th} {d : Nat} {σ : Mem} {Q : Po} {x1 : Int32} {x2 : Int32} {x3 : Int32} {x4 : Int64} {x6 : Int64} {x8 : Int32} 
    (h : ((x3 < 0 → G Θ (d + 1) 238 114 [some (.ref 124), some (.int x1), some (.int x2), some (.int x3), some (.long x4), none, some (.long x6), none, some (.int x8), some (.int 1), none] [] σ Q) ∧ (¬ x3 < 0 → ((¬ (lg_cmp ((σ.2.1 124 44) * x6) (x4 * (σ.2.1 124 45))) = 0 → G Θ (d + 1) 238 114 [some (.ref 124), some (.int x1), some (.int x2), some (.int x3), some (.long x4), none, some (.long x6), none, some (.int x8), some (.int 1), none] [] σ Q) ∧ ((lg_cmp ((σ.2.1 124 44) * x6) (x4 * (σ.2.1 124 45))) = 0 → Ci Θ d 230 [.int x8] σ (fun v3 σ3 => Ci Θ d 230 [.int x3] σ3 (fun v4 σ4 => ((v4 ≤ v3 → G Θ (d + 1) 238 114 [some (.ref 124), some (.int x1), some (.int x2), some (.int x3), some (.long x4), none, some (.long x6), none, some (.int x8), some (.int 1), none] [] σ4 Q) ∧ (¬ v4 ≤ v3 → G Θ (d + 1) 238 130 [some (.ref 124), some (.int x1), some (.int x2), none, none, none, none, none, some (.int x8), none, none] [] σ4 Q))))))))) :
    G Θ (d + 1) 238 69 [some (.ref 124), some (.int x1), some (.int x2), some (.int x3), some (.long x4), none, some (.long x6), none, some (.int x8), none, none] [] σ Q := by
  refine r_iconst (v := 1) ok238 41 rfl rfl rfl ?_
  refine r_goto ok238 42 rfl rfl ?_
  refine r_istore ok238 44 rfl rfl ?_
  refine r_iload_n ok238 45 rfl rfl rfl ?_
  refine r_if_lt ok238 46 rfl rfl (fun c1 => ?_) (fun c1 => ?_)
  · have h1 := h.1 c1
    exact h1
  · have h1 := h.2 c1
    refine r_aload_n ok238 47 rfl rfl rfl ?_
    refine r_getL ok238 48 rfl rfl rfl rfl ?_
    refine r_lload ok238 49 rfl rfl rfl ?_
    refine r_lmul ok238 50 rfl rfl ?_
    refine r_lload ok238 51 rfl rfl rfl ?_
    refine r_aload_n ok238 52 rfl rfl rfl ?_
    refine r_getL ok238 53 rfl rfl rfl rfl ?_
    refine r_lmul ok238 54 rfl rfl ?_
    refine r_lcmp ok238 55 rfl rfl ?_
    refine r_if_ne ok238 56 rfl rfl (fun c2 => ?_) (fun c2 => ?_)
    · have h2 := h1.1 c2
      exact h2
    · have h2 := h1.2 c2
      refine r_iload ok238 57 rfl rfl rfl ?_
      refine r_invSi (as := [.int x8]) (S := []) ok238 58 rfl rfl mf230 rfl (Nat.le_of_ble_eq_true rfl) rfl h2 (fun v3 σ3 h3 => ?_)
      refine r_iload_n ok238 59 rfl rfl rfl ?_
      refine r_invSi (as := [.int x3]) (S := [.int v3]) ok238 60 rfl rfl mf230 rfl (Nat.le_of_ble_eq_true rfl) rfl h3 (fun v4 σ4 h4 => ?_)
      refine r_icmp_ge ok238 61 rfl rfl (fun c5 => ?_) (fun c5 => ?_)
      · have h5 := h4.1 c5
        exact h5
      · have h5 := h4.2 c5
        refine r_iconst (v := 1) ok238 62 rfl rfl rfl ?_
        refine r_goto ok238 63 rfl rfl ?_
        refine r_istore ok238 65 rfl rfl ?_
        refine r_iload ok238 66 rfl rfl rfl ?_
        refine r_if_ne ok238 67 rfl rfl (fun _ => ?_) (fun c6 => absurd c6 (by decide))
        exact G.weak (L' := [some (.ref 124), some (.int x1), some (.int x2), none, none, none, none, none, some (.int x8), none, none]) ⟨rfl, ⟨rfl, ⟨rfl, ⟨rfl, trivial⟩⟩⟩⟩ h5

set_option maxRecDepth 100000 in
set_option maxHeartbeats 4000000 in
theorem B238_114 {Θ : Th} {d : Nat} {σ : Mem} {Q : Po} {x1 : Int32} {x2 : Int32} {x3 : Int32} {x4 : Int64} {x6 : Int64} {x8 : Int32} {x9 : Int32} 
    (h : ((¬ x9 = 0 → G Θ (d + 1) 238 130 [some (.ref 124), some (.int x1), some (.int x2), none, none, none, none, none, some (.int x8), none, none] [] σ Q) ∧ (x9 = 0 → G Θ (d + 1) 238 145 [some (.ref 124), some (.int x1), some (.int x2), some (.int x3), some (.long x4), none, some (.long x6), none, some (.int x8), none, none] [] σ Q))) :
    G Θ (d + 1) 238 114 [some (.ref 124), some (.int x1), some (.int x2), some (.int x3), some (.long x4), none, some (.long x6), none, some (.int x8), some (.int x9), none] [] σ Q := by
  refine r_iconst (v := 0) ok238 64 rfl rfl rfl ?_
  refine r_istore ok238 65 rfl rfl ?_
  refine r_iload ok238 66 rfl rfl rfl ?_
  refine r_if_ne ok238 67 rfl rfl (fun c1 => ?_) (fun c1 => ?_)
  · have h1 := h.1 c1
    exact G.weak (L' := [some (.ref 124), some (.int x1), some (.int x2), none, none, none, none, none, some (.int x8), none, none]) ⟨rfl, ⟨rfl, ⟨rfl, ⟨rfl, trivial⟩⟩⟩⟩ h1
  · have h1 := h.2 c1
    refine r_iload ok238 68 rfl rfl rfl ?_
    refine r_if_ne ok238 69 rfl rfl (fun c2 => absurd c2 (by decide)) (fun _ => ?_)
    refine r_goto ok238 70 rfl rfl ?_
    exact G.weak (L' := [some (.ref 124), some (.int x1), some (.int x2), some (.int x3), some (.long x4), none, some (.long x6), none, some (.int x8), none, none]) ⟨rfl, ⟨rfl, ⟨rfl, ⟨rfl, ⟨rfl, ⟨rfl, ⟨rfl, trivial⟩⟩⟩⟩⟩⟩⟩ h1

set_option maxRecDepth 100000 in
set_option maxHeartbeats 4000000 in
theorem B238_130 {Θ : Th} {d : Nat} {σ : Mem} {Q : Po} {x1 : Int32} {x2 : Int32} {x8 : Int32} 
    (h : G Θ (d + 1) 238 145 [some (.ref 124), some (.int x1), some (.int x2), some (.int x8), some (.long (σ.2.1 124 44)), none, some (.long (σ.2.1 124 45)), none, some (.int x8), none, none] [] σ Q) :
    G Θ (d + 1) 238 130 [some (.ref 124), some (.int x1), some (.int x2), none, none, none, none, none, some (.int x8), none, none] [] σ Q := by
  refine r_iload ok238 71 rfl rfl rfl ?_
  refine r_istore_n ok238 72 rfl rfl ?_
  refine r_aload_n ok238 73 rfl rfl rfl ?_
  refine r_getL ok238 74 rfl rfl rfl rfl ?_
  refine r_lstore ok238 75 rfl rfl ?_
  refine r_aload_n ok238 76 rfl rfl rfl ?_
  refine r_getL ok238 77 rfl rfl rfl rfl ?_
  refine r_lstore ok238 78 rfl rfl ?_
  exact h

set_option maxRecDepth 100000 in
set_option maxHeartbeats 4000000 in
theorem B238_145 {Θ : Th} {d : Nat} {σ : Mem} {Q : Po} {x1 : Int32} {x2 : Int32} {x3 : Int32} {x4 : Int64} {x6 : Int64} {x8 : Int32} 
    (h : G Θ (d + 1) 238 11 [some (.ref 124), some (.int x1), some (.int x2), some (.int x3), some (.long x4), none, some (.long x6), none, some (.int (x8 + 2)), none, none] [] σ Q) :
    G Θ (d + 1) 238 145 [some (.ref 124), some (.int x1), some (.int x2), some (.int x3), some (.long x4), none, some (.long x6), none, some (.int x8), none, none] [] σ Q := by
  refine r_iinc (v := x8 + 2) ok238 79 rfl rfl rfl rfl ?_
  refine r_goto ok238 80 rfl rfl ?_
  exact h

theorem K238 {Θ : Th} {d : Nat} {σ : Mem} {Q : Po} {x1 : Int32} {x2 : Int32} (h : G Θ (d + 1) 238 0 [some (.ref 124), some (.int x1), some (.int x2), none, none, none, none, none, none, none, none] [] σ Q) : Cm Θ (d + 1) 238 [.ref 124, .int x1, .int x2] σ Q :=
  C_of_G okM238 (Nat.le_of_ble_eq_true rfl) rfl h

-- 239: LikeYearsModel.runs(III)J
set_option maxRecDepth 100000 in
set_option maxHeartbeats 4000000 in
theorem B239_0 {Θ : Th} {d : Nat} {σ : Mem} {Q : Po} {x1 : Int32} {x2 : Int32} {x3 : Int32} 
    (h : Ci Θ d 237 [.ref 124, .int x1, .int x2] σ (fun v1 σ1 => ((v1 = 0 → Q (some (.long (-1))) σ1) ∧ (¬ v1 = 0 → Ci Θ d 213 [.int x3] σ1 (fun v3 σ3 => ((¬ v3 = 0 → Ci Θ d 238 [.ref 124, .int x1, .int x2] σ3 (fun v5 σ5 => Cl Θ d 214 [.ref 124, .int x3] σ5 (fun v6 σ6 => Q (some (.long v6)) σ6))) ∧ (v3 = 0 → Q (some (.long (-1))) σ3))))))) :
    G Θ (d + 1) 239 0 [some (.ref 124), some (.int x1), some (.int x2), some (.int x3), none] [] σ Q := by
  refine r_aload_n ok239 0 rfl rfl rfl ?_
  refine r_iload_n ok239 1 rfl rfl rfl ?_
  refine r_iload_n ok239 2 rfl rfl rfl ?_
  refine r_invVi (as := [.int x1, .int x2]) (S := []) ok239 3 rfl rfl mf237 rfl rfl (Nat.le_of_ble_eq_true rfl) rfl h (fun v1 σ1 h1 => ?_)
  refine r_if_eq ok239 4 rfl rfl (fun c2 => ?_) (fun c2 => ?_)
  · have h2 := h1.1 c2
    refine r_ldc2_w (v := (-1)) ok239 8 rfl rfl rfl ?_
    exact r_lret ok239 9 rfl rfl rfl h2
  · have h2 := h1.2 c2
    refine r_iload_n ok239 5 rfl rfl rfl ?_
    refine r_invSi (as := [.int x3]) (S := []) ok239 6 rfl rfl mf213 rfl (Nat.le_of_ble_eq_true rfl) rfl h2 (fun v3 σ3 h3 => ?_)
    refine r_if_ne ok239 7 rfl rfl (fun c4 => ?_) (fun c4 => ?_)
    · have h4 := h3.1 c4
      refine r_aload_n ok239 10 rfl rfl rfl ?_
      refine r_iload_n ok239 11 rfl rfl rfl ?_
      refine r_iload_n ok239 12 rfl rfl rfl ?_
      refine r_invVi (as := [.int x1, .int x2]) (S := []) ok239 13 rfl rfl mf238 rfl rfl (Nat.le_of_ble_eq_true rfl) rfl h4 (fun v5 σ5 h5 => ?_)
      refine r_istore ok239 14 rfl rfl ?_
      refine r_aload_n ok239 15 rfl rfl rfl ?_
      refine r_iload_n ok239 16 rfl rfl rfl ?_
      refine r_invVl (as := [.int x3]) (S := []) ok239 17 rfl rfl mf214 rfl rfl (Nat.le_of_ble_eq_true rfl) rfl h5 (fun v6 σ6 h6 => ?_)
      exact r_lret ok239 18 rfl rfl rfl h6
    · have h4 := h3.2 c4
      refine r_ldc2_w (v := (-1)) ok239 8 rfl rfl rfl ?_
      exact r_lret ok239 9 rfl rfl rfl h4

theorem K239 {Θ : Th} {d : Nat} {σ : Mem} {Q : Po} {x1 : Int32} {x2 : Int32} {x3 : Int32} (h : G Θ (d + 1) 239 0 [some (.ref 124), some (.int x1), some (.int x2), some (.int x3), none] [] σ Q) : Cm Θ (d + 1) 239 [.ref 124, .int x1, .int x2, .int x3] σ Q :=
  C_of_G okM239 (Nat.le_of_ble_eq_true rfl) rfl h

-- 240: LikeYearsModel.begins(II)I
set_option maxRecDepth 100000 in
set_option maxHeartbeats 4000000 in
theorem B240_0 {Θ : Th} {d : Nat} {σ : Mem} {Q : Po} {x1 : Int32} {x2 : Int32} 
    (h : Ci Θ d 237 [.ref 124, .int x1, .int x2] σ (fun v1 σ1 => ((v1 = 0 → Q (some (.int (-1))) σ1) ∧ (¬ v1 = 0 → Ci Θ d 238 [.ref 124, .int x1, .int x2] σ1 (fun v3 σ3 => Q (some (.int v3)) σ3))))) :
    G Θ (d + 1) 240 0 [some (.ref 124), some (.int x1), some (.int x2)] [] σ Q := by
  refine r_aload_n ok240 0 rfl rfl rfl ?_
  refine r_iload_n ok240 1 rfl rfl rfl ?_
  refine r_iload_n ok240 2 rfl rfl rfl ?_
  refine r_invVi (as := [.int x1, .int x2]) (S := []) ok240 3 rfl rfl mf237 rfl rfl (Nat.le_of_ble_eq_true rfl) rfl h (fun v1 σ1 h1 => ?_)
  refine r_if_eq ok240 4 rfl rfl (fun c2 => ?_) (fun c2 => ?_)
  · have h2 := h1.1 c2
    refine r_iconst (v := (-1)) ok240 10 rfl rfl rfl ?_
    exact r_iret ok240 11 rfl rfl rfl h2
  · have h2 := h1.2 c2
    refine r_aload_n ok240 5 rfl rfl rfl ?_
    refine r_iload_n ok240 6 rfl rfl rfl ?_
    refine r_iload_n ok240 7 rfl rfl rfl ?_
    refine r_invVi (as := [.int x1, .int x2]) (S := []) ok240 8 rfl rfl mf238 rfl rfl (Nat.le_of_ble_eq_true rfl) rfl h2 (fun v3 σ3 h3 => ?_)
    refine r_goto ok240 9 rfl rfl ?_
    exact r_iret ok240 11 rfl rfl rfl h3

theorem K240 {Θ : Th} {d : Nat} {σ : Mem} {Q : Po} {x1 : Int32} {x2 : Int32} (h : G Θ (d + 1) 240 0 [some (.ref 124), some (.int x1), some (.int x2)] [] σ Q) : Cm Θ (d + 1) 240 [.ref 124, .int x1, .int x2] σ Q :=
  C_of_G okM240 (Nat.le_of_ble_eq_true rfl) rfl h

-- 241: LikeYearsModel.isJudge(I)Z
set_option maxRecDepth 100000 in
set_option maxHeartbeats 4000000 in
theorem B241_0 {Θ : Th} {d : Nat} {σ : Mem} {Q : Po} {x0 : Int32} 
    (h : ((x0 < 0 → Q (some (.int 0)) σ) ∧ (¬ x0 < 0 → ((10 ≤ x0 → Q (some (.int 0)) σ) ∧ (¬ 10 ≤ x0 → Q (some (.int 1)) σ))))) :
    G Θ d 241 0 [some (.int x0)] [] σ Q := by
  refine r_iload_n ok241 0 rfl rfl rfl ?_
  refine r_if_lt ok241 1 rfl rfl (fun c1 => ?_) (fun c1 => ?_)
  · have h1 := h.1 c1
    refine r_iconst (v := 0) ok241 7 rfl rfl rfl ?_
    exact r_zret ok241 8 rfl rfl rfl (Or.inl rfl) h1
  · have h1 := h.2 c1
    refine r_iload_n ok241 2 rfl rfl rfl ?_
    refine r_bipush (v := 10) ok241 3 rfl rfl rfl ?_
    refine r_icmp_ge ok241 4 rfl rfl (fun c2 => ?_) (fun c2 => ?_)
    · have h2 := h1.1 c2
      refine r_iconst (v := 0) ok241 7 rfl rfl rfl ?_
      exact r_zret ok241 8 rfl rfl rfl (Or.inl rfl) h2
    · have h2 := h1.2 c2
      refine r_iconst (v := 1) ok241 5 rfl rfl rfl ?_
      refine r_goto ok241 6 rfl rfl ?_
      exact r_zret ok241 8 rfl rfl rfl (Or.inr rfl) h2

theorem K241 {Θ : Th} {d : Nat} {σ : Mem} {Q : Po} {x0 : Int32} (h : G Θ d 241 0 [some (.int x0)] [] σ Q) : Cm Θ d 241 [.int x0] σ Q :=
  C_of_G okM241 (Nat.le_of_ble_eq_true rfl) rfl h

-- 242: LikeYearsModel.offOf(I)I
set_option maxRecDepth 100000 in
set_option maxHeartbeats 4000000 in
theorem B242_0 {Θ : Th} {d : Nat} {σ : Mem} {Q : Po} {x1 : Int32} 
    (h : G Θ (d + 1) 242 4 [some (.ref 124), some (.int x1), some (.int 0), some (.int 0)] [] σ Q) :
    G Θ (d + 1) 242 0 [some (.ref 124), some (.int x1), none, none] [] σ Q := by
  refine r_iconst (v := 0) ok242 0 rfl rfl rfl ?_
  refine r_istore_n ok242 1 rfl rfl ?_
  refine r_iconst (v := 0) ok242 2 rfl rfl rfl ?_
  refine r_istore_n ok242 3 rfl rfl ?_
  exact h

set_option maxRecDepth 100000 in
set_option maxHeartbeats 4000000 in
theorem B242_4 {Θ : Th} {d : Nat} {σ : Mem} {Q : Po} {x1 : Int32} {x2 : Int32} {x3 : Int32} 
    (h : (((σ.1 124 38) ≤ x3 → Q (some (.int x2)) σ) ∧ (¬ (σ.1 124 38) ≤ x3 → (vp_in x3 16 ∧ ((¬ (σ.1 141 x3.toNatClampNeg) = x1 → G Θ (d + 1) 242 4 [some (.ref 124), some (.int x1), some (.int (x2 + 0)), some (.int (x3 + 1))] [] σ Q) ∧ ((σ.1 141 x3.toNatClampNeg) = x1 → Ci Θ d 224 [.ref 124, .int x3] σ (fun v4 σ4 => G Θ (d + 1) 242 4 [some (.ref 124), some (.int x1), some (.int (x2 + v4)), some (.int (x3 + 1))] [] σ4 Q))))))) :
    G Θ (d + 1) 242 4 [some (.ref 124), some (.int x1), some (.int x2), some (.int x3)] [] σ Q := by
  refine r_iload_n ok242 4 rfl rfl rfl ?_
  refine r_aload_n ok242 5 rfl rfl rfl ?_
  refine r_getI ok242 6 rfl rfl rfl rfl ?_
  refine r_icmp_ge ok242 7 rfl rfl (fun c1 => ?_) (fun c1 => ?_)
  · have h1 := h.1 c1
    refine r_iload_n ok242 24 rfl rfl rfl ?_
    exact r_iret ok242 25 rfl rfl rfl h1
  · have h1 := h.2 c1
    refine r_iload_n ok242 8 rfl rfl rfl ?_
    refine r_aload_n ok242 9 rfl rfl rfl ?_
    refine r_getF ok242 10 rfl rfl rfl rfl ?_
    refine r_iload_n ok242 11 rfl rfl rfl ?_
    obtain ⟨c2, h2⟩ := h1
    refine r_iald ok242 12 rfl rfl rfl c2 ?_
    refine r_iload_n ok242 13 rfl rfl rfl ?_
    refine r_icmp_ne ok242 14 rfl rfl (fun c3 => ?_) (fun c3 => ?_)
    · have h3 := h2.1 c3
      refine r_iconst (v := 0) ok242 19 rfl rfl rfl ?_
      refine r_iadd ok242 20 rfl rfl ?_
      refine r_istore_n ok242 21 rfl rfl ?_
      refine r_iinc (v := x3 + 1) ok242 22 rfl rfl rfl rfl ?_
      refine r_goto ok242 23 rfl rfl ?_
      exact h3
    · have h3 := h2.2 c3
      refine r_aload_n ok242 15 rfl rfl rfl ?_
      refine r_iload_n ok242 16 rfl rfl rfl ?_
      refine r_invVi (as := [.int x3]) (S := [.int x2]) ok242 17 rfl rfl mf224 rfl rfl (Nat.le_of_ble_eq_true rfl) rfl h3 (fun v4 σ4 h4 => ?_)
      refine r_goto ok242 18 rfl rfl ?_
      refine r_iadd ok242 20 rfl rfl ?_
      refine r_istore_n ok242 21 rfl rfl ?_
      refine r_iinc (v := x3 + 1) ok242 22 rfl rfl rfl rfl ?_
      refine r_goto ok242 23 rfl rfl ?_
      exact h4

theorem K242 {Θ : Th} {d : Nat} {σ : Mem} {Q : Po} {x1 : Int32} (h : G Θ (d + 1) 242 0 [some (.ref 124), some (.int x1), none, none] [] σ Q) : Cm Θ (d + 1) 242 [.ref 124, .int x1] σ Q :=
  C_of_G okM242 (Nat.le_of_ble_eq_true rfl) rfl h

-- 243: LikeYearsModel.off(I)I
set_option maxRecDepth 100000 in
set_option maxHeartbeats 4000000 in
theorem B243_0 {Θ : Th} {d : Nat} {σ : Mem} {Q : Po} {x1 : Int32} 
    (h : Ci Θ d 241 [.int x1] σ (fun v1 σ1 => ((¬ v1 = 0 → Cv Θ d 198 [.ref 124] σ1 (fun σ3 => Cv Θ d 222 [.ref 124] σ3 (fun σ4 => Ci Θ d 242 [.ref 124, .int x1] σ4 (fun v5 σ5 => Q (some (.int v5)) σ5)))) ∧ (v1 = 0 → Q (some (.int (-1))) σ1)))) :
    G Θ (d + 1) 243 0 [some (.ref 124), some (.int x1)] [] σ Q := by
  refine r_iload_n ok243 0 rfl rfl rfl ?_
  refine r_invSi (as := [.int x1]) (S := []) ok243 1 rfl rfl mf241 rfl (Nat.le_of_ble_eq_true rfl) rfl h (fun v1 σ1 h1 => ?_)
  refine r_if_ne ok243 2 rfl rfl (fun c2 => ?_) (fun c2 => ?_)
  · have h2 := h1.1 c2
    refine r_aload_n ok243 5 rfl rfl rfl ?_
    refine r_invVv (as := []) (S := []) ok243 6 rfl rfl mf198 rfl rfl (Nat.le_of_ble_eq_true rfl) rfl h2 (fun σ3 h3 => ?_)
    refine r_aload_n ok243 7 rfl rfl rfl ?_
    refine r_invVv (as := []) (S := []) ok243 8 rfl rfl mf222 rfl rfl (Nat.le_of_ble_eq_true rfl) rfl h3 (fun σ4 h4 => ?_)
    refine r_aload_n ok243 9 rfl rfl rfl ?_
    refine r_iload_n ok243 10 rfl rfl rfl ?_
    refine r_invVi (as := [.int x1]) (S := []) ok243 11 rfl rfl mf242 rfl rfl (Nat.le_of_ble_eq_true rfl) rfl h4 (fun v5 σ5 h5 => ?_)
    exact r_iret ok243 12 rfl rfl rfl h5
  · have h2 := h1.2 c2
    refine r_iconst (v := (-1)) ok243 3 rfl rfl rfl ?_
    exact r_iret ok243 4 rfl rfl rfl h2

theorem K243 {Θ : Th} {d : Nat} {σ : Mem} {Q : Po} {x1 : Int32} (h : G Θ (d + 1) 243 0 [some (.ref 124), some (.int x1)] [] σ Q) : Cm Θ (d + 1) 243 [.ref 124, .int x1] σ Q :=
  C_of_G okM243 (Nat.le_of_ble_eq_true rfl) rfl h

-- 244: LikeYearsModel.luck(II)J
set_option maxRecDepth 100000 in
set_option maxHeartbeats 4000000 in
theorem B244_0 {Θ : Th} {d : Nat} {σ : Mem} {Q : Po} {x1 : Int32} {x2 : Int32} 
    (h : G Θ (d + 1) 244 5 [some (.ref 124), some (.int x1), some (.int x2), some (.int 0), some (.int 0), none, none, none, none, none, none, none] [] σ Q) :
    G Θ (d + 1) 244 0 [some (.ref 124), some (.int x1), some (.int x2), none, none, none, none, none, none, none, none, none] [] σ Q := by
  refine r_iconst (v := 0) ok244 0 rfl rfl rfl ?_
  refine r_istore_n ok244 1 rfl rfl ?_
  refine r_iconst (v := 0) ok244 2 rfl rfl rfl ?_
  refine r_istore ok244 3 rfl rfl ?_
  exact h

set_option maxRecDepth 100000 in
set_option maxHeartbeats 4000000 in
theorem B244_5 {Θ : Th} {d : Nat} {σ : Mem} {Q : Po} {x1 : Int32} {x2 : Int32} {x3 : Int32} {x4 : Int32} 
    (h : (((σ.1 124 38) ≤ x4 → Ci Θ d 241 [.int x1] σ (fun v2 σ2 => ((v2 = 0 → Q (some (.long (-1))) σ2) ∧ (¬ v2 = 0 → ((x3 = 0 → Q (some (.long (-1))) σ2) ∧ (¬ x3 = 0 → Ci Θ d 213 [.int x2] σ2 (fun v5 σ5 => ((¬ v5 = 0 → Cv Θ d 198 [.ref 124] σ5 (fun σ7 => Cv Θ d 222 [.ref 124] σ7 (fun σ8 => Ci Θ d 242 [.ref 124, .int x1] σ8 (fun v9 σ9 => G Θ (d + 1) 244 85 [some (.ref 124), none, some (.int x2), some (.int x3), some (.int v9), some (.long 0), none, some (.long 0), none, some (.int 1), none, none] [] σ9 Q)))) ∧ (v5 = 0 → Q (some (.long (-1))) σ5))))))))) ∧ (¬ (σ.1 124 38) ≤ x4 → (vp_in x4 16 ∧ ((¬ (σ.1 141 x4.toNatClampNeg) = x1 → G Θ (d + 1) 244 5 [some (.ref 124), some (.int x1), some (.int x2), some (.int (x3 + 0)), some (.int (x4 + 1)), none, none, none, none, none, none, none] [] σ Q) ∧ ((σ.1 141 x4.toNatClampNeg) = x1 → G Θ (d + 1) 244 5 [some (.ref 124), some (.int x1), some (.int x2), some (.int (x3 + 1)), some (.int (x4 + 1)), none, none, none, none, none, none, none] [] σ Q)))))) :
    G Θ (d + 1) 244 5 [some (.ref 124), some (.int x1), some (.int x2), some (.int x3), some (.int x4), none, none, none, none, none, none, none] [] σ Q := by
  refine r_iload ok244 4 rfl rfl rfl ?_
  refine r_aload_n ok244 5 rfl rfl rfl ?_
  refine r_getI ok244 6 rfl rfl rfl rfl ?_
  refine r_icmp_ge ok244 7 rfl rfl (fun c1 => ?_) (fun c1 => ?_)
  · have h1 := h.1 c1
    refine r_iload_n ok244 22 rfl rfl rfl ?_
    refine r_invSi (as := [.int x1]) (S := []) ok244 23 rfl rfl mf241 rfl (Nat.le_of_ble_eq_true rfl) rfl h1 (fun v2 σ2 h2 => ?_)
    refine r_if_eq ok244 24 rfl rfl (fun c3 => ?_) (fun c3 => ?_)
    · have h3 := h2.1 c3
      refine r_ldc2_w (v := (-1)) ok244 30 rfl rfl rfl ?_
      exact r_lret ok244 31 rfl rfl rfl h3
    · have h3 := h2.2 c3
      refine r_iload_n ok244 25 rfl rfl rfl ?_
      refine r_if_eq ok244 26 rfl rfl (fun c4 => ?_) (fun c4 => ?_)
      · have h4 := h3.1 c4
        refine r_ldc2_w (v := (-1)) ok244 30 rfl rfl rfl ?_
        exact r_lret ok244 31 rfl rfl rfl h4
      · have h4 := h3.2 c4
        refine r_iload_n ok244 27 rfl rfl rfl ?_
        refine r_invSi (as := [.int x2]) (S := []) ok244 28 rfl rfl mf213 rfl (Nat.le_of_ble_eq_true rfl) rfl h4 (fun v5 σ5 h5 => ?_)
        refine r_if_ne ok244 29 rfl rfl (fun c6 => ?_) (fun c6 => ?_)
        · have h6 := h5.1 c6
          refine r_aload_n ok244 32 rfl rfl rfl ?_
          refine r_invVv (as := []) (S := []) ok244 33 rfl rfl mf198 rfl rfl (Nat.le_of_ble_eq_true rfl) rfl h6 (fun σ7 h7 => ?_)
          refine r_aload_n ok244 34 rfl rfl rfl ?_
          refine r_invVv (as := []) (S := []) ok244 35 rfl rfl mf222 rfl rfl (Nat.le_of_ble_eq_true rfl) rfl h7 (fun σ8 h8 => ?_)
          refine r_aload_n ok244 36 rfl rfl rfl ?_
          refine r_iload_n ok244 37 rfl rfl rfl ?_
          refine r_invVi (as := [.int x1]) (S := []) ok244 38 rfl rfl mf242 rfl rfl (Nat.le_of_ble_eq_true rfl) rfl h8 (fun v9 σ9 h9 => ?_)
          refine r_istore ok244 39 rfl rfl ?_
          refine r_lconst (v := 0) ok244 40 rfl rfl rfl ?_
          refine r_lstore ok244 41 rfl rfl ?_
          refine r_lconst (v := 0) ok244 42 rfl rfl rfl ?_
          refine r_lstore ok244 43 rfl rfl ?_
          refine r_iconst (v := 1) ok244 44 rfl rfl rfl ?_
          refine r_istore ok244 45 rfl rfl ?_
          exact G.weak (L' := [some (.ref 124), none, some (.int x2), some (.int x3), some (.int v9), some (.long 0), none, some (.long 0), none, some (.int 1), none, none]) ⟨rfl, ⟨rfl, ⟨rfl, ⟨rfl, ⟨rfl, ⟨rfl, ⟨rfl, trivial⟩⟩⟩⟩⟩⟩⟩ h9
        · have h6 := h5.2 c6
          refine r_ldc2_w (v := (-1)) ok244 30 rfl rfl rfl ?_
          exact r_lret ok244 31 rfl rfl rfl h6
  · have h1 := h.2 c1
    refine r_iload_n ok244 8 rfl rfl rfl ?_
    refine r_aload_n ok244 9 rfl rfl rfl ?_
    refine r_getF ok244 10 rfl rfl rfl rfl ?_
    refine r_iload ok244 11 rfl rfl rfl ?_
    obtain ⟨c10, h10⟩ := h1
    refine r_iald ok244 12 rfl rfl rfl c10 ?_
    refine r_iload_n ok244 13 rfl rfl rfl ?_
    refine r_icmp_ne ok244 14 rfl rfl (fun c11 => ?_) (fun c11 => ?_)
    · have h11 := h10.1 c11
      refine r_iconst (v := 0) ok244 17 rfl rfl rfl ?_
      refine r_iadd ok244 18 rfl rfl ?_
      refine r_istore_n ok244 19 rfl rfl ?_
      refine r_iinc (v := x4 + 1) ok244 20 rfl rfl rfl rfl ?_
      refine r_goto ok244 21 rfl rfl ?_
      exact h11
    · have h11 := h10.2 c11
      refine r_iconst (v := 1) ok244 15 rfl rfl rfl ?_
      refine r_goto ok244 16 rfl rfl ?_
      refine r_iadd ok244 18 rfl rfl ?_
      refine r_istore_n ok244 19 rfl rfl ?_
      refine r_iinc (v := x4 + 1) ok244 20 rfl rfl rfl rfl ?_
      refine r_goto ok244 21 rfl rfl ?_
      exact h11

set_option maxRecDepth 100000 in
set_option maxHeartbeats 4000000 in
theorem B244_85 {Θ : Th} {d : Nat} {σ : Mem} {Q : Po} {x2 : Int32} {x3 : Int32} {x4 : Int32} {x5 : Int64} {x7 : Int64} {x9 : Int32} 
    (h : ((((1 : Int32) <<< ((σ.1 124 38) &&& 31)) ≤ x9 → Cv Θ d 211 [.ref 124, .long x7, .long x5] σ (fun σ2 => Cl Θ d 214 [.ref 124, .int x2] σ2 (fun v3 σ3 => Q (some (.long v3)) σ3))) ∧ (¬ ((1 : Int32) <<< ((σ.1 124 38) &&& 31)) ≤ x9 → Ci Θ d 230 [.int x9] σ (fun v4 σ4 => ((v4 = x3 → G Θ (d + 1) 244 120 [some (.ref 124), none, some (.int x2), some (.int x3), some (.int x4), some (.long (x5 + 1)), none, some (.long x7), none, some (.int x9), some (.int 0), some (.int 0)] [] σ4 Q) ∧ (¬ v4 = x3 → G Θ (d + 1) 244 85 [some (.ref 124), none, some (.int x2), some (.int x3), some (.int x4), some (.long x5), none, some (.long x7), none, some (.int (x9 + 1)), none, none] [] σ4 Q)))))) :
    G Θ (d + 1) 244 85 [some (.ref 124), none, some (.int x2), some (.int x3), some (.int x4), some (.long x5), none, some (.long x7), none, some (.int x9), none, none] [] σ Q := by
  refine r_iload ok244 46 rfl rfl rfl ?_
  refine r_iconst (v := 1) ok244 47 rfl rfl rfl ?_
  refine r_aload_n ok244 48 rfl rfl rfl ?_
  refine r_getI ok244 49 rfl rfl rfl rfl ?_
  refine r_ishl ok244 50 rfl rfl ?_
  refine r_icmp_ge ok244 51 rfl rfl (fun c1 => ?_) (fun c1 => ?_)
  · have h1 := h.1 c1
    refine r_aload_n ok244 97 rfl rfl rfl ?_
    refine r_lload ok244 98 rfl rfl rfl ?_
    refine r_lload ok244 99 rfl rfl rfl ?_
    refine r_invVv (as := [.long x7, .long x5]) (S := []) ok244 100 rfl rfl mf211 rfl rfl (Nat.le_of_ble_eq_true rfl) rfl h1 (fun σ2 h2 => ?_)
    refine r_aload_n ok244 101 rfl rfl rfl ?_
    refine r_iload_n ok244 102 rfl rfl rfl ?_
    refine r_invVl (as := [.int x2]) (S := []) ok244 103 rfl rfl mf214 rfl rfl (Nat.le_of_ble_eq_true rfl) rfl h2 (fun v3 σ3 h3 => ?_)
    exact r_lret ok244 104 rfl rfl rfl h3
  · have h1 := h.2 c1
    refine r_iload ok244 52 rfl rfl rfl ?_
    refine r_invSi (as := [.int x9]) (S := []) ok244 53 rfl rfl mf230 rfl (Nat.le_of_ble_eq_true rfl) rfl h1 (fun v4 σ4 h4 => ?_)
    refine r_iload_n ok244 54 rfl rfl rfl ?_
    refine r_icmp_eq ok244 55 rfl rfl (fun c5 => ?_) (fun c5 => ?_)
    · have h5 := h4.1 c5
      refine r_lload ok244 57 rfl rfl rfl ?_
      refine r_lconst (v := 1) ok244 58 rfl rfl rfl ?_
      refine r_ladd ok244 59 rfl rfl ?_
      refine r_lstore ok244 60 rfl rfl ?_
      refine r_iconst (v := 0) ok244 61 rfl rfl rfl ?_
      refine r_istore ok244 62 rfl rfl ?_
      refine r_iconst (v := 0) ok244 63 rfl rfl rfl ?_
      refine r_istore ok244 64 rfl rfl ?_
      exact h5
    · have h5 := h4.2 c5
      refine r_goto ok244 56 rfl rfl ?_
      refine r_iinc (v := x9 + 1) ok244 95 rfl rfl rfl rfl ?_
      refine r_goto ok244 96 rfl rfl ?_
      exact h5

set_option maxRecDepth 100000 in
set_option maxHeartbeats 4000000 in
theorem B244_120 {Θ : Th} {d : Nat} {σ : Mem} {Q : Po} {x2 : Int32} {x3 : Int32} {x4 : Int32} {x5 : Int64} {x7 : Int64} {x9 : Int32} {x10 : Int32} {x11 : Int32} 
    (h : (((σ.1 124 38) ≤ x11 → ((x10 < x4 → G Θ (d + 1) 244 85 [some (.ref 124), none, some (.int x2), some (.int x3), some (.int x4), some (.long x5), none, some (.long (x7 + 0)), none, some (.int (x9 + 1)), none, none] [] σ Q) ∧ (¬ x10 < x4 → G Θ (d + 1) 244 85 [some (.ref 124), none, some (.int x2), some (.int x3), some (.int x4), some (.long x5), none, some (.long (x7 + 1)), none, some (.int (x9 + 1)), none, none] [] σ Q))) ∧ (¬ (σ.1 124 38) ≤ x11 → ((¬ ((x9 >>> (x11 &&& 31)) &&& 1) = 1 → G Θ (d + 1) 244 120 [some (.ref 124), none, some (.int x2), some (.int x3), some (.int x4), some (.long x5), none, some (.long x7), none, some (.int x9), some (.int (x10 + 0)), some (.int (x11 + 1))] [] σ Q) ∧ (((x9 >>> (x11 &&& 31)) &&& 1) = 1 → Ci Θ d 224 [.ref 124, .int x11] σ (fun v4 σ4 => G Θ (d + 1) 244 120 [some (.ref 124), none, some (.int x2), some (.int x3), some (.int x4), some (.long x5), none, some (.long x7), none, some (.int x9), some (.int (x10 + v4)), some (.int (x11 + 1))] [] σ4 Q)))))) :
    G Θ (d + 1) 244 120 [some (.ref 124), none, some (.int x2), some (.int x3), some (.int x4), some (.long x5), none, some (.long x7), none, some (.int x9), some (.int x10), some (.int x11)] [] σ Q := by
  refine r_iload ok244 65 rfl rfl rfl ?_
  refine r_aload_n ok244 66 rfl rfl rfl ?_
  refine r_getI ok244 67 rfl rfl rfl rfl ?_
  refine r_icmp_ge ok244 68 rfl rfl (fun c1 => ?_) (fun c1 => ?_)
  · have h1 := h.1 c1
    refine r_lload ok244 86 rfl rfl rfl ?_
    refine r_iload ok244 87 rfl rfl rfl ?_
    refine r_iload ok244 88 rfl rfl rfl ?_
    refine r_icmp_lt ok244 89 rfl rfl (fun c2 => ?_) (fun c2 => ?_)
    · have h2 := h1.1 c2
      refine r_lconst (v := 0) ok244 92 rfl rfl rfl ?_
      refine r_ladd ok244 93 rfl rfl ?_
      refine r_lstore ok244 94 rfl rfl ?_
      refine r_iinc (v := x9 + 1) ok244 95 rfl rfl rfl rfl ?_
      refine r_goto ok244 96 rfl rfl ?_
      exact G.weak (L' := [some (.ref 124), none, some (.int x2), some (.int x3), some (.int x4), some (.long x5), none, some (.long (x7 + 0)), none, some (.int (x9 + 1)), none, none]) ⟨rfl, ⟨rfl, ⟨rfl, ⟨rfl, ⟨rfl, ⟨rfl, ⟨rfl, trivial⟩⟩⟩⟩⟩⟩⟩ h2
    · have h2 := h1.2 c2
      refine r_lconst (v := 1) ok244 90 rfl rfl rfl ?_
      refine r_goto ok244 91 rfl rfl ?_
      refine r_ladd ok244 93 rfl rfl ?_
      refine r_lstore ok244 94 rfl rfl ?_
      refine r_iinc (v := x9 + 1) ok244 95 rfl rfl rfl rfl ?_
      refine r_goto ok244 96 rfl rfl ?_
      exact G.weak (L' := [some (.ref 124), none, some (.int x2), some (.int x3), some (.int x4), some (.long x5), none, some (.long (x7 + 1)), none, some (.int (x9 + 1)), none, none]) ⟨rfl, ⟨rfl, ⟨rfl, ⟨rfl, ⟨rfl, ⟨rfl, ⟨rfl, trivial⟩⟩⟩⟩⟩⟩⟩ h2
  · have h1 := h.2 c1
    refine r_iload ok244 69 rfl rfl rfl ?_
    refine r_iload ok244 70 rfl rfl rfl ?_
    refine r_iload ok244 71 rfl rfl rfl ?_
    refine r_ishr ok244 72 rfl rfl ?_
    refine r_iconst (v := 1) ok244 73 rfl rfl rfl ?_
    refine r_iand ok244 74 rfl rfl ?_
    refine r_iconst (v := 1) ok244 75 rfl rfl rfl ?_
    refine r_icmp_ne ok244 76 rfl rfl (fun c3 => ?_) (fun c3 => ?_)
    · have h3 := h1.1 c3
      refine r_iconst (v := 0) ok244 81 rfl rfl rfl ?_
      refine r_iadd ok244 82 rfl rfl ?_
      refine r_istore ok244 83 rfl rfl ?_
      refine r_iinc (v := x11 + 1) ok244 84 rfl rfl rfl rfl ?_
      refine r_goto ok244 85 rfl rfl ?_
      exact h3
    · have h3 := h1.2 c3
      refine r_aload_n ok244 77 rfl rfl rfl ?_
      refine r_iload ok244 78 rfl rfl rfl ?_
      refine r_invVi (as := [.int x11]) (S := [.int x10]) ok244 79 rfl rfl mf224 rfl rfl (Nat.le_of_ble_eq_true rfl) rfl h3 (fun v4 σ4 h4 => ?_)
      refine r_goto ok244 80 rfl rfl ?_
      refine r_iadd ok244 82 rfl rfl ?_
      refine r_istore ok244 83 rfl rfl ?_
      refine r_iinc (v := x11 + 1) ok244 84 rfl rfl rfl rfl ?_
      refine r_goto ok244 85 rfl rfl ?_
      exact h4

theorem K244 {Θ : Th} {d : Nat} {σ : Mem} {Q : Po} {x1 : Int32} {x2 : Int32} (h : G Θ (d + 1) 244 0 [some (.ref 124), some (.int x1), some (.int x2), none, none, none, none, none, none, none, none, none] [] σ Q) : Cm Θ (d + 1) 244 [.ref 124, .int x1, .int x2] σ Q :=
  C_of_G okM244 (Nat.le_of_ble_eq_true rfl) rfl h

-- 245: LikeYearsModel.upto(II)J
set_option maxRecDepth 100000 in
set_option maxHeartbeats 4000000 in
theorem B245_0 {Θ : Th} {d : Nat} {σ : Mem} {Q : Po} {x1 : Int32} {x2 : Int32} 
    (h : ((x1 < 0 → Q (some (.long (-1))) σ) ∧ (¬ x1 < 0 → ((99 < x1 → Q (some (.long (-1))) σ) ∧ (¬ 99 < x1 → Ci Θ d 213 [.int x2] σ (fun v3 σ3 => ((¬ v3 = 0 → Cv Θ d 198 [.ref 124] σ3 (fun σ5 => G Θ (d + 1) 245 30 [some (.ref 124), some (.int x1), some (.int x2), some (.int 0), some (.int 0)] [] σ5 Q)) ∧ (v3 = 0 → Q (some (.long (-1))) σ3)))))))) :
    G Θ (d + 1) 245 0 [some (.ref 124), some (.int x1), some (.int x2), none, none] [] σ Q := by
  refine r_iload_n ok245 0 rfl rfl rfl ?_
  refine r_if_lt ok245 1 rfl rfl (fun c1 => ?_) (fun c1 => ?_)
  · have h1 := h.1 c1
    refine r_ldc2_w (v := (-1)) ok245 8 rfl rfl rfl ?_
    exact r_lret ok245 9 rfl rfl rfl h1
  · have h1 := h.2 c1
    refine r_iload_n ok245 2 rfl rfl rfl ?_
    refine r_bipush (v := 99) ok245 3 rfl rfl rfl ?_
    refine r_icmp_gt ok245 4 rfl rfl (fun c2 => ?_) (fun c2 => ?_)
    · have h2 := h1.1 c2
      refine r_ldc2_w (v := (-1)) ok245 8 rfl rfl rfl ?_
      exact r_lret ok245 9 rfl rfl rfl h2
    · have h2 := h1.2 c2
      refine r_iload_n ok245 5 rfl rfl rfl ?_
      refine r_invSi (as := [.int x2]) (S := []) ok245 6 rfl rfl mf213 rfl (Nat.le_of_ble_eq_true rfl) rfl h2 (fun v3 σ3 h3 => ?_)
      refine r_if_ne ok245 7 rfl rfl (fun c4 => ?_) (fun c4 => ?_)
      · have h4 := h3.1 c4
        refine r_aload_n ok245 10 rfl rfl rfl ?_
        refine r_invVv (as := []) (S := []) ok245 11 rfl rfl mf198 rfl rfl (Nat.le_of_ble_eq_true rfl) rfl h4 (fun σ5 h5 => ?_)
        refine r_iconst (v := 0) ok245 12 rfl rfl rfl ?_
        refine r_istore_n ok245 13 rfl rfl ?_
        refine r_iconst (v := 0) ok245 14 rfl rfl rfl ?_
        refine r_istore ok245 15 rfl rfl ?_
        exact h5
      · have h4 := h3.2 c4
        refine r_ldc2_w (v := (-1)) ok245 8 rfl rfl rfl ?_
        exact r_lret ok245 9 rfl rfl rfl h4

set_option maxRecDepth 100000 in
set_option maxHeartbeats 4000000 in
theorem B245_30 {Θ : Th} {d : Nat} {σ : Mem} {Q : Po} {x1 : Int32} {x2 : Int32} {x3 : Int32} {x4 : Int32} 
    (h : (((σ.1 124 38) ≤ x4 → Cv Θ d 217 [.ref 124, .int x3] σ (fun σ2 => Cl Θ d 214 [.ref 124, .int x2] σ2 (fun v3 σ3 => Q (some (.long v3)) σ3))) ∧ (¬ (σ.1 124 38) ≤ x4 → (vp_in x4 16 ∧ ((x1 < (σ.1 142 x4.toNatClampNeg) → G Θ (d + 1) 245 30 [some (.ref 124), some (.int x1), some (.int x2), some (.int (x3 ||| 0)), some (.int (x4 + 1))] [] σ Q) ∧ (¬ x1 < (σ.1 142 x4.toNatClampNeg) → G Θ (d + 1) 245 30 [some (.ref 124), some (.int x1), some (.int x2), some (.int (x3 ||| ((1 : Int32) <<< (x4 &&& 31)))), some (.int (x4 + 1))] [] σ Q)))))) :
    G Θ (d + 1) 245 30 [some (.ref 124), some (.int x1), some (.int x2), some (.int x3), some (.int x4)] [] σ Q := by
  refine r_iload ok245 16 rfl rfl rfl ?_
  refine r_aload_n ok245 17 rfl rfl rfl ?_
  refine r_getI ok245 18 rfl rfl rfl rfl ?_
  refine r_icmp_ge ok245 19 rfl rfl (fun c1 => ?_) (fun c1 => ?_)
  · have h1 := h.1 c1
    refine r_aload_n ok245 36 rfl rfl rfl ?_
    refine r_iload_n ok245 37 rfl rfl rfl ?_
    refine r_invVv (as := [.int x3]) (S := []) ok245 38 rfl rfl mf217 rfl rfl (Nat.le_of_ble_eq_true rfl) rfl h1 (fun σ2 h2 => ?_)
    refine r_aload_n ok245 39 rfl rfl rfl ?_
    refine r_iload_n ok245 40 rfl rfl rfl ?_
    refine r_invVl (as := [.int x2]) (S := []) ok245 41 rfl rfl mf214 rfl rfl (Nat.le_of_ble_eq_true rfl) rfl h2 (fun v3 σ3 h3 => ?_)
    exact r_lret ok245 42 rfl rfl rfl h3
  · have h1 := h.2 c1
    refine r_iload_n ok245 20 rfl rfl rfl ?_
    refine r_aload_n ok245 21 rfl rfl rfl ?_
    refine r_getF ok245 22 rfl rfl rfl rfl ?_
    refine r_iload ok245 23 rfl rfl rfl ?_
    obtain ⟨c4, h4⟩ := h1
    refine r_iald ok245 24 rfl rfl rfl c4 ?_
    refine r_iload_n ok245 25 rfl rfl rfl ?_
    refine r_icmp_gt ok245 26 rfl rfl (fun c5 => ?_) (fun c5 => ?_)
    · have h5 := h4.1 c5
      refine r_iconst (v := 0) ok245 31 rfl rfl rfl ?_
      refine r_ior ok245 32 rfl rfl ?_
      refine r_istore_n ok245 33 rfl rfl ?_
      refine r_iinc (v := x4 + 1) ok245 34 rfl rfl rfl rfl ?_
      refine r_goto ok245 35 rfl rfl ?_
      exact h5
    · have h5 := h4.2 c5
      refine r_iconst (v := 1) ok245 27 rfl rfl rfl ?_
      refine r_iload ok245 28 rfl rfl rfl ?_
      refine r_ishl ok245 29 rfl rfl ?_
      refine r_goto ok245 30 rfl rfl ?_
      refine r_ior ok245 32 rfl rfl ?_
      refine r_istore_n ok245 33 rfl rfl ?_
      refine r_iinc (v := x4 + 1) ok245 34 rfl rfl rfl rfl ?_
      refine r_goto ok245 35 rfl rfl ?_
      exact h5

theorem K245 {Θ : Th} {d : Nat} {σ : Mem} {Q : Po} {x1 : Int32} {x2 : Int32} (h : G Θ (d + 1) 245 0 [some (.ref 124), some (.int x1), some (.int x2), none, none] [] σ Q) : Cm Θ (d + 1) 245 [.ref 124, .int x1, .int x2] σ Q :=
  C_of_G okM245 (Nat.le_of_ble_eq_true rfl) rfl h

-- 246: LikeYearsModel.within()I
set_option maxRecDepth 100000 in
set_option maxHeartbeats 4000000 in
theorem B246_0 {Θ : Th} {d : Nat} {σ : Mem} {Q : Po} 
    (h : Cv Θ d 198 [.ref 124] σ (fun σ1 => G Θ (d + 1) 246 8 [some (.ref 124), some (.int 0), some (.int 0), none] [] σ1 Q)) :
    G Θ (d + 1) 246 0 [some (.ref 124), none, none, none] [] σ Q := by
  refine r_aload_n ok246 0 rfl rfl rfl ?_
  refine r_invVv (as := []) (S := []) ok246 1 rfl rfl mf198 rfl rfl (Nat.le_of_ble_eq_true rfl) rfl h (fun σ1 h1 => ?_)
  refine r_iconst (v := 0) ok246 2 rfl rfl rfl ?_
  refine r_istore_n ok246 3 rfl rfl ?_
  refine r_iconst (v := 0) ok246 4 rfl rfl rfl ?_
  refine r_istore_n ok246 5 rfl rfl ?_
  exact h1

set_option maxRecDepth 100000 in
set_option maxHeartbeats 4000000 in
theorem B246_8 {Θ : Th} {d : Nat} {σ : Mem} {Q : Po} {x1 : Int32} {x2 : Int32} 
    (h : (((σ.1 124 38) ≤ x2 → Q (some (.int x1)) σ) ∧ (¬ (σ.1 124 38) ≤ x2 → G Θ (d + 1) 246 18 [some (.ref 124), some (.int x1), some (.int x2), some (.int 0)] [] σ Q))) :
    G Θ (d + 1) 246 8 [some (.ref 124), some (.int x1), some (.int x2), none] [] σ Q := by
  refine r_iload_n ok246 6 rfl rfl rfl ?_
  refine r_aload_n ok246 7 rfl rfl rfl ?_
  refine r_getI ok246 8 rfl rfl rfl rfl ?_
  refine r_icmp_ge ok246 9 rfl rfl (fun c1 => ?_) (fun c1 => ?_)
  · have h1 := h.1 c1
    refine r_iload_n ok246 40 rfl rfl rfl ?_
    exact r_iret ok246 41 rfl rfl rfl h1
  · have h1 := h.2 c1
    refine r_iconst (v := 0) ok246 10 rfl rfl rfl ?_
    refine r_istore_n ok246 11 rfl rfl ?_
    exact h1

set_option maxRecDepth 100000 in
set_option maxHeartbeats 4000000 in
theorem B246_18 {Θ : Th} {d : Nat} {σ : Mem} {Q : Po} {x1 : Int32} {x2 : Int32} {x3 : Int32} 
    (h : (((σ.1 124 38) ≤ x3 → G Θ (d + 1) 246 8 [some (.ref 124), some (.int x1), some (.int (x2 + 1)), none] [] σ Q) ∧ (¬ (σ.1 124 38) ≤ x3 → Ci Θ d 204 [.ref 124, .int x2, .int x3] σ (fun v2 σ2 => ((v2 ≤ 0 → G Θ (d + 1) 246 18 [some (.ref 124), some (.int (x1 + 0)), some (.int x2), some (.int (x3 + 1))] [] σ2 Q) ∧ (¬ v2 ≤ 0 → (vp_in x2 16 ∧ (vp_in x3 16 ∧ ((¬ (σ2.1 142 x2.toNatClampNeg) = (σ2.1 142 x3.toNatClampNeg) → G Θ (d + 1) 246 18 [some (.ref 124), some (.int (x1 + 0)), some (.int x2), some (.int (x3 + 1))] [] σ2 Q) ∧ ((σ2.1 142 x2.toNatClampNeg) = (σ2.1 142 x3.toNatClampNeg) → G Θ (d + 1) 246 18 [some (.ref 124), some (.int (x1 + 1)), some (.int x2), some (.int (x3 + 1))] [] σ2 Q)))))))))) :
    G Θ (d + 1) 246 18 [some (.ref 124), some (.int x1), some (.int x2), some (.int x3)] [] σ Q := by
  refine r_iload_n ok246 12 rfl rfl rfl ?_
  refine r_aload_n ok246 13 rfl rfl rfl ?_
  refine r_getI ok246 14 rfl rfl rfl rfl ?_
  refine r_icmp_ge ok246 15 rfl rfl (fun c1 => ?_) (fun c1 => ?_)
  · have h1 := h.1 c1
    refine r_iinc (v := x2 + 1) ok246 38 rfl rfl rfl rfl ?_
    refine r_goto ok246 39 rfl rfl ?_
    exact G.weak (L' := [some (.ref 124), some (.int x1), some (.int (x2 + 1)), none]) ⟨rfl, ⟨rfl, ⟨rfl, trivial⟩⟩⟩ h1
  · have h1 := h.2 c1
    refine r_iload_n ok246 16 rfl rfl rfl ?_
    refine r_aload_n ok246 17 rfl rfl rfl ?_
    refine r_iload_n ok246 18 rfl rfl rfl ?_
    refine r_iload_n ok246 19 rfl rfl rfl ?_
    refine r_invVi (as := [.int x2, .int x3]) (S := [.int x1]) ok246 20 rfl rfl mf204 rfl rfl (Nat.le_of_ble_eq_true rfl) rfl h1 (fun v2 σ2 h2 => ?_)
    refine r_if_le ok246 21 rfl rfl (fun c3 => ?_) (fun c3 => ?_)
    · have h3 := h2.1 c3
      refine r_iconst (v := 0) ok246 33 rfl rfl rfl ?_
      refine r_iadd ok246 34 rfl rfl ?_
      refine r_istore_n ok246 35 rfl rfl ?_
      refine r_iinc (v := x3 + 1) ok246 36 rfl rfl rfl rfl ?_
      refine r_goto ok246 37 rfl rfl ?_
      exact h3
    · have h3 := h2.2 c3
      refine r_aload_n ok246 22 rfl rfl rfl ?_
      refine r_getF ok246 23 rfl rfl rfl rfl ?_
      refine r_iload_n ok246 24 rfl rfl rfl ?_
      obtain ⟨c4, h4⟩ := h3
      refine r_iald ok246 25 rfl rfl rfl c4 ?_
      refine r_aload_n ok246 26 rfl rfl rfl ?_
      refine r_getF ok246 27 rfl rfl rfl rfl ?_
      refine r_iload_n ok246 28 rfl rfl rfl ?_
      obtain ⟨c5, h5⟩ := h4
      refine r_iald ok246 29 rfl rfl rfl c5 ?_
      refine r_icmp_ne ok246 30 rfl rfl (fun c6 => ?_) (fun c6 => ?_)
      · have h6 := h5.1 c6
        refine r_iconst (v := 0) ok246 33 rfl rfl rfl ?_
        refine r_iadd ok246 34 rfl rfl ?_
        refine r_istore_n ok246 35 rfl rfl ?_
        refine r_iinc (v := x3 + 1) ok246 36 rfl rfl rfl rfl ?_
        refine r_goto ok246 37 rfl rfl ?_
        exact h6
      · have h6 := h5.2 c6
        refine r_iconst (v := 1) ok246 31 rfl rfl rfl ?_
        refine r_goto ok246 32 rfl rfl ?_
        refine r_iadd ok246 34 rfl rfl ?_
        refine r_istore_n ok246 35 rfl rfl ?_
        refine r_iinc (v := x3 + 1) ok246 36 rfl rfl rfl rfl ?_
        refine r_goto ok246 37 rfl rfl ?_
        exact h6

theorem K246 {Θ : Th} {d : Nat} {σ : Mem} {Q : Po} (h : G Θ (d + 1) 246 0 [some (.ref 124), none, none, none] [] σ Q) : Cm Θ (d + 1) 246 [.ref 124] σ Q :=
  C_of_G okM246 (Nat.le_of_ble_eq_true rfl) rfl h

-- 247: LikeYearsModel.drift(II)J
set_option maxRecDepth 100000 in
set_option maxHeartbeats 4000000 in
theorem B247_0 {Θ : Th} {d : Nat} {σ : Mem} {Q : Po} {x1 : Int32} {x2 : Int32} 
    (h : ((x1 < 0 → Q (some (.long (-1000000000000))) σ) ∧ (¬ x1 < 0 → ((99 < x1 → Q (some (.long (-1000000000000))) σ) ∧ (¬ 99 < x1 → Ci Θ d 213 [.int x2] σ (fun v3 σ3 => ((¬ v3 = 0 → Cv Θ d 198 [.ref 124] σ3 (fun σ5 => Ci Θ d 219 [.ref 124] σ5 (fun v6 σ6 => Cv Θ d 217 [.ref 124, .int v6] σ6 (fun σ7 => Cv Θ d 211 [.ref 124, .long 0, .long 1] σ7 (fun σ8 => G Θ (d + 1) 247 41 [some (.ref 124), some (.int x1), some (.int x2), some (.int 0)] [] σ8 Q))))) ∧ (v3 = 0 → Q (some (.long (-1000000000000))) σ3)))))))) :
    G Θ (d + 1) 247 0 [some (.ref 124), some (.int x1), some (.int x2), none] [] σ Q := by
  refine r_iload_n ok247 0 rfl rfl rfl ?_
  refine r_if_lt ok247 1 rfl rfl (fun c1 => ?_) (fun c1 => ?_)
  · have h1 := h.1 c1
    refine r_ldc2_w (v := (-1000000000000)) ok247 8 rfl rfl rfl ?_
    exact r_lret ok247 9 rfl rfl rfl h1
  · have h1 := h.2 c1
    refine r_iload_n ok247 2 rfl rfl rfl ?_
    refine r_bipush (v := 99) ok247 3 rfl rfl rfl ?_
    refine r_icmp_gt ok247 4 rfl rfl (fun c2 => ?_) (fun c2 => ?_)
    · have h2 := h1.1 c2
      refine r_ldc2_w (v := (-1000000000000)) ok247 8 rfl rfl rfl ?_
      exact r_lret ok247 9 rfl rfl rfl h2
    · have h2 := h1.2 c2
      refine r_iload_n ok247 5 rfl rfl rfl ?_
      refine r_invSi (as := [.int x2]) (S := []) ok247 6 rfl rfl mf213 rfl (Nat.le_of_ble_eq_true rfl) rfl h2 (fun v3 σ3 h3 => ?_)
      refine r_if_ne ok247 7 rfl rfl (fun c4 => ?_) (fun c4 => ?_)
      · have h4 := h3.1 c4
        refine r_aload_n ok247 10 rfl rfl rfl ?_
        refine r_invVv (as := []) (S := []) ok247 11 rfl rfl mf198 rfl rfl (Nat.le_of_ble_eq_true rfl) rfl h4 (fun σ5 h5 => ?_)
        refine r_aload_n ok247 12 rfl rfl rfl ?_
        refine r_aload_n ok247 13 rfl rfl rfl ?_
        refine r_invVi (as := []) (S := [.ref 124]) ok247 14 rfl rfl mf219 rfl rfl (Nat.le_of_ble_eq_true rfl) rfl h5 (fun v6 σ6 h6 => ?_)
        refine r_invVv (as := [.int v6]) (S := []) ok247 15 rfl rfl mf217 rfl rfl (Nat.le_of_ble_eq_true rfl) rfl h6 (fun σ7 h7 => ?_)
        refine r_aload_n ok247 16 rfl rfl rfl ?_
        refine r_lconst (v := 0) ok247 17 rfl rfl rfl ?_
        refine r_lconst (v := 1) ok247 18 rfl rfl rfl ?_
        refine r_invVv (as := [.long 0, .long 1]) (S := []) ok247 19 rfl rfl mf211 rfl rfl (Nat.le_of_ble_eq_true rfl) rfl h7 (fun σ8 h8 => ?_)
        refine r_iconst (v := 0) ok247 20 rfl rfl rfl ?_
        refine r_istore_n ok247 21 rfl rfl ?_
        exact h8
      · have h4 := h3.2 c4
        refine r_ldc2_w (v := (-1000000000000)) ok247 8 rfl rfl rfl ?_
        exact r_lret ok247 9 rfl rfl rfl h4

set_option maxRecDepth 100000 in
set_option maxHeartbeats 4000000 in
theorem B247_41 {Θ : Th} {d : Nat} {σ : Mem} {Q : Po} {x1 : Int32} {x2 : Int32} {x3 : Int32} 
    (h : (((σ.1 124 38) ≤ x3 → Cl Θ d 214 [.ref 124, .int x2] σ (fun v2 σ2 => Q (some (.long v2)) σ2)) ∧ (¬ (σ.1 124 38) ≤ x3 → (vp_in x3 16 ∧ ((¬ (σ.1 142 x3.toNatClampNeg) = x1 → G Θ (d + 1) 247 41 [some (.ref 124), some (.int x1), some (.int x2), some (.int (x3 + 1))] [] σ Q) ∧ ((σ.1 142 x3.toNatClampNeg) = x1 → (vp_in x3 16 ∧ (vp_in x3 16 ∧ (vp_in x3 16 ∧ (vp_in x3 16 ∧ (vp_in x3 16 ∧ Cv Θ d 212 [.ref 124, .long (((σ.1 144 x3.toNatClampNeg).toInt64) * ((((σ.1 143 x3.toNatClampNeg).toInt64) * (σ.2.1 155 x3.toNatClampNeg)) - (σ.2.1 154 x3.toNatClampNeg))), .long (σ.2.1 155 x3.toNatClampNeg)] σ (fun σ10 => G Θ (d + 1) 247 41 [some (.ref 124), some (.int x1), some (.int x2), some (.int (x3 + 1))] [] σ10 Q)))))))))))) :
    G Θ (d + 1) 247 41 [some (.ref 124), some (.int x1), some (.int x2), some (.int x3)] [] σ Q := by
  refine r_iload_n ok247 22 rfl rfl rfl ?_
  refine r_aload_n ok247 23 rfl rfl rfl ?_
  refine r_getI ok247 24 rfl rfl rfl rfl ?_
  refine r_icmp_ge ok247 25 rfl rfl (fun c1 => ?_) (fun c1 => ?_)
  · have h1 := h.1 c1
    refine r_aload_n ok247 61 rfl rfl rfl ?_
    refine r_iload_n ok247 62 rfl rfl rfl ?_
    refine r_invVl (as := [.int x2]) (S := []) ok247 63 rfl rfl mf214 rfl rfl (Nat.le_of_ble_eq_true rfl) rfl h1 (fun v2 σ2 h2 => ?_)
    exact r_lret ok247 64 rfl rfl rfl h2
  · have h1 := h.2 c1
    refine r_aload_n ok247 26 rfl rfl rfl ?_
    refine r_getF ok247 27 rfl rfl rfl rfl ?_
    refine r_iload_n ok247 28 rfl rfl rfl ?_
    obtain ⟨c3, h3⟩ := h1
    refine r_iald ok247 29 rfl rfl rfl c3 ?_
    refine r_iload_n ok247 30 rfl rfl rfl ?_
    refine r_icmp_ne ok247 31 rfl rfl (fun c4 => ?_) (fun c4 => ?_)
    · have h4 := h3.1 c4
      refine r_iinc (v := x3 + 1) ok247 59 rfl rfl rfl rfl ?_
      refine r_goto ok247 60 rfl rfl ?_
      exact h4
    · have h4 := h3.2 c4
      refine r_aload_n ok247 32 rfl rfl rfl ?_
      refine r_aload_n ok247 33 rfl rfl rfl ?_
      refine r_getF ok247 34 rfl rfl rfl rfl ?_
      refine r_iload_n ok247 35 rfl rfl rfl ?_
      obtain ⟨c5, h5⟩ := h4
      refine r_iald ok247 36 rfl rfl rfl c5 ?_
      refine r_i2l ok247 37 rfl rfl ?_
      refine r_aload_n ok247 38 rfl rfl rfl ?_
      refine r_getF ok247 39 rfl rfl rfl rfl ?_
      refine r_iload_n ok247 40 rfl rfl rfl ?_
      obtain ⟨c6, h6⟩ := h5
      refine r_iald ok247 41 rfl rfl rfl c6 ?_
      refine r_i2l ok247 42 rfl rfl ?_
      refine r_aload_n ok247 43 rfl rfl rfl ?_
      refine r_getF ok247 44 rfl rfl rfl rfl ?_
      refine r_iload_n ok247 45 rfl rfl rfl ?_
      obtain ⟨c7, h7⟩ := h6
      refine r_lald ok247 46 rfl rfl rfl c7 ?_
      refine r_lmul ok247 47 rfl rfl ?_
      refine r_aload_n ok247 48 rfl rfl rfl ?_
      refine r_getF ok247 49 rfl rfl rfl rfl ?_
      refine r_iload_n ok247 50 rfl rfl rfl ?_
      obtain ⟨c8, h8⟩ := h7
      refine r_lald ok247 51 rfl rfl rfl c8 ?_
      refine r_lsub ok247 52 rfl rfl ?_
      refine r_lmul ok247 53 rfl rfl ?_
      refine r_aload_n ok247 54 rfl rfl rfl ?_
      refine r_getF ok247 55 rfl rfl rfl rfl ?_
      refine r_iload_n ok247 56 rfl rfl rfl ?_
      obtain ⟨c9, h9⟩ := h8
      refine r_lald ok247 57 rfl rfl rfl c9 ?_
      refine r_invVv (as := [.long (((σ.1 144 x3.toNatClampNeg).toInt64) * ((((σ.1 143 x3.toNatClampNeg).toInt64) * (σ.2.1 155 x3.toNatClampNeg)) - (σ.2.1 154 x3.toNatClampNeg))), .long (σ.2.1 155 x3.toNatClampNeg)]) (S := []) ok247 58 rfl rfl mf212 rfl rfl (Nat.le_of_ble_eq_true rfl) rfl h9 (fun σ10 h10 => ?_)
      refine r_iinc (v := x3 + 1) ok247 59 rfl rfl rfl rfl ?_
      refine r_goto ok247 60 rfl rfl ?_
      exact h10

theorem K247 {Θ : Th} {d : Nat} {σ : Mem} {Q : Po} {x1 : Int32} {x2 : Int32} (h : G Θ (d + 1) 247 0 [some (.ref 124), some (.int x1), some (.int x2), none] [] σ Q) : Cm Θ (d + 1) 247 [.ref 124, .int x1, .int x2] σ Q :=
  C_of_G okM247 (Nat.le_of_ble_eq_true rfl) rfl h

-- 248: LikeYearsModel.isMonths(I)Z
set_option maxRecDepth 100000 in
set_option maxHeartbeats 4000000 in
theorem B248_0 {Θ : Th} {d : Nat} {σ : Mem} {Q : Po} {x0 : Int32} 
    (h : ((x0 < 0 → Q (some (.int 0)) σ) ∧ (¬ x0 < 0 → ((240 < x0 → Q (some (.int 0)) σ) ∧ (¬ 240 < x0 → Q (some (.int 1)) σ))))) :
    G Θ d 248 0 [some (.int x0)] [] σ Q := by
  refine r_iload_n ok248 0 rfl rfl rfl ?_
  refine r_if_lt ok248 1 rfl rfl (fun c1 => ?_) (fun c1 => ?_)
  · have h1 := h.1 c1
    refine r_iconst (v := 0) ok248 7 rfl rfl rfl ?_
    exact r_zret ok248 8 rfl rfl rfl (Or.inl rfl) h1
  · have h1 := h.2 c1
    refine r_iload_n ok248 2 rfl rfl rfl ?_
    refine r_sipush (v := 240) ok248 3 rfl rfl rfl ?_
    refine r_icmp_gt ok248 4 rfl rfl (fun c2 => ?_) (fun c2 => ?_)
    · have h2 := h1.1 c2
      refine r_iconst (v := 0) ok248 7 rfl rfl rfl ?_
      exact r_zret ok248 8 rfl rfl rfl (Or.inl rfl) h2
    · have h2 := h1.2 c2
      refine r_iconst (v := 1) ok248 5 rfl rfl rfl ?_
      refine r_goto ok248 6 rfl rfl ?_
      exact r_zret ok248 8 rfl rfl rfl (Or.inr rfl) h2

theorem K248 {Θ : Th} {d : Nat} {σ : Mem} {Q : Po} {x0 : Int32} (h : G Θ d 248 0 [some (.int x0)] [] σ Q) : Cm Θ d 248 [.int x0] σ Q :=
  C_of_G okM248 (Nat.le_of_ble_eq_true rfl) rfl h

-- 249: LikeYearsModel.law(IIIII)I
set_option maxRecDepth 100000 in
set_option maxHeartbeats 4000000 in
theorem B249_0 {Θ : Th} {d : Nat} {σ : Mem} {Q : Po} {x1 : Int32} {x2 : Int32} {x3 : Int32} {x4 : Int32} {x5 : Int32} 
    (h : Ci Θ d 201 [.ref 124, .int x1] σ (fun v1 σ1 => ((v1 = 0 → G Θ (d + 1) 249 54 [none, none, none, none, none, none, none, none, none, none] [] σ1 Q) ∧ (¬ v1 = 0 → ((x2 < 0 → G Θ (d + 1) 249 54 [none, none, none, none, none, none, none, none, none, none] [] σ1 Q) ∧ (¬ x2 < 0 → (vp_in x1 6 ∧ (((σ1.1 139 x1.toNatClampNeg) < x2 → G Θ (d + 1) 249 54 [none, none, none, none, none, none, none, none, none, none] [] σ1 Q) ∧ (¬ (σ1.1 139 x1.toNatClampNeg) < x2 → Ci Θ d 248 [.int x3] σ1 (fun v6 σ6 => ((v6 = 0 → G Θ (d + 1) 249 54 [none, none, none, none, none, none, none, none, none, none] [] σ6 Q) ∧ (¬ v6 = 0 → Ci Θ d 248 [.int x4] σ6 (fun v8 σ8 => ((v8 = 0 → G Θ (d + 1) 249 54 [none, none, none, none, none, none, none, none, none, none] [] σ8 Q) ∧ (¬ v8 = 0 → ((x4 < x3 → G Θ (d + 1) 249 54 [none, none, none, none, none, none, none, none, none, none] [] σ8 Q) ∧ (¬ x4 < x3 → ((x5 < 0 → G Θ (d + 1) 249 54 [none, none, none, none, none, none, none, none, none, none] [] σ8 Q) ∧ (¬ x5 < 0 → ((x5 ≤ 1 → G Θ (d + 1) 249 65 [some (.ref 124), some (.int x1), some (.int x2), some (.int x3), some (.int x4), some (.int x5), some (.int 0), some (.int 0), some (.int 0), none] [] σ8 Q) ∧ (¬ x5 ≤ 1 → G Θ (d + 1) 249 54 [none, none, none, none, none, none, none, none, none, none] [] σ8 Q))))))))))))))))))))) :
    G Θ (d + 1) 249 0 [some (.ref 124), some (.int x1), some (.int x2), some (.int x3), some (.int x4), some (.int x5), none, none, none, none] [] σ Q := by
  refine r_aload_n ok249 0 rfl rfl rfl ?_
  refine r_iload_n ok249 1 rfl rfl rfl ?_
  refine r_invVi (as := [.int x1]) (S := []) ok249 2 rfl rfl mf201 rfl rfl (Nat.le_of_ble_eq_true rfl) rfl h (fun v1 σ1 h1 => ?_)
  refine r_if_eq ok249 3 rfl rfl (fun c2 => ?_) (fun c2 => ?_)
  · have h2 := h1.1 c2
    exact G.weak (L' := [none, none, none, none, none, none, none, none, none, none]) trivial h2
  · have h2 := h1.2 c2
    refine r_iload_n ok249 4 rfl rfl rfl ?_
    refine r_if_lt ok249 5 rfl rfl (fun c3 => ?_) (fun c3 => ?_)
    · have h3 := h2.1 c3
      exact G.weak (L' := [none, none, none, none, none, none, none, none, none, none]) trivial h3
    · have h3 := h2.2 c3
      refine r_iload_n ok249 6 rfl rfl rfl ?_
      refine r_aload_n ok249 7 rfl rfl rfl ?_
      refine r_getF ok249 8 rfl rfl rfl rfl ?_
      refine r_iload_n ok249 9 rfl rfl rfl ?_
      obtain ⟨c4, h4⟩ := h3
      refine r_iald ok249 10 rfl rfl rfl c4 ?_
      refine r_icmp_gt ok249 11 rfl rfl (fun c5 => ?_) (fun c5 => ?_)
      · have h5 := h4.1 c5
        exact G.weak (L' := [none, none, none, none, none, none, none, none, none, none]) trivial h5
      · have h5 := h4.2 c5
        refine r_iload_n ok249 12 rfl rfl rfl ?_
        refine r_invSi (as := [.int x3]) (S := []) ok249 13 rfl rfl mf248 rfl (Nat.le_of_ble_eq_true rfl) rfl h5 (fun v6 σ6 h6 => ?_)
        refine r_if_eq ok249 14 rfl rfl (fun c7 => ?_) (fun c7 => ?_)
        · have h7 := h6.1 c7
          exact G.weak (L' := [none, none, none, none, none, none, none, none, none, none]) trivial h7
        · have h7 := h6.2 c7
          refine r_iload ok249 15 rfl rfl rfl ?_
          refine r_invSi (as := [.int x4]) (S := []) ok249 16 rfl rfl mf248 rfl (Nat.le_of_ble_eq_true rfl) rfl h7 (fun v8 σ8 h8 => ?_)
          refine r_if_eq ok249 17 rfl rfl (fun c9 => ?_) (fun c9 => ?_)
          · have h9 := h8.1 c9
            exact G.weak (L' := [none, none, none, none, none, none, none, none, none, none]) trivial h9
          · have h9 := h8.2 c9
            refine r_iload ok249 18 rfl rfl rfl ?_
            refine r_iload_n ok249 19 rfl rfl rfl ?_
            refine r_icmp_lt ok249 20 rfl rfl (fun c10 => ?_) (fun c10 => ?_)
            · have h10 := h9.1 c10
              exact G.weak (L' := [none, none, none, none, none, none, none, none, none, none]) trivial h10
            · have h10 := h9.2 c10
              refine r_iload ok249 21 rfl rfl rfl ?_
              refine r_if_lt ok249 22 rfl rfl (fun c11 => ?_) (fun c11 => ?_)
              · have h11 := h10.1 c11
                exact G.weak (L' := [none, none, none, none, none, none, none, none, none, none]) trivial h11
              · have h11 := h10.2 c11
                refine r_iload ok249 23 rfl rfl rfl ?_
                refine r_iconst (v := 1) ok249 24 rfl rfl rfl ?_
                refine r_icmp_le ok249 25 rfl rfl (fun c12 => ?_) (fun c12 => ?_)
                · have h12 := h11.1 c12
                  refine r_iconst (v := 0) ok249 28 rfl rfl rfl ?_
                  refine r_istore ok249 29 rfl rfl ?_
                  refine r_iconst (v := 0) ok249 30 rfl rfl rfl ?_
                  refine r_istore ok249 31 rfl rfl ?_
                  refine r_iconst (v := 0) ok249 32 rfl rfl rfl ?_
                  refine r_istore ok249 33 rfl rfl ?_
                  exact h12
                · have h12 := h11.2 c12
                  exact G.weak (L' := [none, none, none, none, none, none, none, none, none, none]) trivial h12

set_option maxRecDepth 100000 in
set_option maxHeartbeats 4000000 in
theorem B249_54 {Θ : Th} {d : Nat} {σ : Mem} {Q : Po} 
    (h : Q (some (.int (-1))) σ) :
    G Θ (d + 1) 249 54 [none, none, none, none, none, none, none, none, none, none] [] σ Q := by
  refine r_iconst (v := (-1)) ok249 26 rfl rfl rfl ?_
  exact r_iret ok249 27 rfl rfl rfl h

set_option maxRecDepth 100000 in
set_option maxHeartbeats 4000000 in
theorem B249_65 {Θ : Th} {d : Nat} {σ : Mem} {Q : Po} {x1 : Int32} {x2 : Int32} {x3 : Int32} {x4 : Int32} {x5 : Int32} {x6 : Int32} {x7 : Int32} {x8 : Int32} 
    (h : (((σ.1 124 38) ≤ x8 → ((¬ x5 = 0 → Q (some (.int x7)) σ) ∧ (x5 = 0 → Q (some (.int x6)) σ))) ∧ (¬ (σ.1 124 38) ≤ x8 → (vp_in ((6 * x8) + x1) 96 ∧ ((x2 ≤ (σ.1 140 ((6 * x8) + x1).toNatClampNeg) → (vp_in x8 16 ∧ ((x3 ≤ (σ.1 143 x8.toNatClampNeg) → (vp_in x8 16 ∧ (((σ.1 143 x8.toNatClampNeg) ≤ x4 → G Θ (d + 1) 249 166 [some (.ref 124), some (.int x1), some (.int x2), some (.int x3), some (.int x4), some (.int x5), some (.int (x6 + 0)), some (.int (x7 + 0)), some (.int x8), none] [] σ Q) ∧ (¬ (σ.1 143 x8.toNatClampNeg) ≤ x4 → (vp_in x8 16 ∧ ((((σ.1 143 x8.toNatClampNeg) - x4) ≤ 0 → G Θ (d + 1) 249 166 [some (.ref 124), some (.int x1), some (.int x2), some (.int x3), some (.int x4), some (.int x5), some (.int (x6 + 0)), some (.int (x7 + ((σ.1 143 x8.toNatClampNeg) - x4))), some (.int x8), none] [] σ Q) ∧ (¬ ((σ.1 143 x8.toNatClampNeg) - x4) ≤ 0 → G Θ (d + 1) 249 166 [some (.ref 124), some (.int x1), some (.int x2), some (.int x3), some (.int x4), some (.int x5), some (.int (x6 + 1)), some (.int (x7 + ((σ.1 143 x8.toNatClampNeg) - x4))), some (.int x8), none] [] σ Q))))))) ∧ (¬ x3 ≤ (σ.1 143 x8.toNatClampNeg) → (vp_in x8 16 ∧ (((x3 - (σ.1 143 x8.toNatClampNeg)) ≤ 0 → G Θ (d + 1) 249 166 [some (.ref 124), some (.int x1), some (.int x2), some (.int x3), some (.int x4), some (.int x5), some (.int (x6 + 0)), some (.int (x7 + (x3 - (σ.1 143 x8.toNatClampNeg)))), some (.int x8), none] [] σ Q) ∧ (¬ (x3 - (σ.1 143 x8.toNatClampNeg)) ≤ 0 → G Θ (d + 1) 249 166 [some (.ref 124), some (.int x1), some (.int x2), some (.int x3), some (.int x4), some (.int x5), some (.int (x6 + 1)), some (.int (x7 + (x3 - (σ.1 143 x8.toNatClampNeg)))), some (.int x8), none] [] σ Q))))))) ∧ (¬ x2 ≤ (σ.1 140 ((6 * x8) + x1).toNatClampNeg) → G Θ (d + 1) 249 166 [some (.ref 124), some (.int x1), some (.int x2), some (.int x3), some (.int x4), some (.int x5), some (.int x6), some (.int x7), some (.int x8), none] [] σ Q)))))) :
    G Θ (d + 1) 249 65 [some (.ref 124), some (.int x1), some (.int x2), some (.int x3), some (.int x4), some (.int x5), some (.int x6), some (.int x7), some (.int x8), none] [] σ Q := by
  refine r_iload ok249 34 rfl rfl rfl ?_
  refine r_aload_n ok249 35 rfl rfl rfl ?_
  refine r_getI ok249 36 rfl rfl rfl rfl ?_
  refine r_icmp_ge ok249 37 rfl rfl (fun c1 => ?_) (fun c1 => ?_)
  · have h1 := h.1 c1
    refine r_iload ok249 91 rfl rfl rfl ?_
    refine r_if_ne ok249 92 rfl rfl (fun c2 => ?_) (fun c2 => ?_)
    · have h2 := h1.1 c2
      refine r_iload ok249 95 rfl rfl rfl ?_
      exact r_iret ok249 96 rfl rfl rfl h2
    · have h2 := h1.2 c2
      refine r_iload ok249 93 rfl rfl rfl ?_
      refine r_goto ok249 94 rfl rfl ?_
      exact r_iret ok249 96 rfl rfl rfl h2
  · have h1 := h.2 c1
    refine r_aload_n ok249 38 rfl rfl rfl ?_
    refine r_getF ok249 39 rfl rfl rfl rfl ?_
    refine r_bipush (v := 6) ok249 40 rfl rfl rfl ?_
    refine r_iload ok249 41 rfl rfl rfl ?_
    refine r_imul ok249 42 rfl rfl ?_
    refine r_iload_n ok249 43 rfl rfl rfl ?_
    refine r_iadd ok249 44 rfl rfl ?_
    obtain ⟨c3, h3⟩ := h1
    refine r_iald ok249 45 rfl rfl rfl c3 ?_
    refine r_iload_n ok249 46 rfl rfl rfl ?_
    refine r_icmp_ge ok249 47 rfl rfl (fun c4 => ?_) (fun c4 => ?_)
    · have h4 := h3.1 c4
      refine r_aload_n ok249 49 rfl rfl rfl ?_
      refine r_getF ok249 50 rfl rfl rfl rfl ?_
      refine r_iload ok249 51 rfl rfl rfl ?_
      obtain ⟨c5, h5⟩ := h4
      refine r_iald ok249 52 rfl rfl rfl c5 ?_
      refine r_iload_n ok249 53 rfl rfl rfl ?_
      refine r_icmp_ge ok249 54 rfl rfl (fun c6 => ?_) (fun c6 => ?_)
      · have h6 := h5.1 c6
        refine r_aload_n ok249 62 rfl rfl rfl ?_
        refine r_getF ok249 63 rfl rfl rfl rfl ?_
        refine r_iload ok249 64 rfl rfl rfl ?_
        obtain ⟨c7, h7⟩ := h6
        refine r_iald ok249 65 rfl rfl rfl c7 ?_
        refine r_iload ok249 66 rfl rfl rfl ?_
        refine r_icmp_le ok249 67 rfl rfl (fun c8 => ?_) (fun c8 => ?_)
        · have h8 := h7.1 c8
          refine r_iconst (v := 0) ok249 75 rfl rfl rfl ?_
          refine r_istore ok249 76 rfl rfl ?_
          refine r_iload ok249 77 rfl rfl rfl ?_
          refine r_iload ok249 78 rfl rfl rfl ?_
          refine r_if_le ok249 79 rfl rfl (fun _ => ?_) (fun c9 => absurd c9 (by decide))
          refine r_iconst (v := 0) ok249 82 rfl rfl rfl ?_
          refine r_iadd ok249 83 rfl rfl ?_
          refine r_istore ok249 84 rfl rfl ?_
          refine r_iload ok249 85 rfl rfl rfl ?_
          refine r_iload ok249 86 rfl rfl rfl ?_
          refine r_iadd ok249 87 rfl rfl ?_
          refine r_istore ok249 88 rfl rfl ?_
          exact G.weak (L' := [some (.ref 124), some (.int x1), some (.int x2), some (.int x3), some (.int x4), some (.int x5), some (.int (x6 + 0)), some (.int (x7 + 0)), some (.int x8), none]) ⟨rfl, ⟨rfl, ⟨rfl, ⟨rfl, ⟨rfl, ⟨rfl, ⟨rfl, ⟨rfl, ⟨rfl, trivial⟩⟩⟩⟩⟩⟩⟩⟩⟩ h8
        · have h8 := h7.2 c8
          refine r_aload_n ok249 68 rfl rfl rfl ?_
          refine r_getF ok249 69 rfl rfl rfl rfl ?_
          refine r_iload ok249 70 rfl rfl rfl ?_
          obtain ⟨c10, h10⟩ := h8
          refine r_iald ok249 71 rfl rfl rfl c10 ?_
          refine r_iload ok249 72 rfl rfl rfl ?_
          refine r_isub ok249 73 rfl rfl ?_
          refine r_goto ok249 74 rfl rfl ?_
          refine r_istore ok249 76 rfl rfl ?_
          refine r_iload ok249 77 rfl rfl rfl ?_
          refine r_iload ok249 78 rfl rfl rfl ?_
          refine r_if_le ok249 79 rfl rfl (fun c11 => ?_) (fun c11 => ?_)
          · have h11 := h10.1 c11
            refine r_iconst (v := 0) ok249 82 rfl rfl rfl ?_
            refine r_iadd ok249 83 rfl rfl ?_
            refine r_istore ok249 84 rfl rfl ?_
            refine r_iload ok249 85 rfl rfl rfl ?_
            refine r_iload ok249 86 rfl rfl rfl ?_
            refine r_iadd ok249 87 rfl rfl ?_
            refine r_istore ok249 88 rfl rfl ?_
            exact G.weak (L' := [some (.ref 124), some (.int x1), some (.int x2), some (.int x3), some (.int x4), some (.int x5), some (.int (x6 + 0)), some (.int (x7 + ((σ.1 143 x8.toNatClampNeg) - x4))), some (.int x8), none]) ⟨rfl, ⟨rfl, ⟨rfl, ⟨rfl, ⟨rfl, ⟨rfl, ⟨rfl, ⟨rfl, ⟨rfl, trivial⟩⟩⟩⟩⟩⟩⟩⟩⟩ h11
          · have h11 := h10.2 c11
            refine r_iconst (v := 1) ok249 80 rfl rfl rfl ?_
            refine r_goto ok249 81 rfl rfl ?_
            refine r_iadd ok249 83 rfl rfl ?_
            refine r_istore ok249 84 rfl rfl ?_
            refine r_iload ok249 85 rfl rfl rfl ?_
            refine r_iload ok249 86 rfl rfl rfl ?_
            refine r_iadd ok249 87 rfl rfl ?_
            refine r_istore ok249 88 rfl rfl ?_
            exact G.weak (L' := [some (.ref 124), some (.int x1), some (.int x2), some (.int x3), some (.int x4), some (.int x5), some (.int (x6 + 1)), some (.int (x7 + ((σ.1 143 x8.toNatClampNeg) - x4))), some (.int x8), none]) ⟨rfl, ⟨rfl, ⟨rfl, ⟨rfl, ⟨rfl, ⟨rfl, ⟨rfl, ⟨rfl, ⟨rfl, trivial⟩⟩⟩⟩⟩⟩⟩⟩⟩ h11
      · have h6 := h5.2 c6
        refine r_iload_n ok249 55 rfl rfl rfl ?_
        refine r_aload_n ok249 56 rfl rfl rfl ?_
        refine r_getF ok249 57 rfl rfl rfl rfl ?_
        refine r_iload ok249 58 rfl rfl rfl ?_
        obtain ⟨c12, h12⟩ := h6
        refine r_iald ok249 59 rfl rfl rfl c12 ?_
        refine r_isub ok249 60 rfl rfl ?_
        refine r_goto ok249 61 rfl rfl ?_
        refine r_istore ok249 76 rfl rfl ?_
        refine r_iload ok249 77 rfl rfl rfl ?_
        refine r_iload ok249 78 rfl rfl rfl ?_
        refine r_if_le ok249 79 rfl rfl (fun c13 => ?_) (fun c13 => ?_)
        · have h13 := h12.1 c13
          refine r_iconst (v := 0) ok249 82 rfl rfl rfl ?_
          refine r_iadd ok249 83 rfl rfl ?_
          refine r_istore ok249 84 rfl rfl ?_
          refine r_iload ok249 85 rfl rfl rfl ?_
          refine r_iload ok249 86 rfl rfl rfl ?_
          refine r_iadd ok249 87 rfl rfl ?_
          refine r_istore ok249 88 rfl rfl ?_
          exact G.weak (L' := [some (.ref 124), some (.int x1), some (.int x2), some (.int x3), some (.int x4), some (.int x5), some (.int (x6 + 0)), some (.int (x7 + (x3 - (σ.1 143 x8.toNatClampNeg)))), some (.int x8), none]) ⟨rfl, ⟨rfl, ⟨rfl, ⟨rfl, ⟨rfl, ⟨rfl, ⟨rfl, ⟨rfl, ⟨rfl, trivial⟩⟩⟩⟩⟩⟩⟩⟩⟩ h13
        · have h13 := h12.2 c13
          refine r_iconst (v := 1) ok249 80 rfl rfl rfl ?_
          refine r_goto ok249 81 rfl rfl ?_
          refine r_iadd ok249 83 rfl rfl ?_
          refine r_istore ok249 84 rfl rfl ?_
          refine r_iload ok249 85 rfl rfl rfl ?_
          refine r_iload ok249 86 rfl rfl rfl ?_
          refine r_iadd ok249 87 rfl rfl ?_
          refine r_istore ok249 88 rfl rfl ?_
          exact G.weak (L' := [some (.ref 124), some (.int x1), some (.int x2), some (.int x3), some (.int x4), some (.int x5), some (.int (x6 + 1)), some (.int (x7 + (x3 - (σ.1 143 x8.toNatClampNeg)))), some (.int x8), none]) ⟨rfl, ⟨rfl, ⟨rfl, ⟨rfl, ⟨rfl, ⟨rfl, ⟨rfl, ⟨rfl, ⟨rfl, trivial⟩⟩⟩⟩⟩⟩⟩⟩⟩ h13
    · have h4 := h3.2 c4
      refine r_goto ok249 48 rfl rfl ?_
      exact h4

set_option maxRecDepth 100000 in
set_option maxHeartbeats 4000000 in
theorem B249_166 {Θ : Th} {d : Nat} {σ : Mem} {Q : Po} {x1 : Int32} {x2 : Int32} {x3 : Int32} {x4 : Int32} {x5 : Int32} {x6 : Int32} {x7 : Int32} {x8 : Int32} 
    (h : G Θ (d + 1) 249 65 [some (.ref 124), some (.int x1), some (.int x2), some (.int x3), some (.int x4), some (.int x5), some (.int x6), some (.int x7), some (.int (x8 + 1)), none] [] σ Q) :
    G Θ (d + 1) 249 166 [some (.ref 124), some (.int x1), some (.int x2), some (.int x3), some (.int x4), some (.int x5), some (.int x6), some (.int x7), some (.int x8), none] [] σ Q := by
  refine r_iinc (v := x8 + 1) ok249 89 rfl rfl rfl rfl ?_
  refine r_goto ok249 90 rfl rfl ?_
  exact h

theorem K249 {Θ : Th} {d : Nat} {σ : Mem} {Q : Po} {x1 : Int32} {x2 : Int32} {x3 : Int32} {x4 : Int32} {x5 : Int32} (h : G Θ (d + 1) 249 0 [some (.ref 124), some (.int x1), some (.int x2), some (.int x3), some (.int x4), some (.int x5), none, none, none, none] [] σ Q) : Cm Θ (d + 1) 249 [.ref 124, .int x1, .int x2, .int x3, .int x4, .int x5] σ Q :=
  C_of_G okM249 (Nat.le_of_ble_eq_true rfl) rfl h
